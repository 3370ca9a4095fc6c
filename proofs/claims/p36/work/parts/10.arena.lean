-- X6.needPlayer
theorem dX6_needPlayer_0 : decode cX6_needPlayer 0 = .ok (.iload_n 1, 1) := by decide +kernel
theorem dX6_needPlayer_1 : decode cX6_needPlayer 1 = .ok (.ifCond .lt 11, 3) := by decide +kernel
theorem dX6_needPlayer_4 : decode cX6_needPlayer 4 = .ok (.iload_n 1, 1) := by decide +kernel
theorem dX6_needPlayer_5 : decode cX6_needPlayer 5 = .ok (.aload_n 0, 1) := by decide +kernel
theorem dX6_needPlayer_6 : decode cX6_needPlayer 6 = .ok (.getfield 53, 3) := by decide +kernel
theorem dX6_needPlayer_9 : decode cX6_needPlayer 9 = .ok (.if_icmp .lt 14, 3) := by decide +kernel
theorem dX6_needPlayer_12 : decode cX6_needPlayer 12 = .ok (.new 114, 3) := by decide +kernel
theorem dX6_needPlayer_15 : decode cX6_needPlayer 15 = .ok (.dup, 1) := by decide +kernel
theorem dX6_needPlayer_16 : decode cX6_needPlayer 16 = .ok (.ldc_w 350, 3) := by decide +kernel
theorem dX6_needPlayer_19 : decode cX6_needPlayer 19 = .ok (.invokespecial 118, 3) := by decide +kernel
theorem dX6_needPlayer_22 : decode cX6_needPlayer 22 = .ok (.athrow, 1) := by decide +kernel
theorem dX6_needPlayer_23 : decode cX6_needPlayer 23 = .ok (.return_, 1) := by decide +kernel
def wpX6_needPlayer (post : Unit → Prop) (px : String → Prop) (mc ms : Nat) (K : KS) (p1 : Int32) : Prop := ((p1 < 0 → ((0 + 1 ≤ mc ∧ 0 + 6 ≤ ms ∧ px "java/lang/IndexOutOfBoundsException"))) ∧ (¬ p1 < 0 → (((p1 < (K 0 1 0) → (post ())) ∧ (¬ p1 < (K 0 1 0) → ((0 + 1 ≤ mc ∧ 0 + 6 ≤ ms ∧ px "java/lang/IndexOutOfBoundsException")))))))
theorem hdX6_needPlayer : yX6_needPlayer.cls ≠ "java/lang/invoke/MethodHandle" ∧ yX6_needPlayer.cls ≠ "java/lang/invoke/VarHandle" ∧ (parseMethodDescriptor yX6_needPlayer.desc).map (fun d => d.parameters.length) = some 1 := by decide +kernel
set_option maxHeartbeats 4000000 in
set_option maxRecDepth 100000 in
theorem mtX6_needPlayer {l : Launch} {D : va_G} {cI : Nat → ClassId} {e0 : Nat} {A : Nat → Prop} {ad : Nat → Nat → Nat} {K M : KS} {ap o : Int64} {od : UInt64} {mc ms : Nat} {p1 : Int32} {post : Unit → Prop} {px : String → Prop} (hfl : l.stackTraces = false) (h : wpX6_needPlayer post px mc ms K p1) : CM l D cI e0 A yX6_needPlayer cX6_needPlayer 2 none 6 82 mc ms [.ref (ad 0 0), .int p1] (HT D cI e0 A ad K M ap o od) (qP D cI e0 A ad K M ap o od rV post) (xP D cI e0 A ad K M ap o od px) := by
  refine CM.of (by decide) (Nat.le_of_ble_eq_true rfl) (fun p e s m below meth c ls FX hw hS hl => ?_)
  obtain ⟨S, hg, hr, hlk, hnm, hout⟩ := FX
  have hl : lv_has ls 2 [(0, .ref (ad 0 0)), (1, .int p1)] := hl
  unfold wpX6_needPlayer at h
  refine lv_iload_n S.1 S.2.1 dX6_needPlayer_0 rfl (lv_at hl 1 rfl) ?_
  refine lv_if_lt (tgt := 12) S.1 S.2.1 dX6_needPlayer_1 (by decide) (fun c1 => ?_) (fun c1 => ?_)
  · have h := h.1 c1
    obtain ⟨g2, g3, h⟩ := h
    exact r_throwW (fr := 0) (lo := 0) (text := "no such player") hfl S hout hlk hg hS (by decide) u361 u37 (by decide +kernel) hat_118 hl.1 dX6_needPlayer_12 dX6_needPlayer_15 dX6_needPlayer_16 dX6_needPlayer_19 dX6_needPlayer_22 (Nat.le_of_ble_eq_true rfl) (Nat.le_of_ble_eq_true rfl) g2 g3 g2 g3 (fun H1 hz hk => ⟨h, hw.more hk⟩)
  · have h := h.2 c1
    refine lv_iload_n S.1 S.2.1 dX6_needPlayer_4 rfl (lv_at hl 1 rfl) ?_
    refine lv_aload_n S.1 S.2.1 dX6_needPlayer_5 rfl (lv_at hl 0 rfl) ?_
    refine g0_1 S hg hw u117 dX6_needPlayer_6 ?_
    refine lv_icmp_lt (tgt := 23) S.1 S.2.1 dX6_needPlayer_9 (by decide) (fun c4 => ?_) (fun c4 => ?_)
    · have h := h.1 c4
      exact r_vret (y := yX6_needPlayer) S hr hlk hS (by omega) (by omega) dX6_needPlayer_23 ⟨(), rfl, h, hw⟩
    · have h := h.2 c4
      obtain ⟨g5, g6, h⟩ := h
      exact r_throwW (fr := 0) (lo := 0) (text := "no such player") hfl S hout hlk hg hS (by decide) u361 u37 (by decide +kernel) hat_118 hl.1 dX6_needPlayer_12 dX6_needPlayer_15 dX6_needPlayer_16 dX6_needPlayer_19 dX6_needPlayer_22 (Nat.le_of_ble_eq_true rfl) (Nat.le_of_ble_eq_true rfl) g5 g6 g5 g6 (fun H1 hz hk => ⟨h, hw.more hk⟩)

-- X6.cardAt
theorem dX6_cardAt_0 : decode cX6_cardAt 0 = .ok (.iload_n 1, 1) := by decide +kernel
theorem dX6_cardAt_1 : decode cX6_cardAt 1 = .ok (.ifCond .lt 14, 3) := by decide +kernel
theorem dX6_cardAt_4 : decode cX6_cardAt 4 = .ok (.iload_n 1, 1) := by decide +kernel
theorem dX6_cardAt_5 : decode cX6_cardAt 5 = .ok (.aload_n 0, 1) := by decide +kernel
theorem dX6_cardAt_6 : decode cX6_cardAt 6 = .ok (.getfield 16, 3) := by decide +kernel
theorem dX6_cardAt_9 : decode cX6_cardAt 9 = .ok (.invokevirtual 71, 3) := by decide +kernel
theorem dX6_cardAt_12 : decode cX6_cardAt 12 = .ok (.if_icmp .lt 14, 3) := by decide +kernel
theorem dX6_cardAt_15 : decode cX6_cardAt 15 = .ok (.new 114, 3) := by decide +kernel
theorem dX6_cardAt_18 : decode cX6_cardAt 18 = .ok (.dup, 1) := by decide +kernel
theorem dX6_cardAt_19 : decode cX6_cardAt 19 = .ok (.ldc_w 352, 3) := by decide +kernel
theorem dX6_cardAt_22 : decode cX6_cardAt 22 = .ok (.invokespecial 118, 3) := by decide +kernel
theorem dX6_cardAt_25 : decode cX6_cardAt 25 = .ok (.athrow, 1) := by decide +kernel
theorem dX6_cardAt_26 : decode cX6_cardAt 26 = .ok (.aload_n 0, 1) := by decide +kernel
theorem dX6_cardAt_27 : decode cX6_cardAt 27 = .ok (.getfield 16, 3) := by decide +kernel
theorem dX6_cardAt_30 : decode cX6_cardAt 30 = .ok (.iload_n 1, 1) := by decide +kernel
theorem dX6_cardAt_31 : decode cX6_cardAt 31 = .ok (.invokevirtual 107, 3) := by decide +kernel
theorem dX6_cardAt_34 : decode cX6_cardAt 34 = .ok (.checkcast 77, 3) := by decide +kernel
theorem dX6_cardAt_37 : decode cX6_cardAt 37 = .ok (.areturn, 1) := by decide +kernel
def wpX6_cardAt (post : Nat → Prop) (px : String → Prop) (mc ms : Nat) (K : KS) (p1 : Int32) : Prop := ((p1 < 0 → ((0 + 1 ≤ mc ∧ 0 + 6 ≤ ms ∧ px "java/lang/IndexOutOfBoundsException"))) ∧ (¬ p1 < 0 → (((p1 < (K 8 2 0) → ((okGet K 0 p1) ∧ (((K 9 0 p1.toNatClampNeg).toNatClampNeg < nC K) ∧ (post ((K 9 0 p1.toNatClampNeg).toNatClampNeg))))) ∧ (¬ p1 < (K 8 2 0) → ((0 + 1 ≤ mc ∧ 0 + 6 ≤ ms ∧ px "java/lang/IndexOutOfBoundsException")))))))
theorem hdX6_cardAt : yX6_cardAt.cls ≠ "java/lang/invoke/MethodHandle" ∧ yX6_cardAt.cls ≠ "java/lang/invoke/VarHandle" ∧ (parseMethodDescriptor yX6_cardAt.desc).map (fun d => d.parameters.length) = some 1 := by decide +kernel
set_option maxHeartbeats 4000000 in
set_option maxRecDepth 100000 in
theorem mtX6_cardAt {l : Launch} {D : va_G} {cI : Nat → ClassId} {e0 : Nat} {A : Nat → Prop} {ad : Nat → Nat → Nat} {K M : KS} {ap o : Int64} {od : UInt64} {mc ms : Nat} {p1 : Int32} {post : Nat → Prop} {px : String → Prop} (hfl : l.stackTraces = false) (h : wpX6_cardAt post px mc ms K p1) : CM l D cI e0 A yX6_cardAt cX6_cardAt 2 (some (FieldType.object "SnapshotArena$Card")) 6 82 mc ms [.ref (ad 0 0), .int p1] (HT D cI e0 A ad K M ap o od) (qP D cI e0 A ad K M ap o od (rR ad 4) post) (xP D cI e0 A ad K M ap o od px) := by
  refine CM.of (by decide) (Nat.le_of_ble_eq_true rfl) (fun p e s m below meth c ls FX hw hS hl => ?_)
  obtain ⟨S, hg, hr, hlk, hnm, hout⟩ := FX
  have hl : lv_has ls 2 [(0, .ref (ad 0 0)), (1, .int p1)] := hl
  unfold wpX6_cardAt at h
  refine lv_iload_n S.1 S.2.1 dX6_cardAt_0 rfl (lv_at hl 1 rfl) ?_
  refine lv_if_lt (tgt := 15) S.1 S.2.1 dX6_cardAt_1 (by decide) (fun c1 => ?_) (fun c1 => ?_)
  · have h := h.1 c1
    obtain ⟨g2, g3, h⟩ := h
    exact r_throwW (fr := 0) (lo := 0) (text := "no such card") hfl S hout hlk hg hS (by decide) u361 u37 (by decide +kernel) hat_118 hl.1 dX6_cardAt_15 dX6_cardAt_18 dX6_cardAt_19 dX6_cardAt_22 dX6_cardAt_25 (Nat.le_of_ble_eq_true rfl) (Nat.le_of_ble_eq_true rfl) g2 g3 g2 g3 (fun H1 hz hk => ⟨h, hw.more hk⟩)
  · have h := h.2 c1
    refine lv_iload_n S.1 S.2.1 dX6_cardAt_4 rfl (lv_at hl 1 rfl) ?_
    refine lv_aload_n S.1 S.2.1 dX6_cardAt_5 rfl (lv_at hl 0 rfl) ?_
    refine g0_5 S hg hw u121 dX6_cardAt_6 ?_
    refine rL_size S hg hS hw (lv8 0) u173 hl.1 (Nat.le_of_ble_eq_true rfl) ⟨Nat.le_of_ble_eq_true rfl, Nat.le_of_ble_eq_true rfl⟩ ⟨by omega, by omega⟩ dX6_cardAt_9 (fun H locs hw hS => ?_)
    refine lv_icmp_lt (tgt := 26) S.1 S.2.1 dX6_cardAt_12 (by decide) (fun c4 => ?_) (fun c4 => ?_)
    · have h := h.1 c4
      refine lv_aload_n S.1 S.2.1 dX6_cardAt_26 rfl (lv_at hl 0 rfl) ?_
      refine g0_5 S hg hw u121 dX6_cardAt_27 ?_
      refine lv_iload_n S.1 S.2.1 dX6_cardAt_30 rfl (lv_at hl 1 rfl) ?_
      obtain ⟨g5, h⟩ := h
      refine rL_get S hg hS hw (lv8 0) g5 u177 hl.1 (Nat.le_of_ble_eq_true rfl) ⟨Nat.le_of_ble_eq_true rfl, Nat.le_of_ble_eq_true rfl⟩ ⟨by omega, by omega⟩ dX6_cardAt_31 (fun H locs hw hS => ?_)
      show W p l e _ s m _ below meth c H locs _ _ _ (F0 m 34 ls [.ref (ad 4 ((K 9 0 p1.toNatClampNeg).toNatClampNeg))])
      obtain ⟨g6, h⟩ := h
      refine ck4 S hg hw g6 u191 dX6_cardAt_34 ?_
      exact r_aret (y := yX6_cardAt) S hr (Or.inl ⟨_, rfl⟩) hlk hS (by omega) (by omega) dX6_cardAt_37 ⟨((K 9 0 p1.toNatClampNeg).toNatClampNeg), rfl, h, hw⟩
    · have h := h.2 c4
      obtain ⟨g7, g8, h⟩ := h
      exact r_throwW (fr := 0) (lo := 0) (text := "no such card") hfl S hout hlk hg hS (by decide) u361 u37 (by decide +kernel) hat_118 hl.1 dX6_cardAt_15 dX6_cardAt_18 dX6_cardAt_19 dX6_cardAt_22 dX6_cardAt_25 (Nat.le_of_ble_eq_true rfl) (Nat.le_of_ble_eq_true rfl) g7 g8 g7 g8 (fun H1 hz hk => ⟨h, hw.more hk⟩)

-- X6.duelAt
theorem dX6_duelAt_0 : decode cX6_duelAt 0 = .ok (.iload_n 1, 1) := by decide +kernel
theorem dX6_duelAt_1 : decode cX6_duelAt 1 = .ok (.ifCond .lt 14, 3) := by decide +kernel
theorem dX6_duelAt_4 : decode cX6_duelAt 4 = .ok (.iload_n 1, 1) := by decide +kernel
theorem dX6_duelAt_5 : decode cX6_duelAt 5 = .ok (.aload_n 0, 1) := by decide +kernel
theorem dX6_duelAt_6 : decode cX6_duelAt 6 = .ok (.getfield 20, 3) := by decide +kernel
theorem dX6_duelAt_9 : decode cX6_duelAt 9 = .ok (.invokevirtual 71, 3) := by decide +kernel
theorem dX6_duelAt_12 : decode cX6_duelAt 12 = .ok (.if_icmp .lt 14, 3) := by decide +kernel
theorem dX6_duelAt_15 : decode cX6_duelAt 15 = .ok (.new 114, 3) := by decide +kernel
theorem dX6_duelAt_18 : decode cX6_duelAt 18 = .ok (.dup, 1) := by decide +kernel
theorem dX6_duelAt_19 : decode cX6_duelAt 19 = .ok (.ldc_w 354, 3) := by decide +kernel
theorem dX6_duelAt_22 : decode cX6_duelAt 22 = .ok (.invokespecial 118, 3) := by decide +kernel
theorem dX6_duelAt_25 : decode cX6_duelAt 25 = .ok (.athrow, 1) := by decide +kernel
theorem dX6_duelAt_26 : decode cX6_duelAt 26 = .ok (.aload_n 0, 1) := by decide +kernel
theorem dX6_duelAt_27 : decode cX6_duelAt 27 = .ok (.getfield 20, 3) := by decide +kernel
theorem dX6_duelAt_30 : decode cX6_duelAt 30 = .ok (.iload_n 1, 1) := by decide +kernel
theorem dX6_duelAt_31 : decode cX6_duelAt 31 = .ok (.invokevirtual 107, 3) := by decide +kernel
theorem dX6_duelAt_34 : decode cX6_duelAt 34 = .ok (.checkcast 140, 3) := by decide +kernel
theorem dX6_duelAt_37 : decode cX6_duelAt 37 = .ok (.areturn, 1) := by decide +kernel
def wpX6_duelAt (post : Nat → Prop) (px : String → Prop) (mc ms : Nat) (K : KS) (p1 : Int32) : Prop := ((p1 < 0 → ((0 + 1 ≤ mc ∧ 0 + 6 ≤ ms ∧ px "java/lang/IndexOutOfBoundsException"))) ∧ (¬ p1 < 0 → (((p1 < (K 8 2 1) → ((okGet K 1 p1) ∧ (((K 9 1 p1.toNatClampNeg).toNatClampNeg < nD K) ∧ (post ((K 9 1 p1.toNatClampNeg).toNatClampNeg))))) ∧ (¬ p1 < (K 8 2 1) → ((0 + 1 ≤ mc ∧ 0 + 6 ≤ ms ∧ px "java/lang/IndexOutOfBoundsException")))))))
theorem hdX6_duelAt : yX6_duelAt.cls ≠ "java/lang/invoke/MethodHandle" ∧ yX6_duelAt.cls ≠ "java/lang/invoke/VarHandle" ∧ (parseMethodDescriptor yX6_duelAt.desc).map (fun d => d.parameters.length) = some 1 := by decide +kernel
set_option maxHeartbeats 4000000 in
set_option maxRecDepth 100000 in
theorem mtX6_duelAt {l : Launch} {D : va_G} {cI : Nat → ClassId} {e0 : Nat} {A : Nat → Prop} {ad : Nat → Nat → Nat} {K M : KS} {ap o : Int64} {od : UInt64} {mc ms : Nat} {p1 : Int32} {post : Nat → Prop} {px : String → Prop} (hfl : l.stackTraces = false) (h : wpX6_duelAt post px mc ms K p1) : CM l D cI e0 A yX6_duelAt cX6_duelAt 2 (some (FieldType.object "SnapshotArena$Duel")) 6 82 mc ms [.ref (ad 0 0), .int p1] (HT D cI e0 A ad K M ap o od) (qP D cI e0 A ad K M ap o od (rR ad 6) post) (xP D cI e0 A ad K M ap o od px) := by
  refine CM.of (by decide) (Nat.le_of_ble_eq_true rfl) (fun p e s m below meth c ls FX hw hS hl => ?_)
  obtain ⟨S, hg, hr, hlk, hnm, hout⟩ := FX
  have hl : lv_has ls 2 [(0, .ref (ad 0 0)), (1, .int p1)] := hl
  unfold wpX6_duelAt at h
  refine lv_iload_n S.1 S.2.1 dX6_duelAt_0 rfl (lv_at hl 1 rfl) ?_
  refine lv_if_lt (tgt := 15) S.1 S.2.1 dX6_duelAt_1 (by decide) (fun c1 => ?_) (fun c1 => ?_)
  · have h := h.1 c1
    obtain ⟨g2, g3, h⟩ := h
    exact r_throwW (fr := 0) (lo := 0) (text := "no such duel") hfl S hout hlk hg hS (by decide) u361 u37 (by decide +kernel) hat_118 hl.1 dX6_duelAt_15 dX6_duelAt_18 dX6_duelAt_19 dX6_duelAt_22 dX6_duelAt_25 (Nat.le_of_ble_eq_true rfl) (Nat.le_of_ble_eq_true rfl) g2 g3 g2 g3 (fun H1 hz hk => ⟨h, hw.more hk⟩)
  · have h := h.2 c1
    refine lv_iload_n S.1 S.2.1 dX6_duelAt_4 rfl (lv_at hl 1 rfl) ?_
    refine lv_aload_n S.1 S.2.1 dX6_duelAt_5 rfl (lv_at hl 0 rfl) ?_
    refine g0_6 S hg hw u122 dX6_duelAt_6 ?_
    refine rL_size S hg hS hw (lv8 1) u173 hl.1 (Nat.le_of_ble_eq_true rfl) ⟨Nat.le_of_ble_eq_true rfl, Nat.le_of_ble_eq_true rfl⟩ ⟨by omega, by omega⟩ dX6_duelAt_9 (fun H locs hw hS => ?_)
    refine lv_icmp_lt (tgt := 26) S.1 S.2.1 dX6_duelAt_12 (by decide) (fun c4 => ?_) (fun c4 => ?_)
    · have h := h.1 c4
      refine lv_aload_n S.1 S.2.1 dX6_duelAt_26 rfl (lv_at hl 0 rfl) ?_
      refine g0_6 S hg hw u122 dX6_duelAt_27 ?_
      refine lv_iload_n S.1 S.2.1 dX6_duelAt_30 rfl (lv_at hl 1 rfl) ?_
      obtain ⟨g5, h⟩ := h
      refine rL_get S hg hS hw (lv8 1) g5 u177 hl.1 (Nat.le_of_ble_eq_true rfl) ⟨Nat.le_of_ble_eq_true rfl, Nat.le_of_ble_eq_true rfl⟩ ⟨by omega, by omega⟩ dX6_duelAt_31 (fun H locs hw hS => ?_)
      show W p l e _ s m _ below meth c H locs _ _ _ (F0 m 34 ls [.ref (ad 6 ((K 9 1 p1.toNatClampNeg).toNatClampNeg))])
      obtain ⟨g6, h⟩ := h
      refine ck6 S hg hw g6 u527 dX6_duelAt_34 ?_
      exact r_aret (y := yX6_duelAt) S hr (Or.inl ⟨_, rfl⟩) hlk hS (by omega) (by omega) dX6_duelAt_37 ⟨((K 9 1 p1.toNatClampNeg).toNatClampNeg), rfl, h, hw⟩
    · have h := h.2 c4
      obtain ⟨g7, g8, h⟩ := h
      exact r_throwW (fr := 0) (lo := 0) (text := "no such duel") hfl S hout hlk hg hS (by decide) u361 u37 (by decide +kernel) hat_118 hl.1 dX6_duelAt_15 dX6_duelAt_18 dX6_duelAt_19 dX6_duelAt_22 dX6_duelAt_25 (Nat.le_of_ble_eq_true rfl) (Nat.le_of_ble_eq_true rfl) g7 g8 g7 g8 (fun H1 hz hk => ⟨h, hw.more hk⟩)

-- X6.offerAt
theorem dX6_offerAt_0 : decode cX6_offerAt 0 = .ok (.iload_n 1, 1) := by decide +kernel
theorem dX6_offerAt_1 : decode cX6_offerAt 1 = .ok (.ifCond .lt 14, 3) := by decide +kernel
theorem dX6_offerAt_4 : decode cX6_offerAt 4 = .ok (.iload_n 1, 1) := by decide +kernel
theorem dX6_offerAt_5 : decode cX6_offerAt 5 = .ok (.aload_n 0, 1) := by decide +kernel
theorem dX6_offerAt_6 : decode cX6_offerAt 6 = .ok (.getfield 23, 3) := by decide +kernel
theorem dX6_offerAt_9 : decode cX6_offerAt 9 = .ok (.invokevirtual 71, 3) := by decide +kernel
theorem dX6_offerAt_12 : decode cX6_offerAt 12 = .ok (.if_icmp .lt 14, 3) := by decide +kernel
theorem dX6_offerAt_15 : decode cX6_offerAt 15 = .ok (.new 114, 3) := by decide +kernel
theorem dX6_offerAt_18 : decode cX6_offerAt 18 = .ok (.dup, 1) := by decide +kernel
theorem dX6_offerAt_19 : decode cX6_offerAt 19 = .ok (.ldc_w 356, 3) := by decide +kernel
theorem dX6_offerAt_22 : decode cX6_offerAt 22 = .ok (.invokespecial 118, 3) := by decide +kernel
theorem dX6_offerAt_25 : decode cX6_offerAt 25 = .ok (.athrow, 1) := by decide +kernel
theorem dX6_offerAt_26 : decode cX6_offerAt 26 = .ok (.aload_n 0, 1) := by decide +kernel
theorem dX6_offerAt_27 : decode cX6_offerAt 27 = .ok (.getfield 23, 3) := by decide +kernel
theorem dX6_offerAt_30 : decode cX6_offerAt 30 = .ok (.iload_n 1, 1) := by decide +kernel
theorem dX6_offerAt_31 : decode cX6_offerAt 31 = .ok (.invokevirtual 107, 3) := by decide +kernel
theorem dX6_offerAt_34 : decode cX6_offerAt 34 = .ok (.checkcast 307, 3) := by decide +kernel
theorem dX6_offerAt_37 : decode cX6_offerAt 37 = .ok (.areturn, 1) := by decide +kernel
def wpX6_offerAt (post : Nat → Prop) (px : String → Prop) (mc ms : Nat) (K : KS) (p1 : Int32) : Prop := ((p1 < 0 → ((0 + 1 ≤ mc ∧ 0 + 6 ≤ ms ∧ px "java/lang/IndexOutOfBoundsException"))) ∧ (¬ p1 < 0 → (((p1 < (K 8 2 2) → ((okGet K 2 p1) ∧ (((K 9 2 p1.toNatClampNeg).toNatClampNeg < nO K) ∧ (post ((K 9 2 p1.toNatClampNeg).toNatClampNeg))))) ∧ (¬ p1 < (K 8 2 2) → ((0 + 1 ≤ mc ∧ 0 + 6 ≤ ms ∧ px "java/lang/IndexOutOfBoundsException")))))))
theorem hdX6_offerAt : yX6_offerAt.cls ≠ "java/lang/invoke/MethodHandle" ∧ yX6_offerAt.cls ≠ "java/lang/invoke/VarHandle" ∧ (parseMethodDescriptor yX6_offerAt.desc).map (fun d => d.parameters.length) = some 1 := by decide +kernel
set_option maxHeartbeats 4000000 in
set_option maxRecDepth 100000 in
theorem mtX6_offerAt {l : Launch} {D : va_G} {cI : Nat → ClassId} {e0 : Nat} {A : Nat → Prop} {ad : Nat → Nat → Nat} {K M : KS} {ap o : Int64} {od : UInt64} {mc ms : Nat} {p1 : Int32} {post : Nat → Prop} {px : String → Prop} (hfl : l.stackTraces = false) (h : wpX6_offerAt post px mc ms K p1) : CM l D cI e0 A yX6_offerAt cX6_offerAt 2 (some (FieldType.object "SnapshotArena$Offer")) 6 82 mc ms [.ref (ad 0 0), .int p1] (HT D cI e0 A ad K M ap o od) (qP D cI e0 A ad K M ap o od (rR ad 5) post) (xP D cI e0 A ad K M ap o od px) := by
  refine CM.of (by decide) (Nat.le_of_ble_eq_true rfl) (fun p e s m below meth c ls FX hw hS hl => ?_)
  obtain ⟨S, hg, hr, hlk, hnm, hout⟩ := FX
  have hl : lv_has ls 2 [(0, .ref (ad 0 0)), (1, .int p1)] := hl
  unfold wpX6_offerAt at h
  refine lv_iload_n S.1 S.2.1 dX6_offerAt_0 rfl (lv_at hl 1 rfl) ?_
  refine lv_if_lt (tgt := 15) S.1 S.2.1 dX6_offerAt_1 (by decide) (fun c1 => ?_) (fun c1 => ?_)
  · have h := h.1 c1
    obtain ⟨g2, g3, h⟩ := h
    exact r_throwW (fr := 0) (lo := 0) (text := "no such offer") hfl S hout hlk hg hS (by decide) u361 u37 (by decide +kernel) hat_118 hl.1 dX6_offerAt_15 dX6_offerAt_18 dX6_offerAt_19 dX6_offerAt_22 dX6_offerAt_25 (Nat.le_of_ble_eq_true rfl) (Nat.le_of_ble_eq_true rfl) g2 g3 g2 g3 (fun H1 hz hk => ⟨h, hw.more hk⟩)
  · have h := h.2 c1
    refine lv_iload_n S.1 S.2.1 dX6_offerAt_4 rfl (lv_at hl 1 rfl) ?_
    refine lv_aload_n S.1 S.2.1 dX6_offerAt_5 rfl (lv_at hl 0 rfl) ?_
    refine g0_7 S hg hw u123 dX6_offerAt_6 ?_
    refine rL_size S hg hS hw (lv8 2) u173 hl.1 (Nat.le_of_ble_eq_true rfl) ⟨Nat.le_of_ble_eq_true rfl, Nat.le_of_ble_eq_true rfl⟩ ⟨by omega, by omega⟩ dX6_offerAt_9 (fun H locs hw hS => ?_)
    refine lv_icmp_lt (tgt := 26) S.1 S.2.1 dX6_offerAt_12 (by decide) (fun c4 => ?_) (fun c4 => ?_)
    · have h := h.1 c4
      refine lv_aload_n S.1 S.2.1 dX6_offerAt_26 rfl (lv_at hl 0 rfl) ?_
      refine g0_7 S hg hw u123 dX6_offerAt_27 ?_
      refine lv_iload_n S.1 S.2.1 dX6_offerAt_30 rfl (lv_at hl 1 rfl) ?_
      obtain ⟨g5, h⟩ := h
      refine rL_get S hg hS hw (lv8 2) g5 u177 hl.1 (Nat.le_of_ble_eq_true rfl) ⟨Nat.le_of_ble_eq_true rfl, Nat.le_of_ble_eq_true rfl⟩ ⟨by omega, by omega⟩ dX6_offerAt_31 (fun H locs hw hS => ?_)
      show W p l e _ s m _ below meth c H locs _ _ _ (F0 m 34 ls [.ref (ad 5 ((K 9 2 p1.toNatClampNeg).toNatClampNeg))])
      obtain ⟨g6, h⟩ := h
      refine ck5 S hg hw g6 u789 dX6_offerAt_34 ?_
      exact r_aret (y := yX6_offerAt) S hr (Or.inl ⟨_, rfl⟩) hlk hS (by omega) (by omega) dX6_offerAt_37 ⟨((K 9 2 p1.toNatClampNeg).toNatClampNeg), rfl, h, hw⟩
    · have h := h.2 c4
      obtain ⟨g7, g8, h⟩ := h
      exact r_throwW (fr := 0) (lo := 0) (text := "no such offer") hfl S hout hlk hg hS (by decide) u361 u37 (by decide +kernel) hat_118 hl.1 dX6_offerAt_15 dX6_offerAt_18 dX6_offerAt_19 dX6_offerAt_22 dX6_offerAt_25 (Nat.le_of_ble_eq_true rfl) (Nat.le_of_ble_eq_true rfl) g7 g8 g7 g8 (fun H1 hz hk => ⟨h, hw.more hk⟩)

-- X6.isBusy
theorem dX6_isBusy_0 : decode cX6_isBusy 0 = .ok (.iconst 0, 1) := by decide +kernel
theorem dX6_isBusy_1 : decode cX6_isBusy 1 = .ok (.istore_n 3, 1) := by decide +kernel
theorem dX6_isBusy_2 : decode cX6_isBusy 2 = .ok (.iload_n 3, 1) := by decide +kernel
theorem dX6_isBusy_3 : decode cX6_isBusy 3 = .ok (.aload_n 0, 1) := by decide +kernel
theorem dX6_isBusy_4 : decode cX6_isBusy 4 = .ok (.getfield 20, 3) := by decide +kernel
theorem dX6_isBusy_7 : decode cX6_isBusy 7 = .ok (.invokevirtual 71, 3) := by decide +kernel
theorem dX6_isBusy_10 : decode cX6_isBusy 10 = .ok (.if_icmp .ge 47, 3) := by decide +kernel
theorem dX6_isBusy_13 : decode cX6_isBusy 13 = .ok (.aload_n 0, 1) := by decide +kernel
theorem dX6_isBusy_14 : decode cX6_isBusy 14 = .ok (.getfield 20, 3) := by decide +kernel
theorem dX6_isBusy_17 : decode cX6_isBusy 17 = .ok (.iload_n 3, 1) := by decide +kernel
theorem dX6_isBusy_18 : decode cX6_isBusy 18 = .ok (.invokevirtual 107, 3) := by decide +kernel
theorem dX6_isBusy_21 : decode cX6_isBusy 21 = .ok (.checkcast 140, 3) := by decide +kernel
theorem dX6_isBusy_24 : decode cX6_isBusy 24 = .ok (.astore 4, 2) := by decide +kernel
theorem dX6_isBusy_26 : decode cX6_isBusy 26 = .ok (.aload 4, 2) := by decide +kernel
theorem dX6_isBusy_28 : decode cX6_isBusy 28 = .ok (.aload_n 2, 1) := by decide +kernel
theorem dX6_isBusy_29 : decode cX6_isBusy 29 = .ok (.if_acmp .eq 22, 3) := by decide +kernel
theorem dX6_isBusy_32 : decode cX6_isBusy 32 = .ok (.aload 4, 2) := by decide +kernel
theorem dX6_isBusy_34 : decode cX6_isBusy 34 = .ok (.invokevirtual 238, 3) := by decide +kernel
theorem dX6_isBusy_37 : decode cX6_isBusy 37 = .ok (.ifCond .eq 14, 3) := by decide +kernel
theorem dX6_isBusy_40 : decode cX6_isBusy 40 = .ok (.aload 4, 2) := by decide +kernel
theorem dX6_isBusy_42 : decode cX6_isBusy 42 = .ok (.iload_n 1, 1) := by decide +kernel
theorem dX6_isBusy_43 : decode cX6_isBusy 43 = .ok (.invokevirtual 150, 3) := by decide +kernel
theorem dX6_isBusy_46 : decode cX6_isBusy 46 = .ok (.ifCond .eq 5, 3) := by decide +kernel
theorem dX6_isBusy_49 : decode cX6_isBusy 49 = .ok (.iconst 1, 1) := by decide +kernel
theorem dX6_isBusy_50 : decode cX6_isBusy 50 = .ok (.ireturn, 1) := by decide +kernel
theorem dX6_isBusy_51 : decode cX6_isBusy 51 = .ok (.iinc 3 1, 3) := by decide +kernel
theorem dX6_isBusy_54 : decode cX6_isBusy 54 = .ok (.goto (-52), 3) := by decide +kernel
theorem dX6_isBusy_57 : decode cX6_isBusy 57 = .ok (.iconst 0, 1) := by decide +kernel
theorem dX6_isBusy_58 : decode cX6_isBusy 58 = .ok (.ireturn, 1) := by decide +kernel
def wX6_isBusy_51 (post : Int32 → Prop) (bk2 : Int32 → Nat → Int32 → KS → Prop) (l1 : Int32) (l2 : Nat) (l3 : Int32) (K : KS) : Prop := bk2 l1 l2 (l3 + 1) K
set_option maxHeartbeats 4000000 in
set_option maxRecDepth 100000 in
theorem bX6_isBusy_51 {p : Program} {l : Launch} {e : Env} {s : State} {m : MethodId} {args : Array Value} {below : List Frame} {meth : Method} {c : Code} {D : va_G} {cI : Nat → ClassId} {e0 : Nat} {A : Nat → Prop} {ad : Nat → Nat → Nat} {M : KS} {ap : Int64} {o : Int64} {od : UInt64} {mc ms : Nat} {K : KS} {post : Int32 → Prop} {bk2 : Int32 → Nat → Int32 → KS → Prop} (S : CallFix p m c cX6_isBusy 5 s args WU RX6) (hg : GI D cI e0 A s s.heap) (hr : meth.sig.returnType = (some FieldType.boolean)) (hlk : meth.locks = false) (hout : ∀ x ∈ c.exceptionTable.toList, False) (hbk2 : ∀ {H : Heap} {locs : List Loc} {ls : Array Slot} {l1 : Int32} {l2 : Nat} {l3 : Int32}, va_S A s.heap H locs → HT D cI e0 A ad K M ap o od H → lv_has ls 5 [(0, .ref (ad 0 0)), (1, .int l1), (2, .ref (ad 6 l2)), (3, .int l3)] → bk2 l1 l2 l3 K → W p l e ({ frames := 3, cells := mc, slots := ms, locals := 81 } : Room) s m args below meth c H locs 0 0 (MQQ below (qP D cI e0 A ad K M ap o od rI post) xN args s mc ms A) (F0 m 2 ls [])) {H : Heap} {locs : List Loc} {ls : Array Slot} {l1 : Int32} {l2 : Nat} {l3 : Int32} (hS : va_S A s.heap H locs) (hw : HT D cI e0 A ad K M ap o od H) (hl : lv_has ls 5 [(0, .ref (ad 0 0)), (1, .int l1), (2, .ref (ad 6 l2)), (3, .int l3)]) (h : wX6_isBusy_51 post bk2 l1 l2 l3 K) : W p l e ({ frames := 3, cells := mc, slots := ms, locals := 81 } : Room) s m args below meth c H locs 0 0 (MQQ below (qP D cI e0 A ad K M ap o od rI post) xN args s mc ms A) (F0 m 51 ls []) := by
  unfold wX6_isBusy_51 at h
  refine lv_iinc (v := l3 + 1) (lv' := [(3, .int (l3 + 1)), (0, .ref (ad 0 0)), (1, .int l1), (2, .ref (ad 6 l2))]) S.1 S.2.1 dX6_isBusy_51 hl (k := 3) rfl rfl (by decide) rfl (fun ls hl => ?_)
  refine lv_goto (tgt := 2) S.1 S.2.1 dX6_isBusy_54 (by decide) ?_
  have hl := lv_sub hl (l' := [(0, .ref (ad 0 0)), (1, .int l1), (2, .ref (ad 6 l2)), (3, .int (l3 + 1))]) [1, 2, 3, 0] rfl
  exact hbk2 hS hw hl h
def wX6_isBusy_2 (post : Int32 → Prop) : Nat → Int32 → Nat → Int32 → KS → Prop
  | 0 => fun _ _ _ _ => False
  | n + 1 => fun l1 l2 l3 K => (((K 8 2 1) ≤ l3 → (post 0)) ∧ (¬ (K 8 2 1) ≤ l3 → ((okGet K 1 l3) ∧ (((K 9 1 l3.toNatClampNeg).toNatClampNeg < nD K) ∧ ((l2 < nD K) ∧ (((K 9 1 l3.toNatClampNeg).toNatClampNeg = l2 → (wX6_isBusy_51 post (wX6_isBusy_2 post n) l1 l2 l3 K)) ∧ (¬ (K 9 1 l3.toNatClampNeg).toNatClampNeg = l2 → ((wpX2_hasNotEnded (fun r6 => ((r6 = 0 → (wX6_isBusy_51 post (wX6_isBusy_2 post n) l1 l2 l3 K)) ∧ (¬ r6 = 0 → ((wpX2_isOf (fun r8 => ((r8 = 0 → (wX6_isBusy_51 post (wX6_isBusy_2 post n) l1 l2 l3 K)) ∧ (¬ r8 = 0 → (post 1)))) K ((K 9 1 l3.toNatClampNeg).toNatClampNeg) l1))))) K ((K 9 1 l3.toNatClampNeg).toNatClampNeg))))))))))
set_option maxHeartbeats 4000000 in
set_option maxRecDepth 100000 in
theorem bX6_isBusy_2 {p : Program} {l : Launch} {e : Env} {s : State} {m : MethodId} {args : Array Value} {below : List Frame} {meth : Method} {c : Code} {D : va_G} {cI : Nat → ClassId} {e0 : Nat} {A : Nat → Prop} {ad : Nat → Nat → Nat} {M : KS} {ap : Int64} {o : Int64} {od : UInt64} {mc ms : Nat} {K : KS} {post : Int32 → Prop} (S : CallFix p m c cX6_isBusy 5 s args WU RX6) (hg : GI D cI e0 A s s.heap) (hr : meth.sig.returnType = (some FieldType.boolean)) (hlk : meth.locks = false) (hout : ∀ x ∈ c.exceptionTable.toList, False) : ∀ n : Nat, ∀ {H : Heap} {locs : List Loc} {ls : Array Slot} {l1 : Int32} {l2 : Nat} {l3 : Int32}, va_S A s.heap H locs → HT D cI e0 A ad K M ap o od H → lv_has ls 5 [(0, .ref (ad 0 0)), (1, .int l1), (2, .ref (ad 6 l2)), (3, .int l3)] → wX6_isBusy_2 post n l1 l2 l3 K → W p l e ({ frames := 3, cells := mc, slots := ms, locals := 81 } : Room) s m args below meth c H locs 0 0 (MQQ below (qP D cI e0 A ad K M ap o od rI post) xN args s mc ms A) (F0 m 2 ls []) := by
  intro n
  induction n with
  | zero => intros; exact False.elim (by assumption)
  | succ n ih =>
    intro H locs ls l1 l2 l3 hS hw hl h
    unfold wX6_isBusy_2 at h
    refine lv_iload_n S.1 S.2.1 dX6_isBusy_2 rfl (lv_at hl 3 rfl) ?_
    refine lv_aload_n S.1 S.2.1 dX6_isBusy_3 rfl (lv_at hl 0 rfl) ?_
    refine g0_6 S hg hw u122 dX6_isBusy_4 ?_
    refine rL_size S hg hS hw (lv8 1) u173 hl.1 (Nat.le_of_ble_eq_true rfl) ⟨Nat.le_of_ble_eq_true rfl, Nat.le_of_ble_eq_true rfl⟩ ⟨by omega, by omega⟩ dX6_isBusy_7 (fun H locs hw hS => ?_)
    refine lv_icmp_ge (tgt := 57) S.1 S.2.1 dX6_isBusy_10 (by decide) (fun c1 => ?_) (fun c1 => ?_)
    · have h := h.1 c1
      refine lv_iconst (v := 0) S.1 S.2.1 dX6_isBusy_57 (by decide) ?_
      exact r_iret (y := yX6_isBusy) S hr rfl hlk hS (by omega) (by omega) dX6_isBusy_58 ⟨0, rfl, h, hw⟩
    · have h := h.2 c1
      refine lv_aload_n S.1 S.2.1 dX6_isBusy_13 rfl (lv_at hl 0 rfl) ?_
      refine g0_6 S hg hw u122 dX6_isBusy_14 ?_
      refine lv_iload_n S.1 S.2.1 dX6_isBusy_17 rfl (lv_at hl 3 rfl) ?_
      obtain ⟨g2, h⟩ := h
      refine rL_get S hg hS hw (lv8 1) g2 u177 hl.1 (Nat.le_of_ble_eq_true rfl) ⟨Nat.le_of_ble_eq_true rfl, Nat.le_of_ble_eq_true rfl⟩ ⟨by omega, by omega⟩ dX6_isBusy_18 (fun H locs hw hS => ?_)
      show W p l e _ s m _ below meth c H locs _ _ _ (F0 m 21 ls [.ref (ad 6 ((K 9 1 l3.toNatClampNeg).toNatClampNeg))])
      obtain ⟨g3, h⟩ := h
      refine ck6 S hg hw g3 u527 dX6_isBusy_21 ?_
      refine lv_astore (lv' := [(4, .ref (ad 6 ((K 9 1 l3.toNatClampNeg).toNatClampNeg))), (0, .ref (ad 0 0)), (1, .int l1), (2, .ref (ad 6 l2)), (3, .int l3)]) S.1 S.2.1 dX6_isBusy_24 hl (by decide) rfl (fun ls hl => ?_)
      refine lv_aload S.1 S.2.1 dX6_isBusy_26 (lv_at hl 0 rfl) ?_
      refine lv_aload_n S.1 S.2.1 dX6_isBusy_28 rfl (lv_at hl 3 rfl) ?_
      obtain ⟨g4, h⟩ := h
      refine lv_acmp_eq (rx := some (ad 6 ((K 9 1 l3.toNatClampNeg).toNatClampNeg))) (ry := some (ad 6 l2)) (tgt := 51) S.1 S.2.1 dX6_isBusy_29 (by decide) (fun c5 => ?_) (fun c5 => ?_)
      · have h := h.1 (inj6 hw g3 g4 (Option.some.inj c5))
        have hl := lv_sub hl (l' := [(0, .ref (ad 0 0)), (1, .int l1), (2, .ref (ad 6 l2)), (3, .int l3)]) [1, 2, 3, 4] rfl
        exact bX6_isBusy_51 S hg hr hlk hout ih hS hw hl h
      · have h := h.2 (fun z => c5 (congrArg (fun q => some (ad 6 q)) z))
        refine lv_aload S.1 S.2.1 dX6_isBusy_32 (lv_at hl 0 rfl) ?_
        refine r_call (rest := []) S hg hS (mtX2_hasNotEnded (mc := 0) (ms := 0) h) u528 u529 u530 u49 u531 hdX2_hasNotEnded (rv6 hg hw g3) hw ⟨Nat.le_of_ble_eq_true rfl, Nat.le_of_ble_eq_true rfl⟩ ⟨by show 0 + 0 ≤ mc; omega, by show 0 + 0 ≤ ms; omega⟩ hl.1 (Nat.le_of_ble_eq_true rfl) rfl dX6_isBusy_34 (fun E ce q H1 locs1 hx hS1 hc1 hc2 hc3 => hx.elim) (fun rv H locs hq hS => ?_)
        obtain ⟨r6, rfl, h, hw⟩ := hq
        show W p l e _ s m _ below meth c H locs _ _ _ (F0 m 37 ls [.int r6])
        show W p l e _ s m _ below meth c H locs 0 0 _ _
        refine lv_if_eq (tgt := 51) S.1 S.2.1 dX6_isBusy_37 (by decide) (fun c7 => ?_) (fun c7 => ?_)
        · have h := h.1 c7
          have hl := lv_sub hl (l' := [(0, .ref (ad 0 0)), (1, .int l1), (2, .ref (ad 6 l2)), (3, .int l3)]) [1, 2, 3, 4] rfl
          exact bX6_isBusy_51 S hg hr hlk hout ih hS hw hl h
        · have h := h.2 c7
          refine lv_aload S.1 S.2.1 dX6_isBusy_40 (lv_at hl 0 rfl) ?_
          refine lv_iload_n S.1 S.2.1 dX6_isBusy_42 rfl (lv_at hl 2 rfl) ?_
          refine r_call (rest := []) S hg hS (mtX2_isOf (mc := 0) (ms := 0) h) u532 u533 u534 u49 u535 hdX2_isOf (rv6 hg hw g3) hw ⟨Nat.le_of_ble_eq_true rfl, Nat.le_of_ble_eq_true rfl⟩ ⟨by show 0 + 0 ≤ mc; omega, by show 0 + 0 ≤ ms; omega⟩ hl.1 (Nat.le_of_ble_eq_true rfl) rfl dX6_isBusy_43 (fun E ce q H1 locs1 hx hS1 hc1 hc2 hc3 => hx.elim) (fun rv H locs hq hS => ?_)
          obtain ⟨r8, rfl, h, hw⟩ := hq
          show W p l e _ s m _ below meth c H locs _ _ _ (F0 m 46 ls [.int r8])
          show W p l e _ s m _ below meth c H locs 0 0 _ _
          refine lv_if_eq (tgt := 51) S.1 S.2.1 dX6_isBusy_46 (by decide) (fun c9 => ?_) (fun c9 => ?_)
          · have h := h.1 c9
            have hl := lv_sub hl (l' := [(0, .ref (ad 0 0)), (1, .int l1), (2, .ref (ad 6 l2)), (3, .int l3)]) [1, 2, 3, 4] rfl
            exact bX6_isBusy_51 S hg hr hlk hout ih hS hw hl h
          · have h := h.2 c9
            refine lv_iconst (v := 1) S.1 S.2.1 dX6_isBusy_49 (by decide) ?_
            exact r_iret (y := yX6_isBusy) S hr rfl hlk hS (by omega) (by omega) dX6_isBusy_50 ⟨1, rfl, h, hw⟩
def wpX6_isBusy (post : Int32 → Prop) (K : KS) (p1 : Int32) (p2 : Nat) : Prop := ∃ n1 : Nat, wX6_isBusy_2 post n1 p1 p2 0 K
theorem hdX6_isBusy : yX6_isBusy.cls ≠ "java/lang/invoke/MethodHandle" ∧ yX6_isBusy.cls ≠ "java/lang/invoke/VarHandle" ∧ (parseMethodDescriptor yX6_isBusy.desc).map (fun d => d.parameters.length) = some 2 := by decide +kernel
set_option maxHeartbeats 4000000 in
set_option maxRecDepth 100000 in
theorem mtX6_isBusy {l : Launch} {D : va_G} {cI : Nat → ClassId} {e0 : Nat} {A : Nat → Prop} {ad : Nat → Nat → Nat} {K M : KS} {ap o : Int64} {od : UInt64} {mc ms : Nat} {p1 : Int32} {p2 : Nat} {post : Int32 → Prop} (h : wpX6_isBusy post K p1 p2) : CM l D cI e0 A yX6_isBusy cX6_isBusy 5 (some FieldType.boolean) 3 81 mc ms [.ref (ad 0 0), .int p1, .ref (ad 6 p2)] (HT D cI e0 A ad K M ap o od) (qP D cI e0 A ad K M ap o od rI post) xN := by
  refine CM.of (by decide) (Nat.le_of_ble_eq_true rfl) (fun p e s m below meth c ls FX hw hS hl => ?_)
  obtain ⟨S, hg, hr, hlk, hnm, hout⟩ := FX
  have hl : lv_has ls 5 [(0, .ref (ad 0 0)), (1, .int p1), (2, .ref (ad 6 p2))] := hl
  unfold wpX6_isBusy at h
  refine lv_iconst (v := 0) S.1 S.2.1 dX6_isBusy_0 (by decide) ?_
  refine lv_istore_n (lv' := [(3, .int 0), (0, .ref (ad 0 0)), (1, .int p1), (2, .ref (ad 6 p2))]) S.1 S.2.1 dX6_isBusy_1 rfl hl (by decide) rfl (fun ls hl => ?_)
  have hl := lv_sub hl (l' := [(0, .ref (ad 0 0)), (1, .int p1), (2, .ref (ad 6 p2)), (3, .int 0)]) [1, 2, 3, 0] rfl
  obtain ⟨n1, h⟩ := h
  exact bX6_isBusy_2 S hg hr hlk hout n1 hS hw hl h

-- X6.hand
theorem dX6_hand_0 : decode cX6_hand 0 = .ok (.aload_n 1, 1) := by decide +kernel
theorem dX6_hand_1 : decode cX6_hand 1 = .ok (.getfield 93, 3) := by decide +kernel
theorem dX6_hand_4 : decode cX6_hand 4 = .ok (.iload_n 2, 1) := by decide +kernel
theorem dX6_hand_5 : decode cX6_hand 5 = .ok (.if_icmp .eq 24, 3) := by decide +kernel
theorem dX6_hand_8 : decode cX6_hand 8 = .ok (.aload_n 0, 1) := by decide +kernel
theorem dX6_hand_9 : decode cX6_hand 9 = .ok (.getfield 32, 3) := by decide +kernel
theorem dX6_hand_12 : decode cX6_hand 12 = .ok (.aload_n 1, 1) := by decide +kernel
theorem dX6_hand_13 : decode cX6_hand 13 = .ok (.getfield 96, 3) := by decide +kernel
theorem dX6_hand_16 : decode cX6_hand 16 = .ok (.aload_n 1, 1) := by decide +kernel
theorem dX6_hand_17 : decode cX6_hand 17 = .ok (.getfield 93, 3) := by decide +kernel
theorem dX6_hand_20 : decode cX6_hand 20 = .ok (.iload_n 2, 1) := by decide +kernel
theorem dX6_hand_21 : decode cX6_hand 21 = .ok (.invokevirtual 86, 3) := by decide +kernel
theorem dX6_hand_24 : decode cX6_hand 24 = .ok (.aload_n 1, 1) := by decide +kernel
theorem dX6_hand_25 : decode cX6_hand 25 = .ok (.iload_n 2, 1) := by decide +kernel
theorem dX6_hand_26 : decode cX6_hand 26 = .ok (.putfield 93, 3) := by decide +kernel
theorem dX6_hand_29 : decode cX6_hand 29 = .ok (.return_, 1) := by decide +kernel
def wpX6_hand (post : Unit → KS → Prop) (mc ms : Nat) (K : KS) (p1 : Nat) (p2 : Int32) : Prop := (p1 < nC K) ∧ ((((K 4 2 p1) = p2 → (post () K)) ∧ (¬ (K 4 2 p1) = p2 → ((∃ a3 a4 : Nat, 0 + a3 ≤ mc ∧ 0 + a4 ≤ ms ∧ wpX3_enter (fun _ K5 => (p1 < nC K5) ∧ (post () (k3 K5 4 2 p1 p2))) a3 a4 K (K 4 0 p1) (K 4 2 p1) p2)))))
theorem hdX6_hand : yX6_hand.cls ≠ "java/lang/invoke/MethodHandle" ∧ yX6_hand.cls ≠ "java/lang/invoke/VarHandle" ∧ (parseMethodDescriptor yX6_hand.desc).map (fun d => d.parameters.length) = some 2 := by decide +kernel
set_option maxHeartbeats 4000000 in
set_option maxRecDepth 100000 in
theorem mtX6_hand {l : Launch} {D : va_G} {cI : Nat → ClassId} {e0 : Nat} {A : Nat → Prop} {ad : Nat → Nat → Nat} {K M : KS} {ap o : Int64} {od : UInt64} {mc ms : Nat} {p1 : Nat} {p2 : Int32} {post : Unit → KS → Prop} (h : wpX6_hand post mc ms K p1 p2) : CM l D cI e0 A yX6_hand cX6_hand 3 none 3 105 mc ms [.ref (ad 0 0), .ref (ad 4 p1), .int p2] (HT D cI e0 A ad K M ap o od) (qK D cI e0 A ad M ap o od rV post) xN := by
  refine CM.of (by decide) (Nat.le_of_ble_eq_true rfl) (fun p e s m below meth c ls FX hw hS hl => ?_)
  obtain ⟨S, hg, hr, hlk, hnm, hout⟩ := FX
  have hl : lv_has ls 3 [(0, .ref (ad 0 0)), (1, .ref (ad 4 p1)), (2, .int p2)] := hl
  unfold wpX6_hand at h
  refine lv_aload_n S.1 S.2.1 dX6_hand_0 rfl (lv_at hl 1 rfl) ?_
  obtain ⟨g1, h⟩ := h
  refine g4_2 S hg hw g1 u386 dX6_hand_1 ?_
  refine lv_iload_n S.1 S.2.1 dX6_hand_4 rfl (lv_at hl 2 rfl) ?_
  refine lv_icmp_eq (tgt := 29) S.1 S.2.1 dX6_hand_5 (by decide) (fun c2 => ?_) (fun c2 => ?_)
  · have h := h.1 c2
    exact r_vret (y := yX6_hand) S hr hlk hS (by omega) (by omega) dX6_hand_29 ⟨(), _, rfl, h, hw⟩
  · have h := h.2 c2
    refine lv_aload_n S.1 S.2.1 dX6_hand_8 rfl (lv_at hl 0 rfl) ?_
    refine g0_9 S hg hw u125 dX6_hand_9 ?_
    refine lv_aload_n S.1 S.2.1 dX6_hand_12 rfl (lv_at hl 1 rfl) ?_
    refine g4_0 S hg hw g1 u382 dX6_hand_13 ?_
    refine lv_aload_n S.1 S.2.1 dX6_hand_16 rfl (lv_at hl 1 rfl) ?_
    refine g4_2 S hg hw g1 u386 dX6_hand_17 ?_
    refine lv_iload_n S.1 S.2.1 dX6_hand_20 rfl (lv_at hl 2 rfl) ?_
    obtain ⟨a3, a4, h1, h2, h⟩ := h
    refine r_call (rest := []) S hg hS (mtX3_enter (mc := a3) (ms := a4) h) u467 u468 u469 u31 u470 hdX3_enter (rv1 hg hw) hw ⟨Nat.le_of_ble_eq_true rfl, Nat.le_of_ble_eq_true rfl⟩ ⟨by show 0 + a3 ≤ mc; omega, by show 0 + a4 ≤ ms; omega⟩ hl.1 (Nat.le_of_ble_eq_true rfl) rfl dX6_hand_21 (fun E ce q H1 locs1 hx hS1 hc1 hc2 hc3 => hx.elim) (fun rv H locs hq hS => ?_)
    obtain ⟨_, K5, rfl, h, hw⟩ := hq
    show W p l e _ s m _ below meth c H locs _ _ _ (F0 m 24 ls [])
    refine lv_aload_n S.1 S.2.1 dX6_hand_24 rfl (lv_at hl 1 rfl) ?_
    refine lv_iload_n S.1 S.2.1 dX6_hand_25 rfl (lv_at hl 2 rfl) ?_
    obtain ⟨g6, h⟩ := h
    refine p4_2 S hg hS hw g6 u386 dX6_hand_26 (fun H locs hw hS => ?_)
    exact r_vret (y := yX6_hand) S hr hlk hS (by omega) (by omega) dX6_hand_29 ⟨(), _, rfl, h, hw⟩

-- X6.awardCards
theorem dX6_awardCards_0 : decode cX6_awardCards 0 = .ok (.iconst 0, 1) := by decide +kernel
theorem dX6_awardCards_1 : decode cX6_awardCards 1 = .ok (.istore_n 3, 1) := by decide +kernel
theorem dX6_awardCards_2 : decode cX6_awardCards 2 = .ok (.iload_n 3, 1) := by decide +kernel
theorem dX6_awardCards_3 : decode cX6_awardCards 3 = .ok (.aload_n 1, 1) := by decide +kernel
theorem dX6_awardCards_4 : decode cX6_awardCards 4 = .ok (.getfield 167, 3) := by decide +kernel
theorem dX6_awardCards_7 : decode cX6_awardCards 7 = .ok (.invokevirtual 71, 3) := by decide +kernel
theorem dX6_awardCards_10 : decode cX6_awardCards 10 = .ok (.if_icmp .ge 41, 3) := by decide +kernel
theorem dX6_awardCards_13 : decode cX6_awardCards 13 = .ok (.aload_n 1, 1) := by decide +kernel
theorem dX6_awardCards_14 : decode cX6_awardCards 14 = .ok (.getfield 167, 3) := by decide +kernel
theorem dX6_awardCards_17 : decode cX6_awardCards 17 = .ok (.iload_n 3, 1) := by decide +kernel
theorem dX6_awardCards_18 : decode cX6_awardCards 18 = .ok (.invokevirtual 107, 3) := by decide +kernel
theorem dX6_awardCards_21 : decode cX6_awardCards 21 = .ok (.checkcast 77, 3) := by decide +kernel
theorem dX6_awardCards_24 : decode cX6_awardCards 24 = .ok (.astore 4, 2) := by decide +kernel
theorem dX6_awardCards_26 : decode cX6_awardCards 26 = .ok (.aload 4, 2) := by decide +kernel
theorem dX6_awardCards_28 : decode cX6_awardCards 28 = .ok (.bipush 119, 2) := by decide +kernel
theorem dX6_awardCards_30 : decode cX6_awardCards 30 = .ok (.putfield 103, 3) := by decide +kernel
theorem dX6_awardCards_33 : decode cX6_awardCards 33 = .ok (.iload_n 2, 1) := by decide +kernel
theorem dX6_awardCards_34 : decode cX6_awardCards 34 = .ok (.iconst (-1), 1) := by decide +kernel
theorem dX6_awardCards_35 : decode cX6_awardCards 35 = .ok (.if_icmp .eq 10, 3) := by decide +kernel
theorem dX6_awardCards_38 : decode cX6_awardCards 38 = .ok (.aload_n 0, 1) := by decide +kernel
theorem dX6_awardCards_39 : decode cX6_awardCards 39 = .ok (.aload 4, 2) := by decide +kernel
theorem dX6_awardCards_41 : decode cX6_awardCards 41 = .ok (.iload_n 2, 1) := by decide +kernel
theorem dX6_awardCards_42 : decode cX6_awardCards 42 = .ok (.invokevirtual 358, 3) := by decide +kernel
theorem dX6_awardCards_45 : decode cX6_awardCards 45 = .ok (.iinc 3 1, 3) := by decide +kernel
theorem dX6_awardCards_48 : decode cX6_awardCards 48 = .ok (.goto (-46), 3) := by decide +kernel
theorem dX6_awardCards_51 : decode cX6_awardCards 51 = .ok (.return_, 1) := by decide +kernel
def wX6_awardCards_45 (post : Unit → KS → Prop) (mc ms : Nat) (bk2 : Nat → Nat → Nat → Int32 → Int32 → KS → Prop) (uc us : Nat) (l1 : Nat) (l2 : Int32) (l3 : Int32) (K : KS) : Prop := bk2 uc us l1 l2 (l3 + 1) K
set_option maxHeartbeats 4000000 in
set_option maxRecDepth 100000 in
theorem bX6_awardCards_45 {p : Program} {l : Launch} {e : Env} {s : State} {m : MethodId} {args : Array Value} {below : List Frame} {meth : Method} {c : Code} {D : va_G} {cI : Nat → ClassId} {e0 : Nat} {A : Nat → Prop} {ad : Nat → Nat → Nat} {M : KS} {ap : Int64} {o : Int64} {od : UInt64} {mc ms : Nat} {post : Unit → KS → Prop} {bk2 : Nat → Nat → Nat → Int32 → Int32 → KS → Prop} (S : CallFix p m c cX6_awardCards 5 s args WU RX6) (hg : GI D cI e0 A s s.heap) (hr : meth.sig.returnType = none) (hlk : meth.locks = false) (hout : ∀ x ∈ c.exceptionTable.toList, False) (hbk2 : ∀ {H : Heap} {locs : List Loc} {ls : Array Slot} {uc us : Nat} {l1 : Nat} {l2 : Int32} {l3 : Int32} {K : KS}, va_S A s.heap H locs → HT D cI e0 A ad K M ap o od H → lv_has ls 5 [(0, .ref (ad 0 0)), (1, .ref (ad 7 l1)), (2, .int l2), (3, .int l3)] → uc ≤ mc → us ≤ ms → bk2 uc us l1 l2 l3 K → W p l e ({ frames := 4, cells := mc, slots := ms, locals := 127 } : Room) s m args below meth c H locs uc us (MQQ below (qK D cI e0 A ad M ap o od rV post) xN args s mc ms A) (F0 m 2 ls [])) {H : Heap} {locs : List Loc} {ls : Array Slot} {uc us : Nat} {l1 : Nat} {l2 : Int32} {l3 : Int32} {K : KS} (hS : va_S A s.heap H locs) (hw : HT D cI e0 A ad K M ap o od H) (hl : lv_has ls 5 [(0, .ref (ad 0 0)), (1, .ref (ad 7 l1)), (2, .int l2), (3, .int l3)]) (huc : uc ≤ mc) (hus : us ≤ ms) (h : wX6_awardCards_45 post mc ms bk2 uc us l1 l2 l3 K) : W p l e ({ frames := 4, cells := mc, slots := ms, locals := 127 } : Room) s m args below meth c H locs uc us (MQQ below (qK D cI e0 A ad M ap o od rV post) xN args s mc ms A) (F0 m 45 ls []) := by
  unfold wX6_awardCards_45 at h
  refine lv_iinc (v := l3 + 1) (lv' := [(3, .int (l3 + 1)), (0, .ref (ad 0 0)), (1, .ref (ad 7 l1)), (2, .int l2)]) S.1 S.2.1 dX6_awardCards_45 hl (k := 3) rfl rfl (by decide) rfl (fun ls hl => ?_)
  refine lv_goto (tgt := 2) S.1 S.2.1 dX6_awardCards_48 (by decide) ?_
  have hl := lv_sub hl (l' := [(0, .ref (ad 0 0)), (1, .ref (ad 7 l1)), (2, .int l2), (3, .int (l3 + 1))]) [1, 2, 3, 0] rfl
  exact hbk2 hS hw hl (by omega) (by omega) h
def wX6_awardCards_2 (post : Unit → KS → Prop) (mc ms : Nat) : Nat → Nat → Nat → Nat → Int32 → Int32 → KS → Prop
  | 0 => fun _ _ _ _ _ _ => False
  | n + 1 => fun uc us l1 l2 l3 K => (l1 < 2 * nD K) ∧ ((((K 8 2 (l1 + 4)) ≤ l3 → (post () K)) ∧ (¬ (K 8 2 (l1 + 4)) ≤ l3 → ((okGet K (l1 + 4) l3) ∧ (((K 9 (l1 + 4) l3.toNatClampNeg).toNatClampNeg < nC K) ∧ (((l2 = (-1) → (wX6_awardCards_45 post mc ms (wX6_awardCards_2 post mc ms n) uc us l1 l2 l3 (k3 K 4 3 ((K 9 (l1 + 4) l3.toNatClampNeg).toNatClampNeg) 119))) ∧ (¬ l2 = (-1) → ((∃ a6 a7 : Nat, uc + a6 ≤ mc ∧ us + a7 ≤ ms ∧ wpX6_hand (fun _ K8 => wX6_awardCards_45 post mc ms (wX6_awardCards_2 post mc ms n) (uc + a6) (us + a7) l1 l2 l3 K8) a6 a7 (k3 K 4 3 ((K 9 (l1 + 4) l3.toNatClampNeg).toNatClampNeg) 119) ((K 9 (l1 + 4) l3.toNatClampNeg).toNatClampNeg) l2))))))))))
set_option maxHeartbeats 4000000 in
set_option maxRecDepth 100000 in
theorem bX6_awardCards_2 {p : Program} {l : Launch} {e : Env} {s : State} {m : MethodId} {args : Array Value} {below : List Frame} {meth : Method} {c : Code} {D : va_G} {cI : Nat → ClassId} {e0 : Nat} {A : Nat → Prop} {ad : Nat → Nat → Nat} {M : KS} {ap : Int64} {o : Int64} {od : UInt64} {mc ms : Nat} {post : Unit → KS → Prop} (S : CallFix p m c cX6_awardCards 5 s args WU RX6) (hg : GI D cI e0 A s s.heap) (hr : meth.sig.returnType = none) (hlk : meth.locks = false) (hout : ∀ x ∈ c.exceptionTable.toList, False) : ∀ n : Nat, ∀ {H : Heap} {locs : List Loc} {ls : Array Slot} {uc us : Nat} {l1 : Nat} {l2 : Int32} {l3 : Int32} {K : KS}, va_S A s.heap H locs → HT D cI e0 A ad K M ap o od H → lv_has ls 5 [(0, .ref (ad 0 0)), (1, .ref (ad 7 l1)), (2, .int l2), (3, .int l3)] → uc ≤ mc → us ≤ ms → wX6_awardCards_2 post mc ms n uc us l1 l2 l3 K → W p l e ({ frames := 4, cells := mc, slots := ms, locals := 127 } : Room) s m args below meth c H locs uc us (MQQ below (qK D cI e0 A ad M ap o od rV post) xN args s mc ms A) (F0 m 2 ls []) := by
  intro n
  induction n with
  | zero => intros; exact False.elim (by assumption)
  | succ n ih =>
    intro H locs ls uc us l1 l2 l3 K hS hw hl huc hus h
    unfold wX6_awardCards_2 at h
    refine lv_iload_n S.1 S.2.1 dX6_awardCards_2 rfl (lv_at hl 3 rfl) ?_
    refine lv_aload_n S.1 S.2.1 dX6_awardCards_3 rfl (lv_at hl 1 rfl) ?_
    obtain ⟨g1, h⟩ := h
    refine g7_2 S hg hw g1 u561 dX6_awardCards_4 ?_
    refine rL_size S hg hS hw (lv8s g1) u173 hl.1 (Nat.le_of_ble_eq_true rfl) ⟨Nat.le_of_ble_eq_true rfl, Nat.le_of_ble_eq_true rfl⟩ ⟨by omega, by omega⟩ dX6_awardCards_7 (fun H locs hw hS => ?_)
    refine lv_icmp_ge (tgt := 51) S.1 S.2.1 dX6_awardCards_10 (by decide) (fun c2 => ?_) (fun c2 => ?_)
    · have h := h.1 c2
      exact r_vret (y := yX6_awardCards) S hr hlk hS (by omega) (by omega) dX6_awardCards_51 ⟨(), _, rfl, h, hw⟩
    · have h := h.2 c2
      refine lv_aload_n S.1 S.2.1 dX6_awardCards_13 rfl (lv_at hl 1 rfl) ?_
      refine g7_2 S hg hw g1 u561 dX6_awardCards_14 ?_
      refine lv_iload_n S.1 S.2.1 dX6_awardCards_17 rfl (lv_at hl 3 rfl) ?_
      obtain ⟨g3, h⟩ := h
      refine rL_get S hg hS hw (lv8s g1) g3 u177 hl.1 (Nat.le_of_ble_eq_true rfl) ⟨Nat.le_of_ble_eq_true rfl, Nat.le_of_ble_eq_true rfl⟩ ⟨by omega, by omega⟩ dX6_awardCards_18 (fun H locs hw hS => ?_)
      show W p l e _ s m _ below meth c H locs _ _ _ (F0 m 21 ls [.ref (ad 4 ((K 9 (l1 + 4) l3.toNatClampNeg).toNatClampNeg))])
      obtain ⟨g4, h⟩ := h
      refine ck4 S hg hw g4 u191 dX6_awardCards_21 ?_
      refine lv_astore (lv' := [(4, .ref (ad 4 ((K 9 (l1 + 4) l3.toNatClampNeg).toNatClampNeg))), (0, .ref (ad 0 0)), (1, .ref (ad 7 l1)), (2, .int l2), (3, .int l3)]) S.1 S.2.1 dX6_awardCards_24 hl (by decide) rfl (fun ls hl => ?_)
      refine lv_aload S.1 S.2.1 dX6_awardCards_26 (lv_at hl 0 rfl) ?_
      refine lv_bipush (v := 119) S.1 S.2.1 dX6_awardCards_28 (by decide) ?_
      refine p4_3 S hg hS hw g4 rfl rfl u388 dX6_awardCards_30 (fun H locs hw hS => ?_)
      refine lv_iload_n S.1 S.2.1 dX6_awardCards_33 rfl (lv_at hl 3 rfl) ?_
      refine lv_iconst (v := (-1)) S.1 S.2.1 dX6_awardCards_34 (by decide) ?_
      refine lv_icmp_eq (tgt := 45) S.1 S.2.1 dX6_awardCards_35 (by decide) (fun c5 => ?_) (fun c5 => ?_)
      · have h := h.1 c5
        have hl := lv_sub hl (l' := [(0, .ref (ad 0 0)), (1, .ref (ad 7 l1)), (2, .int l2), (3, .int l3)]) [1, 2, 3, 4] rfl
        exact bX6_awardCards_45 S hg hr hlk hout ih hS hw hl (by omega) (by omega) h
      · have h := h.2 c5
        refine lv_aload_n S.1 S.2.1 dX6_awardCards_38 rfl (lv_at hl 1 rfl) ?_
        refine lv_aload S.1 S.2.1 dX6_awardCards_39 (lv_at hl 0 rfl) ?_
        refine lv_iload_n S.1 S.2.1 dX6_awardCards_41 rfl (lv_at hl 3 rfl) ?_
        obtain ⟨a6, a7, h1, h2, h⟩ := h
        refine r_call (rest := []) S hg hS (mtX6_hand (mc := a6) (ms := a7) h) u736 u738 u15 u27 u739 hdX6_hand (rv0 hg hw) hw ⟨Nat.le_of_ble_eq_true rfl, Nat.le_of_ble_eq_true rfl⟩ ⟨by show uc + a6 ≤ mc; omega, by show us + a7 ≤ ms; omega⟩ hl.1 (Nat.le_of_ble_eq_true rfl) rfl dX6_awardCards_42 (fun E ce q H1 locs1 hx hS1 hc1 hc2 hc3 => hx.elim) (fun rv H locs hq hS => ?_)
        obtain ⟨_, K8, rfl, h, hw⟩ := hq
        show W p l e _ s m _ below meth c H locs _ _ _ (F0 m 45 ls [])
        have hl := lv_sub hl (l' := [(0, .ref (ad 0 0)), (1, .ref (ad 7 l1)), (2, .int l2), (3, .int l3)]) [1, 2, 3, 4] rfl
        exact bX6_awardCards_45 S hg hr hlk hout ih hS hw hl (by omega) (by omega) h
def wpX6_awardCards (post : Unit → KS → Prop) (mc ms : Nat) (K : KS) (p1 : Nat) (p2 : Int32) : Prop := ∃ n1 : Nat, wX6_awardCards_2 post mc ms n1 0 0 p1 p2 0 K
theorem hdX6_awardCards : yX6_awardCards.cls ≠ "java/lang/invoke/MethodHandle" ∧ yX6_awardCards.cls ≠ "java/lang/invoke/VarHandle" ∧ (parseMethodDescriptor yX6_awardCards.desc).map (fun d => d.parameters.length) = some 2 := by decide +kernel
set_option maxHeartbeats 4000000 in
set_option maxRecDepth 100000 in
theorem mtX6_awardCards {l : Launch} {D : va_G} {cI : Nat → ClassId} {e0 : Nat} {A : Nat → Prop} {ad : Nat → Nat → Nat} {K M : KS} {ap o : Int64} {od : UInt64} {mc ms : Nat} {p1 : Nat} {p2 : Int32} {post : Unit → KS → Prop} (h : wpX6_awardCards post mc ms K p1 p2) : CM l D cI e0 A yX6_awardCards cX6_awardCards 5 none 4 127 mc ms [.ref (ad 0 0), .ref (ad 7 p1), .int p2] (HT D cI e0 A ad K M ap o od) (qK D cI e0 A ad M ap o od rV post) xN := by
  refine CM.of (by decide) (Nat.le_of_ble_eq_true rfl) (fun p e s m below meth c ls FX hw hS hl => ?_)
  obtain ⟨S, hg, hr, hlk, hnm, hout⟩ := FX
  have hl : lv_has ls 5 [(0, .ref (ad 0 0)), (1, .ref (ad 7 p1)), (2, .int p2)] := hl
  unfold wpX6_awardCards at h
  refine lv_iconst (v := 0) S.1 S.2.1 dX6_awardCards_0 (by decide) ?_
  refine lv_istore_n (lv' := [(3, .int 0), (0, .ref (ad 0 0)), (1, .ref (ad 7 p1)), (2, .int p2)]) S.1 S.2.1 dX6_awardCards_1 rfl hl (by decide) rfl (fun ls hl => ?_)
  have hl := lv_sub hl (l' := [(0, .ref (ad 0 0)), (1, .ref (ad 7 p1)), (2, .int p2), (3, .int 0)]) [1, 2, 3, 0] rfl
  obtain ⟨n1, h⟩ := h
  exact bX6_awardCards_2 S hg hr hlk hout n1 hS hw hl (by omega) (by omega) h

-- X6.takeCardsBack
theorem dX6_takeCardsBack_0 : decode cX6_takeCardsBack 0 = .ok (.iconst 0, 1) := by decide +kernel
theorem dX6_takeCardsBack_1 : decode cX6_takeCardsBack 1 = .ok (.istore_n 2, 1) := by decide +kernel
theorem dX6_takeCardsBack_2 : decode cX6_takeCardsBack 2 = .ok (.iload_n 2, 1) := by decide +kernel
theorem dX6_takeCardsBack_3 : decode cX6_takeCardsBack 3 = .ok (.aload_n 1, 1) := by decide +kernel
theorem dX6_takeCardsBack_4 : decode cX6_takeCardsBack 4 = .ok (.getfield 167, 3) := by decide +kernel
theorem dX6_takeCardsBack_7 : decode cX6_takeCardsBack 7 = .ok (.invokevirtual 71, 3) := by decide +kernel
theorem dX6_takeCardsBack_10 : decode cX6_takeCardsBack 10 = .ok (.if_icmp .ge 36, 3) := by decide +kernel
theorem dX6_takeCardsBack_13 : decode cX6_takeCardsBack 13 = .ok (.aload_n 1, 1) := by decide +kernel
theorem dX6_takeCardsBack_14 : decode cX6_takeCardsBack 14 = .ok (.getfield 167, 3) := by decide +kernel
theorem dX6_takeCardsBack_17 : decode cX6_takeCardsBack 17 = .ok (.iload_n 2, 1) := by decide +kernel
theorem dX6_takeCardsBack_18 : decode cX6_takeCardsBack 18 = .ok (.invokevirtual 107, 3) := by decide +kernel
theorem dX6_takeCardsBack_21 : decode cX6_takeCardsBack 21 = .ok (.checkcast 77, 3) := by decide +kernel
theorem dX6_takeCardsBack_24 : decode cX6_takeCardsBack 24 = .ok (.astore_n 3, 1) := by decide +kernel
theorem dX6_takeCardsBack_25 : decode cX6_takeCardsBack 25 = .ok (.aload_n 3, 1) := by decide +kernel
theorem dX6_takeCardsBack_26 : decode cX6_takeCardsBack 26 = .ok (.bipush 115, 2) := by decide +kernel
theorem dX6_takeCardsBack_28 : decode cX6_takeCardsBack 28 = .ok (.putfield 103, 3) := by decide +kernel
theorem dX6_takeCardsBack_31 : decode cX6_takeCardsBack 31 = .ok (.aload_n 0, 1) := by decide +kernel
theorem dX6_takeCardsBack_32 : decode cX6_takeCardsBack 32 = .ok (.aload_n 3, 1) := by decide +kernel
theorem dX6_takeCardsBack_33 : decode cX6_takeCardsBack 33 = .ok (.aload_n 1, 1) := by decide +kernel
theorem dX6_takeCardsBack_34 : decode cX6_takeCardsBack 34 = .ok (.getfield 281, 3) := by decide +kernel
theorem dX6_takeCardsBack_37 : decode cX6_takeCardsBack 37 = .ok (.invokevirtual 358, 3) := by decide +kernel
theorem dX6_takeCardsBack_40 : decode cX6_takeCardsBack 40 = .ok (.iinc 2 1, 3) := by decide +kernel
theorem dX6_takeCardsBack_43 : decode cX6_takeCardsBack 43 = .ok (.goto (-41), 3) := by decide +kernel
theorem dX6_takeCardsBack_46 : decode cX6_takeCardsBack 46 = .ok (.return_, 1) := by decide +kernel
def wX6_takeCardsBack_2 (post : Unit → KS → Prop) (mc ms : Nat) : Nat → Nat → Nat → Nat → Int32 → KS → Prop
  | 0 => fun _ _ _ _ _ => False
  | n + 1 => fun uc us l1 l2 K => (l1 < 2 * nD K) ∧ ((((K 8 2 (l1 + 4)) ≤ l2 → (post () K)) ∧ (¬ (K 8 2 (l1 + 4)) ≤ l2 → ((okGet K (l1 + 4) l2) ∧ (((K 9 (l1 + 4) l2.toNatClampNeg).toNatClampNeg < nC K) ∧ ((∃ a5 a6 : Nat, uc + a5 ≤ mc ∧ us + a6 ≤ ms ∧ wpX6_hand (fun _ K7 => wX6_takeCardsBack_2 post mc ms n (uc + a5) (us + a6) l1 (l2 + 1) K7) a5 a6 (k3 K 4 3 ((K 9 (l1 + 4) l2.toNatClampNeg).toNatClampNeg) 115) ((K 9 (l1 + 4) l2.toNatClampNeg).toNatClampNeg) ((k3 K 4 3 ((K 9 (l1 + 4) l2.toNatClampNeg).toNatClampNeg) 115) 7 0 l1))))))))
set_option maxHeartbeats 4000000 in
set_option maxRecDepth 100000 in
theorem bX6_takeCardsBack_2 {p : Program} {l : Launch} {e : Env} {s : State} {m : MethodId} {args : Array Value} {below : List Frame} {meth : Method} {c : Code} {D : va_G} {cI : Nat → ClassId} {e0 : Nat} {A : Nat → Prop} {ad : Nat → Nat → Nat} {M : KS} {ap : Int64} {o : Int64} {od : UInt64} {mc ms : Nat} {post : Unit → KS → Prop} (S : CallFix p m c cX6_takeCardsBack 4 s args WU RX6) (hg : GI D cI e0 A s s.heap) (hr : meth.sig.returnType = none) (hlk : meth.locks = false) (hout : ∀ x ∈ c.exceptionTable.toList, False) : ∀ n : Nat, ∀ {H : Heap} {locs : List Loc} {ls : Array Slot} {uc us : Nat} {l1 : Nat} {l2 : Int32} {K : KS}, va_S A s.heap H locs → HT D cI e0 A ad K M ap o od H → lv_has ls 4 [(0, .ref (ad 0 0)), (1, .ref (ad 7 l1)), (2, .int l2)] → uc ≤ mc → us ≤ ms → wX6_takeCardsBack_2 post mc ms n uc us l1 l2 K → W p l e ({ frames := 4, cells := mc, slots := ms, locals := 127 } : Room) s m args below meth c H locs uc us (MQQ below (qK D cI e0 A ad M ap o od rV post) xN args s mc ms A) (F0 m 2 ls []) := by
  intro n
  induction n with
  | zero => intros; exact False.elim (by assumption)
  | succ n ih =>
    intro H locs ls uc us l1 l2 K hS hw hl huc hus h
    unfold wX6_takeCardsBack_2 at h
    refine lv_iload_n S.1 S.2.1 dX6_takeCardsBack_2 rfl (lv_at hl 2 rfl) ?_
    refine lv_aload_n S.1 S.2.1 dX6_takeCardsBack_3 rfl (lv_at hl 1 rfl) ?_
    obtain ⟨g1, h⟩ := h
    refine g7_2 S hg hw g1 u561 dX6_takeCardsBack_4 ?_
    refine rL_size S hg hS hw (lv8s g1) u173 hl.1 (Nat.le_of_ble_eq_true rfl) ⟨Nat.le_of_ble_eq_true rfl, Nat.le_of_ble_eq_true rfl⟩ ⟨by omega, by omega⟩ dX6_takeCardsBack_7 (fun H locs hw hS => ?_)
    refine lv_icmp_ge (tgt := 46) S.1 S.2.1 dX6_takeCardsBack_10 (by decide) (fun c2 => ?_) (fun c2 => ?_)
    · have h := h.1 c2
      exact r_vret (y := yX6_takeCardsBack) S hr hlk hS (by omega) (by omega) dX6_takeCardsBack_46 ⟨(), _, rfl, h, hw⟩
    · have h := h.2 c2
      refine lv_aload_n S.1 S.2.1 dX6_takeCardsBack_13 rfl (lv_at hl 1 rfl) ?_
      refine g7_2 S hg hw g1 u561 dX6_takeCardsBack_14 ?_
      refine lv_iload_n S.1 S.2.1 dX6_takeCardsBack_17 rfl (lv_at hl 2 rfl) ?_
      obtain ⟨g3, h⟩ := h
      refine rL_get S hg hS hw (lv8s g1) g3 u177 hl.1 (Nat.le_of_ble_eq_true rfl) ⟨Nat.le_of_ble_eq_true rfl, Nat.le_of_ble_eq_true rfl⟩ ⟨by omega, by omega⟩ dX6_takeCardsBack_18 (fun H locs hw hS => ?_)
      show W p l e _ s m _ below meth c H locs _ _ _ (F0 m 21 ls [.ref (ad 4 ((K 9 (l1 + 4) l2.toNatClampNeg).toNatClampNeg))])
      obtain ⟨g4, h⟩ := h
      refine ck4 S hg hw g4 u191 dX6_takeCardsBack_21 ?_
      refine lv_astore_n (lv' := [(3, .ref (ad 4 ((K 9 (l1 + 4) l2.toNatClampNeg).toNatClampNeg))), (0, .ref (ad 0 0)), (1, .ref (ad 7 l1)), (2, .int l2)]) S.1 S.2.1 dX6_takeCardsBack_24 rfl hl (by decide) rfl (fun ls hl => ?_)
      refine lv_aload_n S.1 S.2.1 dX6_takeCardsBack_25 rfl (lv_at hl 0 rfl) ?_
      refine lv_bipush (v := 115) S.1 S.2.1 dX6_takeCardsBack_26 (by decide) ?_
      refine p4_3 S hg hS hw g4 rfl rfl u388 dX6_takeCardsBack_28 (fun H locs hw hS => ?_)
      refine lv_aload_n S.1 S.2.1 dX6_takeCardsBack_31 rfl (lv_at hl 1 rfl) ?_
      refine lv_aload_n S.1 S.2.1 dX6_takeCardsBack_32 rfl (lv_at hl 0 rfl) ?_
      refine lv_aload_n S.1 S.2.1 dX6_takeCardsBack_33 rfl (lv_at hl 2 rfl) ?_
      refine g7_0 S hg hw g1 u555 dX6_takeCardsBack_34 ?_
      obtain ⟨a5, a6, h1, h2, h⟩ := h
      refine r_call (rest := []) S hg hS (mtX6_hand (mc := a5) (ms := a6) h) u736 u738 u15 u27 u739 hdX6_hand (rv0 hg hw) hw ⟨Nat.le_of_ble_eq_true rfl, Nat.le_of_ble_eq_true rfl⟩ ⟨by show uc + a5 ≤ mc; omega, by show us + a6 ≤ ms; omega⟩ hl.1 (Nat.le_of_ble_eq_true rfl) rfl dX6_takeCardsBack_37 (fun E ce q H1 locs1 hx hS1 hc1 hc2 hc3 => hx.elim) (fun rv H locs hq hS => ?_)
      obtain ⟨_, K7, rfl, h, hw⟩ := hq
      show W p l e _ s m _ below meth c H locs _ _ _ (F0 m 40 ls [])
      refine lv_iinc (v := l2 + 1) (lv' := [(2, .int (l2 + 1)), (3, .ref (ad 4 ((K 9 (l1 + 4) l2.toNatClampNeg).toNatClampNeg))), (0, .ref (ad 0 0)), (1, .ref (ad 7 l1))]) S.1 S.2.1 dX6_takeCardsBack_40 hl (k := 3) rfl rfl (by decide) rfl (fun ls hl => ?_)
      refine lv_goto (tgt := 2) S.1 S.2.1 dX6_takeCardsBack_43 (by decide) ?_
      have hl := lv_sub hl (l' := [(0, .ref (ad 0 0)), (1, .ref (ad 7 l1)), (2, .int (l2 + 1))]) [2, 3, 0] rfl
      exact ih hS hw hl (by omega) (by omega) h
def wpX6_takeCardsBack (post : Unit → KS → Prop) (mc ms : Nat) (K : KS) (p1 : Nat) : Prop := ∃ n1 : Nat, wX6_takeCardsBack_2 post mc ms n1 0 0 p1 0 K
theorem hdX6_takeCardsBack : yX6_takeCardsBack.cls ≠ "java/lang/invoke/MethodHandle" ∧ yX6_takeCardsBack.cls ≠ "java/lang/invoke/VarHandle" ∧ (parseMethodDescriptor yX6_takeCardsBack.desc).map (fun d => d.parameters.length) = some 1 := by decide +kernel
set_option maxHeartbeats 4000000 in
set_option maxRecDepth 100000 in
theorem mtX6_takeCardsBack {l : Launch} {D : va_G} {cI : Nat → ClassId} {e0 : Nat} {A : Nat → Prop} {ad : Nat → Nat → Nat} {K M : KS} {ap o : Int64} {od : UInt64} {mc ms : Nat} {p1 : Nat} {post : Unit → KS → Prop} (h : wpX6_takeCardsBack post mc ms K p1) : CM l D cI e0 A yX6_takeCardsBack cX6_takeCardsBack 4 none 4 127 mc ms [.ref (ad 0 0), .ref (ad 7 p1)] (HT D cI e0 A ad K M ap o od) (qK D cI e0 A ad M ap o od rV post) xN := by
  refine CM.of (by decide) (Nat.le_of_ble_eq_true rfl) (fun p e s m below meth c ls FX hw hS hl => ?_)
  obtain ⟨S, hg, hr, hlk, hnm, hout⟩ := FX
  have hl : lv_has ls 4 [(0, .ref (ad 0 0)), (1, .ref (ad 7 p1))] := hl
  unfold wpX6_takeCardsBack at h
  refine lv_iconst (v := 0) S.1 S.2.1 dX6_takeCardsBack_0 (by decide) ?_
  refine lv_istore_n (lv' := [(2, .int 0), (0, .ref (ad 0 0)), (1, .ref (ad 7 p1))]) S.1 S.2.1 dX6_takeCardsBack_1 rfl hl (by decide) rfl (fun ls hl => ?_)
  have hl := lv_sub hl (l' := [(0, .ref (ad 0 0)), (1, .ref (ad 7 p1)), (2, .int 0)]) [1, 2, 0] rfl
  obtain ⟨n1, h⟩ := h
  exact bX6_takeCardsBack_2 S hg hr hlk hout n1 hS hw hl (by omega) (by omega) h

-- X6.freeCards
theorem dX6_freeCards_0 : decode cX6_freeCards 0 = .ok (.iconst 0, 1) := by decide +kernel
theorem dX6_freeCards_1 : decode cX6_freeCards 1 = .ok (.istore_n 2, 1) := by decide +kernel
theorem dX6_freeCards_2 : decode cX6_freeCards 2 = .ok (.iload_n 2, 1) := by decide +kernel
theorem dX6_freeCards_3 : decode cX6_freeCards 3 = .ok (.aload_n 1, 1) := by decide +kernel
theorem dX6_freeCards_4 : decode cX6_freeCards 4 = .ok (.getfield 167, 3) := by decide +kernel
theorem dX6_freeCards_7 : decode cX6_freeCards 7 = .ok (.invokevirtual 71, 3) := by decide +kernel
theorem dX6_freeCards_10 : decode cX6_freeCards 10 = .ok (.if_icmp .ge 32, 3) := by decide +kernel
theorem dX6_freeCards_13 : decode cX6_freeCards 13 = .ok (.aload_n 1, 1) := by decide +kernel
theorem dX6_freeCards_14 : decode cX6_freeCards 14 = .ok (.getfield 167, 3) := by decide +kernel
theorem dX6_freeCards_17 : decode cX6_freeCards 17 = .ok (.iload_n 2, 1) := by decide +kernel
theorem dX6_freeCards_18 : decode cX6_freeCards 18 = .ok (.invokevirtual 107, 3) := by decide +kernel
theorem dX6_freeCards_21 : decode cX6_freeCards 21 = .ok (.checkcast 77, 3) := by decide +kernel
theorem dX6_freeCards_24 : decode cX6_freeCards 24 = .ok (.astore_n 3, 1) := by decide +kernel
theorem dX6_freeCards_25 : decode cX6_freeCards 25 = .ok (.aload_n 3, 1) := by decide +kernel
theorem dX6_freeCards_26 : decode cX6_freeCards 26 = .ok (.bipush 45, 2) := by decide +kernel
theorem dX6_freeCards_28 : decode cX6_freeCards 28 = .ok (.putfield 103, 3) := by decide +kernel
theorem dX6_freeCards_31 : decode cX6_freeCards 31 = .ok (.aload_n 3, 1) := by decide +kernel
theorem dX6_freeCards_32 : decode cX6_freeCards 32 = .ok (.iconst (-1), 1) := by decide +kernel
theorem dX6_freeCards_33 : decode cX6_freeCards 33 = .ok (.putfield 174, 3) := by decide +kernel
theorem dX6_freeCards_36 : decode cX6_freeCards 36 = .ok (.iinc 2 1, 3) := by decide +kernel
theorem dX6_freeCards_39 : decode cX6_freeCards 39 = .ok (.goto (-37), 3) := by decide +kernel
theorem dX6_freeCards_42 : decode cX6_freeCards 42 = .ok (.return_, 1) := by decide +kernel
def wX6_freeCards_2 (post : Unit → KS → Prop) : Nat → Nat → Int32 → KS → Prop
  | 0 => fun _ _ _ => False
  | n + 1 => fun l1 l2 K => (l1 < 2 * nD K) ∧ ((((K 8 2 (l1 + 4)) ≤ l2 → (post () K)) ∧ (¬ (K 8 2 (l1 + 4)) ≤ l2 → ((okGet K (l1 + 4) l2) ∧ (((K 9 (l1 + 4) l2.toNatClampNeg).toNatClampNeg < nC K) ∧ (wX6_freeCards_2 post n l1 (l2 + 1) (k3 (k3 K 4 3 ((K 9 (l1 + 4) l2.toNatClampNeg).toNatClampNeg) 45) 4 5 ((K 9 (l1 + 4) l2.toNatClampNeg).toNatClampNeg) (-1))))))))
set_option maxHeartbeats 4000000 in
set_option maxRecDepth 100000 in
theorem bX6_freeCards_2 {p : Program} {l : Launch} {e : Env} {s : State} {m : MethodId} {args : Array Value} {below : List Frame} {meth : Method} {c : Code} {D : va_G} {cI : Nat → ClassId} {e0 : Nat} {A : Nat → Prop} {ad : Nat → Nat → Nat} {M : KS} {ap : Int64} {o : Int64} {od : UInt64} {mc ms : Nat} {post : Unit → KS → Prop} (S : CallFix p m c cX6_freeCards 4 s args WU RX6) (hg : GI D cI e0 A s s.heap) (hr : meth.sig.returnType = none) (hlk : meth.locks = false) (hout : ∀ x ∈ c.exceptionTable.toList, False) : ∀ n : Nat, ∀ {H : Heap} {locs : List Loc} {ls : Array Slot} {l1 : Nat} {l2 : Int32} {K : KS}, va_S A s.heap H locs → HT D cI e0 A ad K M ap o od H → lv_has ls 4 [(1, .ref (ad 7 l1)), (2, .int l2)] → wX6_freeCards_2 post n l1 l2 K → W p l e ({ frames := 3, cells := mc, slots := ms, locals := 81 } : Room) s m args below meth c H locs 0 0 (MQQ below (qK D cI e0 A ad M ap o od rV post) xN args s mc ms A) (F0 m 2 ls []) := by
  intro n
  induction n with
  | zero => intros; exact False.elim (by assumption)
  | succ n ih =>
    intro H locs ls l1 l2 K hS hw hl h
    unfold wX6_freeCards_2 at h
    refine lv_iload_n S.1 S.2.1 dX6_freeCards_2 rfl (lv_at hl 1 rfl) ?_
    refine lv_aload_n S.1 S.2.1 dX6_freeCards_3 rfl (lv_at hl 0 rfl) ?_
    obtain ⟨g1, h⟩ := h
    refine g7_2 S hg hw g1 u561 dX6_freeCards_4 ?_
    refine rL_size S hg hS hw (lv8s g1) u173 hl.1 (Nat.le_of_ble_eq_true rfl) ⟨Nat.le_of_ble_eq_true rfl, Nat.le_of_ble_eq_true rfl⟩ ⟨by omega, by omega⟩ dX6_freeCards_7 (fun H locs hw hS => ?_)
    refine lv_icmp_ge (tgt := 42) S.1 S.2.1 dX6_freeCards_10 (by decide) (fun c2 => ?_) (fun c2 => ?_)
    · have h := h.1 c2
      exact r_vret (y := yX6_freeCards) S hr hlk hS (by omega) (by omega) dX6_freeCards_42 ⟨(), _, rfl, h, hw⟩
    · have h := h.2 c2
      refine lv_aload_n S.1 S.2.1 dX6_freeCards_13 rfl (lv_at hl 0 rfl) ?_
      refine g7_2 S hg hw g1 u561 dX6_freeCards_14 ?_
      refine lv_iload_n S.1 S.2.1 dX6_freeCards_17 rfl (lv_at hl 1 rfl) ?_
      obtain ⟨g3, h⟩ := h
      refine rL_get S hg hS hw (lv8s g1) g3 u177 hl.1 (Nat.le_of_ble_eq_true rfl) ⟨Nat.le_of_ble_eq_true rfl, Nat.le_of_ble_eq_true rfl⟩ ⟨by omega, by omega⟩ dX6_freeCards_18 (fun H locs hw hS => ?_)
      show W p l e _ s m _ below meth c H locs _ _ _ (F0 m 21 ls [.ref (ad 4 ((K 9 (l1 + 4) l2.toNatClampNeg).toNatClampNeg))])
      obtain ⟨g4, h⟩ := h
      refine ck4 S hg hw g4 u191 dX6_freeCards_21 ?_
      refine lv_astore_n (lv' := [(3, .ref (ad 4 ((K 9 (l1 + 4) l2.toNatClampNeg).toNatClampNeg))), (1, .ref (ad 7 l1)), (2, .int l2)]) S.1 S.2.1 dX6_freeCards_24 rfl hl (by decide) rfl (fun ls hl => ?_)
      refine lv_aload_n S.1 S.2.1 dX6_freeCards_25 rfl (lv_at hl 0 rfl) ?_
      refine lv_bipush (v := 45) S.1 S.2.1 dX6_freeCards_26 (by decide) ?_
      refine p4_3 S hg hS hw g4 rfl rfl u388 dX6_freeCards_28 (fun H locs hw hS => ?_)
      refine lv_aload_n S.1 S.2.1 dX6_freeCards_31 rfl (lv_at hl 0 rfl) ?_
      refine lv_iconst (v := (-1)) S.1 S.2.1 dX6_freeCards_32 (by decide) ?_
      refine p4_5 S hg hS hw g4 u391 dX6_freeCards_33 (fun H locs hw hS => ?_)
      refine lv_iinc (v := l2 + 1) (lv' := [(2, .int (l2 + 1)), (3, .ref (ad 4 ((K 9 (l1 + 4) l2.toNatClampNeg).toNatClampNeg))), (1, .ref (ad 7 l1))]) S.1 S.2.1 dX6_freeCards_36 hl (k := 2) rfl rfl (by decide) rfl (fun ls hl => ?_)
      refine lv_goto (tgt := 2) S.1 S.2.1 dX6_freeCards_39 (by decide) ?_
      have hl := lv_sub hl (l' := [(1, .ref (ad 7 l1)), (2, .int (l2 + 1))]) [2, 0] rfl
      exact ih hS hw hl h
def wpX6_freeCards (post : Unit → KS → Prop) (K : KS) (p1 : Nat) : Prop := ∃ n1 : Nat, wX6_freeCards_2 post n1 p1 0 K
theorem hdX6_freeCards : yX6_freeCards.cls ≠ "java/lang/invoke/MethodHandle" ∧ yX6_freeCards.cls ≠ "java/lang/invoke/VarHandle" ∧ (parseMethodDescriptor yX6_freeCards.desc).map (fun d => d.parameters.length) = some 1 := by decide +kernel
set_option maxHeartbeats 4000000 in
set_option maxRecDepth 100000 in
theorem mtX6_freeCards {l : Launch} {D : va_G} {cI : Nat → ClassId} {e0 : Nat} {A : Nat → Prop} {ad : Nat → Nat → Nat} {K M : KS} {ap o : Int64} {od : UInt64} {mc ms : Nat} {p1 : Nat} {post : Unit → KS → Prop} (h : wpX6_freeCards post K p1) : CM l D cI e0 A yX6_freeCards cX6_freeCards 4 none 3 81 mc ms [.ref (ad 0 0), .ref (ad 7 p1)] (HT D cI e0 A ad K M ap o od) (qK D cI e0 A ad M ap o od rV post) xN := by
  refine CM.of (by decide) (Nat.le_of_ble_eq_true rfl) (fun p e s m below meth c ls FX hw hS hl => ?_)
  obtain ⟨S, hg, hr, hlk, hnm, hout⟩ := FX
  have hl : lv_has ls 4 [(0, .ref (ad 0 0)), (1, .ref (ad 7 p1))] := hl
  unfold wpX6_freeCards at h
  refine lv_iconst (v := 0) S.1 S.2.1 dX6_freeCards_0 (by decide) ?_
  refine lv_istore_n (lv' := [(2, .int 0), (0, .ref (ad 0 0)), (1, .ref (ad 7 p1))]) S.1 S.2.1 dX6_freeCards_1 rfl hl (by decide) rfl (fun ls hl => ?_)
  have hl := lv_sub hl (l' := [(1, .ref (ad 7 p1)), (2, .int 0)]) [2, 0] rfl
  obtain ⟨n1, h⟩ := h
  exact bX6_freeCards_2 S hg hr hlk hout n1 hS hw hl h

-- X6.addCoins
theorem dX6_addCoins_0 : decode cX6_addCoins 0 = .ok (.iload_n 1, 1) := by decide +kernel
theorem dX6_addCoins_1 : decode cX6_addCoins 1 = .ok (.ifCond .lt 22, 3) := by decide +kernel
theorem dX6_addCoins_4 : decode cX6_addCoins 4 = .ok (.iload_n 1, 1) := by decide +kernel
theorem dX6_addCoins_5 : decode cX6_addCoins 5 = .ok (.aload_n 0, 1) := by decide +kernel
theorem dX6_addCoins_6 : decode cX6_addCoins 6 = .ok (.getfield 9, 3) := by decide +kernel
theorem dX6_addCoins_9 : decode cX6_addCoins 9 = .ok (.arraylength, 1) := by decide +kernel
theorem dX6_addCoins_10 : decode cX6_addCoins 10 = .ok (.if_icmp .ge 13, 3) := by decide +kernel
theorem dX6_addCoins_13 : decode cX6_addCoins 13 = .ok (.aload_n 0, 1) := by decide +kernel
theorem dX6_addCoins_14 : decode cX6_addCoins 14 = .ok (.getfield 9, 3) := by decide +kernel
theorem dX6_addCoins_17 : decode cX6_addCoins 17 = .ok (.iload_n 1, 1) := by decide +kernel
theorem dX6_addCoins_18 : decode cX6_addCoins 18 = .ok (.dup2, 1) := by decide +kernel
theorem dX6_addCoins_19 : decode cX6_addCoins 19 = .ok (.iaload, 1) := by decide +kernel
theorem dX6_addCoins_20 : decode cX6_addCoins 20 = .ok (.iload_n 2, 1) := by decide +kernel
theorem dX6_addCoins_21 : decode cX6_addCoins 21 = .ok (.iadd, 1) := by decide +kernel
theorem dX6_addCoins_22 : decode cX6_addCoins 22 = .ok (.iastore, 1) := by decide +kernel
theorem dX6_addCoins_23 : decode cX6_addCoins 23 = .ok (.return_, 1) := by decide +kernel
def wpX6_addCoins (post : Unit → KS → Prop) (K : KS) (p1 : Int32) (p2 : Int32) : Prop := ((p1 < 0 → (post () K)) ∧ (¬ p1 < 0 → ((((nI 6) ≤ p1 → (post () K)) ∧ (¬ (nI 6) ≤ p1 → ((vp_in p1 6) ∧ (post () (k3 K 10 0 p1.toNatClampNeg ((K 10 0 p1.toNatClampNeg) + p2)))))))))
theorem hdX6_addCoins : yX6_addCoins.cls ≠ "java/lang/invoke/MethodHandle" ∧ yX6_addCoins.cls ≠ "java/lang/invoke/VarHandle" ∧ (parseMethodDescriptor yX6_addCoins.desc).map (fun d => d.parameters.length) = some 2 := by decide +kernel
set_option maxHeartbeats 4000000 in
set_option maxRecDepth 100000 in
theorem mtX6_addCoins {l : Launch} {D : va_G} {cI : Nat → ClassId} {e0 : Nat} {A : Nat → Prop} {ad : Nat → Nat → Nat} {K M : KS} {ap o : Int64} {od : UInt64} {mc ms : Nat} {p1 : Int32} {p2 : Int32} {post : Unit → KS → Prop} (h : wpX6_addCoins post K p1 p2) : CM l D cI e0 A yX6_addCoins cX6_addCoins 3 none 0 0 mc ms [.ref (ad 0 0), .int p1, .int p2] (HT D cI e0 A ad K M ap o od) (qK D cI e0 A ad M ap o od rV post) xN := by
  refine CM.of (by decide) (Nat.le_of_ble_eq_true rfl) (fun p e s m below meth c ls FX hw hS hl => ?_)
  obtain ⟨S, hg, hr, hlk, hnm, hout⟩ := FX
  have hl : lv_has ls 3 [(0, .ref (ad 0 0)), (1, .int p1), (2, .int p2)] := hl
  unfold wpX6_addCoins at h
  refine lv_iload_n S.1 S.2.1 dX6_addCoins_0 rfl (lv_at hl 1 rfl) ?_
  refine lv_if_lt (tgt := 23) S.1 S.2.1 dX6_addCoins_1 (by decide) (fun c1 => ?_) (fun c1 => ?_)
  · have h := h.1 c1
    exact r_vret (y := yX6_addCoins) S hr hlk hS (by omega) (by omega) dX6_addCoins_23 ⟨(), _, rfl, h, hw⟩
  · have h := h.2 c1
    refine lv_iload_n S.1 S.2.1 dX6_addCoins_4 rfl (lv_at hl 1 rfl) ?_
    refine lv_aload_n S.1 S.2.1 dX6_addCoins_5 rfl (lv_at hl 0 rfl) ?_
    refine g0_0 S hg hw u116 dX6_addCoins_6 ?_
    refine n10 S hg hw (Nat.le_of_ble_eq_true rfl) dX6_addCoins_9 ?_
    refine lv_icmp_ge (tgt := 23) S.1 S.2.1 dX6_addCoins_10 (by decide) (fun c2 => ?_) (fun c2 => ?_)
    · have h := h.1 c2
      exact r_vret (y := yX6_addCoins) S hr hlk hS (by omega) (by omega) dX6_addCoins_23 ⟨(), _, rfl, h, hw⟩
    · have h := h.2 c2
      refine lv_aload_n S.1 S.2.1 dX6_addCoins_13 rfl (lv_at hl 0 rfl) ?_
      refine g0_0 S hg hw u116 dX6_addCoins_14 ?_
      refine lv_iload_n S.1 S.2.1 dX6_addCoins_17 rfl (lv_at hl 1 rfl) ?_
      refine lv_dup2_11 S.1 S.2.1 dX6_addCoins_18 rfl rfl ?_
      obtain ⟨g3, h⟩ := h
      refine a10 S hg hw (Nat.le_of_ble_eq_true rfl) g3 dX6_addCoins_19 ?_
      refine lv_iload_n S.1 S.2.1 dX6_addCoins_20 rfl (lv_at hl 2 rfl) ?_
      refine lv_iadd S.1 S.2.1 dX6_addCoins_21 ?_
      refine s10 S hg hS hw (Nat.le_of_ble_eq_true rfl) g3 dX6_addCoins_22 (fun H locs hw hS => ?_)
      exact r_vret (y := yX6_addCoins) S hr hlk hS (by omega) (by omega) dX6_addCoins_23 ⟨(), _, rfl, h, hw⟩

-- X6.paySeller
theorem dX6_paySeller_0 : decode cX6_paySeller 0 = .ok (.aload_n 1, 1) := by decide +kernel
theorem dX6_paySeller_1 : decode cX6_paySeller 1 = .ok (.getfield 324, 3) := by decide +kernel
theorem dX6_paySeller_4 : decode cX6_paySeller 4 = .ok (.bipush 9, 2) := by decide +kernel
theorem dX6_paySeller_6 : decode cX6_paySeller 6 = .ok (.iadd, 1) := by decide +kernel
theorem dX6_paySeller_7 : decode cX6_paySeller 7 = .ok (.bipush 10, 2) := by decide +kernel
theorem dX6_paySeller_9 : decode cX6_paySeller 9 = .ok (.idiv, 1) := by decide +kernel
theorem dX6_paySeller_10 : decode cX6_paySeller 10 = .ok (.istore_n 2, 1) := by decide +kernel
theorem dX6_paySeller_11 : decode cX6_paySeller 11 = .ok (.aload_n 0, 1) := by decide +kernel
theorem dX6_paySeller_12 : decode cX6_paySeller 12 = .ok (.dup, 1) := by decide +kernel
theorem dX6_paySeller_13 : decode cX6_paySeller 13 = .ok (.getfield 333, 3) := by decide +kernel
theorem dX6_paySeller_16 : decode cX6_paySeller 16 = .ok (.iload_n 2, 1) := by decide +kernel
theorem dX6_paySeller_17 : decode cX6_paySeller 17 = .ok (.iadd, 1) := by decide +kernel
theorem dX6_paySeller_18 : decode cX6_paySeller 18 = .ok (.putfield 333, 3) := by decide +kernel
theorem dX6_paySeller_21 : decode cX6_paySeller 21 = .ok (.aload_n 0, 1) := by decide +kernel
theorem dX6_paySeller_22 : decode cX6_paySeller 22 = .ok (.aload_n 1, 1) := by decide +kernel
theorem dX6_paySeller_23 : decode cX6_paySeller 23 = .ok (.getfield 361, 3) := by decide +kernel
theorem dX6_paySeller_26 : decode cX6_paySeller 26 = .ok (.aload_n 1, 1) := by decide +kernel
theorem dX6_paySeller_27 : decode cX6_paySeller 27 = .ok (.getfield 324, 3) := by decide +kernel
theorem dX6_paySeller_30 : decode cX6_paySeller 30 = .ok (.iload_n 2, 1) := by decide +kernel
theorem dX6_paySeller_31 : decode cX6_paySeller 31 = .ok (.isub, 1) := by decide +kernel
theorem dX6_paySeller_32 : decode cX6_paySeller 32 = .ok (.invokevirtual 364, 3) := by decide +kernel
theorem dX6_paySeller_35 : decode cX6_paySeller 35 = .ok (.return_, 1) := by decide +kernel
def wpX6_paySeller (post : Unit → KS → Prop) (K : KS) (p1 : Nat) : Prop := (p1 < nO K) ∧ ((wpX6_addCoins (fun _ K2 => post () K2) (k3 K 0 3 0 ((K 0 3 0) + (((K 5 1 p1) + 9) / 10))) ((k3 K 0 3 0 ((K 0 3 0) + (((K 5 1 p1) + 9) / 10))) 5 2 p1) (((k3 K 0 3 0 ((K 0 3 0) + (((K 5 1 p1) + 9) / 10))) 5 1 p1) - (((K 5 1 p1) + 9) / 10))))
theorem hdX6_paySeller : yX6_paySeller.cls ≠ "java/lang/invoke/MethodHandle" ∧ yX6_paySeller.cls ≠ "java/lang/invoke/VarHandle" ∧ (parseMethodDescriptor yX6_paySeller.desc).map (fun d => d.parameters.length) = some 1 := by decide +kernel
set_option maxHeartbeats 4000000 in
set_option maxRecDepth 100000 in
theorem mtX6_paySeller {l : Launch} {D : va_G} {cI : Nat → ClassId} {e0 : Nat} {A : Nat → Prop} {ad : Nat → Nat → Nat} {K M : KS} {ap o : Int64} {od : UInt64} {mc ms : Nat} {p1 : Nat} {post : Unit → KS → Prop} (h : wpX6_paySeller post K p1) : CM l D cI e0 A yX6_paySeller cX6_paySeller 3 none 1 22 mc ms [.ref (ad 0 0), .ref (ad 5 p1)] (HT D cI e0 A ad K M ap o od) (qK D cI e0 A ad M ap o od rV post) xN := by
  refine CM.of (by decide) (Nat.le_of_ble_eq_true rfl) (fun p e s m below meth c ls FX hw hS hl => ?_)
  obtain ⟨S, hg, hr, hlk, hnm, hout⟩ := FX
  have hl : lv_has ls 3 [(0, .ref (ad 0 0)), (1, .ref (ad 5 p1))] := hl
  unfold wpX6_paySeller at h
  refine lv_aload_n S.1 S.2.1 dX6_paySeller_0 rfl (lv_at hl 1 rfl) ?_
  obtain ⟨g1, h⟩ := h
  refine g5_1 S hg hw g1 u879 dX6_paySeller_1 ?_
  refine lv_bipush (v := 9) S.1 S.2.1 dX6_paySeller_4 (by decide) ?_
  refine lv_iadd S.1 S.2.1 dX6_paySeller_6 ?_
  refine lv_bipush (v := 10) S.1 S.2.1 dX6_paySeller_7 (by decide) ?_
  refine lv_idiv S.1 S.2.1 dX6_paySeller_9 (by decide) ?_
  refine lv_istore_n (lv' := [(2, .int (((K 5 1 p1) + 9) / 10)), (0, .ref (ad 0 0)), (1, .ref (ad 5 p1))]) S.1 S.2.1 dX6_paySeller_10 rfl hl (by decide) rfl (fun ls hl => ?_)
  refine lv_aload_n S.1 S.2.1 dX6_paySeller_11 rfl (lv_at hl 1 rfl) ?_
  refine lv_dup S.1 S.2.1 dX6_paySeller_12 rfl ?_
  refine g0_3 S hg hw u119 dX6_paySeller_13 ?_
  refine lv_iload_n S.1 S.2.1 dX6_paySeller_16 rfl (lv_at hl 0 rfl) ?_
  refine lv_iadd S.1 S.2.1 dX6_paySeller_17 ?_
  refine p0_3 S hg hS hw u119 dX6_paySeller_18 (fun H locs hw hS => ?_)
  refine lv_aload_n S.1 S.2.1 dX6_paySeller_21 rfl (lv_at hl 1 rfl) ?_
  refine lv_aload_n S.1 S.2.1 dX6_paySeller_22 rfl (lv_at hl 2 rfl) ?_
  refine g5_2 S hg hw g1 u881 dX6_paySeller_23 ?_
  refine lv_aload_n S.1 S.2.1 dX6_paySeller_26 rfl (lv_at hl 2 rfl) ?_
  refine g5_1 S hg hw g1 u879 dX6_paySeller_27 ?_
  refine lv_iload_n S.1 S.2.1 dX6_paySeller_30 rfl (lv_at hl 0 rfl) ?_
  refine lv_isub S.1 S.2.1 dX6_paySeller_31 ?_
  refine r_call (rest := []) S hg hS (mtX6_addCoins (mc := 0) (ms := 0) h) u794 u796 u19 u27 u797 hdX6_addCoins (rv0 hg hw) hw ⟨Nat.le_of_ble_eq_true rfl, Nat.le_of_ble_eq_true rfl⟩ ⟨by show 0 + 0 ≤ mc; omega, by show 0 + 0 ≤ ms; omega⟩ hl.1 (Nat.le_of_ble_eq_true rfl) rfl dX6_paySeller_32 (fun E ce q H1 locs1 hx hS1 hc1 hc2 hc3 => hx.elim) (fun rv H locs hq hS => ?_)
  obtain ⟨_, K2, rfl, h, hw⟩ := hq
  show W p l e _ s m _ below meth c H locs _ _ _ (F0 m 35 ls [])
  show W p l e _ s m _ below meth c H locs 0 0 _ _
  exact r_vret (y := yX6_paySeller) S hr hlk hS (by omega) (by omega) dX6_paySeller_35 ⟨(), _, rfl, h, hw⟩

-- X6.sell
theorem dX6_sell_0 : decode cX6_sell 0 = .ok (.aload_n 0, 1) := by decide +kernel
theorem dX6_sell_1 : decode cX6_sell 1 = .ok (.iload_n 2, 1) := by decide +kernel
theorem dX6_sell_2 : decode cX6_sell 2 = .ok (.aload_n 1, 1) := by decide +kernel
theorem dX6_sell_3 : decode cX6_sell 3 = .ok (.getfield 324, 3) := by decide +kernel
theorem dX6_sell_6 : decode cX6_sell 6 = .ok (.ineg, 1) := by decide +kernel
theorem dX6_sell_7 : decode cX6_sell 7 = .ok (.invokevirtual 364, 3) := by decide +kernel
theorem dX6_sell_10 : decode cX6_sell 10 = .ok (.aload_n 1, 1) := by decide +kernel
theorem dX6_sell_11 : decode cX6_sell 11 = .ok (.bipush 98, 2) := by decide +kernel
theorem dX6_sell_13 : decode cX6_sell 13 = .ok (.putfield 315, 3) := by decide +kernel
theorem dX6_sell_16 : decode cX6_sell 16 = .ok (.aload_n 1, 1) := by decide +kernel
theorem dX6_sell_17 : decode cX6_sell 17 = .ok (.iload_n 2, 1) := by decide +kernel
theorem dX6_sell_18 : decode cX6_sell 18 = .ok (.putfield 367, 3) := by decide +kernel
theorem dX6_sell_21 : decode cX6_sell 21 = .ok (.aload_n 1, 1) := by decide +kernel
theorem dX6_sell_22 : decode cX6_sell 22 = .ok (.getfield 318, 3) := by decide +kernel
theorem dX6_sell_25 : decode cX6_sell 25 = .ok (.iconst 0, 1) := by decide +kernel
theorem dX6_sell_26 : decode cX6_sell 26 = .ok (.putfield 163, 3) := by decide +kernel
theorem dX6_sell_29 : decode cX6_sell 29 = .ok (.aload_n 1, 1) := by decide +kernel
theorem dX6_sell_30 : decode cX6_sell 30 = .ok (.getfield 318, 3) := by decide +kernel
theorem dX6_sell_33 : decode cX6_sell 33 = .ok (.getfield 103, 3) := by decide +kernel
theorem dX6_sell_36 : decode cX6_sell 36 = .ok (.bipush 119, 2) := by decide +kernel
theorem dX6_sell_38 : decode cX6_sell 38 = .ok (.if_icmp .ne 30, 3) := by decide +kernel
theorem dX6_sell_41 : decode cX6_sell 41 = .ok (.aload_n 1, 1) := by decide +kernel
theorem dX6_sell_42 : decode cX6_sell 42 = .ok (.aload_n 1, 1) := by decide +kernel
theorem dX6_sell_43 : decode cX6_sell 43 = .ok (.getfield 318, 3) := by decide +kernel
theorem dX6_sell_46 : decode cX6_sell 46 = .ok (.getfield 174, 3) := by decide +kernel
theorem dX6_sell_49 : decode cX6_sell 49 = .ok (.putfield 370, 3) := by decide +kernel
theorem dX6_sell_52 : decode cX6_sell 52 = .ok (.aload_n 0, 1) := by decide +kernel
theorem dX6_sell_53 : decode cX6_sell 53 = .ok (.dup, 1) := by decide +kernel
theorem dX6_sell_54 : decode cX6_sell 54 = .ok (.getfield 336, 3) := by decide +kernel
theorem dX6_sell_57 : decode cX6_sell 57 = .ok (.aload_n 1, 1) := by decide +kernel
theorem dX6_sell_58 : decode cX6_sell 58 = .ok (.getfield 324, 3) := by decide +kernel
theorem dX6_sell_61 : decode cX6_sell 61 = .ok (.iadd, 1) := by decide +kernel
theorem dX6_sell_62 : decode cX6_sell 62 = .ok (.putfield 336, 3) := by decide +kernel
theorem dX6_sell_65 : decode cX6_sell 65 = .ok (.goto 8, 3) := by decide +kernel
theorem dX6_sell_68 : decode cX6_sell 68 = .ok (.aload_n 0, 1) := by decide +kernel
theorem dX6_sell_69 : decode cX6_sell 69 = .ok (.aload_n 1, 1) := by decide +kernel
theorem dX6_sell_70 : decode cX6_sell 70 = .ok (.invokevirtual 373, 3) := by decide +kernel
theorem dX6_sell_73 : decode cX6_sell 73 = .ok (.aload_n 0, 1) := by decide +kernel
theorem dX6_sell_74 : decode cX6_sell 74 = .ok (.aload_n 1, 1) := by decide +kernel
theorem dX6_sell_75 : decode cX6_sell 75 = .ok (.getfield 318, 3) := by decide +kernel
theorem dX6_sell_78 : decode cX6_sell 78 = .ok (.iload_n 2, 1) := by decide +kernel
theorem dX6_sell_79 : decode cX6_sell 79 = .ok (.invokevirtual 358, 3) := by decide +kernel
theorem dX6_sell_82 : decode cX6_sell 82 = .ok (.aload_n 0, 1) := by decide +kernel
theorem dX6_sell_83 : decode cX6_sell 83 = .ok (.getfield 26, 3) := by decide +kernel
theorem dX6_sell_86 : decode cX6_sell 86 = .ok (.aload_n 1, 1) := by decide +kernel
theorem dX6_sell_87 : decode cX6_sell 87 = .ok (.invokevirtual 82, 3) := by decide +kernel
theorem dX6_sell_90 : decode cX6_sell 90 = .ok (.pop, 1) := by decide +kernel
theorem dX6_sell_91 : decode cX6_sell 91 = .ok (.return_, 1) := by decide +kernel
def wX6_sell_73 (post : Unit → KS → Prop) (mc ms : Nat) (uc us : Nat) (l1 : Nat) (l2 : Int32) (K : KS) : Prop := (l1 < nO K) ∧ ((∃ a9 a10 : Nat, uc + a9 ≤ mc ∧ us + a10 ≤ ms ∧ wpX6_hand (fun _ K11 => (l1 < nO K11) ∧ (∃ a13 a14 : Nat, (uc + a9) + a13 ≤ mc ∧ (us + a10) + a14 ≤ ms ∧ okAdd K11 3 a13 a14 ∧ (post () (lAdd K11 3 l1)))) a9 a10 K ((K 5 0 l1).toNatClampNeg) l2))
set_option maxHeartbeats 4000000 in
set_option maxRecDepth 100000 in
theorem bX6_sell_73 {p : Program} {l : Launch} {e : Env} {s : State} {m : MethodId} {args : Array Value} {below : List Frame} {meth : Method} {c : Code} {D : va_G} {cI : Nat → ClassId} {e0 : Nat} {A : Nat → Prop} {ad : Nat → Nat → Nat} {M : KS} {ap : Int64} {o : Int64} {od : UInt64} {mc ms : Nat} {post : Unit → KS → Prop} (S : CallFix p m c cX6_sell 3 s args WU RX6) (hg : GI D cI e0 A s s.heap) (hr : meth.sig.returnType = none) (hlk : meth.locks = false) (hout : ∀ x ∈ c.exceptionTable.toList, False) {H : Heap} {locs : List Loc} {ls : Array Slot} {uc us : Nat} {l1 : Nat} {l2 : Int32} {K : KS} (hS : va_S A s.heap H locs) (hw : HT D cI e0 A ad K M ap o od H) (hl : lv_has ls 3 [(0, .ref (ad 0 0)), (1, .ref (ad 5 l1)), (2, .int l2)]) (huc : uc ≤ mc) (hus : us ≤ ms) (h : wX6_sell_73 post mc ms uc us l1 l2 K) : W p l e ({ frames := 7, cells := mc, slots := ms, locals := 321 } : Room) s m args below meth c H locs uc us (MQQ below (qK D cI e0 A ad M ap o od rV post) xN args s mc ms A) (F0 m 73 ls []) := by
  unfold wX6_sell_73 at h
  refine lv_aload_n S.1 S.2.1 dX6_sell_73 rfl (lv_at hl 0 rfl) ?_
  refine lv_aload_n S.1 S.2.1 dX6_sell_74 rfl (lv_at hl 1 rfl) ?_
  obtain ⟨g8, h⟩ := h
  refine g5_0 S hg hw g8 u877 dX6_sell_75 ?_
  refine lv_iload_n S.1 S.2.1 dX6_sell_78 rfl (lv_at hl 2 rfl) ?_
  obtain ⟨a9, a10, h1, h2, h⟩ := h
  refine r_call (rest := []) S hg hS (mtX6_hand (mc := a9) (ms := a10) h) u736 u738 u15 u27 u739 hdX6_hand (rv0 hg hw) hw ⟨Nat.le_of_ble_eq_true rfl, Nat.le_of_ble_eq_true rfl⟩ ⟨by show uc + a9 ≤ mc; omega, by show us + a10 ≤ ms; omega⟩ hl.1 (Nat.le_of_ble_eq_true rfl) rfl dX6_sell_79 (fun E ce q H1 locs1 hx hS1 hc1 hc2 hc3 => hx.elim) (fun rv H locs hq hS => ?_)
  obtain ⟨_, K11, rfl, h, hw⟩ := hq
  show W p l e _ s m _ below meth c H locs _ _ _ (F0 m 82 ls [])
  refine lv_aload_n S.1 S.2.1 dX6_sell_82 rfl (lv_at hl 0 rfl) ?_
  refine g0_8 S hg hw u124 dX6_sell_83 ?_
  refine lv_aload_n S.1 S.2.1 dX6_sell_86 rfl (lv_at hl 1 rfl) ?_
  obtain ⟨g12, h⟩ := h
  obtain ⟨a13, a14, h1, h2, g15, h⟩ := h
  refine rL_add (mc := a13) (ms := a14) S hg hS hw (lv8 3) g12 g15 hl.1 (Nat.le_of_ble_eq_true rfl) ⟨Nat.le_of_ble_eq_true rfl, Nat.le_of_ble_eq_true rfl⟩ ⟨by show (uc + a9) + a13 ≤ mc; omega, by show (us + a10) + a14 ≤ ms; omega⟩ u405 dX6_sell_87 (fun H locs hw hS => ?_)
  refine lv_pop S.1 S.2.1 dX6_sell_90 rfl ?_
  exact r_vret (y := yX6_sell) S hr hlk hS (by omega) (by omega) dX6_sell_91 ⟨(), _, rfl, h, hw⟩
def wpX6_sell (post : Unit → KS → Prop) (mc ms : Nat) (K : KS) (p1 : Nat) (p2 : Int32) : Prop := (p1 < nO K) ∧ ((wpX6_addCoins (fun _ K2 => (p1 < nO K2) ∧ ((((k3 (k3 K2 5 4 p1 98) 5 3 p1 p2) 5 0 p1).toNatClampNeg < nC (k3 (k3 K2 5 4 p1 98) 5 3 p1 p2)) ∧ ((((k3 (k3 (k3 K2 5 4 p1 98) 5 3 p1 p2) 4 4 (((k3 (k3 K2 5 4 p1 98) 5 3 p1 p2) 5 0 p1).toNatClampNeg) 0) 5 0 p1).toNatClampNeg < nC (k3 (k3 (k3 K2 5 4 p1 98) 5 3 p1 p2) 4 4 (((k3 (k3 K2 5 4 p1 98) 5 3 p1 p2) 5 0 p1).toNatClampNeg) 0)) ∧ (((¬ ((k3 (k3 (k3 K2 5 4 p1 98) 5 3 p1 p2) 4 4 (((k3 (k3 K2 5 4 p1 98) 5 3 p1 p2) 5 0 p1).toNatClampNeg) 0) 4 3 (((k3 (k3 (k3 K2 5 4 p1 98) 5 3 p1 p2) 4 4 (((k3 (k3 K2 5 4 p1 98) 5 3 p1 p2) 5 0 p1).toNatClampNeg) 0) 5 0 p1).toNatClampNeg)) = 119 → ((wpX6_paySeller (fun _ K7 => wX6_sell_73 post mc ms 0 0 p1 p2 K7) (k3 (k3 (k3 K2 5 4 p1 98) 5 3 p1 p2) 4 4 (((k3 (k3 K2 5 4 p1 98) 5 3 p1 p2) 5 0 p1).toNatClampNeg) 0) p1))) ∧ (((k3 (k3 (k3 K2 5 4 p1 98) 5 3 p1 p2) 4 4 (((k3 (k3 K2 5 4 p1 98) 5 3 p1 p2) 5 0 p1).toNatClampNeg) 0) 4 3 (((k3 (k3 (k3 K2 5 4 p1 98) 5 3 p1 p2) 4 4 (((k3 (k3 K2 5 4 p1 98) 5 3 p1 p2) 5 0 p1).toNatClampNeg) 0) 5 0 p1).toNatClampNeg)) = 119 → (wX6_sell_73 post mc ms 0 0 p1 p2 (k3 (k3 (k3 (k3 (k3 K2 5 4 p1 98) 5 3 p1 p2) 4 4 (((k3 (k3 K2 5 4 p1 98) 5 3 p1 p2) 5 0 p1).toNatClampNeg) 0) 5 5 p1 ((k3 (k3 (k3 K2 5 4 p1 98) 5 3 p1 p2) 4 4 (((k3 (k3 K2 5 4 p1 98) 5 3 p1 p2) 5 0 p1).toNatClampNeg) 0) 4 5 (((k3 (k3 (k3 K2 5 4 p1 98) 5 3 p1 p2) 4 4 (((k3 (k3 K2 5 4 p1 98) 5 3 p1 p2) 5 0 p1).toNatClampNeg) 0) 5 0 p1).toNatClampNeg))) 0 4 0 (((k3 (k3 (k3 (k3 K2 5 4 p1 98) 5 3 p1 p2) 4 4 (((k3 (k3 K2 5 4 p1 98) 5 3 p1 p2) 5 0 p1).toNatClampNeg) 0) 5 5 p1 ((k3 (k3 (k3 K2 5 4 p1 98) 5 3 p1 p2) 4 4 (((k3 (k3 K2 5 4 p1 98) 5 3 p1 p2) 5 0 p1).toNatClampNeg) 0) 4 5 (((k3 (k3 (k3 K2 5 4 p1 98) 5 3 p1 p2) 4 4 (((k3 (k3 K2 5 4 p1 98) 5 3 p1 p2) 5 0 p1).toNatClampNeg) 0) 5 0 p1).toNatClampNeg))) 0 4 0) + ((k3 (k3 (k3 (k3 K2 5 4 p1 98) 5 3 p1 p2) 4 4 (((k3 (k3 K2 5 4 p1 98) 5 3 p1 p2) 5 0 p1).toNatClampNeg) 0) 5 5 p1 ((k3 (k3 (k3 K2 5 4 p1 98) 5 3 p1 p2) 4 4 (((k3 (k3 K2 5 4 p1 98) 5 3 p1 p2) 5 0 p1).toNatClampNeg) 0) 4 5 (((k3 (k3 (k3 K2 5 4 p1 98) 5 3 p1 p2) 4 4 (((k3 (k3 K2 5 4 p1 98) 5 3 p1 p2) 5 0 p1).toNatClampNeg) 0) 5 0 p1).toNatClampNeg))) 5 1 p1)))))))))) K p2 (-(K 5 1 p1))))
theorem hdX6_sell : yX6_sell.cls ≠ "java/lang/invoke/MethodHandle" ∧ yX6_sell.cls ≠ "java/lang/invoke/VarHandle" ∧ (parseMethodDescriptor yX6_sell.desc).map (fun d => d.parameters.length) = some 2 := by decide +kernel
set_option maxHeartbeats 4000000 in
set_option maxRecDepth 100000 in
theorem mtX6_sell {l : Launch} {D : va_G} {cI : Nat → ClassId} {e0 : Nat} {A : Nat → Prop} {ad : Nat → Nat → Nat} {K M : KS} {ap o : Int64} {od : UInt64} {mc ms : Nat} {p1 : Nat} {p2 : Int32} {post : Unit → KS → Prop} (h : wpX6_sell post mc ms K p1 p2) : CM l D cI e0 A yX6_sell cX6_sell 3 none 7 321 mc ms [.ref (ad 0 0), .ref (ad 5 p1), .int p2] (HT D cI e0 A ad K M ap o od) (qK D cI e0 A ad M ap o od rV post) xN := by
  refine CM.of (by decide) (Nat.le_of_ble_eq_true rfl) (fun p e s m below meth c ls FX hw hS hl => ?_)
  obtain ⟨S, hg, hr, hlk, hnm, hout⟩ := FX
  have hl : lv_has ls 3 [(0, .ref (ad 0 0)), (1, .ref (ad 5 p1)), (2, .int p2)] := hl
  unfold wpX6_sell at h
  refine lv_aload_n S.1 S.2.1 dX6_sell_0 rfl (lv_at hl 0 rfl) ?_
  refine lv_iload_n S.1 S.2.1 dX6_sell_1 rfl (lv_at hl 2 rfl) ?_
  refine lv_aload_n S.1 S.2.1 dX6_sell_2 rfl (lv_at hl 1 rfl) ?_
  obtain ⟨g1, h⟩ := h
  refine g5_1 S hg hw g1 u879 dX6_sell_3 ?_
  refine lv_ineg S.1 S.2.1 dX6_sell_6 ?_
  refine r_call (rest := []) S hg hS (mtX6_addCoins (mc := 0) (ms := 0) h) u794 u796 u19 u27 u797 hdX6_addCoins (rv0 hg hw) hw ⟨Nat.le_of_ble_eq_true rfl, Nat.le_of_ble_eq_true rfl⟩ ⟨by show 0 + 0 ≤ mc; omega, by show 0 + 0 ≤ ms; omega⟩ hl.1 (Nat.le_of_ble_eq_true rfl) rfl dX6_sell_7 (fun E ce q H1 locs1 hx hS1 hc1 hc2 hc3 => hx.elim) (fun rv H locs hq hS => ?_)
  obtain ⟨_, K2, rfl, h, hw⟩ := hq
  show W p l e _ s m _ below meth c H locs _ _ _ (F0 m 10 ls [])
  show W p l e _ s m _ below meth c H locs 0 0 _ _
  refine lv_aload_n S.1 S.2.1 dX6_sell_10 rfl (lv_at hl 1 rfl) ?_
  refine lv_bipush (v := 98) S.1 S.2.1 dX6_sell_11 (by decide) ?_
  obtain ⟨g3, h⟩ := h
  refine p5_4 S hg hS hw g3 rfl rfl u885 dX6_sell_13 (fun H locs hw hS => ?_)
  refine lv_aload_n S.1 S.2.1 dX6_sell_16 rfl (lv_at hl 1 rfl) ?_
  refine lv_iload_n S.1 S.2.1 dX6_sell_17 rfl (lv_at hl 2 rfl) ?_
  refine p5_3 S hg hS hw g3 u883 dX6_sell_18 (fun H locs hw hS => ?_)
  refine lv_aload_n S.1 S.2.1 dX6_sell_21 rfl (lv_at hl 1 rfl) ?_
  refine g5_0 S hg hw g3 u877 dX6_sell_22 ?_
  refine lv_iconst (v := 0) S.1 S.2.1 dX6_sell_25 (by decide) ?_
  obtain ⟨g4, h⟩ := h
  refine p4_4 S hg hS hw g4 rfl rfl u389 dX6_sell_26 (fun H locs hw hS => ?_)
  refine lv_aload_n S.1 S.2.1 dX6_sell_29 rfl (lv_at hl 1 rfl) ?_
  refine g5_0 S hg hw g3 u877 dX6_sell_30 ?_
  obtain ⟨g5, h⟩ := h
  refine g4_3 S hg hw g5 u388 dX6_sell_33 ?_
  refine lv_bipush (v := 119) S.1 S.2.1 dX6_sell_36 (by decide) ?_
  refine lv_icmp_ne (tgt := 68) S.1 S.2.1 dX6_sell_38 (by decide) (fun c6 => ?_) (fun c6 => ?_)
  · have h := h.1 c6
    refine lv_aload_n S.1 S.2.1 dX6_sell_68 rfl (lv_at hl 0 rfl) ?_
    refine lv_aload_n S.1 S.2.1 dX6_sell_69 rfl (lv_at hl 1 rfl) ?_
    refine r_call (rest := []) S hg hS (mtX6_paySeller (mc := 0) (ms := 0) h) u790 u792 u18 u27 u793 hdX6_paySeller (rv0 hg hw) hw ⟨Nat.le_of_ble_eq_true rfl, Nat.le_of_ble_eq_true rfl⟩ ⟨by show 0 + 0 ≤ mc; omega, by show 0 + 0 ≤ ms; omega⟩ hl.1 (Nat.le_of_ble_eq_true rfl) rfl dX6_sell_70 (fun E ce q H1 locs1 hx hS1 hc1 hc2 hc3 => hx.elim) (fun rv H locs hq hS => ?_)
    obtain ⟨_, K7, rfl, h, hw⟩ := hq
    show W p l e _ s m _ below meth c H locs _ _ _ (F0 m 73 ls [])
    show W p l e _ s m _ below meth c H locs 0 0 _ _
    have hl := lv_sub hl (l' := [(0, .ref (ad 0 0)), (1, .ref (ad 5 p1)), (2, .int p2)]) [0, 1, 2] rfl
    exact bX6_sell_73 S hg hr hlk hout hS hw hl (by omega) (by omega) h
  · have h := h.2 c6
    refine lv_aload_n S.1 S.2.1 dX6_sell_41 rfl (lv_at hl 1 rfl) ?_
    refine lv_aload_n S.1 S.2.1 dX6_sell_42 rfl (lv_at hl 1 rfl) ?_
    refine g5_0 S hg hw g3 u877 dX6_sell_43 ?_
    refine g4_5 S hg hw g5 u391 dX6_sell_46 ?_
    refine p5_5 S hg hS hw g3 u887 dX6_sell_49 (fun H locs hw hS => ?_)
    refine lv_aload_n S.1 S.2.1 dX6_sell_52 rfl (lv_at hl 0 rfl) ?_
    refine lv_dup S.1 S.2.1 dX6_sell_53 rfl ?_
    refine g0_4 S hg hw u120 dX6_sell_54 ?_
    refine lv_aload_n S.1 S.2.1 dX6_sell_57 rfl (lv_at hl 1 rfl) ?_
    refine g5_1 S hg hw g3 u879 dX6_sell_58 ?_
    refine lv_iadd S.1 S.2.1 dX6_sell_61 ?_
    refine p0_4 S hg hS hw u120 dX6_sell_62 (fun H locs hw hS => ?_)
    refine lv_goto (tgt := 73) S.1 S.2.1 dX6_sell_65 (by decide) ?_
    have hl := lv_sub hl (l' := [(0, .ref (ad 0 0)), (1, .ref (ad 5 p1)), (2, .int p2)]) [0, 1, 2] rfl
    exact bX6_sell_73 S hg hr hlk hout hS hw hl (by omega) (by omega) h

-- X6.payOutSales
theorem dX6_payOutSales_0 : decode cX6_payOutSales 0 = .ok (.iconst 0, 1) := by decide +kernel
theorem dX6_payOutSales_1 : decode cX6_payOutSales 1 = .ok (.istore_n 2, 1) := by decide +kernel
theorem dX6_payOutSales_2 : decode cX6_payOutSales 2 = .ok (.iload_n 2, 1) := by decide +kernel
theorem dX6_payOutSales_3 : decode cX6_payOutSales 3 = .ok (.aload_n 0, 1) := by decide +kernel
theorem dX6_payOutSales_4 : decode cX6_payOutSales 4 = .ok (.getfield 26, 3) := by decide +kernel
theorem dX6_payOutSales_7 : decode cX6_payOutSales 7 = .ok (.invokevirtual 71, 3) := by decide +kernel
theorem dX6_payOutSales_10 : decode cX6_payOutSales 10 = .ok (.if_icmp .ge 52, 3) := by decide +kernel
theorem dX6_payOutSales_13 : decode cX6_payOutSales 13 = .ok (.aload_n 0, 1) := by decide +kernel
theorem dX6_payOutSales_14 : decode cX6_payOutSales 14 = .ok (.getfield 26, 3) := by decide +kernel
theorem dX6_payOutSales_17 : decode cX6_payOutSales 17 = .ok (.iload_n 2, 1) := by decide +kernel
theorem dX6_payOutSales_18 : decode cX6_payOutSales 18 = .ok (.invokevirtual 107, 3) := by decide +kernel
theorem dX6_payOutSales_21 : decode cX6_payOutSales 21 = .ok (.checkcast 307, 3) := by decide +kernel
theorem dX6_payOutSales_24 : decode cX6_payOutSales 24 = .ok (.astore_n 3, 1) := by decide +kernel
theorem dX6_payOutSales_25 : decode cX6_payOutSales 25 = .ok (.aload_n 3, 1) := by decide +kernel
theorem dX6_payOutSales_26 : decode cX6_payOutSales 26 = .ok (.getfield 370, 3) := by decide +kernel
theorem dX6_payOutSales_29 : decode cX6_payOutSales 29 = .ok (.iload_n 1, 1) := by decide +kernel
theorem dX6_payOutSales_30 : decode cX6_payOutSales 30 = .ok (.if_icmp .ne 26, 3) := by decide +kernel
theorem dX6_payOutSales_33 : decode cX6_payOutSales 33 = .ok (.aload_n 3, 1) := by decide +kernel
theorem dX6_payOutSales_34 : decode cX6_payOutSales 34 = .ok (.iconst (-1), 1) := by decide +kernel
theorem dX6_payOutSales_35 : decode cX6_payOutSales 35 = .ok (.putfield 370, 3) := by decide +kernel
theorem dX6_payOutSales_38 : decode cX6_payOutSales 38 = .ok (.aload_n 0, 1) := by decide +kernel
theorem dX6_payOutSales_39 : decode cX6_payOutSales 39 = .ok (.dup, 1) := by decide +kernel
theorem dX6_payOutSales_40 : decode cX6_payOutSales 40 = .ok (.getfield 336, 3) := by decide +kernel
theorem dX6_payOutSales_43 : decode cX6_payOutSales 43 = .ok (.aload_n 3, 1) := by decide +kernel
theorem dX6_payOutSales_44 : decode cX6_payOutSales 44 = .ok (.getfield 324, 3) := by decide +kernel
theorem dX6_payOutSales_47 : decode cX6_payOutSales 47 = .ok (.isub, 1) := by decide +kernel
theorem dX6_payOutSales_48 : decode cX6_payOutSales 48 = .ok (.putfield 336, 3) := by decide +kernel
theorem dX6_payOutSales_51 : decode cX6_payOutSales 51 = .ok (.aload_n 0, 1) := by decide +kernel
theorem dX6_payOutSales_52 : decode cX6_payOutSales 52 = .ok (.aload_n 3, 1) := by decide +kernel
theorem dX6_payOutSales_53 : decode cX6_payOutSales 53 = .ok (.invokevirtual 373, 3) := by decide +kernel
theorem dX6_payOutSales_56 : decode cX6_payOutSales 56 = .ok (.iinc 2 1, 3) := by decide +kernel
theorem dX6_payOutSales_59 : decode cX6_payOutSales 59 = .ok (.goto (-57), 3) := by decide +kernel
theorem dX6_payOutSales_62 : decode cX6_payOutSales 62 = .ok (.return_, 1) := by decide +kernel
def wX6_payOutSales_56 (post : Unit → KS → Prop) (bk2 : Int32 → Int32 → KS → Prop) (l1 : Int32) (l2 : Int32) (K : KS) : Prop := bk2 l1 (l2 + 1) K
set_option maxHeartbeats 4000000 in
set_option maxRecDepth 100000 in
theorem bX6_payOutSales_56 {p : Program} {l : Launch} {e : Env} {s : State} {m : MethodId} {args : Array Value} {below : List Frame} {meth : Method} {c : Code} {D : va_G} {cI : Nat → ClassId} {e0 : Nat} {A : Nat → Prop} {ad : Nat → Nat → Nat} {M : KS} {ap : Int64} {o : Int64} {od : UInt64} {mc ms : Nat} {post : Unit → KS → Prop} {bk2 : Int32 → Int32 → KS → Prop} (S : CallFix p m c cX6_payOutSales 4 s args WU RX6) (hg : GI D cI e0 A s s.heap) (hr : meth.sig.returnType = none) (hlk : meth.locks = false) (hout : ∀ x ∈ c.exceptionTable.toList, False) (hbk2 : ∀ {H : Heap} {locs : List Loc} {ls : Array Slot} {l1 : Int32} {l2 : Int32} {K : KS}, va_S A s.heap H locs → HT D cI e0 A ad K M ap o od H → lv_has ls 4 [(0, .ref (ad 0 0)), (1, .int l1), (2, .int l2)] → bk2 l1 l2 K → W p l e ({ frames := 3, cells := mc, slots := ms, locals := 81 } : Room) s m args below meth c H locs 0 0 (MQQ below (qK D cI e0 A ad M ap o od rV post) xN args s mc ms A) (F0 m 2 ls [])) {H : Heap} {locs : List Loc} {ls : Array Slot} {l1 : Int32} {l2 : Int32} {K : KS} (hS : va_S A s.heap H locs) (hw : HT D cI e0 A ad K M ap o od H) (hl : lv_has ls 4 [(0, .ref (ad 0 0)), (1, .int l1), (2, .int l2)]) (h : wX6_payOutSales_56 post bk2 l1 l2 K) : W p l e ({ frames := 3, cells := mc, slots := ms, locals := 81 } : Room) s m args below meth c H locs 0 0 (MQQ below (qK D cI e0 A ad M ap o od rV post) xN args s mc ms A) (F0 m 56 ls []) := by
  unfold wX6_payOutSales_56 at h
  refine lv_iinc (v := l2 + 1) (lv' := [(2, .int (l2 + 1)), (0, .ref (ad 0 0)), (1, .int l1)]) S.1 S.2.1 dX6_payOutSales_56 hl (k := 2) rfl rfl (by decide) rfl (fun ls hl => ?_)
  refine lv_goto (tgt := 2) S.1 S.2.1 dX6_payOutSales_59 (by decide) ?_
  have hl := lv_sub hl (l' := [(0, .ref (ad 0 0)), (1, .int l1), (2, .int (l2 + 1))]) [1, 2, 0] rfl
  exact hbk2 hS hw hl h
def wX6_payOutSales_2 (post : Unit → KS → Prop) : Nat → Int32 → Int32 → KS → Prop
  | 0 => fun _ _ _ => False
  | n + 1 => fun l1 l2 K => (((K 8 2 3) ≤ l2 → (post () K)) ∧ (¬ (K 8 2 3) ≤ l2 → ((okGet K 3 l2) ∧ (((K 9 3 l2.toNatClampNeg).toNatClampNeg < nO K) ∧ (((¬ (K 5 5 ((K 9 3 l2.toNatClampNeg).toNatClampNeg)) = l1 → (wX6_payOutSales_56 post (wX6_payOutSales_2 post n) l1 l2 K)) ∧ ((K 5 5 ((K 9 3 l2.toNatClampNeg).toNatClampNeg)) = l1 → ((wpX6_paySeller (fun _ K5 => wX6_payOutSales_56 post (wX6_payOutSales_2 post n) l1 l2 K5) (k3 (k3 K 5 5 ((K 9 3 l2.toNatClampNeg).toNatClampNeg) (-1)) 0 4 0 (((k3 K 5 5 ((K 9 3 l2.toNatClampNeg).toNatClampNeg) (-1)) 0 4 0) - ((k3 K 5 5 ((K 9 3 l2.toNatClampNeg).toNatClampNeg) (-1)) 5 1 ((K 9 3 l2.toNatClampNeg).toNatClampNeg)))) ((K 9 3 l2.toNatClampNeg).toNatClampNeg))))))))))
set_option maxHeartbeats 4000000 in
set_option maxRecDepth 100000 in
theorem bX6_payOutSales_2 {p : Program} {l : Launch} {e : Env} {s : State} {m : MethodId} {args : Array Value} {below : List Frame} {meth : Method} {c : Code} {D : va_G} {cI : Nat → ClassId} {e0 : Nat} {A : Nat → Prop} {ad : Nat → Nat → Nat} {M : KS} {ap : Int64} {o : Int64} {od : UInt64} {mc ms : Nat} {post : Unit → KS → Prop} (S : CallFix p m c cX6_payOutSales 4 s args WU RX6) (hg : GI D cI e0 A s s.heap) (hr : meth.sig.returnType = none) (hlk : meth.locks = false) (hout : ∀ x ∈ c.exceptionTable.toList, False) : ∀ n : Nat, ∀ {H : Heap} {locs : List Loc} {ls : Array Slot} {l1 : Int32} {l2 : Int32} {K : KS}, va_S A s.heap H locs → HT D cI e0 A ad K M ap o od H → lv_has ls 4 [(0, .ref (ad 0 0)), (1, .int l1), (2, .int l2)] → wX6_payOutSales_2 post n l1 l2 K → W p l e ({ frames := 3, cells := mc, slots := ms, locals := 81 } : Room) s m args below meth c H locs 0 0 (MQQ below (qK D cI e0 A ad M ap o od rV post) xN args s mc ms A) (F0 m 2 ls []) := by
  intro n
  induction n with
  | zero => intros; exact False.elim (by assumption)
  | succ n ih =>
    intro H locs ls l1 l2 K hS hw hl h
    unfold wX6_payOutSales_2 at h
    refine lv_iload_n S.1 S.2.1 dX6_payOutSales_2 rfl (lv_at hl 2 rfl) ?_
    refine lv_aload_n S.1 S.2.1 dX6_payOutSales_3 rfl (lv_at hl 0 rfl) ?_
    refine g0_8 S hg hw u124 dX6_payOutSales_4 ?_
    refine rL_size S hg hS hw (lv8 3) u173 hl.1 (Nat.le_of_ble_eq_true rfl) ⟨Nat.le_of_ble_eq_true rfl, Nat.le_of_ble_eq_true rfl⟩ ⟨by omega, by omega⟩ dX6_payOutSales_7 (fun H locs hw hS => ?_)
    refine lv_icmp_ge (tgt := 62) S.1 S.2.1 dX6_payOutSales_10 (by decide) (fun c1 => ?_) (fun c1 => ?_)
    · have h := h.1 c1
      exact r_vret (y := yX6_payOutSales) S hr hlk hS (by omega) (by omega) dX6_payOutSales_62 ⟨(), _, rfl, h, hw⟩
    · have h := h.2 c1
      refine lv_aload_n S.1 S.2.1 dX6_payOutSales_13 rfl (lv_at hl 0 rfl) ?_
      refine g0_8 S hg hw u124 dX6_payOutSales_14 ?_
      refine lv_iload_n S.1 S.2.1 dX6_payOutSales_17 rfl (lv_at hl 2 rfl) ?_
      obtain ⟨g2, h⟩ := h
      refine rL_get S hg hS hw (lv8 3) g2 u177 hl.1 (Nat.le_of_ble_eq_true rfl) ⟨Nat.le_of_ble_eq_true rfl, Nat.le_of_ble_eq_true rfl⟩ ⟨by omega, by omega⟩ dX6_payOutSales_18 (fun H locs hw hS => ?_)
      show W p l e _ s m _ below meth c H locs _ _ _ (F0 m 21 ls [.ref (ad 5 ((K 9 3 l2.toNatClampNeg).toNatClampNeg))])
      obtain ⟨g3, h⟩ := h
      refine ck5 S hg hw g3 u789 dX6_payOutSales_21 ?_
      refine lv_astore_n (lv' := [(3, .ref (ad 5 ((K 9 3 l2.toNatClampNeg).toNatClampNeg))), (0, .ref (ad 0 0)), (1, .int l1), (2, .int l2)]) S.1 S.2.1 dX6_payOutSales_24 rfl hl (by decide) rfl (fun ls hl => ?_)
      refine lv_aload_n S.1 S.2.1 dX6_payOutSales_25 rfl (lv_at hl 0 rfl) ?_
      refine g5_5 S hg hw g3 u887 dX6_payOutSales_26 ?_
      refine lv_iload_n S.1 S.2.1 dX6_payOutSales_29 rfl (lv_at hl 2 rfl) ?_
      refine lv_icmp_ne (tgt := 56) S.1 S.2.1 dX6_payOutSales_30 (by decide) (fun c4 => ?_) (fun c4 => ?_)
      · have h := h.1 c4
        have hl := lv_sub hl (l' := [(0, .ref (ad 0 0)), (1, .int l1), (2, .int l2)]) [1, 2, 3] rfl
        exact bX6_payOutSales_56 S hg hr hlk hout ih hS hw hl h
      · have h := h.2 c4
        refine lv_aload_n S.1 S.2.1 dX6_payOutSales_33 rfl (lv_at hl 0 rfl) ?_
        refine lv_iconst (v := (-1)) S.1 S.2.1 dX6_payOutSales_34 (by decide) ?_
        refine p5_5 S hg hS hw g3 u887 dX6_payOutSales_35 (fun H locs hw hS => ?_)
        refine lv_aload_n S.1 S.2.1 dX6_payOutSales_38 rfl (lv_at hl 1 rfl) ?_
        refine lv_dup S.1 S.2.1 dX6_payOutSales_39 rfl ?_
        refine g0_4 S hg hw u120 dX6_payOutSales_40 ?_
        refine lv_aload_n S.1 S.2.1 dX6_payOutSales_43 rfl (lv_at hl 0 rfl) ?_
        refine g5_1 S hg hw g3 u879 dX6_payOutSales_44 ?_
        refine lv_isub S.1 S.2.1 dX6_payOutSales_47 ?_
        refine p0_4 S hg hS hw u120 dX6_payOutSales_48 (fun H locs hw hS => ?_)
        refine lv_aload_n S.1 S.2.1 dX6_payOutSales_51 rfl (lv_at hl 1 rfl) ?_
        refine lv_aload_n S.1 S.2.1 dX6_payOutSales_52 rfl (lv_at hl 0 rfl) ?_
        refine r_call (rest := []) S hg hS (mtX6_paySeller (mc := 0) (ms := 0) h) u790 u792 u18 u27 u793 hdX6_paySeller (rv0 hg hw) hw ⟨Nat.le_of_ble_eq_true rfl, Nat.le_of_ble_eq_true rfl⟩ ⟨by show 0 + 0 ≤ mc; omega, by show 0 + 0 ≤ ms; omega⟩ hl.1 (Nat.le_of_ble_eq_true rfl) rfl dX6_payOutSales_53 (fun E ce q H1 locs1 hx hS1 hc1 hc2 hc3 => hx.elim) (fun rv H locs hq hS => ?_)
        obtain ⟨_, K5, rfl, h, hw⟩ := hq
        show W p l e _ s m _ below meth c H locs _ _ _ (F0 m 56 ls [])
        show W p l e _ s m _ below meth c H locs 0 0 _ _
        have hl := lv_sub hl (l' := [(0, .ref (ad 0 0)), (1, .int l1), (2, .int l2)]) [1, 2, 3] rfl
        exact bX6_payOutSales_56 S hg hr hlk hout ih hS hw hl h
def wpX6_payOutSales (post : Unit → KS → Prop) (K : KS) (p1 : Int32) : Prop := ∃ n1 : Nat, wX6_payOutSales_2 post n1 p1 0 K
theorem hdX6_payOutSales : yX6_payOutSales.cls ≠ "java/lang/invoke/MethodHandle" ∧ yX6_payOutSales.cls ≠ "java/lang/invoke/VarHandle" ∧ (parseMethodDescriptor yX6_payOutSales.desc).map (fun d => d.parameters.length) = some 1 := by decide +kernel
set_option maxHeartbeats 4000000 in
set_option maxRecDepth 100000 in
theorem mtX6_payOutSales {l : Launch} {D : va_G} {cI : Nat → ClassId} {e0 : Nat} {A : Nat → Prop} {ad : Nat → Nat → Nat} {K M : KS} {ap o : Int64} {od : UInt64} {mc ms : Nat} {p1 : Int32} {post : Unit → KS → Prop} (h : wpX6_payOutSales post K p1) : CM l D cI e0 A yX6_payOutSales cX6_payOutSales 4 none 3 81 mc ms [.ref (ad 0 0), .int p1] (HT D cI e0 A ad K M ap o od) (qK D cI e0 A ad M ap o od rV post) xN := by
  refine CM.of (by decide) (Nat.le_of_ble_eq_true rfl) (fun p e s m below meth c ls FX hw hS hl => ?_)
  obtain ⟨S, hg, hr, hlk, hnm, hout⟩ := FX
  have hl : lv_has ls 4 [(0, .ref (ad 0 0)), (1, .int p1)] := hl
  unfold wpX6_payOutSales at h
  refine lv_iconst (v := 0) S.1 S.2.1 dX6_payOutSales_0 (by decide) ?_
  refine lv_istore_n (lv' := [(2, .int 0), (0, .ref (ad 0 0)), (1, .int p1)]) S.1 S.2.1 dX6_payOutSales_1 rfl hl (by decide) rfl (fun ls hl => ?_)
  have hl := lv_sub hl (l' := [(0, .ref (ad 0 0)), (1, .int p1), (2, .int 0)]) [1, 2, 0] rfl
  obtain ⟨n1, h⟩ := h
  exact bX6_payOutSales_2 S hg hr hlk hout n1 hS hw hl h

-- X6.undoSales
theorem dX6_undoSales_0 : decode cX6_undoSales 0 = .ok (.iconst 0, 1) := by decide +kernel
theorem dX6_undoSales_1 : decode cX6_undoSales 1 = .ok (.istore_n 2, 1) := by decide +kernel
theorem dX6_undoSales_2 : decode cX6_undoSales 2 = .ok (.aload_n 0, 1) := by decide +kernel
theorem dX6_undoSales_3 : decode cX6_undoSales 3 = .ok (.getfield 26, 3) := by decide +kernel
theorem dX6_undoSales_6 : decode cX6_undoSales 6 = .ok (.invokevirtual 71, 3) := by decide +kernel
theorem dX6_undoSales_9 : decode cX6_undoSales 9 = .ok (.iconst 1, 1) := by decide +kernel
theorem dX6_undoSales_10 : decode cX6_undoSales 10 = .ok (.isub, 1) := by decide +kernel
theorem dX6_undoSales_11 : decode cX6_undoSales 11 = .ok (.istore_n 3, 1) := by decide +kernel
theorem dX6_undoSales_12 : decode cX6_undoSales 12 = .ok (.iload_n 3, 1) := by decide +kernel
theorem dX6_undoSales_13 : decode cX6_undoSales 13 = .ok (.ifCond .lt 89, 3) := by decide +kernel
theorem dX6_undoSales_16 : decode cX6_undoSales 16 = .ok (.aload_n 0, 1) := by decide +kernel
theorem dX6_undoSales_17 : decode cX6_undoSales 17 = .ok (.getfield 26, 3) := by decide +kernel
theorem dX6_undoSales_20 : decode cX6_undoSales 20 = .ok (.iload_n 3, 1) := by decide +kernel
theorem dX6_undoSales_21 : decode cX6_undoSales 21 = .ok (.invokevirtual 107, 3) := by decide +kernel
theorem dX6_undoSales_24 : decode cX6_undoSales 24 = .ok (.checkcast 307, 3) := by decide +kernel
theorem dX6_undoSales_27 : decode cX6_undoSales 27 = .ok (.astore 4, 2) := by decide +kernel
theorem dX6_undoSales_29 : decode cX6_undoSales 29 = .ok (.aload 4, 2) := by decide +kernel
theorem dX6_undoSales_31 : decode cX6_undoSales 31 = .ok (.getfield 370, 3) := by decide +kernel
theorem dX6_undoSales_34 : decode cX6_undoSales 34 = .ok (.iload_n 1, 1) := by decide +kernel
theorem dX6_undoSales_35 : decode cX6_undoSales 35 = .ok (.if_icmp .ne 61, 3) := by decide +kernel
theorem dX6_undoSales_38 : decode cX6_undoSales 38 = .ok (.aload 4, 2) := by decide +kernel
theorem dX6_undoSales_40 : decode cX6_undoSales 40 = .ok (.iconst (-1), 1) := by decide +kernel
theorem dX6_undoSales_41 : decode cX6_undoSales 41 = .ok (.putfield 370, 3) := by decide +kernel
theorem dX6_undoSales_44 : decode cX6_undoSales 44 = .ok (.aload 4, 2) := by decide +kernel
theorem dX6_undoSales_46 : decode cX6_undoSales 46 = .ok (.bipush 103, 2) := by decide +kernel
theorem dX6_undoSales_48 : decode cX6_undoSales 48 = .ok (.putfield 315, 3) := by decide +kernel
theorem dX6_undoSales_51 : decode cX6_undoSales 51 = .ok (.aload_n 0, 1) := by decide +kernel
theorem dX6_undoSales_52 : decode cX6_undoSales 52 = .ok (.dup, 1) := by decide +kernel
theorem dX6_undoSales_53 : decode cX6_undoSales 53 = .ok (.getfield 336, 3) := by decide +kernel
theorem dX6_undoSales_56 : decode cX6_undoSales 56 = .ok (.aload 4, 2) := by decide +kernel
theorem dX6_undoSales_58 : decode cX6_undoSales 58 = .ok (.getfield 324, 3) := by decide +kernel
theorem dX6_undoSales_61 : decode cX6_undoSales 61 = .ok (.isub, 1) := by decide +kernel
theorem dX6_undoSales_62 : decode cX6_undoSales 62 = .ok (.putfield 336, 3) := by decide +kernel
theorem dX6_undoSales_65 : decode cX6_undoSales 65 = .ok (.aload_n 0, 1) := by decide +kernel
theorem dX6_undoSales_66 : decode cX6_undoSales 66 = .ok (.aload 4, 2) := by decide +kernel
theorem dX6_undoSales_68 : decode cX6_undoSales 68 = .ok (.getfield 367, 3) := by decide +kernel
theorem dX6_undoSales_71 : decode cX6_undoSales 71 = .ok (.aload 4, 2) := by decide +kernel
theorem dX6_undoSales_73 : decode cX6_undoSales 73 = .ok (.getfield 324, 3) := by decide +kernel
theorem dX6_undoSales_76 : decode cX6_undoSales 76 = .ok (.invokevirtual 364, 3) := by decide +kernel
theorem dX6_undoSales_79 : decode cX6_undoSales 79 = .ok (.aload_n 0, 1) := by decide +kernel
theorem dX6_undoSales_80 : decode cX6_undoSales 80 = .ok (.aload 4, 2) := by decide +kernel
theorem dX6_undoSales_82 : decode cX6_undoSales 82 = .ok (.getfield 318, 3) := by decide +kernel
theorem dX6_undoSales_85 : decode cX6_undoSales 85 = .ok (.aload 4, 2) := by decide +kernel
theorem dX6_undoSales_87 : decode cX6_undoSales 87 = .ok (.getfield 361, 3) := by decide +kernel
theorem dX6_undoSales_90 : decode cX6_undoSales 90 = .ok (.invokevirtual 358, 3) := by decide +kernel
theorem dX6_undoSales_93 : decode cX6_undoSales 93 = .ok (.iinc 2 1, 3) := by decide +kernel
theorem dX6_undoSales_96 : decode cX6_undoSales 96 = .ok (.iinc 3 (-1), 3) := by decide +kernel
theorem dX6_undoSales_99 : decode cX6_undoSales 99 = .ok (.goto (-87), 3) := by decide +kernel
theorem dX6_undoSales_102 : decode cX6_undoSales 102 = .ok (.iload_n 2, 1) := by decide +kernel
theorem dX6_undoSales_103 : decode cX6_undoSales 103 = .ok (.ireturn, 1) := by decide +kernel
def wX6_undoSales_96 (post : Int32 → KS → Prop) (mc ms : Nat) (bk12 : Nat → Nat → Int32 → Int32 → Int32 → KS → Prop) (uc us : Nat) (l1 : Int32) (l2 : Int32) (l3 : Int32) (K : KS) : Prop := bk12 uc us l1 l2 (l3 + (-1)) K
set_option maxHeartbeats 4000000 in
set_option maxRecDepth 100000 in
theorem bX6_undoSales_96 {p : Program} {l : Launch} {e : Env} {s : State} {m : MethodId} {args : Array Value} {below : List Frame} {meth : Method} {c : Code} {D : va_G} {cI : Nat → ClassId} {e0 : Nat} {A : Nat → Prop} {ad : Nat → Nat → Nat} {M : KS} {ap : Int64} {o : Int64} {od : UInt64} {mc ms : Nat} {post : Int32 → KS → Prop} {bk12 : Nat → Nat → Int32 → Int32 → Int32 → KS → Prop} (S : CallFix p m c cX6_undoSales 5 s args WU RX6) (hg : GI D cI e0 A s s.heap) (hr : meth.sig.returnType = (some FieldType.int)) (hlk : meth.locks = false) (hout : ∀ x ∈ c.exceptionTable.toList, False) (hbk12 : ∀ {H : Heap} {locs : List Loc} {ls : Array Slot} {uc us : Nat} {l1 : Int32} {l2 : Int32} {l3 : Int32} {K : KS}, va_S A s.heap H locs → HT D cI e0 A ad K M ap o od H → lv_has ls 5 [(0, .ref (ad 0 0)), (1, .int l1), (2, .int l2), (3, .int l3)] → uc ≤ mc → us ≤ ms → bk12 uc us l1 l2 l3 K → W p l e ({ frames := 4, cells := mc, slots := ms, locals := 127 } : Room) s m args below meth c H locs uc us (MQQ below (qK D cI e0 A ad M ap o od rI post) xN args s mc ms A) (F0 m 12 ls [])) {H : Heap} {locs : List Loc} {ls : Array Slot} {uc us : Nat} {l1 : Int32} {l2 : Int32} {l3 : Int32} {K : KS} (hS : va_S A s.heap H locs) (hw : HT D cI e0 A ad K M ap o od H) (hl : lv_has ls 5 [(0, .ref (ad 0 0)), (1, .int l1), (2, .int l2), (3, .int l3)]) (huc : uc ≤ mc) (hus : us ≤ ms) (h : wX6_undoSales_96 post mc ms bk12 uc us l1 l2 l3 K) : W p l e ({ frames := 4, cells := mc, slots := ms, locals := 127 } : Room) s m args below meth c H locs uc us (MQQ below (qK D cI e0 A ad M ap o od rI post) xN args s mc ms A) (F0 m 96 ls []) := by
  unfold wX6_undoSales_96 at h
  refine lv_iinc (v := l3 + (-1)) (lv' := [(3, .int (l3 + (-1))), (0, .ref (ad 0 0)), (1, .int l1), (2, .int l2)]) S.1 S.2.1 dX6_undoSales_96 hl (k := 3) rfl rfl (by decide) rfl (fun ls hl => ?_)
  refine lv_goto (tgt := 12) S.1 S.2.1 dX6_undoSales_99 (by decide) ?_
  have hl := lv_sub hl (l' := [(0, .ref (ad 0 0)), (1, .int l1), (2, .int l2), (3, .int (l3 + (-1)))]) [1, 2, 3, 0] rfl
  exact hbk12 hS hw hl (by omega) (by omega) h
def wX6_undoSales_12 (post : Int32 → KS → Prop) (mc ms : Nat) : Nat → Nat → Nat → Int32 → Int32 → Int32 → KS → Prop
  | 0 => fun _ _ _ _ _ _ => False
  | n + 1 => fun uc us l1 l2 l3 K => ((l3 < 0 → (post l2 K)) ∧ (¬ l3 < 0 → ((okGet K 3 l3) ∧ (((K 9 3 l3.toNatClampNeg).toNatClampNeg < nO K) ∧ (((¬ (K 5 5 ((K 9 3 l3.toNatClampNeg).toNatClampNeg)) = l1 → (wX6_undoSales_96 post mc ms (wX6_undoSales_12 post mc ms n) uc us l1 l2 l3 K)) ∧ ((K 5 5 ((K 9 3 l3.toNatClampNeg).toNatClampNeg)) = l1 → ((wpX6_addCoins (fun _ K5 => ((K 9 3 l3.toNatClampNeg).toNatClampNeg < nO K5) ∧ ((∃ a7 a8 : Nat, uc + a7 ≤ mc ∧ us + a8 ≤ ms ∧ wpX6_hand (fun _ K9 => wX6_undoSales_96 post mc ms (wX6_undoSales_12 post mc ms n) (uc + a7) (us + a8) l1 (l2 + 1) l3 K9) a7 a8 K5 ((K5 5 0 ((K 9 3 l3.toNatClampNeg).toNatClampNeg)).toNatClampNeg) (K5 5 2 ((K 9 3 l3.toNatClampNeg).toNatClampNeg))))) (k3 (k3 (k3 K 5 5 ((K 9 3 l3.toNatClampNeg).toNatClampNeg) (-1)) 5 4 ((K 9 3 l3.toNatClampNeg).toNatClampNeg) 103) 0 4 0 (((k3 (k3 K 5 5 ((K 9 3 l3.toNatClampNeg).toNatClampNeg) (-1)) 5 4 ((K 9 3 l3.toNatClampNeg).toNatClampNeg) 103) 0 4 0) - ((k3 (k3 K 5 5 ((K 9 3 l3.toNatClampNeg).toNatClampNeg) (-1)) 5 4 ((K 9 3 l3.toNatClampNeg).toNatClampNeg) 103) 5 1 ((K 9 3 l3.toNatClampNeg).toNatClampNeg)))) ((k3 (k3 (k3 K 5 5 ((K 9 3 l3.toNatClampNeg).toNatClampNeg) (-1)) 5 4 ((K 9 3 l3.toNatClampNeg).toNatClampNeg) 103) 0 4 0 (((k3 (k3 K 5 5 ((K 9 3 l3.toNatClampNeg).toNatClampNeg) (-1)) 5 4 ((K 9 3 l3.toNatClampNeg).toNatClampNeg) 103) 0 4 0) - ((k3 (k3 K 5 5 ((K 9 3 l3.toNatClampNeg).toNatClampNeg) (-1)) 5 4 ((K 9 3 l3.toNatClampNeg).toNatClampNeg) 103) 5 1 ((K 9 3 l3.toNatClampNeg).toNatClampNeg)))) 5 3 ((K 9 3 l3.toNatClampNeg).toNatClampNeg)) ((k3 (k3 (k3 K 5 5 ((K 9 3 l3.toNatClampNeg).toNatClampNeg) (-1)) 5 4 ((K 9 3 l3.toNatClampNeg).toNatClampNeg) 103) 0 4 0 (((k3 (k3 K 5 5 ((K 9 3 l3.toNatClampNeg).toNatClampNeg) (-1)) 5 4 ((K 9 3 l3.toNatClampNeg).toNatClampNeg) 103) 0 4 0) - ((k3 (k3 K 5 5 ((K 9 3 l3.toNatClampNeg).toNatClampNeg) (-1)) 5 4 ((K 9 3 l3.toNatClampNeg).toNatClampNeg) 103) 5 1 ((K 9 3 l3.toNatClampNeg).toNatClampNeg)))) 5 1 ((K 9 3 l3.toNatClampNeg).toNatClampNeg)))))))))))
set_option maxHeartbeats 4000000 in
set_option maxRecDepth 100000 in
theorem bX6_undoSales_12 {p : Program} {l : Launch} {e : Env} {s : State} {m : MethodId} {args : Array Value} {below : List Frame} {meth : Method} {c : Code} {D : va_G} {cI : Nat → ClassId} {e0 : Nat} {A : Nat → Prop} {ad : Nat → Nat → Nat} {M : KS} {ap : Int64} {o : Int64} {od : UInt64} {mc ms : Nat} {post : Int32 → KS → Prop} (S : CallFix p m c cX6_undoSales 5 s args WU RX6) (hg : GI D cI e0 A s s.heap) (hr : meth.sig.returnType = (some FieldType.int)) (hlk : meth.locks = false) (hout : ∀ x ∈ c.exceptionTable.toList, False) : ∀ n : Nat, ∀ {H : Heap} {locs : List Loc} {ls : Array Slot} {uc us : Nat} {l1 : Int32} {l2 : Int32} {l3 : Int32} {K : KS}, va_S A s.heap H locs → HT D cI e0 A ad K M ap o od H → lv_has ls 5 [(0, .ref (ad 0 0)), (1, .int l1), (2, .int l2), (3, .int l3)] → uc ≤ mc → us ≤ ms → wX6_undoSales_12 post mc ms n uc us l1 l2 l3 K → W p l e ({ frames := 4, cells := mc, slots := ms, locals := 127 } : Room) s m args below meth c H locs uc us (MQQ below (qK D cI e0 A ad M ap o od rI post) xN args s mc ms A) (F0 m 12 ls []) := by
  intro n
  induction n with
  | zero => intros; exact False.elim (by assumption)
  | succ n ih =>
    intro H locs ls uc us l1 l2 l3 K hS hw hl huc hus h
    unfold wX6_undoSales_12 at h
    refine lv_iload_n S.1 S.2.1 dX6_undoSales_12 rfl (lv_at hl 3 rfl) ?_
    refine lv_if_lt (tgt := 102) S.1 S.2.1 dX6_undoSales_13 (by decide) (fun c1 => ?_) (fun c1 => ?_)
    · have h := h.1 c1
      refine lv_iload_n S.1 S.2.1 dX6_undoSales_102 rfl (lv_at hl 2 rfl) ?_
      exact r_iret (y := yX6_undoSales) S hr rfl hlk hS (by omega) (by omega) dX6_undoSales_103 ⟨l2, _, rfl, h, hw⟩
    · have h := h.2 c1
      refine lv_aload_n S.1 S.2.1 dX6_undoSales_16 rfl (lv_at hl 0 rfl) ?_
      refine g0_8 S hg hw u124 dX6_undoSales_17 ?_
      refine lv_iload_n S.1 S.2.1 dX6_undoSales_20 rfl (lv_at hl 3 rfl) ?_
      obtain ⟨g2, h⟩ := h
      refine rL_get S hg hS hw (lv8 3) g2 u177 hl.1 (Nat.le_of_ble_eq_true rfl) ⟨Nat.le_of_ble_eq_true rfl, Nat.le_of_ble_eq_true rfl⟩ ⟨by omega, by omega⟩ dX6_undoSales_21 (fun H locs hw hS => ?_)
      show W p l e _ s m _ below meth c H locs _ _ _ (F0 m 24 ls [.ref (ad 5 ((K 9 3 l3.toNatClampNeg).toNatClampNeg))])
      obtain ⟨g3, h⟩ := h
      refine ck5 S hg hw g3 u789 dX6_undoSales_24 ?_
      refine lv_astore (lv' := [(4, .ref (ad 5 ((K 9 3 l3.toNatClampNeg).toNatClampNeg))), (0, .ref (ad 0 0)), (1, .int l1), (2, .int l2), (3, .int l3)]) S.1 S.2.1 dX6_undoSales_27 hl (by decide) rfl (fun ls hl => ?_)
      refine lv_aload S.1 S.2.1 dX6_undoSales_29 (lv_at hl 0 rfl) ?_
      refine g5_5 S hg hw g3 u887 dX6_undoSales_31 ?_
      refine lv_iload_n S.1 S.2.1 dX6_undoSales_34 rfl (lv_at hl 2 rfl) ?_
      refine lv_icmp_ne (tgt := 96) S.1 S.2.1 dX6_undoSales_35 (by decide) (fun c4 => ?_) (fun c4 => ?_)
      · have h := h.1 c4
        have hl := lv_sub hl (l' := [(0, .ref (ad 0 0)), (1, .int l1), (2, .int l2), (3, .int l3)]) [1, 2, 3, 4] rfl
        exact bX6_undoSales_96 S hg hr hlk hout ih hS hw hl (by omega) (by omega) h
      · have h := h.2 c4
        refine lv_aload S.1 S.2.1 dX6_undoSales_38 (lv_at hl 0 rfl) ?_
        refine lv_iconst (v := (-1)) S.1 S.2.1 dX6_undoSales_40 (by decide) ?_
        refine p5_5 S hg hS hw g3 u887 dX6_undoSales_41 (fun H locs hw hS => ?_)
        refine lv_aload S.1 S.2.1 dX6_undoSales_44 (lv_at hl 0 rfl) ?_
        refine lv_bipush (v := 103) S.1 S.2.1 dX6_undoSales_46 (by decide) ?_
        refine p5_4 S hg hS hw g3 rfl rfl u885 dX6_undoSales_48 (fun H locs hw hS => ?_)
        refine lv_aload_n S.1 S.2.1 dX6_undoSales_51 rfl (lv_at hl 1 rfl) ?_
        refine lv_dup S.1 S.2.1 dX6_undoSales_52 rfl ?_
        refine g0_4 S hg hw u120 dX6_undoSales_53 ?_
        refine lv_aload S.1 S.2.1 dX6_undoSales_56 (lv_at hl 0 rfl) ?_
        refine g5_1 S hg hw g3 u879 dX6_undoSales_58 ?_
        refine lv_isub S.1 S.2.1 dX6_undoSales_61 ?_
        refine p0_4 S hg hS hw u120 dX6_undoSales_62 (fun H locs hw hS => ?_)
        refine lv_aload_n S.1 S.2.1 dX6_undoSales_65 rfl (lv_at hl 1 rfl) ?_
        refine lv_aload S.1 S.2.1 dX6_undoSales_66 (lv_at hl 0 rfl) ?_
        refine g5_3 S hg hw g3 u883 dX6_undoSales_68 ?_
        refine lv_aload S.1 S.2.1 dX6_undoSales_71 (lv_at hl 0 rfl) ?_
        refine g5_1 S hg hw g3 u879 dX6_undoSales_73 ?_
        refine r_call (rest := []) S hg hS (mtX6_addCoins (mc := 0) (ms := 0) h) u794 u796 u19 u27 u797 hdX6_addCoins (rv0 hg hw) hw ⟨Nat.le_of_ble_eq_true rfl, Nat.le_of_ble_eq_true rfl⟩ ⟨by show uc + 0 ≤ mc; omega, by show us + 0 ≤ ms; omega⟩ hl.1 (Nat.le_of_ble_eq_true rfl) rfl dX6_undoSales_76 (fun E ce q H1 locs1 hx hS1 hc1 hc2 hc3 => hx.elim) (fun rv H locs hq hS => ?_)
        obtain ⟨_, K5, rfl, h, hw⟩ := hq
        show W p l e _ s m _ below meth c H locs _ _ _ (F0 m 79 ls [])
        show W p l e _ s m _ below meth c H locs uc us _ _
        refine lv_aload_n S.1 S.2.1 dX6_undoSales_79 rfl (lv_at hl 1 rfl) ?_
        refine lv_aload S.1 S.2.1 dX6_undoSales_80 (lv_at hl 0 rfl) ?_
        obtain ⟨g6, h⟩ := h
        refine g5_0 S hg hw g6 u877 dX6_undoSales_82 ?_
        refine lv_aload S.1 S.2.1 dX6_undoSales_85 (lv_at hl 0 rfl) ?_
        refine g5_2 S hg hw g6 u881 dX6_undoSales_87 ?_
        obtain ⟨a7, a8, h1, h2, h⟩ := h
        refine r_call (rest := []) S hg hS (mtX6_hand (mc := a7) (ms := a8) h) u736 u738 u15 u27 u739 hdX6_hand (rv0 hg hw) hw ⟨Nat.le_of_ble_eq_true rfl, Nat.le_of_ble_eq_true rfl⟩ ⟨by show uc + a7 ≤ mc; omega, by show us + a8 ≤ ms; omega⟩ hl.1 (Nat.le_of_ble_eq_true rfl) rfl dX6_undoSales_90 (fun E ce q H1 locs1 hx hS1 hc1 hc2 hc3 => hx.elim) (fun rv H locs hq hS => ?_)
        obtain ⟨_, K9, rfl, h, hw⟩ := hq
        show W p l e _ s m _ below meth c H locs _ _ _ (F0 m 93 ls [])
        refine lv_iinc (v := l2 + 1) (lv' := [(2, .int (l2 + 1)), (4, .ref (ad 5 ((K 9 3 l3.toNatClampNeg).toNatClampNeg))), (0, .ref (ad 0 0)), (1, .int l1), (3, .int l3)]) S.1 S.2.1 dX6_undoSales_93 hl (k := 3) rfl rfl (by decide) rfl (fun ls hl => ?_)
        have hl := lv_sub hl (l' := [(0, .ref (ad 0 0)), (1, .int l1), (2, .int (l2 + 1)), (3, .int l3)]) [2, 3, 0, 4] rfl
        exact bX6_undoSales_96 S hg hr hlk hout ih hS hw hl (by omega) (by omega) h
def wpX6_undoSales (post : Int32 → KS → Prop) (mc ms : Nat) (K : KS) (p1 : Int32) : Prop := ∃ n1 : Nat, wX6_undoSales_12 post mc ms n1 0 0 p1 0 ((K 8 2 3) - 1) K
theorem hdX6_undoSales : yX6_undoSales.cls ≠ "java/lang/invoke/MethodHandle" ∧ yX6_undoSales.cls ≠ "java/lang/invoke/VarHandle" ∧ (parseMethodDescriptor yX6_undoSales.desc).map (fun d => d.parameters.length) = some 1 := by decide +kernel
set_option maxHeartbeats 4000000 in
set_option maxRecDepth 100000 in
theorem mtX6_undoSales {l : Launch} {D : va_G} {cI : Nat → ClassId} {e0 : Nat} {A : Nat → Prop} {ad : Nat → Nat → Nat} {K M : KS} {ap o : Int64} {od : UInt64} {mc ms : Nat} {p1 : Int32} {post : Int32 → KS → Prop} (h : wpX6_undoSales post mc ms K p1) : CM l D cI e0 A yX6_undoSales cX6_undoSales 5 (some FieldType.int) 4 127 mc ms [.ref (ad 0 0), .int p1] (HT D cI e0 A ad K M ap o od) (qK D cI e0 A ad M ap o od rI post) xN := by
  refine CM.of (by decide) (Nat.le_of_ble_eq_true rfl) (fun p e s m below meth c ls FX hw hS hl => ?_)
  obtain ⟨S, hg, hr, hlk, hnm, hout⟩ := FX
  have hl : lv_has ls 5 [(0, .ref (ad 0 0)), (1, .int p1)] := hl
  unfold wpX6_undoSales at h
  refine lv_iconst (v := 0) S.1 S.2.1 dX6_undoSales_0 (by decide) ?_
  refine lv_istore_n (lv' := [(2, .int 0), (0, .ref (ad 0 0)), (1, .int p1)]) S.1 S.2.1 dX6_undoSales_1 rfl hl (by decide) rfl (fun ls hl => ?_)
  refine lv_aload_n S.1 S.2.1 dX6_undoSales_2 rfl (lv_at hl 1 rfl) ?_
  refine g0_8 S hg hw u124 dX6_undoSales_3 ?_
  refine rL_size S hg hS hw (lv8 3) u173 hl.1 (Nat.le_of_ble_eq_true rfl) ⟨Nat.le_of_ble_eq_true rfl, Nat.le_of_ble_eq_true rfl⟩ ⟨by omega, by omega⟩ dX6_undoSales_6 (fun H locs hw hS => ?_)
  refine lv_iconst (v := 1) S.1 S.2.1 dX6_undoSales_9 (by decide) ?_
  refine lv_isub S.1 S.2.1 dX6_undoSales_10 ?_
  refine lv_istore_n (lv' := [(3, .int ((K 8 2 3) - 1)), (2, .int 0), (0, .ref (ad 0 0)), (1, .int p1)]) S.1 S.2.1 dX6_undoSales_11 rfl hl (by decide) rfl (fun ls hl => ?_)
  have hl := lv_sub hl (l' := [(0, .ref (ad 0 0)), (1, .int p1), (2, .int 0), (3, .int ((K 8 2 3) - 1))]) [2, 3, 1, 0] rfl
  obtain ⟨n1, h⟩ := h
  exact bX6_undoSales_12 S hg hr hlk hout n1 hS hw hl (by omega) (by omega) h

-- X6.dropOffers
theorem dX6_dropOffers_0 : decode cX6_dropOffers 0 = .ok (.iconst 0, 1) := by decide +kernel
theorem dX6_dropOffers_1 : decode cX6_dropOffers 1 = .ok (.istore_n 2, 1) := by decide +kernel
theorem dX6_dropOffers_2 : decode cX6_dropOffers 2 = .ok (.iload_n 2, 1) := by decide +kernel
theorem dX6_dropOffers_3 : decode cX6_dropOffers 3 = .ok (.aload_n 0, 1) := by decide +kernel
theorem dX6_dropOffers_4 : decode cX6_dropOffers 4 = .ok (.getfield 23, 3) := by decide +kernel
theorem dX6_dropOffers_7 : decode cX6_dropOffers 7 = .ok (.invokevirtual 71, 3) := by decide +kernel
theorem dX6_dropOffers_10 : decode cX6_dropOffers 10 = .ok (.if_icmp .ge 55, 3) := by decide +kernel
theorem dX6_dropOffers_13 : decode cX6_dropOffers 13 = .ok (.aload_n 0, 1) := by decide +kernel
theorem dX6_dropOffers_14 : decode cX6_dropOffers 14 = .ok (.getfield 23, 3) := by decide +kernel
theorem dX6_dropOffers_17 : decode cX6_dropOffers 17 = .ok (.iload_n 2, 1) := by decide +kernel
theorem dX6_dropOffers_18 : decode cX6_dropOffers 18 = .ok (.invokevirtual 107, 3) := by decide +kernel
theorem dX6_dropOffers_21 : decode cX6_dropOffers 21 = .ok (.checkcast 307, 3) := by decide +kernel
theorem dX6_dropOffers_24 : decode cX6_dropOffers 24 = .ok (.astore_n 3, 1) := by decide +kernel
theorem dX6_dropOffers_25 : decode cX6_dropOffers 25 = .ok (.aload_n 3, 1) := by decide +kernel
theorem dX6_dropOffers_26 : decode cX6_dropOffers 26 = .ok (.getfield 315, 3) := by decide +kernel
theorem dX6_dropOffers_29 : decode cX6_dropOffers 29 = .ok (.bipush 111, 2) := by decide +kernel
theorem dX6_dropOffers_31 : decode cX6_dropOffers 31 = .ok (.if_icmp .ne 28, 3) := by decide +kernel
theorem dX6_dropOffers_34 : decode cX6_dropOffers 34 = .ok (.aload_n 3, 1) := by decide +kernel
theorem dX6_dropOffers_35 : decode cX6_dropOffers 35 = .ok (.getfield 318, 3) := by decide +kernel
theorem dX6_dropOffers_38 : decode cX6_dropOffers 38 = .ok (.getfield 174, 3) := by decide +kernel
theorem dX6_dropOffers_41 : decode cX6_dropOffers 41 = .ok (.iload_n 1, 1) := by decide +kernel
theorem dX6_dropOffers_42 : decode cX6_dropOffers 42 = .ok (.if_icmp .ne 17, 3) := by decide +kernel
theorem dX6_dropOffers_45 : decode cX6_dropOffers 45 = .ok (.aload_n 3, 1) := by decide +kernel
theorem dX6_dropOffers_46 : decode cX6_dropOffers 46 = .ok (.bipush 103, 2) := by decide +kernel
theorem dX6_dropOffers_48 : decode cX6_dropOffers 48 = .ok (.putfield 315, 3) := by decide +kernel
theorem dX6_dropOffers_51 : decode cX6_dropOffers 51 = .ok (.aload_n 3, 1) := by decide +kernel
theorem dX6_dropOffers_52 : decode cX6_dropOffers 52 = .ok (.getfield 318, 3) := by decide +kernel
theorem dX6_dropOffers_55 : decode cX6_dropOffers 55 = .ok (.iconst 0, 1) := by decide +kernel
theorem dX6_dropOffers_56 : decode cX6_dropOffers 56 = .ok (.putfield 163, 3) := by decide +kernel
theorem dX6_dropOffers_59 : decode cX6_dropOffers 59 = .ok (.iinc 2 1, 3) := by decide +kernel
theorem dX6_dropOffers_62 : decode cX6_dropOffers 62 = .ok (.goto (-60), 3) := by decide +kernel
theorem dX6_dropOffers_65 : decode cX6_dropOffers 65 = .ok (.return_, 1) := by decide +kernel
def wX6_dropOffers_59 (post : Unit → KS → Prop) (bk2 : Int32 → Int32 → KS → Prop) (l1 : Int32) (l2 : Int32) (K : KS) : Prop := bk2 l1 (l2 + 1) K
set_option maxHeartbeats 4000000 in
set_option maxRecDepth 100000 in
theorem bX6_dropOffers_59 {p : Program} {l : Launch} {e : Env} {s : State} {m : MethodId} {args : Array Value} {below : List Frame} {meth : Method} {c : Code} {D : va_G} {cI : Nat → ClassId} {e0 : Nat} {A : Nat → Prop} {ad : Nat → Nat → Nat} {M : KS} {ap : Int64} {o : Int64} {od : UInt64} {mc ms : Nat} {post : Unit → KS → Prop} {bk2 : Int32 → Int32 → KS → Prop} (S : CallFix p m c cX6_dropOffers 4 s args WU RX6) (hg : GI D cI e0 A s s.heap) (hr : meth.sig.returnType = none) (hlk : meth.locks = false) (hout : ∀ x ∈ c.exceptionTable.toList, False) (hbk2 : ∀ {H : Heap} {locs : List Loc} {ls : Array Slot} {l1 : Int32} {l2 : Int32} {K : KS}, va_S A s.heap H locs → HT D cI e0 A ad K M ap o od H → lv_has ls 4 [(0, .ref (ad 0 0)), (1, .int l1), (2, .int l2)] → bk2 l1 l2 K → W p l e ({ frames := 3, cells := mc, slots := ms, locals := 81 } : Room) s m args below meth c H locs 0 0 (MQQ below (qK D cI e0 A ad M ap o od rV post) xN args s mc ms A) (F0 m 2 ls [])) {H : Heap} {locs : List Loc} {ls : Array Slot} {l1 : Int32} {l2 : Int32} {K : KS} (hS : va_S A s.heap H locs) (hw : HT D cI e0 A ad K M ap o od H) (hl : lv_has ls 4 [(0, .ref (ad 0 0)), (1, .int l1), (2, .int l2)]) (h : wX6_dropOffers_59 post bk2 l1 l2 K) : W p l e ({ frames := 3, cells := mc, slots := ms, locals := 81 } : Room) s m args below meth c H locs 0 0 (MQQ below (qK D cI e0 A ad M ap o od rV post) xN args s mc ms A) (F0 m 59 ls []) := by
  unfold wX6_dropOffers_59 at h
  refine lv_iinc (v := l2 + 1) (lv' := [(2, .int (l2 + 1)), (0, .ref (ad 0 0)), (1, .int l1)]) S.1 S.2.1 dX6_dropOffers_59 hl (k := 2) rfl rfl (by decide) rfl (fun ls hl => ?_)
  refine lv_goto (tgt := 2) S.1 S.2.1 dX6_dropOffers_62 (by decide) ?_
  have hl := lv_sub hl (l' := [(0, .ref (ad 0 0)), (1, .int l1), (2, .int (l2 + 1))]) [1, 2, 0] rfl
  exact hbk2 hS hw hl h
def wX6_dropOffers_2 (post : Unit → KS → Prop) : Nat → Int32 → Int32 → KS → Prop
  | 0 => fun _ _ _ => False
  | n + 1 => fun l1 l2 K => (((K 8 2 2) ≤ l2 → (post () K)) ∧ (¬ (K 8 2 2) ≤ l2 → ((okGet K 2 l2) ∧ (((K 9 2 l2.toNatClampNeg).toNatClampNeg < nO K) ∧ (((¬ (K 5 4 ((K 9 2 l2.toNatClampNeg).toNatClampNeg)) = 111 → (wX6_dropOffers_59 post (wX6_dropOffers_2 post n) l1 l2 K)) ∧ ((K 5 4 ((K 9 2 l2.toNatClampNeg).toNatClampNeg)) = 111 → (((K 5 0 ((K 9 2 l2.toNatClampNeg).toNatClampNeg)).toNatClampNeg < nC K) ∧ (((¬ (K 4 5 ((K 5 0 ((K 9 2 l2.toNatClampNeg).toNatClampNeg)).toNatClampNeg)) = l1 → (wX6_dropOffers_59 post (wX6_dropOffers_2 post n) l1 l2 K)) ∧ ((K 4 5 ((K 5 0 ((K 9 2 l2.toNatClampNeg).toNatClampNeg)).toNatClampNeg)) = l1 → ((((k3 K 5 4 ((K 9 2 l2.toNatClampNeg).toNatClampNeg) 103) 5 0 ((K 9 2 l2.toNatClampNeg).toNatClampNeg)).toNatClampNeg < nC (k3 K 5 4 ((K 9 2 l2.toNatClampNeg).toNatClampNeg) 103)) ∧ (wX6_dropOffers_59 post (wX6_dropOffers_2 post n) l1 l2 (k3 (k3 K 5 4 ((K 9 2 l2.toNatClampNeg).toNatClampNeg) 103) 4 4 (((k3 K 5 4 ((K 9 2 l2.toNatClampNeg).toNatClampNeg) 103) 5 0 ((K 9 2 l2.toNatClampNeg).toNatClampNeg)).toNatClampNeg) 0))))))))))))))
set_option maxHeartbeats 4000000 in
set_option maxRecDepth 100000 in
theorem bX6_dropOffers_2 {p : Program} {l : Launch} {e : Env} {s : State} {m : MethodId} {args : Array Value} {below : List Frame} {meth : Method} {c : Code} {D : va_G} {cI : Nat → ClassId} {e0 : Nat} {A : Nat → Prop} {ad : Nat → Nat → Nat} {M : KS} {ap : Int64} {o : Int64} {od : UInt64} {mc ms : Nat} {post : Unit → KS → Prop} (S : CallFix p m c cX6_dropOffers 4 s args WU RX6) (hg : GI D cI e0 A s s.heap) (hr : meth.sig.returnType = none) (hlk : meth.locks = false) (hout : ∀ x ∈ c.exceptionTable.toList, False) : ∀ n : Nat, ∀ {H : Heap} {locs : List Loc} {ls : Array Slot} {l1 : Int32} {l2 : Int32} {K : KS}, va_S A s.heap H locs → HT D cI e0 A ad K M ap o od H → lv_has ls 4 [(0, .ref (ad 0 0)), (1, .int l1), (2, .int l2)] → wX6_dropOffers_2 post n l1 l2 K → W p l e ({ frames := 3, cells := mc, slots := ms, locals := 81 } : Room) s m args below meth c H locs 0 0 (MQQ below (qK D cI e0 A ad M ap o od rV post) xN args s mc ms A) (F0 m 2 ls []) := by
  intro n
  induction n with
  | zero => intros; exact False.elim (by assumption)
  | succ n ih =>
    intro H locs ls l1 l2 K hS hw hl h
    unfold wX6_dropOffers_2 at h
    refine lv_iload_n S.1 S.2.1 dX6_dropOffers_2 rfl (lv_at hl 2 rfl) ?_
    refine lv_aload_n S.1 S.2.1 dX6_dropOffers_3 rfl (lv_at hl 0 rfl) ?_
    refine g0_7 S hg hw u123 dX6_dropOffers_4 ?_
    refine rL_size S hg hS hw (lv8 2) u173 hl.1 (Nat.le_of_ble_eq_true rfl) ⟨Nat.le_of_ble_eq_true rfl, Nat.le_of_ble_eq_true rfl⟩ ⟨by omega, by omega⟩ dX6_dropOffers_7 (fun H locs hw hS => ?_)
    refine lv_icmp_ge (tgt := 65) S.1 S.2.1 dX6_dropOffers_10 (by decide) (fun c1 => ?_) (fun c1 => ?_)
    · have h := h.1 c1
      exact r_vret (y := yX6_dropOffers) S hr hlk hS (by omega) (by omega) dX6_dropOffers_65 ⟨(), _, rfl, h, hw⟩
    · have h := h.2 c1
      refine lv_aload_n S.1 S.2.1 dX6_dropOffers_13 rfl (lv_at hl 0 rfl) ?_
      refine g0_7 S hg hw u123 dX6_dropOffers_14 ?_
      refine lv_iload_n S.1 S.2.1 dX6_dropOffers_17 rfl (lv_at hl 2 rfl) ?_
      obtain ⟨g2, h⟩ := h
      refine rL_get S hg hS hw (lv8 2) g2 u177 hl.1 (Nat.le_of_ble_eq_true rfl) ⟨Nat.le_of_ble_eq_true rfl, Nat.le_of_ble_eq_true rfl⟩ ⟨by omega, by omega⟩ dX6_dropOffers_18 (fun H locs hw hS => ?_)
      show W p l e _ s m _ below meth c H locs _ _ _ (F0 m 21 ls [.ref (ad 5 ((K 9 2 l2.toNatClampNeg).toNatClampNeg))])
      obtain ⟨g3, h⟩ := h
      refine ck5 S hg hw g3 u789 dX6_dropOffers_21 ?_
      refine lv_astore_n (lv' := [(3, .ref (ad 5 ((K 9 2 l2.toNatClampNeg).toNatClampNeg))), (0, .ref (ad 0 0)), (1, .int l1), (2, .int l2)]) S.1 S.2.1 dX6_dropOffers_24 rfl hl (by decide) rfl (fun ls hl => ?_)
      refine lv_aload_n S.1 S.2.1 dX6_dropOffers_25 rfl (lv_at hl 0 rfl) ?_
      refine g5_4 S hg hw g3 u885 dX6_dropOffers_26 ?_
      refine lv_bipush (v := 111) S.1 S.2.1 dX6_dropOffers_29 (by decide) ?_
      refine lv_icmp_ne (tgt := 59) S.1 S.2.1 dX6_dropOffers_31 (by decide) (fun c4 => ?_) (fun c4 => ?_)
      · have h := h.1 c4
        have hl := lv_sub hl (l' := [(0, .ref (ad 0 0)), (1, .int l1), (2, .int l2)]) [1, 2, 3] rfl
        exact bX6_dropOffers_59 S hg hr hlk hout ih hS hw hl h
      · have h := h.2 c4
        refine lv_aload_n S.1 S.2.1 dX6_dropOffers_34 rfl (lv_at hl 0 rfl) ?_
        refine g5_0 S hg hw g3 u877 dX6_dropOffers_35 ?_
        obtain ⟨g5, h⟩ := h
        refine g4_5 S hg hw g5 u391 dX6_dropOffers_38 ?_
        refine lv_iload_n S.1 S.2.1 dX6_dropOffers_41 rfl (lv_at hl 2 rfl) ?_
        refine lv_icmp_ne (tgt := 59) S.1 S.2.1 dX6_dropOffers_42 (by decide) (fun c6 => ?_) (fun c6 => ?_)
        · have h := h.1 c6
          have hl := lv_sub hl (l' := [(0, .ref (ad 0 0)), (1, .int l1), (2, .int l2)]) [1, 2, 3] rfl
          exact bX6_dropOffers_59 S hg hr hlk hout ih hS hw hl h
        · have h := h.2 c6
          refine lv_aload_n S.1 S.2.1 dX6_dropOffers_45 rfl (lv_at hl 0 rfl) ?_
          refine lv_bipush (v := 103) S.1 S.2.1 dX6_dropOffers_46 (by decide) ?_
          refine p5_4 S hg hS hw g3 rfl rfl u885 dX6_dropOffers_48 (fun H locs hw hS => ?_)
          refine lv_aload_n S.1 S.2.1 dX6_dropOffers_51 rfl (lv_at hl 0 rfl) ?_
          refine g5_0 S hg hw g3 u877 dX6_dropOffers_52 ?_
          refine lv_iconst (v := 0) S.1 S.2.1 dX6_dropOffers_55 (by decide) ?_
          obtain ⟨g7, h⟩ := h
          refine p4_4 S hg hS hw g7 rfl rfl u389 dX6_dropOffers_56 (fun H locs hw hS => ?_)
          have hl := lv_sub hl (l' := [(0, .ref (ad 0 0)), (1, .int l1), (2, .int l2)]) [1, 2, 3] rfl
          exact bX6_dropOffers_59 S hg hr hlk hout ih hS hw hl h
def wpX6_dropOffers (post : Unit → KS → Prop) (K : KS) (p1 : Int32) : Prop := ∃ n1 : Nat, wX6_dropOffers_2 post n1 p1 0 K
theorem hdX6_dropOffers : yX6_dropOffers.cls ≠ "java/lang/invoke/MethodHandle" ∧ yX6_dropOffers.cls ≠ "java/lang/invoke/VarHandle" ∧ (parseMethodDescriptor yX6_dropOffers.desc).map (fun d => d.parameters.length) = some 1 := by decide +kernel
set_option maxHeartbeats 4000000 in
set_option maxRecDepth 100000 in
theorem mtX6_dropOffers {l : Launch} {D : va_G} {cI : Nat → ClassId} {e0 : Nat} {A : Nat → Prop} {ad : Nat → Nat → Nat} {K M : KS} {ap o : Int64} {od : UInt64} {mc ms : Nat} {p1 : Int32} {post : Unit → KS → Prop} (h : wpX6_dropOffers post K p1) : CM l D cI e0 A yX6_dropOffers cX6_dropOffers 4 none 3 81 mc ms [.ref (ad 0 0), .int p1] (HT D cI e0 A ad K M ap o od) (qK D cI e0 A ad M ap o od rV post) xN := by
  refine CM.of (by decide) (Nat.le_of_ble_eq_true rfl) (fun p e s m below meth c ls FX hw hS hl => ?_)
  obtain ⟨S, hg, hr, hlk, hnm, hout⟩ := FX
  have hl : lv_has ls 4 [(0, .ref (ad 0 0)), (1, .int p1)] := hl
  unfold wpX6_dropOffers at h
  refine lv_iconst (v := 0) S.1 S.2.1 dX6_dropOffers_0 (by decide) ?_
  refine lv_istore_n (lv' := [(2, .int 0), (0, .ref (ad 0 0)), (1, .int p1)]) S.1 S.2.1 dX6_dropOffers_1 rfl hl (by decide) rfl (fun ls hl => ?_)
  have hl := lv_sub hl (l' := [(0, .ref (ad 0 0)), (1, .int p1), (2, .int 0)]) [1, 2, 0] rfl
  obtain ⟨n1, h⟩ := h
  exact bX6_dropOffers_2 S hg hr hlk hout n1 hS hw hl h

-- X6.player
theorem dX6_player_0 : decode cX6_player 0 = .ok (.iload_n 1, 1) := by decide +kernel
theorem dX6_player_1 : decode cX6_player 1 = .ok (.ifCond .lt 10, 3) := by decide +kernel
theorem dX6_player_4 : decode cX6_player 4 = .ok (.iload_n 1, 1) := by decide +kernel
theorem dX6_player_5 : decode cX6_player 5 = .ok (.sipush 999, 3) := by decide +kernel
theorem dX6_player_8 : decode cX6_player 8 = .ok (.if_icmp .le 13, 3) := by decide +kernel
theorem dX6_player_11 : decode cX6_player 11 = .ok (.new 46, 3) := by decide +kernel
theorem dX6_player_14 : decode cX6_player 14 = .ok (.dup, 1) := by decide +kernel
theorem dX6_player_15 : decode cX6_player 15 = .ok (.ldc 48, 2) := by decide +kernel
theorem dX6_player_17 : decode cX6_player 17 = .ok (.invokespecial 50, 3) := by decide +kernel
theorem dX6_player_20 : decode cX6_player 20 = .ok (.athrow, 1) := by decide +kernel
theorem dX6_player_21 : decode cX6_player 21 = .ok (.aload_n 0, 1) := by decide +kernel
theorem dX6_player_22 : decode cX6_player 22 = .ok (.getfield 53, 3) := by decide +kernel
theorem dX6_player_25 : decode cX6_player 25 = .ok (.bipush 6, 2) := by decide +kernel
theorem dX6_player_27 : decode cX6_player 27 = .ok (.if_icmp .lt 13, 3) := by decide +kernel
theorem dX6_player_30 : decode cX6_player 30 = .ok (.new 57, 3) := by decide +kernel
theorem dX6_player_33 : decode cX6_player 33 = .ok (.dup, 1) := by decide +kernel
theorem dX6_player_34 : decode cX6_player 34 = .ok (.ldc 59, 2) := by decide +kernel
theorem dX6_player_36 : decode cX6_player 36 = .ok (.invokespecial 61, 3) := by decide +kernel
theorem dX6_player_39 : decode cX6_player 39 = .ok (.athrow, 1) := by decide +kernel
theorem dX6_player_40 : decode cX6_player 40 = .ok (.aload_n 0, 1) := by decide +kernel
theorem dX6_player_41 : decode cX6_player 41 = .ok (.getfield 53, 3) := by decide +kernel
theorem dX6_player_44 : decode cX6_player 44 = .ok (.istore_n 2, 1) := by decide +kernel
theorem dX6_player_45 : decode cX6_player 45 = .ok (.aload_n 0, 1) := by decide +kernel
theorem dX6_player_46 : decode cX6_player 46 = .ok (.getfield 9, 3) := by decide +kernel
theorem dX6_player_49 : decode cX6_player 49 = .ok (.iload_n 2, 1) := by decide +kernel
theorem dX6_player_50 : decode cX6_player 50 = .ok (.iload_n 1, 1) := by decide +kernel
theorem dX6_player_51 : decode cX6_player 51 = .ok (.iastore, 1) := by decide +kernel
theorem dX6_player_52 : decode cX6_player 52 = .ok (.aload_n 0, 1) := by decide +kernel
theorem dX6_player_53 : decode cX6_player 53 = .ok (.dup, 1) := by decide +kernel
theorem dX6_player_54 : decode cX6_player 54 = .ok (.getfield 62, 3) := by decide +kernel
theorem dX6_player_57 : decode cX6_player 57 = .ok (.iload_n 1, 1) := by decide +kernel
theorem dX6_player_58 : decode cX6_player 58 = .ok (.iadd, 1) := by decide +kernel
theorem dX6_player_59 : decode cX6_player 59 = .ok (.putfield 62, 3) := by decide +kernel
theorem dX6_player_62 : decode cX6_player 62 = .ok (.aload_n 0, 1) := by decide +kernel
theorem dX6_player_63 : decode cX6_player 63 = .ok (.dup, 1) := by decide +kernel
theorem dX6_player_64 : decode cX6_player 64 = .ok (.getfield 53, 3) := by decide +kernel
theorem dX6_player_67 : decode cX6_player 67 = .ok (.iconst 1, 1) := by decide +kernel
theorem dX6_player_68 : decode cX6_player 68 = .ok (.iadd, 1) := by decide +kernel
theorem dX6_player_69 : decode cX6_player 69 = .ok (.putfield 53, 3) := by decide +kernel
theorem dX6_player_72 : decode cX6_player 72 = .ok (.iload_n 2, 1) := by decide +kernel
theorem dX6_player_73 : decode cX6_player 73 = .ok (.ireturn, 1) := by decide +kernel
def wpX6_player (post : Int32 → KS → Prop) (px : String → KS → Prop) (mc ms : Nat) (K : KS) (p1 : Int32) : Prop := ((p1 < 0 → ((0 + 1 ≤ mc ∧ 0 + 6 ≤ ms ∧ px "java/lang/IllegalArgumentException" K))) ∧ (¬ p1 < 0 → (((p1 ≤ 999 → ((((K 0 1 0) < 6 → ((vp_in (K 0 1 0) 6) ∧ (post (K 0 1 0) (k3 (k3 (k3 K 10 0 ((K 0 1 0).toNatClampNeg) p1) 0 2 0 (((k3 K 10 0 ((K 0 1 0).toNatClampNeg) p1) 0 2 0) + p1)) 0 1 0 (((k3 (k3 K 10 0 ((K 0 1 0).toNatClampNeg) p1) 0 2 0 (((k3 K 10 0 ((K 0 1 0).toNatClampNeg) p1) 0 2 0) + p1)) 0 1 0) + 1))))) ∧ (¬ (K 0 1 0) < 6 → ((0 + 1 ≤ mc ∧ 0 + 6 ≤ ms ∧ px "java/lang/IllegalStateException" K)))))) ∧ (¬ p1 ≤ 999 → ((0 + 1 ≤ mc ∧ 0 + 6 ≤ ms ∧ px "java/lang/IllegalArgumentException" K)))))))
theorem hdX6_player : yX6_player.cls ≠ "java/lang/invoke/MethodHandle" ∧ yX6_player.cls ≠ "java/lang/invoke/VarHandle" ∧ (parseMethodDescriptor yX6_player.desc).map (fun d => d.parameters.length) = some 1 := by decide +kernel
set_option maxHeartbeats 4000000 in
set_option maxRecDepth 100000 in
theorem mtX6_player {l : Launch} {D : va_G} {cI : Nat → ClassId} {e0 : Nat} {A : Nat → Prop} {ad : Nat → Nat → Nat} {K M : KS} {ap o : Int64} {od : UInt64} {mc ms : Nat} {p1 : Int32} {post : Int32 → KS → Prop} {px : String → KS → Prop} (hfl : l.stackTraces = false) (h : wpX6_player post px mc ms K p1) : CM l D cI e0 A yX6_player cX6_player 3 (some FieldType.int) 6 82 mc ms [.ref (ad 0 0), .int p1] (HT D cI e0 A ad K M ap o od) (qK D cI e0 A ad M ap o od rI post) (xK D cI e0 A ad M ap o od px) := by
  refine CM.of (by decide) (Nat.le_of_ble_eq_true rfl) (fun p e s m below meth c ls FX hw hS hl => ?_)
  obtain ⟨S, hg, hr, hlk, hnm, hout⟩ := FX
  have hl : lv_has ls 3 [(0, .ref (ad 0 0)), (1, .int p1)] := hl
  unfold wpX6_player at h
  refine lv_iload_n S.1 S.2.1 dX6_player_0 rfl (lv_at hl 1 rfl) ?_
  refine lv_if_lt (tgt := 11) S.1 S.2.1 dX6_player_1 (by decide) (fun c1 => ?_) (fun c1 => ?_)
  · have h := h.1 c1
    obtain ⟨g2, g3, h⟩ := h
    exact r_throw (fr := 0) (lo := 0) (text := "coins out of range") hfl S hout hlk hg hS (by decide) u321 u41 (by decide +kernel) hat_50 hl.1 dX6_player_11 dX6_player_14 dX6_player_15 dX6_player_17 dX6_player_20 (Nat.le_of_ble_eq_true rfl) (Nat.le_of_ble_eq_true rfl) g2 g3 g2 g3 (fun H1 hz hk => ⟨_, h, hw.more hk⟩)
  · have h := h.2 c1
    refine lv_iload_n S.1 S.2.1 dX6_player_4 rfl (lv_at hl 1 rfl) ?_
    refine lv_sipush (v := 999) S.1 S.2.1 dX6_player_5 (by decide) ?_
    refine lv_icmp_le (tgt := 21) S.1 S.2.1 dX6_player_8 (by decide) (fun c4 => ?_) (fun c4 => ?_)
    · have h := h.1 c4
      refine lv_aload_n S.1 S.2.1 dX6_player_21 rfl (lv_at hl 0 rfl) ?_
      refine g0_1 S hg hw u117 dX6_player_22 ?_
      refine lv_bipush (v := 6) S.1 S.2.1 dX6_player_25 (by decide) ?_
      refine lv_icmp_lt (tgt := 40) S.1 S.2.1 dX6_player_27 (by decide) (fun c5 => ?_) (fun c5 => ?_)
      · have h := h.1 c5
        refine lv_aload_n S.1 S.2.1 dX6_player_40 rfl (lv_at hl 0 rfl) ?_
        refine g0_1 S hg hw u117 dX6_player_41 ?_
        refine lv_istore_n (lv' := [(2, .int (K 0 1 0)), (0, .ref (ad 0 0)), (1, .int p1)]) S.1 S.2.1 dX6_player_44 rfl hl (by decide) rfl (fun ls hl => ?_)
        refine lv_aload_n S.1 S.2.1 dX6_player_45 rfl (lv_at hl 1 rfl) ?_
        refine g0_0 S hg hw u116 dX6_player_46 ?_
        refine lv_iload_n S.1 S.2.1 dX6_player_49 rfl (lv_at hl 0 rfl) ?_
        refine lv_iload_n S.1 S.2.1 dX6_player_50 rfl (lv_at hl 2 rfl) ?_
        obtain ⟨g6, h⟩ := h
        refine s10 S hg hS hw (Nat.le_of_ble_eq_true rfl) g6 dX6_player_51 (fun H locs hw hS => ?_)
        refine lv_aload_n S.1 S.2.1 dX6_player_52 rfl (lv_at hl 1 rfl) ?_
        refine lv_dup S.1 S.2.1 dX6_player_53 rfl ?_
        refine g0_2 S hg hw u118 dX6_player_54 ?_
        refine lv_iload_n S.1 S.2.1 dX6_player_57 rfl (lv_at hl 2 rfl) ?_
        refine lv_iadd S.1 S.2.1 dX6_player_58 ?_
        refine p0_2 S hg hS hw u118 dX6_player_59 (fun H locs hw hS => ?_)
        refine lv_aload_n S.1 S.2.1 dX6_player_62 rfl (lv_at hl 1 rfl) ?_
        refine lv_dup S.1 S.2.1 dX6_player_63 rfl ?_
        refine g0_1 S hg hw u117 dX6_player_64 ?_
        refine lv_iconst (v := 1) S.1 S.2.1 dX6_player_67 (by decide) ?_
        refine lv_iadd S.1 S.2.1 dX6_player_68 ?_
        refine p0_1 S hg hS hw u117 dX6_player_69 (fun H locs hw hS => ?_)
        refine lv_iload_n S.1 S.2.1 dX6_player_72 rfl (lv_at hl 0 rfl) ?_
        exact r_iret (y := yX6_player) S hr rfl hlk hS (by omega) (by omega) dX6_player_73 ⟨(K 0 1 0), _, rfl, h, hw⟩
      · have h := h.2 c5
        obtain ⟨g7, g8, h⟩ := h
        exact r_throw (fr := 0) (lo := 0) (text := "there are 6 players") hfl S hout hlk hg hS (by decide) u337 u42 (by decide +kernel) hat_61 hl.1 dX6_player_30 dX6_player_33 dX6_player_34 dX6_player_36 dX6_player_39 (Nat.le_of_ble_eq_true rfl) (Nat.le_of_ble_eq_true rfl) g7 g8 g7 g8 (fun H1 hz hk => ⟨_, h, hw.more hk⟩)
    · have h := h.2 c4
      obtain ⟨g9, g10, h⟩ := h
      exact r_throw (fr := 0) (lo := 0) (text := "coins out of range") hfl S hout hlk hg hS (by decide) u321 u41 (by decide +kernel) hat_50 hl.1 dX6_player_11 dX6_player_14 dX6_player_15 dX6_player_17 dX6_player_20 (Nat.le_of_ble_eq_true rfl) (Nat.le_of_ble_eq_true rfl) g9 g10 g9 g10 (fun H1 hz hk => ⟨_, h, hw.more hk⟩)

-- X6.ownerOf
theorem dX6_ownerOf_0 : decode cX6_ownerOf 0 = .ok (.aload_n 0, 1) := by decide +kernel
theorem dX6_ownerOf_1 : decode cX6_ownerOf 1 = .ok (.iload_n 1, 1) := by decide +kernel
theorem dX6_ownerOf_2 : decode cX6_ownerOf 2 = .ok (.invokevirtual 89, 3) := by decide +kernel
theorem dX6_ownerOf_5 : decode cX6_ownerOf 5 = .ok (.getfield 93, 3) := by decide +kernel
theorem dX6_ownerOf_8 : decode cX6_ownerOf 8 = .ok (.ireturn, 1) := by decide +kernel
def wpX6_ownerOf (post : Int32 → Prop) (px : String → Prop) (mc ms : Nat) (K : KS) (p1 : Int32) : Prop := (∃ a1 a2 : Nat, 0 + a1 ≤ mc ∧ 0 + a2 ≤ ms ∧ wpX6_cardAt (fun r3 => (r3 < nC K) ∧ (post (K 4 2 r3))) px a1 a2 K p1)
theorem hdX6_ownerOf : yX6_ownerOf.cls ≠ "java/lang/invoke/MethodHandle" ∧ yX6_ownerOf.cls ≠ "java/lang/invoke/VarHandle" ∧ (parseMethodDescriptor yX6_ownerOf.desc).map (fun d => d.parameters.length) = some 1 := by decide +kernel
set_option maxHeartbeats 4000000 in
set_option maxRecDepth 100000 in
theorem mtX6_ownerOf {l : Launch} {D : va_G} {cI : Nat → ClassId} {e0 : Nat} {A : Nat → Prop} {ad : Nat → Nat → Nat} {K M : KS} {ap o : Int64} {od : UInt64} {mc ms : Nat} {p1 : Int32} {post : Int32 → Prop} {px : String → Prop} (hfl : l.stackTraces = false) (h : wpX6_ownerOf post px mc ms K p1) : CM l D cI e0 A yX6_ownerOf cX6_ownerOf 2 (some FieldType.int) 7 103 mc ms [.ref (ad 0 0), .int p1] (HT D cI e0 A ad K M ap o od) (qP D cI e0 A ad K M ap o od rI post) (xP D cI e0 A ad K M ap o od px) := by
  refine CM.of (by decide) (Nat.le_of_ble_eq_true rfl) (fun p e s m below meth c ls FX hw hS hl => ?_)
  obtain ⟨S, hg, hr, hlk, hnm, hout⟩ := FX
  have hl : lv_has ls 2 [(0, .ref (ad 0 0)), (1, .int p1)] := hl
  unfold wpX6_ownerOf at h
  refine lv_aload_n S.1 S.2.1 dX6_ownerOf_0 rfl (lv_at hl 0 rfl) ?_
  refine lv_iload_n S.1 S.2.1 dX6_ownerOf_1 rfl (lv_at hl 1 rfl) ?_
  obtain ⟨a1, a2, h1, h2, h⟩ := h
  refine r_call (rest := []) S hg hS (mtX6_cardAt (mc := a1) (ms := a2) hfl h) u485 u487 u6 u27 u488 hdX6_cardAt (rv0 hg hw) hw ⟨Nat.le_of_ble_eq_true rfl, Nat.le_of_ble_eq_true rfl⟩ ⟨by show 0 + a1 ≤ mc; omega, by show 0 + a2 ≤ ms; omega⟩ hl.1 (Nat.le_of_ble_eq_true rfl) rfl dX6_ownerOf_2 (fun E ce q H1 locs1 hx hS1 hc1 hc2 hc3 => by obtain ⟨hx1, hw1⟩ := hx; exact r_out hout hlk hS1 (by show (0 + a1) ≤ mc; omega) (by show (0 + a2) ≤ ms; omega) hc1 hc2 hc3 ⟨hx1, hw1⟩) (fun rv H locs hq hS => ?_)
  obtain ⟨r3, rfl, h, hw⟩ := hq
  show W p l e _ s m _ below meth c H locs _ _ _ (F0 m 5 ls [.ref (ad 4 r3)])
  obtain ⟨g4, h⟩ := h
  refine g4_2 S hg hw g4 u386 dX6_ownerOf_5 ?_
  exact r_iret (y := yX6_ownerOf) S hr rfl hlk hS (by omega) (by omega) dX6_ownerOf_8 ⟨(K 4 2 r3), rfl, h, hw⟩

-- X6.ownerByPostings
theorem dX6_ownerByPostings_0 : decode cX6_ownerByPostings 0 = .ok (.aload_n 0, 1) := by decide +kernel
theorem dX6_ownerByPostings_1 : decode cX6_ownerByPostings 1 = .ok (.getfield 32, 3) := by decide +kernel
theorem dX6_ownerByPostings_4 : decode cX6_ownerByPostings 4 = .ok (.aload_n 0, 1) := by decide +kernel
theorem dX6_ownerByPostings_5 : decode cX6_ownerByPostings 5 = .ok (.iload_n 1, 1) := by decide +kernel
theorem dX6_ownerByPostings_6 : decode cX6_ownerByPostings 6 = .ok (.invokevirtual 89, 3) := by decide +kernel
theorem dX6_ownerByPostings_9 : decode cX6_ownerByPostings 9 = .ok (.getfield 96, 3) := by decide +kernel
theorem dX6_ownerByPostings_12 : decode cX6_ownerByPostings 12 = .ok (.invokevirtual 99, 3) := by decide +kernel
theorem dX6_ownerByPostings_15 : decode cX6_ownerByPostings 15 = .ok (.ireturn, 1) := by decide +kernel
def wpX6_ownerByPostings (post : Int32 → Prop) (px : String → Prop) (mc ms : Nat) (K : KS) (p1 : Int32) : Prop := (∃ a1 a2 : Nat, 0 + a1 ≤ mc ∧ 0 + a2 ≤ ms ∧ wpX6_cardAt (fun r3 => (r3 < nC K) ∧ ((wpX3_lastHolder (fun r5 => post r5) K (K 4 0 r3)))) px a1 a2 K p1)
theorem hdX6_ownerByPostings : yX6_ownerByPostings.cls ≠ "java/lang/invoke/MethodHandle" ∧ yX6_ownerByPostings.cls ≠ "java/lang/invoke/VarHandle" ∧ (parseMethodDescriptor yX6_ownerByPostings.desc).map (fun d => d.parameters.length) = some 1 := by decide +kernel
set_option maxHeartbeats 4000000 in
set_option maxRecDepth 100000 in
theorem mtX6_ownerByPostings {l : Launch} {D : va_G} {cI : Nat → ClassId} {e0 : Nat} {A : Nat → Prop} {ad : Nat → Nat → Nat} {K M : KS} {ap o : Int64} {od : UInt64} {mc ms : Nat} {p1 : Int32} {post : Int32 → Prop} {px : String → Prop} (hfl : l.stackTraces = false) (h : wpX6_ownerByPostings post px mc ms K p1) : CM l D cI e0 A yX6_ownerByPostings cX6_ownerByPostings 2 (some FieldType.int) 7 103 mc ms [.ref (ad 0 0), .int p1] (HT D cI e0 A ad K M ap o od) (qP D cI e0 A ad K M ap o od rI post) (xP D cI e0 A ad K M ap o od px) := by
  refine CM.of (by decide) (Nat.le_of_ble_eq_true rfl) (fun p e s m below meth c ls FX hw hS hl => ?_)
  obtain ⟨S, hg, hr, hlk, hnm, hout⟩ := FX
  have hl : lv_has ls 2 [(0, .ref (ad 0 0)), (1, .int p1)] := hl
  unfold wpX6_ownerByPostings at h
  refine lv_aload_n S.1 S.2.1 dX6_ownerByPostings_0 rfl (lv_at hl 0 rfl) ?_
  refine g0_9 S hg hw u125 dX6_ownerByPostings_1 ?_
  refine lv_aload_n S.1 S.2.1 dX6_ownerByPostings_4 rfl (lv_at hl 0 rfl) ?_
  refine lv_iload_n S.1 S.2.1 dX6_ownerByPostings_5 rfl (lv_at hl 1 rfl) ?_
  obtain ⟨a1, a2, h1, h2, h⟩ := h
  refine r_call (rest := [.ref (ad 1 0)]) S hg hS (mtX6_cardAt (mc := a1) (ms := a2) hfl h) u485 u487 u6 u27 u488 hdX6_cardAt (rv0 hg hw) hw ⟨Nat.le_of_ble_eq_true rfl, Nat.le_of_ble_eq_true rfl⟩ ⟨by show 0 + a1 ≤ mc; omega, by show 0 + a2 ≤ ms; omega⟩ hl.1 (Nat.le_of_ble_eq_true rfl) rfl dX6_ownerByPostings_6 (fun E ce q H1 locs1 hx hS1 hc1 hc2 hc3 => by obtain ⟨hx1, hw1⟩ := hx; exact r_out hout hlk hS1 (by show (0 + a1) ≤ mc; omega) (by show (0 + a2) ≤ ms; omega) hc1 hc2 hc3 ⟨hx1, hw1⟩) (fun rv H locs hq hS => ?_)
  obtain ⟨r3, rfl, h, hw⟩ := hq
  show W p l e _ s m _ below meth c H locs _ _ _ (F0 m 9 ls [.ref (ad 4 r3), .ref (ad 1 0)])
  obtain ⟨g4, h⟩ := h
  refine g4_0 S hg hw g4 u382 dX6_ownerByPostings_9 ?_
  refine r_call (rest := []) S hg hS (mtX3_lastHolder (mc := 0) (ms := 0) h) u192 u193 u194 u31 u195 hdX3_lastHolder (rv1 hg hw) hw ⟨Nat.le_of_ble_eq_true rfl, Nat.le_of_ble_eq_true rfl⟩ ⟨by show (0 + a1) + 0 ≤ mc; omega, by show (0 + a2) + 0 ≤ ms; omega⟩ hl.1 (Nat.le_of_ble_eq_true rfl) rfl dX6_ownerByPostings_12 (fun E ce q H1 locs1 hx hS1 hc1 hc2 hc3 => hx.elim) (fun rv H locs hq hS => ?_)
  obtain ⟨r5, rfl, h, hw⟩ := hq
  show W p l e _ s m _ below meth c H locs _ _ _ (F0 m 15 ls [.int r5])
  show W p l e _ s m _ below meth c H locs (0 + a1) (0 + a2) _ _
  exact r_iret (y := yX6_ownerByPostings) S hr rfl hlk hS (by omega) (by omega) dX6_ownerByPostings_15 ⟨r5, rfl, h, hw⟩

-- X6.stateOf
theorem dX6_stateOf_0 : decode cX6_stateOf 0 = .ok (.aload_n 0, 1) := by decide +kernel
theorem dX6_stateOf_1 : decode cX6_stateOf 1 = .ok (.iload_n 1, 1) := by decide +kernel
theorem dX6_stateOf_2 : decode cX6_stateOf 2 = .ok (.invokevirtual 89, 3) := by decide +kernel
theorem dX6_stateOf_5 : decode cX6_stateOf 5 = .ok (.getfield 103, 3) := by decide +kernel
theorem dX6_stateOf_8 : decode cX6_stateOf 8 = .ok (.ireturn, 1) := by decide +kernel
def wpX6_stateOf (post : Int32 → Prop) (px : String → Prop) (mc ms : Nat) (K : KS) (p1 : Int32) : Prop := (∃ a1 a2 : Nat, 0 + a1 ≤ mc ∧ 0 + a2 ≤ ms ∧ wpX6_cardAt (fun r3 => (r3 < nC K) ∧ ((narrow .char (.int (K 4 3 r3)) = .int (K 4 3 r3)) ∧ post (K 4 3 r3))) px a1 a2 K p1)
theorem hdX6_stateOf : yX6_stateOf.cls ≠ "java/lang/invoke/MethodHandle" ∧ yX6_stateOf.cls ≠ "java/lang/invoke/VarHandle" ∧ (parseMethodDescriptor yX6_stateOf.desc).map (fun d => d.parameters.length) = some 1 := by decide +kernel
set_option maxHeartbeats 4000000 in
set_option maxRecDepth 100000 in
theorem mtX6_stateOf {l : Launch} {D : va_G} {cI : Nat → ClassId} {e0 : Nat} {A : Nat → Prop} {ad : Nat → Nat → Nat} {K M : KS} {ap o : Int64} {od : UInt64} {mc ms : Nat} {p1 : Int32} {post : Int32 → Prop} {px : String → Prop} (hfl : l.stackTraces = false) (h : wpX6_stateOf post px mc ms K p1) : CM l D cI e0 A yX6_stateOf cX6_stateOf 2 (some FieldType.char) 7 103 mc ms [.ref (ad 0 0), .int p1] (HT D cI e0 A ad K M ap o od) (qP D cI e0 A ad K M ap o od rI post) (xP D cI e0 A ad K M ap o od px) := by
  refine CM.of (by decide) (Nat.le_of_ble_eq_true rfl) (fun p e s m below meth c ls FX hw hS hl => ?_)
  obtain ⟨S, hg, hr, hlk, hnm, hout⟩ := FX
  have hl : lv_has ls 2 [(0, .ref (ad 0 0)), (1, .int p1)] := hl
  unfold wpX6_stateOf at h
  refine lv_aload_n S.1 S.2.1 dX6_stateOf_0 rfl (lv_at hl 0 rfl) ?_
  refine lv_iload_n S.1 S.2.1 dX6_stateOf_1 rfl (lv_at hl 1 rfl) ?_
  obtain ⟨a1, a2, h1, h2, h⟩ := h
  refine r_call (rest := []) S hg hS (mtX6_cardAt (mc := a1) (ms := a2) hfl h) u485 u487 u6 u27 u488 hdX6_cardAt (rv0 hg hw) hw ⟨Nat.le_of_ble_eq_true rfl, Nat.le_of_ble_eq_true rfl⟩ ⟨by show 0 + a1 ≤ mc; omega, by show 0 + a2 ≤ ms; omega⟩ hl.1 (Nat.le_of_ble_eq_true rfl) rfl dX6_stateOf_2 (fun E ce q H1 locs1 hx hS1 hc1 hc2 hc3 => by obtain ⟨hx1, hw1⟩ := hx; exact r_out hout hlk hS1 (by show (0 + a1) ≤ mc; omega) (by show (0 + a2) ≤ ms; omega) hc1 hc2 hc3 ⟨hx1, hw1⟩) (fun rv H locs hq hS => ?_)
  obtain ⟨r3, rfl, h, hw⟩ := hq
  show W p l e _ s m _ below meth c H locs _ _ _ (F0 m 5 ls [.ref (ad 4 r3)])
  obtain ⟨g4, h⟩ := h
  refine g4_3 S hg hw g4 u388 dX6_stateOf_5 ?_
  obtain ⟨g5, h⟩ := h
  exact r_iret (y := yX6_stateOf) S hr g5 hlk hS (by omega) (by omega) dX6_stateOf_8 ⟨(K 4 3 r3), rfl, h, hw⟩

-- X6.cardsOf
theorem dX6_cardsOf_0 : decode cX6_cardsOf 0 = .ok (.aload_n 0, 1) := by decide +kernel
theorem dX6_cardsOf_1 : decode cX6_cardsOf 1 = .ok (.iload_n 1, 1) := by decide +kernel
theorem dX6_cardsOf_2 : decode cX6_cardsOf 2 = .ok (.invokevirtual 65, 3) := by decide +kernel
theorem dX6_cardsOf_5 : decode cX6_cardsOf 5 = .ok (.iconst 0, 1) := by decide +kernel
theorem dX6_cardsOf_6 : decode cX6_cardsOf 6 = .ok (.istore_n 2, 1) := by decide +kernel
theorem dX6_cardsOf_7 : decode cX6_cardsOf 7 = .ok (.iconst 0, 1) := by decide +kernel
theorem dX6_cardsOf_8 : decode cX6_cardsOf 8 = .ok (.istore_n 3, 1) := by decide +kernel
theorem dX6_cardsOf_9 : decode cX6_cardsOf 9 = .ok (.iload_n 3, 1) := by decide +kernel
theorem dX6_cardsOf_10 : decode cX6_cardsOf 10 = .ok (.aload_n 0, 1) := by decide +kernel
theorem dX6_cardsOf_11 : decode cX6_cardsOf 11 = .ok (.getfield 16, 3) := by decide +kernel
theorem dX6_cardsOf_14 : decode cX6_cardsOf 14 = .ok (.invokevirtual 71, 3) := by decide +kernel
theorem dX6_cardsOf_17 : decode cX6_cardsOf 17 = .ok (.if_icmp .ge 30, 3) := by decide +kernel
theorem dX6_cardsOf_20 : decode cX6_cardsOf 20 = .ok (.aload_n 0, 1) := by decide +kernel
theorem dX6_cardsOf_21 : decode cX6_cardsOf 21 = .ok (.getfield 16, 3) := by decide +kernel
theorem dX6_cardsOf_24 : decode cX6_cardsOf 24 = .ok (.iload_n 3, 1) := by decide +kernel
theorem dX6_cardsOf_25 : decode cX6_cardsOf 25 = .ok (.invokevirtual 107, 3) := by decide +kernel
theorem dX6_cardsOf_28 : decode cX6_cardsOf 28 = .ok (.checkcast 77, 3) := by decide +kernel
theorem dX6_cardsOf_31 : decode cX6_cardsOf 31 = .ok (.getfield 93, 3) := by decide +kernel
theorem dX6_cardsOf_34 : decode cX6_cardsOf 34 = .ok (.iload_n 1, 1) := by decide +kernel
theorem dX6_cardsOf_35 : decode cX6_cardsOf 35 = .ok (.if_icmp .ne 6, 3) := by decide +kernel
theorem dX6_cardsOf_38 : decode cX6_cardsOf 38 = .ok (.iinc 2 1, 3) := by decide +kernel
theorem dX6_cardsOf_41 : decode cX6_cardsOf 41 = .ok (.iinc 3 1, 3) := by decide +kernel
theorem dX6_cardsOf_44 : decode cX6_cardsOf 44 = .ok (.goto (-35), 3) := by decide +kernel
theorem dX6_cardsOf_47 : decode cX6_cardsOf 47 = .ok (.iload_n 2, 1) := by decide +kernel
theorem dX6_cardsOf_48 : decode cX6_cardsOf 48 = .ok (.ireturn, 1) := by decide +kernel
def wX6_cardsOf_41 (post : Int32 → Prop) (px : String → Prop) (mc ms : Nat) (bk9 : Nat → Nat → Int32 → Int32 → Int32 → KS → Prop) (uc us : Nat) (l1 : Int32) (l2 : Int32) (l3 : Int32) (K : KS) : Prop := bk9 uc us l1 l2 (l3 + 1) K
set_option maxHeartbeats 4000000 in
set_option maxRecDepth 100000 in
theorem bX6_cardsOf_41 {p : Program} {l : Launch} {e : Env} {s : State} {m : MethodId} {args : Array Value} {below : List Frame} {meth : Method} {c : Code} {D : va_G} {cI : Nat → ClassId} {e0 : Nat} {A : Nat → Prop} {ad : Nat → Nat → Nat} {M : KS} {ap : Int64} {o : Int64} {od : UInt64} {mc ms : Nat} {K : KS} {post : Int32 → Prop} {px : String → Prop} {bk9 : Nat → Nat → Int32 → Int32 → Int32 → KS → Prop} (hfl : l.stackTraces = false) (S : CallFix p m c cX6_cardsOf 4 s args WU RX6) (hg : GI D cI e0 A s s.heap) (hr : meth.sig.returnType = (some FieldType.int)) (hlk : meth.locks = false) (hout : ∀ x ∈ c.exceptionTable.toList, False) (hbk9 : ∀ {H : Heap} {locs : List Loc} {ls : Array Slot} {uc us : Nat} {l1 : Int32} {l2 : Int32} {l3 : Int32}, va_S A s.heap H locs → HT D cI e0 A ad K M ap o od H → lv_has ls 4 [(0, .ref (ad 0 0)), (1, .int l1), (2, .int l2), (3, .int l3)] → uc ≤ mc → us ≤ ms → bk9 uc us l1 l2 l3 K → W p l e ({ frames := 7, cells := mc, slots := ms, locals := 103 } : Room) s m args below meth c H locs uc us (MQQ below (qP D cI e0 A ad K M ap o od rI post) (xP D cI e0 A ad K M ap o od px) args s mc ms A) (F0 m 9 ls [])) {H : Heap} {locs : List Loc} {ls : Array Slot} {uc us : Nat} {l1 : Int32} {l2 : Int32} {l3 : Int32} (hS : va_S A s.heap H locs) (hw : HT D cI e0 A ad K M ap o od H) (hl : lv_has ls 4 [(0, .ref (ad 0 0)), (1, .int l1), (2, .int l2), (3, .int l3)]) (huc : uc ≤ mc) (hus : us ≤ ms) (h : wX6_cardsOf_41 post px mc ms bk9 uc us l1 l2 l3 K) : W p l e ({ frames := 7, cells := mc, slots := ms, locals := 103 } : Room) s m args below meth c H locs uc us (MQQ below (qP D cI e0 A ad K M ap o od rI post) (xP D cI e0 A ad K M ap o od px) args s mc ms A) (F0 m 41 ls []) := by
  unfold wX6_cardsOf_41 at h
  refine lv_iinc (v := l3 + 1) (lv' := [(3, .int (l3 + 1)), (0, .ref (ad 0 0)), (1, .int l1), (2, .int l2)]) S.1 S.2.1 dX6_cardsOf_41 hl (k := 3) rfl rfl (by decide) rfl (fun ls hl => ?_)
  refine lv_goto (tgt := 9) S.1 S.2.1 dX6_cardsOf_44 (by decide) ?_
  have hl := lv_sub hl (l' := [(0, .ref (ad 0 0)), (1, .int l1), (2, .int l2), (3, .int (l3 + 1))]) [1, 2, 3, 0] rfl
  exact hbk9 hS hw hl (by omega) (by omega) h
def wX6_cardsOf_9 (post : Int32 → Prop) (px : String → Prop) (mc ms : Nat) : Nat → Nat → Nat → Int32 → Int32 → Int32 → KS → Prop
  | 0 => fun _ _ _ _ _ _ => False
  | n + 1 => fun uc us l1 l2 l3 K => (((K 8 2 0) ≤ l3 → (post l2)) ∧ (¬ (K 8 2 0) ≤ l3 → ((okGet K 0 l3) ∧ (((K 9 0 l3.toNatClampNeg).toNatClampNeg < nC K) ∧ (((¬ (K 4 2 ((K 9 0 l3.toNatClampNeg).toNatClampNeg)) = l1 → (wX6_cardsOf_41 post px mc ms (wX6_cardsOf_9 post px mc ms n) uc us l1 l2 l3 K)) ∧ ((K 4 2 ((K 9 0 l3.toNatClampNeg).toNatClampNeg)) = l1 → (wX6_cardsOf_41 post px mc ms (wX6_cardsOf_9 post px mc ms n) uc us l1 (l2 + 1) l3 K))))))))
set_option maxHeartbeats 4000000 in
set_option maxRecDepth 100000 in
theorem bX6_cardsOf_9 {p : Program} {l : Launch} {e : Env} {s : State} {m : MethodId} {args : Array Value} {below : List Frame} {meth : Method} {c : Code} {D : va_G} {cI : Nat → ClassId} {e0 : Nat} {A : Nat → Prop} {ad : Nat → Nat → Nat} {M : KS} {ap : Int64} {o : Int64} {od : UInt64} {mc ms : Nat} {K : KS} {post : Int32 → Prop} {px : String → Prop} (hfl : l.stackTraces = false) (S : CallFix p m c cX6_cardsOf 4 s args WU RX6) (hg : GI D cI e0 A s s.heap) (hr : meth.sig.returnType = (some FieldType.int)) (hlk : meth.locks = false) (hout : ∀ x ∈ c.exceptionTable.toList, False) : ∀ n : Nat, ∀ {H : Heap} {locs : List Loc} {ls : Array Slot} {uc us : Nat} {l1 : Int32} {l2 : Int32} {l3 : Int32}, va_S A s.heap H locs → HT D cI e0 A ad K M ap o od H → lv_has ls 4 [(0, .ref (ad 0 0)), (1, .int l1), (2, .int l2), (3, .int l3)] → uc ≤ mc → us ≤ ms → wX6_cardsOf_9 post px mc ms n uc us l1 l2 l3 K → W p l e ({ frames := 7, cells := mc, slots := ms, locals := 103 } : Room) s m args below meth c H locs uc us (MQQ below (qP D cI e0 A ad K M ap o od rI post) (xP D cI e0 A ad K M ap o od px) args s mc ms A) (F0 m 9 ls []) := by
  intro n
  induction n with
  | zero => intros; exact False.elim (by assumption)
  | succ n ih =>
    intro H locs ls uc us l1 l2 l3 hS hw hl huc hus h
    unfold wX6_cardsOf_9 at h
    refine lv_iload_n S.1 S.2.1 dX6_cardsOf_9 rfl (lv_at hl 3 rfl) ?_
    refine lv_aload_n S.1 S.2.1 dX6_cardsOf_10 rfl (lv_at hl 0 rfl) ?_
    refine g0_5 S hg hw u121 dX6_cardsOf_11 ?_
    refine rL_size S hg hS hw (lv8 0) u173 hl.1 (Nat.le_of_ble_eq_true rfl) ⟨Nat.le_of_ble_eq_true rfl, Nat.le_of_ble_eq_true rfl⟩ ⟨by omega, by omega⟩ dX6_cardsOf_14 (fun H locs hw hS => ?_)
    refine lv_icmp_ge (tgt := 47) S.1 S.2.1 dX6_cardsOf_17 (by decide) (fun c3 => ?_) (fun c3 => ?_)
    · have h := h.1 c3
      refine lv_iload_n S.1 S.2.1 dX6_cardsOf_47 rfl (lv_at hl 2 rfl) ?_
      exact r_iret (y := yX6_cardsOf) S hr rfl hlk hS (by omega) (by omega) dX6_cardsOf_48 ⟨l2, rfl, h, hw⟩
    · have h := h.2 c3
      refine lv_aload_n S.1 S.2.1 dX6_cardsOf_20 rfl (lv_at hl 0 rfl) ?_
      refine g0_5 S hg hw u121 dX6_cardsOf_21 ?_
      refine lv_iload_n S.1 S.2.1 dX6_cardsOf_24 rfl (lv_at hl 3 rfl) ?_
      obtain ⟨g4, h⟩ := h
      refine rL_get S hg hS hw (lv8 0) g4 u177 hl.1 (Nat.le_of_ble_eq_true rfl) ⟨Nat.le_of_ble_eq_true rfl, Nat.le_of_ble_eq_true rfl⟩ ⟨by omega, by omega⟩ dX6_cardsOf_25 (fun H locs hw hS => ?_)
      show W p l e _ s m _ below meth c H locs _ _ _ (F0 m 28 ls [.ref (ad 4 ((K 9 0 l3.toNatClampNeg).toNatClampNeg))])
      obtain ⟨g5, h⟩ := h
      refine ck4 S hg hw g5 u191 dX6_cardsOf_28 ?_
      refine g4_2 S hg hw g5 u386 dX6_cardsOf_31 ?_
      refine lv_iload_n S.1 S.2.1 dX6_cardsOf_34 rfl (lv_at hl 1 rfl) ?_
      refine lv_icmp_ne (tgt := 41) S.1 S.2.1 dX6_cardsOf_35 (by decide) (fun c6 => ?_) (fun c6 => ?_)
      · have h := h.1 c6
        have hl := lv_sub hl (l' := [(0, .ref (ad 0 0)), (1, .int l1), (2, .int l2), (3, .int l3)]) [0, 1, 2, 3] rfl
        exact bX6_cardsOf_41 hfl S hg hr hlk hout ih hS hw hl (by omega) (by omega) h
      · have h := h.2 c6
        refine lv_iinc (v := l2 + 1) (lv' := [(2, .int (l2 + 1)), (0, .ref (ad 0 0)), (1, .int l1), (3, .int l3)]) S.1 S.2.1 dX6_cardsOf_38 hl (k := 2) rfl rfl (by decide) rfl (fun ls hl => ?_)
        have hl := lv_sub hl (l' := [(0, .ref (ad 0 0)), (1, .int l1), (2, .int (l2 + 1)), (3, .int l3)]) [1, 2, 0, 3] rfl
        exact bX6_cardsOf_41 hfl S hg hr hlk hout ih hS hw hl (by omega) (by omega) h
def wpX6_cardsOf (post : Int32 → Prop) (px : String → Prop) (mc ms : Nat) (K : KS) (p1 : Int32) : Prop := (∃ a1 a2 : Nat, 0 + a1 ≤ mc ∧ 0 + a2 ≤ ms ∧ wpX6_needPlayer (fun _ => ∃ n1 : Nat, wX6_cardsOf_9 post px mc ms n1 (0 + a1) (0 + a2) p1 0 0 K) px a1 a2 K p1)
theorem hdX6_cardsOf : yX6_cardsOf.cls ≠ "java/lang/invoke/MethodHandle" ∧ yX6_cardsOf.cls ≠ "java/lang/invoke/VarHandle" ∧ (parseMethodDescriptor yX6_cardsOf.desc).map (fun d => d.parameters.length) = some 1 := by decide +kernel
set_option maxHeartbeats 4000000 in
set_option maxRecDepth 100000 in
theorem mtX6_cardsOf {l : Launch} {D : va_G} {cI : Nat → ClassId} {e0 : Nat} {A : Nat → Prop} {ad : Nat → Nat → Nat} {K M : KS} {ap o : Int64} {od : UInt64} {mc ms : Nat} {p1 : Int32} {post : Int32 → Prop} {px : String → Prop} (hfl : l.stackTraces = false) (h : wpX6_cardsOf post px mc ms K p1) : CM l D cI e0 A yX6_cardsOf cX6_cardsOf 4 (some FieldType.int) 7 103 mc ms [.ref (ad 0 0), .int p1] (HT D cI e0 A ad K M ap o od) (qP D cI e0 A ad K M ap o od rI post) (xP D cI e0 A ad K M ap o od px) := by
  refine CM.of (by decide) (Nat.le_of_ble_eq_true rfl) (fun p e s m below meth c ls FX hw hS hl => ?_)
  obtain ⟨S, hg, hr, hlk, hnm, hout⟩ := FX
  have hl : lv_has ls 4 [(0, .ref (ad 0 0)), (1, .int p1)] := hl
  unfold wpX6_cardsOf at h
  refine lv_aload_n S.1 S.2.1 dX6_cardsOf_0 rfl (lv_at hl 0 rfl) ?_
  refine lv_iload_n S.1 S.2.1 dX6_cardsOf_1 rfl (lv_at hl 1 rfl) ?_
  obtain ⟨a1, a2, h1, h2, h⟩ := h
  refine r_call (rest := []) S hg hS (mtX6_needPlayer (mc := a1) (ms := a2) hfl h) u357 u359 u2 u27 u360 hdX6_needPlayer (rv0 hg hw) hw ⟨Nat.le_of_ble_eq_true rfl, Nat.le_of_ble_eq_true rfl⟩ ⟨by show 0 + a1 ≤ mc; omega, by show 0 + a2 ≤ ms; omega⟩ hl.1 (Nat.le_of_ble_eq_true rfl) rfl dX6_cardsOf_2 (fun E ce q H1 locs1 hx hS1 hc1 hc2 hc3 => by obtain ⟨hx1, hw1⟩ := hx; exact r_out hout hlk hS1 (by show (0 + a1) ≤ mc; omega) (by show (0 + a2) ≤ ms; omega) hc1 hc2 hc3 ⟨hx1, hw1⟩) (fun rv H locs hq hS => ?_)
  obtain ⟨_, rfl, h, hw⟩ := hq
  show W p l e _ s m _ below meth c H locs _ _ _ (F0 m 5 ls [])
  refine lv_iconst (v := 0) S.1 S.2.1 dX6_cardsOf_5 (by decide) ?_
  refine lv_istore_n (lv' := [(2, .int 0), (0, .ref (ad 0 0)), (1, .int p1)]) S.1 S.2.1 dX6_cardsOf_6 rfl hl (by decide) rfl (fun ls hl => ?_)
  refine lv_iconst (v := 0) S.1 S.2.1 dX6_cardsOf_7 (by decide) ?_
  refine lv_istore_n (lv' := [(3, .int 0), (2, .int 0), (0, .ref (ad 0 0)), (1, .int p1)]) S.1 S.2.1 dX6_cardsOf_8 rfl hl (by decide) rfl (fun ls hl => ?_)
  have hl := lv_sub hl (l' := [(0, .ref (ad 0 0)), (1, .int p1), (2, .int 0), (3, .int 0)]) [2, 3, 1, 0] rfl
  obtain ⟨n1, h⟩ := h
  exact bX6_cardsOf_9 hfl S hg hr hlk hout n1 hS hw hl (by omega) (by omega) h

-- X6.coinsOf
theorem dX6_coinsOf_0 : decode cX6_coinsOf 0 = .ok (.aload_n 0, 1) := by decide +kernel
theorem dX6_coinsOf_1 : decode cX6_coinsOf 1 = .ok (.iload_n 1, 1) := by decide +kernel
theorem dX6_coinsOf_2 : decode cX6_coinsOf 2 = .ok (.invokevirtual 65, 3) := by decide +kernel
theorem dX6_coinsOf_5 : decode cX6_coinsOf 5 = .ok (.aload_n 0, 1) := by decide +kernel
theorem dX6_coinsOf_6 : decode cX6_coinsOf 6 = .ok (.getfield 9, 3) := by decide +kernel
theorem dX6_coinsOf_9 : decode cX6_coinsOf 9 = .ok (.iload_n 1, 1) := by decide +kernel
theorem dX6_coinsOf_10 : decode cX6_coinsOf 10 = .ok (.iaload, 1) := by decide +kernel
theorem dX6_coinsOf_11 : decode cX6_coinsOf 11 = .ok (.ireturn, 1) := by decide +kernel
def wpX6_coinsOf (post : Int32 → Prop) (px : String → Prop) (mc ms : Nat) (K : KS) (p1 : Int32) : Prop := (∃ a1 a2 : Nat, 0 + a1 ≤ mc ∧ 0 + a2 ≤ ms ∧ wpX6_needPlayer (fun _ => (vp_in p1 6) ∧ (post (K 10 0 p1.toNatClampNeg))) px a1 a2 K p1)
theorem hdX6_coinsOf : yX6_coinsOf.cls ≠ "java/lang/invoke/MethodHandle" ∧ yX6_coinsOf.cls ≠ "java/lang/invoke/VarHandle" ∧ (parseMethodDescriptor yX6_coinsOf.desc).map (fun d => d.parameters.length) = some 1 := by decide +kernel
set_option maxHeartbeats 4000000 in
set_option maxRecDepth 100000 in
theorem mtX6_coinsOf {l : Launch} {D : va_G} {cI : Nat → ClassId} {e0 : Nat} {A : Nat → Prop} {ad : Nat → Nat → Nat} {K M : KS} {ap o : Int64} {od : UInt64} {mc ms : Nat} {p1 : Int32} {post : Int32 → Prop} {px : String → Prop} (hfl : l.stackTraces = false) (h : wpX6_coinsOf post px mc ms K p1) : CM l D cI e0 A yX6_coinsOf cX6_coinsOf 2 (some FieldType.int) 7 103 mc ms [.ref (ad 0 0), .int p1] (HT D cI e0 A ad K M ap o od) (qP D cI e0 A ad K M ap o od rI post) (xP D cI e0 A ad K M ap o od px) := by
  refine CM.of (by decide) (Nat.le_of_ble_eq_true rfl) (fun p e s m below meth c ls FX hw hS hl => ?_)
  obtain ⟨S, hg, hr, hlk, hnm, hout⟩ := FX
  have hl : lv_has ls 2 [(0, .ref (ad 0 0)), (1, .int p1)] := hl
  unfold wpX6_coinsOf at h
  refine lv_aload_n S.1 S.2.1 dX6_coinsOf_0 rfl (lv_at hl 0 rfl) ?_
  refine lv_iload_n S.1 S.2.1 dX6_coinsOf_1 rfl (lv_at hl 1 rfl) ?_
  obtain ⟨a1, a2, h1, h2, h⟩ := h
  refine r_call (rest := []) S hg hS (mtX6_needPlayer (mc := a1) (ms := a2) hfl h) u357 u359 u2 u27 u360 hdX6_needPlayer (rv0 hg hw) hw ⟨Nat.le_of_ble_eq_true rfl, Nat.le_of_ble_eq_true rfl⟩ ⟨by show 0 + a1 ≤ mc; omega, by show 0 + a2 ≤ ms; omega⟩ hl.1 (Nat.le_of_ble_eq_true rfl) rfl dX6_coinsOf_2 (fun E ce q H1 locs1 hx hS1 hc1 hc2 hc3 => by obtain ⟨hx1, hw1⟩ := hx; exact r_out hout hlk hS1 (by show (0 + a1) ≤ mc; omega) (by show (0 + a2) ≤ ms; omega) hc1 hc2 hc3 ⟨hx1, hw1⟩) (fun rv H locs hq hS => ?_)
  obtain ⟨_, rfl, h, hw⟩ := hq
  show W p l e _ s m _ below meth c H locs _ _ _ (F0 m 5 ls [])
  refine lv_aload_n S.1 S.2.1 dX6_coinsOf_5 rfl (lv_at hl 0 rfl) ?_
  refine g0_0 S hg hw u116 dX6_coinsOf_6 ?_
  refine lv_iload_n S.1 S.2.1 dX6_coinsOf_9 rfl (lv_at hl 1 rfl) ?_
  obtain ⟨g3, h⟩ := h
  refine a10 S hg hw (Nat.le_of_ble_eq_true rfl) g3 dX6_coinsOf_10 ?_
  exact r_iret (y := yX6_coinsOf) S hr rfl hlk hS (by omega) (by omega) dX6_coinsOf_11 ⟨(K 10 0 p1.toNatClampNeg), rfl, h, hw⟩

-- X6.postings
theorem dX6_postings_0 : decode cX6_postings 0 = .ok (.aload_n 0, 1) := by decide +kernel
theorem dX6_postings_1 : decode cX6_postings 1 = .ok (.getfield 32, 3) := by decide +kernel
theorem dX6_postings_4 : decode cX6_postings 4 = .ok (.getfield 111, 3) := by decide +kernel
theorem dX6_postings_7 : decode cX6_postings 7 = .ok (.ireturn, 1) := by decide +kernel
def wpX6_postings (post : Int32 → Prop) (K : KS) : Prop := post (K 1 1 0)
theorem hdX6_postings : yX6_postings.cls ≠ "java/lang/invoke/MethodHandle" ∧ yX6_postings.cls ≠ "java/lang/invoke/VarHandle" ∧ (parseMethodDescriptor yX6_postings.desc).map (fun d => d.parameters.length) = some 0 := by decide +kernel
set_option maxHeartbeats 4000000 in
set_option maxRecDepth 100000 in
theorem mtX6_postings {l : Launch} {D : va_G} {cI : Nat → ClassId} {e0 : Nat} {A : Nat → Prop} {ad : Nat → Nat → Nat} {K M : KS} {ap o : Int64} {od : UInt64} {mc ms : Nat} {post : Int32 → Prop} (h : wpX6_postings post K) : CM l D cI e0 A yX6_postings cX6_postings 1 (some FieldType.int) 0 0 mc ms [.ref (ad 0 0)] (HT D cI e0 A ad K M ap o od) (qP D cI e0 A ad K M ap o od rI post) xN := by
  refine CM.of (by decide) (Nat.le_of_ble_eq_true rfl) (fun p e s m below meth c ls FX hw hS hl => ?_)
  obtain ⟨S, hg, hr, hlk, hnm, hout⟩ := FX
  have hl : lv_has ls 1 [(0, .ref (ad 0 0))] := hl
  unfold wpX6_postings at h
  refine lv_aload_n S.1 S.2.1 dX6_postings_0 rfl (lv_at hl 0 rfl) ?_
  refine g0_9 S hg hw u125 dX6_postings_1 ?_
  refine g1_1 S hg hw u97 dX6_postings_4 ?_
  exact r_iret (y := yX6_postings) S hr rfl hlk hS (by omega) (by omega) dX6_postings_7 ⟨(K 1 1 0), rfl, h, hw⟩

-- X6.posting
theorem dX6_posting_0 : decode cX6_posting 0 = .ok (.iload_n 1, 1) := by decide +kernel
theorem dX6_posting_1 : decode cX6_posting 1 = .ok (.ifCond .lt 14, 3) := by decide +kernel
theorem dX6_posting_4 : decode cX6_posting 4 = .ok (.iload_n 1, 1) := by decide +kernel
theorem dX6_posting_5 : decode cX6_posting 5 = .ok (.aload_n 0, 1) := by decide +kernel
theorem dX6_posting_6 : decode cX6_posting 6 = .ok (.getfield 32, 3) := by decide +kernel
theorem dX6_posting_9 : decode cX6_posting 9 = .ok (.getfield 111, 3) := by decide +kernel
theorem dX6_posting_12 : decode cX6_posting 12 = .ok (.if_icmp .lt 13, 3) := by decide +kernel
theorem dX6_posting_15 : decode cX6_posting 15 = .ok (.new 114, 3) := by decide +kernel
theorem dX6_posting_18 : decode cX6_posting 18 = .ok (.dup, 1) := by decide +kernel
theorem dX6_posting_19 : decode cX6_posting 19 = .ok (.ldc 116, 2) := by decide +kernel
theorem dX6_posting_21 : decode cX6_posting 21 = .ok (.invokespecial 118, 3) := by decide +kernel
theorem dX6_posting_24 : decode cX6_posting 24 = .ok (.athrow, 1) := by decide +kernel
theorem dX6_posting_25 : decode cX6_posting 25 = .ok (.iload_n 2, 1) := by decide +kernel
theorem dX6_posting_26 : decode cX6_posting 26 = .ok (.bipush 99, 2) := by decide +kernel
theorem dX6_posting_28 : decode cX6_posting 28 = .ok (.if_icmp .ne 12, 3) := by decide +kernel
theorem dX6_posting_31 : decode cX6_posting 31 = .ok (.aload_n 0, 1) := by decide +kernel
theorem dX6_posting_32 : decode cX6_posting 32 = .ok (.getfield 32, 3) := by decide +kernel
theorem dX6_posting_35 : decode cX6_posting 35 = .ok (.iload_n 1, 1) := by decide +kernel
theorem dX6_posting_36 : decode cX6_posting 36 = .ok (.invokevirtual 119, 3) := by decide +kernel
theorem dX6_posting_39 : decode cX6_posting 39 = .ok (.ireturn, 1) := by decide +kernel
theorem dX6_posting_40 : decode cX6_posting 40 = .ok (.iload_n 2, 1) := by decide +kernel
theorem dX6_posting_41 : decode cX6_posting 41 = .ok (.bipush 102, 2) := by decide +kernel
theorem dX6_posting_43 : decode cX6_posting 43 = .ok (.if_icmp .ne 12, 3) := by decide +kernel
theorem dX6_posting_46 : decode cX6_posting 46 = .ok (.aload_n 0, 1) := by decide +kernel
theorem dX6_posting_47 : decode cX6_posting 47 = .ok (.getfield 32, 3) := by decide +kernel
theorem dX6_posting_50 : decode cX6_posting 50 = .ok (.iload_n 1, 1) := by decide +kernel
theorem dX6_posting_51 : decode cX6_posting 51 = .ok (.invokevirtual 122, 3) := by decide +kernel
theorem dX6_posting_54 : decode cX6_posting 54 = .ok (.ireturn, 1) := by decide +kernel
theorem dX6_posting_55 : decode cX6_posting 55 = .ok (.iload_n 2, 1) := by decide +kernel
theorem dX6_posting_56 : decode cX6_posting 56 = .ok (.bipush 116, 2) := by decide +kernel
theorem dX6_posting_58 : decode cX6_posting 58 = .ok (.if_icmp .ne 12, 3) := by decide +kernel
theorem dX6_posting_61 : decode cX6_posting 61 = .ok (.aload_n 0, 1) := by decide +kernel
theorem dX6_posting_62 : decode cX6_posting 62 = .ok (.getfield 32, 3) := by decide +kernel
theorem dX6_posting_65 : decode cX6_posting 65 = .ok (.iload_n 1, 1) := by decide +kernel
theorem dX6_posting_66 : decode cX6_posting 66 = .ok (.invokevirtual 125, 3) := by decide +kernel
theorem dX6_posting_69 : decode cX6_posting 69 = .ok (.ireturn, 1) := by decide +kernel
theorem dX6_posting_70 : decode cX6_posting 70 = .ok (.new 46, 3) := by decide +kernel
theorem dX6_posting_73 : decode cX6_posting 73 = .ok (.dup, 1) := by decide +kernel
theorem dX6_posting_74 : decode cX6_posting 74 = .ok (.ldc 128, 2) := by decide +kernel
theorem dX6_posting_76 : decode cX6_posting 76 = .ok (.invokespecial 50, 3) := by decide +kernel
theorem dX6_posting_79 : decode cX6_posting 79 = .ok (.athrow, 1) := by decide +kernel
def wpX6_posting (post : Int32 → Prop) (px : String → Prop) (mc ms : Nat) (K : KS) (p1 : Int32) (p2 : Int32) : Prop := ((p1 < 0 → ((0 + 1 ≤ mc ∧ 0 + 6 ≤ ms ∧ px "java/lang/IndexOutOfBoundsException"))) ∧ (¬ p1 < 0 → (((p1 < (K 1 1 0) → (((¬ p2 = 99 → (((¬ p2 = 102 → (((¬ p2 = 116 → ((0 + 1 ≤ mc ∧ 0 + 6 ≤ ms ∧ px "java/lang/IllegalArgumentException"))) ∧ (p2 = 116 → ((wpX3_takerIn (fun r10 => post r10) K p1)))))) ∧ (p2 = 102 → ((wpX3_giverIn (fun r11 => post r11) K p1)))))) ∧ (p2 = 99 → ((wpX3_cardIn (fun r12 => post r12) K p1)))))) ∧ (¬ p1 < (K 1 1 0) → ((0 + 1 ≤ mc ∧ 0 + 6 ≤ ms ∧ px "java/lang/IndexOutOfBoundsException")))))))
theorem hdX6_posting : yX6_posting.cls ≠ "java/lang/invoke/MethodHandle" ∧ yX6_posting.cls ≠ "java/lang/invoke/VarHandle" ∧ (parseMethodDescriptor yX6_posting.desc).map (fun d => d.parameters.length) = some 2 := by decide +kernel
set_option maxHeartbeats 4000000 in
set_option maxRecDepth 100000 in
theorem mtX6_posting {l : Launch} {D : va_G} {cI : Nat → ClassId} {e0 : Nat} {A : Nat → Prop} {ad : Nat → Nat → Nat} {K M : KS} {ap o : Int64} {od : UInt64} {mc ms : Nat} {p1 : Int32} {p2 : Int32} {post : Int32 → Prop} {px : String → Prop} (hfl : l.stackTraces = false) (h : wpX6_posting post px mc ms K p1 p2) : CM l D cI e0 A yX6_posting cX6_posting 3 (some FieldType.int) 6 82 mc ms [.ref (ad 0 0), .int p1, .int p2] (HT D cI e0 A ad K M ap o od) (qP D cI e0 A ad K M ap o od rI post) (xP D cI e0 A ad K M ap o od px) := by
  refine CM.of (by decide) (Nat.le_of_ble_eq_true rfl) (fun p e s m below meth c ls FX hw hS hl => ?_)
  obtain ⟨S, hg, hr, hlk, hnm, hout⟩ := FX
  have hl : lv_has ls 3 [(0, .ref (ad 0 0)), (1, .int p1), (2, .int p2)] := hl
  unfold wpX6_posting at h
  refine lv_iload_n S.1 S.2.1 dX6_posting_0 rfl (lv_at hl 1 rfl) ?_
  refine lv_if_lt (tgt := 15) S.1 S.2.1 dX6_posting_1 (by decide) (fun c1 => ?_) (fun c1 => ?_)
  · have h := h.1 c1
    obtain ⟨g2, g3, h⟩ := h
    exact r_throw (fr := 0) (lo := 0) (text := "no such posting") hfl S hout hlk hg hS (by decide) u361 u37 (by decide +kernel) hat_118 hl.1 dX6_posting_15 dX6_posting_18 dX6_posting_19 dX6_posting_21 dX6_posting_24 (Nat.le_of_ble_eq_true rfl) (Nat.le_of_ble_eq_true rfl) g2 g3 g2 g3 (fun H1 hz hk => ⟨h, hw.more hk⟩)
  · have h := h.2 c1
    refine lv_iload_n S.1 S.2.1 dX6_posting_4 rfl (lv_at hl 1 rfl) ?_
    refine lv_aload_n S.1 S.2.1 dX6_posting_5 rfl (lv_at hl 0 rfl) ?_
    refine g0_9 S hg hw u125 dX6_posting_6 ?_
    refine g1_1 S hg hw u97 dX6_posting_9 ?_
    refine lv_icmp_lt (tgt := 25) S.1 S.2.1 dX6_posting_12 (by decide) (fun c4 => ?_) (fun c4 => ?_)
    · have h := h.1 c4
      refine lv_iload_n S.1 S.2.1 dX6_posting_25 rfl (lv_at hl 2 rfl) ?_
      refine lv_bipush (v := 99) S.1 S.2.1 dX6_posting_26 (by decide) ?_
      refine lv_icmp_ne (tgt := 40) S.1 S.2.1 dX6_posting_28 (by decide) (fun c5 => ?_) (fun c5 => ?_)
      · have h := h.1 c5
        refine lv_iload_n S.1 S.2.1 dX6_posting_40 rfl (lv_at hl 2 rfl) ?_
        refine lv_bipush (v := 102) S.1 S.2.1 dX6_posting_41 (by decide) ?_
        refine lv_icmp_ne (tgt := 55) S.1 S.2.1 dX6_posting_43 (by decide) (fun c6 => ?_) (fun c6 => ?_)
        · have h := h.1 c6
          refine lv_iload_n S.1 S.2.1 dX6_posting_55 rfl (lv_at hl 2 rfl) ?_
          refine lv_bipush (v := 116) S.1 S.2.1 dX6_posting_56 (by decide) ?_
          refine lv_icmp_ne (tgt := 70) S.1 S.2.1 dX6_posting_58 (by decide) (fun c7 => ?_) (fun c7 => ?_)
          · have h := h.1 c7
            obtain ⟨g8, g9, h⟩ := h
            exact r_throw (fr := 0) (lo := 0) (text := "no such thing in a posting") hfl S hout hlk hg hS (by decide) u321 u41 (by decide +kernel) hat_50 hl.1 dX6_posting_70 dX6_posting_73 dX6_posting_74 dX6_posting_76 dX6_posting_79 (Nat.le_of_ble_eq_true rfl) (Nat.le_of_ble_eq_true rfl) g8 g9 g8 g9 (fun H1 hz hk => ⟨h, hw.more hk⟩)
          · have h := h.2 c7
            refine lv_aload_n S.1 S.2.1 dX6_posting_61 rfl (lv_at hl 0 rfl) ?_
            refine g0_9 S hg hw u125 dX6_posting_62 ?_
            refine lv_iload_n S.1 S.2.1 dX6_posting_65 rfl (lv_at hl 1 rfl) ?_
            refine r_call (rest := []) S hg hS (mtX3_takerIn (mc := 0) (ms := 0) h) u516 u205 u206 u31 u207 hdX3_takerIn (rv1 hg hw) hw ⟨Nat.le_of_ble_eq_true rfl, Nat.le_of_ble_eq_true rfl⟩ ⟨by show 0 + 0 ≤ mc; omega, by show 0 + 0 ≤ ms; omega⟩ hl.1 (Nat.le_of_ble_eq_true rfl) rfl dX6_posting_66 (fun E ce q H1 locs1 hx hS1 hc1 hc2 hc3 => hx.elim) (fun rv H locs hq hS => ?_)
            obtain ⟨r10, rfl, h, hw⟩ := hq
            show W p l e _ s m _ below meth c H locs _ _ _ (F0 m 69 ls [.int r10])
            show W p l e _ s m _ below meth c H locs 0 0 _ _
            exact r_iret (y := yX6_posting) S hr rfl hlk hS (by omega) (by omega) dX6_posting_69 ⟨r10, rfl, h, hw⟩
        · have h := h.2 c6
          refine lv_aload_n S.1 S.2.1 dX6_posting_46 rfl (lv_at hl 0 rfl) ?_
          refine g0_9 S hg hw u125 dX6_posting_47 ?_
          refine lv_iload_n S.1 S.2.1 dX6_posting_50 rfl (lv_at hl 1 rfl) ?_
          refine r_call (rest := []) S hg hS (mtX3_giverIn (mc := 0) (ms := 0) h) u512 u513 u514 u31 u515 hdX3_giverIn (rv1 hg hw) hw ⟨Nat.le_of_ble_eq_true rfl, Nat.le_of_ble_eq_true rfl⟩ ⟨by show 0 + 0 ≤ mc; omega, by show 0 + 0 ≤ ms; omega⟩ hl.1 (Nat.le_of_ble_eq_true rfl) rfl dX6_posting_51 (fun E ce q H1 locs1 hx hS1 hc1 hc2 hc3 => hx.elim) (fun rv H locs hq hS => ?_)
          obtain ⟨r11, rfl, h, hw⟩ := hq
          show W p l e _ s m _ below meth c H locs _ _ _ (F0 m 54 ls [.int r11])
          show W p l e _ s m _ below meth c H locs 0 0 _ _
          exact r_iret (y := yX6_posting) S hr rfl hlk hS (by omega) (by omega) dX6_posting_54 ⟨r11, rfl, h, hw⟩
      · have h := h.2 c5
        refine lv_aload_n S.1 S.2.1 dX6_posting_31 rfl (lv_at hl 0 rfl) ?_
        refine g0_9 S hg hw u125 dX6_posting_32 ?_
        refine lv_iload_n S.1 S.2.1 dX6_posting_35 rfl (lv_at hl 1 rfl) ?_
        refine r_call (rest := []) S hg hS (mtX3_cardIn (mc := 0) (ms := 0) h) u511 u197 u198 u31 u199 hdX3_cardIn (rv1 hg hw) hw ⟨Nat.le_of_ble_eq_true rfl, Nat.le_of_ble_eq_true rfl⟩ ⟨by show 0 + 0 ≤ mc; omega, by show 0 + 0 ≤ ms; omega⟩ hl.1 (Nat.le_of_ble_eq_true rfl) rfl dX6_posting_36 (fun E ce q H1 locs1 hx hS1 hc1 hc2 hc3 => hx.elim) (fun rv H locs hq hS => ?_)
        obtain ⟨r12, rfl, h, hw⟩ := hq
        show W p l e _ s m _ below meth c H locs _ _ _ (F0 m 39 ls [.int r12])
        show W p l e _ s m _ below meth c H locs 0 0 _ _
        exact r_iret (y := yX6_posting) S hr rfl hlk hS (by omega) (by omega) dX6_posting_39 ⟨r12, rfl, h, hw⟩
    · have h := h.2 c4
      obtain ⟨g13, g14, h⟩ := h
      exact r_throw (fr := 0) (lo := 0) (text := "no such posting") hfl S hout hlk hg hS (by decide) u361 u37 (by decide +kernel) hat_118 hl.1 dX6_posting_15 dX6_posting_18 dX6_posting_19 dX6_posting_21 dX6_posting_24 (Nat.le_of_ble_eq_true rfl) (Nat.le_of_ble_eq_true rfl) g13 g14 g13 g14 (fun H1 hz hk => ⟨h, hw.more hk⟩)

-- X6.stake
theorem dX6_stake_0 : decode cX6_stake 0 = .ok (.aload_n 0, 1) := by decide +kernel
theorem dX6_stake_1 : decode cX6_stake 1 = .ok (.iload_n 1, 1) := by decide +kernel
theorem dX6_stake_2 : decode cX6_stake 2 = .ok (.invokevirtual 145, 3) := by decide +kernel
theorem dX6_stake_5 : decode cX6_stake 5 = .ok (.astore_n 3, 1) := by decide +kernel
theorem dX6_stake_6 : decode cX6_stake 6 = .ok (.aload_n 0, 1) := by decide +kernel
theorem dX6_stake_7 : decode cX6_stake 7 = .ok (.iload_n 2, 1) := by decide +kernel
theorem dX6_stake_8 : decode cX6_stake 8 = .ok (.invokevirtual 89, 3) := by decide +kernel
theorem dX6_stake_11 : decode cX6_stake 11 = .ok (.astore 4, 2) := by decide +kernel
theorem dX6_stake_13 : decode cX6_stake 13 = .ok (.aload_n 3, 1) := by decide +kernel
theorem dX6_stake_14 : decode cX6_stake 14 = .ok (.getfield 149, 3) := by decide +kernel
theorem dX6_stake_17 : decode cX6_stake 17 = .ok (.bipush 111, 2) := by decide +kernel
theorem dX6_stake_19 : decode cX6_stake 19 = .ok (.if_icmp .ne 15, 3) := by decide +kernel
theorem dX6_stake_22 : decode cX6_stake 22 = .ok (.aload_n 3, 1) := by decide +kernel
theorem dX6_stake_23 : decode cX6_stake 23 = .ok (.aload 4, 2) := by decide +kernel
theorem dX6_stake_25 : decode cX6_stake 25 = .ok (.getfield 93, 3) := by decide +kernel
theorem dX6_stake_28 : decode cX6_stake 28 = .ok (.invokevirtual 150, 3) := by decide +kernel
theorem dX6_stake_31 : decode cX6_stake 31 = .ok (.ifCond .ne 13, 3) := by decide +kernel
theorem dX6_stake_34 : decode cX6_stake 34 = .ok (.new 154, 3) := by decide +kernel
theorem dX6_stake_37 : decode cX6_stake 37 = .ok (.dup, 1) := by decide +kernel
theorem dX6_stake_38 : decode cX6_stake 38 = .ok (.ldc 156, 2) := by decide +kernel
theorem dX6_stake_40 : decode cX6_stake 40 = .ok (.invokespecial 158, 3) := by decide +kernel
theorem dX6_stake_43 : decode cX6_stake 43 = .ok (.athrow, 1) := by decide +kernel
theorem dX6_stake_44 : decode cX6_stake 44 = .ok (.aload_n 3, 1) := by decide +kernel
theorem dX6_stake_45 : decode cX6_stake 45 = .ok (.aload 4, 2) := by decide +kernel
theorem dX6_stake_47 : decode cX6_stake 47 = .ok (.getfield 93, 3) := by decide +kernel
theorem dX6_stake_50 : decode cX6_stake 50 = .ok (.invokevirtual 159, 3) := by decide +kernel
theorem dX6_stake_53 : decode cX6_stake 53 = .ok (.astore 5, 2) := by decide +kernel
theorem dX6_stake_55 : decode cX6_stake 55 = .ok (.aload 4, 2) := by decide +kernel
theorem dX6_stake_57 : decode cX6_stake 57 = .ok (.getfield 103, 3) := by decide +kernel
theorem dX6_stake_60 : decode cX6_stake 60 = .ok (.bipush 45, 2) := by decide +kernel
theorem dX6_stake_62 : decode cX6_stake 62 = .ok (.if_icmp .ne 24, 3) := by decide +kernel
theorem dX6_stake_65 : decode cX6_stake 65 = .ok (.aload 4, 2) := by decide +kernel
theorem dX6_stake_67 : decode cX6_stake 67 = .ok (.getfield 163, 3) := by decide +kernel
theorem dX6_stake_70 : decode cX6_stake 70 = .ok (.ifCond .ne 16, 3) := by decide +kernel
theorem dX6_stake_73 : decode cX6_stake 73 = .ok (.aload 5, 2) := by decide +kernel
theorem dX6_stake_75 : decode cX6_stake 75 = .ok (.getfield 167, 3) := by decide +kernel
theorem dX6_stake_78 : decode cX6_stake 78 = .ok (.invokevirtual 71, 3) := by decide +kernel
theorem dX6_stake_81 : decode cX6_stake 81 = .ok (.bipush 8, 2) := by decide +kernel
theorem dX6_stake_83 : decode cX6_stake 83 = .ok (.if_icmp .lt 13, 3) := by decide +kernel
theorem dX6_stake_86 : decode cX6_stake 86 = .ok (.new 57, 3) := by decide +kernel
theorem dX6_stake_89 : decode cX6_stake 89 = .ok (.dup, 1) := by decide +kernel
theorem dX6_stake_90 : decode cX6_stake 90 = .ok (.ldc 172, 2) := by decide +kernel
theorem dX6_stake_92 : decode cX6_stake 92 = .ok (.invokespecial 61, 3) := by decide +kernel
theorem dX6_stake_95 : decode cX6_stake 95 = .ok (.athrow, 1) := by decide +kernel
theorem dX6_stake_96 : decode cX6_stake 96 = .ok (.aload 5, 2) := by decide +kernel
theorem dX6_stake_98 : decode cX6_stake 98 = .ok (.getfield 167, 3) := by decide +kernel
theorem dX6_stake_101 : decode cX6_stake 101 = .ok (.aload 4, 2) := by decide +kernel
theorem dX6_stake_103 : decode cX6_stake 103 = .ok (.invokevirtual 82, 3) := by decide +kernel
theorem dX6_stake_106 : decode cX6_stake 106 = .ok (.pop, 1) := by decide +kernel
theorem dX6_stake_107 : decode cX6_stake 107 = .ok (.aload 4, 2) := by decide +kernel
theorem dX6_stake_109 : decode cX6_stake 109 = .ok (.bipush 115, 2) := by decide +kernel
theorem dX6_stake_111 : decode cX6_stake 111 = .ok (.putfield 103, 3) := by decide +kernel
theorem dX6_stake_114 : decode cX6_stake 114 = .ok (.aload 4, 2) := by decide +kernel
theorem dX6_stake_116 : decode cX6_stake 116 = .ok (.iload_n 1, 1) := by decide +kernel
theorem dX6_stake_117 : decode cX6_stake 117 = .ok (.putfield 174, 3) := by decide +kernel
theorem dX6_stake_120 : decode cX6_stake 120 = .ok (.aload 5, 2) := by decide +kernel
theorem dX6_stake_122 : decode cX6_stake 122 = .ok (.getfield 167, 3) := by decide +kernel
theorem dX6_stake_125 : decode cX6_stake 125 = .ok (.invokevirtual 71, 3) := by decide +kernel
theorem dX6_stake_128 : decode cX6_stake 128 = .ok (.ireturn, 1) := by decide +kernel
def wpX6_stake (post : Int32 → KS → Prop) (px : String → KS → Prop) (mc ms : Nat) (K : KS) (p1 : Int32) (p2 : Int32) : Prop := (∃ a1 a2 : Nat, 0 + a1 ≤ mc ∧ 0 + a2 ≤ ms ∧ wpX6_duelAt (fun r3 => (∃ a4 a5 : Nat, (0 + a1) + a4 ≤ mc ∧ (0 + a2) + a5 ≤ ms ∧ wpX6_cardAt (fun r6 => (r3 < nD K) ∧ (((¬ (K 6 2 r3) = 111 → ((((0 + a1) + a4) + 1 ≤ mc ∧ ((0 + a2) + a5) + 6 ≤ ms ∧ px "java/lang/UnsupportedOperationException" K))) ∧ ((K 6 2 r3) = 111 → ((r6 < nC K) ∧ ((wpX2_isOf (fun r12 => ((¬ r12 = 0 → ((wpX2_sideOf (fun r14 => ((¬ (K 4 3 r6) = 45 → ((((0 + a1) + a4) + 1 ≤ mc ∧ ((0 + a2) + a5) + 6 ≤ ms ∧ px "java/lang/IllegalStateException" K))) ∧ ((K 4 3 r6) = 45 → (((¬ (K 4 4 r6) = 0 → ((((0 + a1) + a4) + 1 ≤ mc ∧ ((0 + a2) + a5) + 6 ≤ ms ∧ px "java/lang/IllegalStateException" K))) ∧ ((K 4 4 r6) = 0 → ((r14 < 2 * nD K) ∧ ((((K 8 2 (r14 + 4)) < 8 → ((∃ a23 a24 : Nat, ((0 + a1) + a4) + a23 ≤ mc ∧ ((0 + a2) + a5) + a24 ≤ ms ∧ okAdd K (r14 + 4) a23 a24 ∧ (post ((k3 (k3 (lAdd K (r14 + 4) r6) 4 3 r6 115) 4 5 r6 p1) 8 2 (r14 + 4)) (k3 (k3 (lAdd K (r14 + 4) r6) 4 3 r6 115) 4 5 r6 p1))))) ∧ (¬ (K 8 2 (r14 + 4)) < 8 → ((((0 + a1) + a4) + 1 ≤ mc ∧ ((0 + a2) + a5) + 6 ≤ ms ∧ px "java/lang/IllegalStateException" K)))))))))))) K r3 (K 4 2 r6)))) ∧ (r12 = 0 → ((((0 + a1) + a4) + 1 ≤ mc ∧ ((0 + a2) + a5) + 6 ≤ ms ∧ px "java/lang/UnsupportedOperationException" K))))) K r3 (K 4 2 r6)))))))) (fun E => px E K) a4 a5 K p2)) (fun E => px E K) a1 a2 K p1)
theorem hdX6_stake : yX6_stake.cls ≠ "java/lang/invoke/MethodHandle" ∧ yX6_stake.cls ≠ "java/lang/invoke/VarHandle" ∧ (parseMethodDescriptor yX6_stake.desc).map (fun d => d.parameters.length) = some 2 := by decide +kernel
set_option maxHeartbeats 4000000 in
set_option maxRecDepth 100000 in
theorem mtX6_stake {l : Launch} {D : va_G} {cI : Nat → ClassId} {e0 : Nat} {A : Nat → Prop} {ad : Nat → Nat → Nat} {K M : KS} {ap o : Int64} {od : UInt64} {mc ms : Nat} {p1 : Int32} {p2 : Int32} {post : Int32 → KS → Prop} {px : String → KS → Prop} (hfl : l.stackTraces = false) (h : wpX6_stake post px mc ms K p1 p2) : CM l D cI e0 A yX6_stake cX6_stake 6 (some FieldType.int) 7 321 mc ms [.ref (ad 0 0), .int p1, .int p2] (HT D cI e0 A ad K M ap o od) (qK D cI e0 A ad M ap o od rI post) (xK D cI e0 A ad M ap o od px) := by
  refine CM.of (by decide) (Nat.le_of_ble_eq_true rfl) (fun p e s m below meth c ls FX hw hS hl => ?_)
  obtain ⟨S, hg, hr, hlk, hnm, hout⟩ := FX
  have hl : lv_has ls 6 [(0, .ref (ad 0 0)), (1, .int p1), (2, .int p2)] := hl
  unfold wpX6_stake at h
  refine lv_aload_n S.1 S.2.1 dX6_stake_0 rfl (lv_at hl 0 rfl) ?_
  refine lv_iload_n S.1 S.2.1 dX6_stake_1 rfl (lv_at hl 1 rfl) ?_
  obtain ⟨a1, a2, h1, h2, h⟩ := h
  refine r_call (rest := []) S hg hS (mtX6_duelAt (mc := a1) (ms := a2) hfl h) u618 u620 u8 u27 u621 hdX6_duelAt (rv0 hg hw) hw ⟨Nat.le_of_ble_eq_true rfl, Nat.le_of_ble_eq_true rfl⟩ ⟨by show 0 + a1 ≤ mc; omega, by show 0 + a2 ≤ ms; omega⟩ hl.1 (Nat.le_of_ble_eq_true rfl) rfl dX6_stake_2 (fun E ce q H1 locs1 hx hS1 hc1 hc2 hc3 => by obtain ⟨hx1, hw1⟩ := hx; exact r_out hout hlk hS1 (by show (0 + a1) ≤ mc; omega) (by show (0 + a2) ≤ ms; omega) hc1 hc2 hc3 ⟨_, hx1, hw1⟩) (fun rv H locs hq hS => ?_)
  obtain ⟨r3, rfl, h, hw⟩ := hq
  show W p l e _ s m _ below meth c H locs _ _ _ (F0 m 5 ls [.ref (ad 6 r3)])
  refine lv_astore_n (lv' := [(3, .ref (ad 6 r3)), (0, .ref (ad 0 0)), (1, .int p1), (2, .int p2)]) S.1 S.2.1 dX6_stake_5 rfl hl (by decide) rfl (fun ls hl => ?_)
  refine lv_aload_n S.1 S.2.1 dX6_stake_6 rfl (lv_at hl 1 rfl) ?_
  refine lv_iload_n S.1 S.2.1 dX6_stake_7 rfl (lv_at hl 3 rfl) ?_
  obtain ⟨a4, a5, h1, h2, h⟩ := h
  refine r_call (rest := []) S hg hS (mtX6_cardAt (mc := a4) (ms := a5) hfl h) u485 u487 u6 u27 u488 hdX6_cardAt (rv0 hg hw) hw ⟨Nat.le_of_ble_eq_true rfl, Nat.le_of_ble_eq_true rfl⟩ ⟨by show (0 + a1) + a4 ≤ mc; omega, by show (0 + a2) + a5 ≤ ms; omega⟩ hl.1 (Nat.le_of_ble_eq_true rfl) rfl dX6_stake_8 (fun E ce q H1 locs1 hx hS1 hc1 hc2 hc3 => by obtain ⟨hx1, hw1⟩ := hx; exact r_out hout hlk hS1 (by show ((0 + a1) + a4) ≤ mc; omega) (by show ((0 + a2) + a5) ≤ ms; omega) hc1 hc2 hc3 ⟨_, hx1, hw1⟩) (fun rv H locs hq hS => ?_)
  obtain ⟨r6, rfl, h, hw⟩ := hq
  show W p l e _ s m _ below meth c H locs _ _ _ (F0 m 11 ls [.ref (ad 4 r6)])
  refine lv_astore (lv' := [(4, .ref (ad 4 r6)), (3, .ref (ad 6 r3)), (0, .ref (ad 0 0)), (1, .int p1), (2, .int p2)]) S.1 S.2.1 dX6_stake_11 hl (by decide) rfl (fun ls hl => ?_)
  refine lv_aload_n S.1 S.2.1 dX6_stake_13 rfl (lv_at hl 1 rfl) ?_
  obtain ⟨g7, h⟩ := h
  refine g6_2 S hg hw g7 u578 dX6_stake_14 ?_
  refine lv_bipush (v := 111) S.1 S.2.1 dX6_stake_17 (by decide) ?_
  refine lv_icmp_ne (tgt := 34) S.1 S.2.1 dX6_stake_19 (by decide) (fun c8 => ?_) (fun c8 => ?_)
  · have h := h.1 c8
    obtain ⟨g9, g10, h⟩ := h
    exact r_throw (fr := 0) (lo := 0) (text := "not open, or not a duel of the card's owner") hfl S hout hlk hg hS (by decide) u623 u51 (by decide +kernel) hat_158 hl.1 dX6_stake_34 dX6_stake_37 dX6_stake_38 dX6_stake_40 dX6_stake_43 (Nat.le_of_ble_eq_true rfl) (Nat.le_of_ble_eq_true rfl) g9 g10 g9 g10 (fun H1 hz hk => ⟨_, h, hw.more hk⟩)
  · have h := h.2 c8
    refine lv_aload_n S.1 S.2.1 dX6_stake_22 rfl (lv_at hl 1 rfl) ?_
    refine lv_aload S.1 S.2.1 dX6_stake_23 (lv_at hl 0 rfl) ?_
    obtain ⟨g11, h⟩ := h
    refine g4_2 S hg hw g11 u386 dX6_stake_25 ?_
    refine r_call (rest := []) S hg hS (mtX2_isOf (mc := 0) (ms := 0) h) u532 u533 u534 u49 u535 hdX2_isOf (rv6 hg hw g7) hw ⟨Nat.le_of_ble_eq_true rfl, Nat.le_of_ble_eq_true rfl⟩ ⟨by show ((0 + a1) + a4) + 0 ≤ mc; omega, by show ((0 + a2) + a5) + 0 ≤ ms; omega⟩ hl.1 (Nat.le_of_ble_eq_true rfl) rfl dX6_stake_28 (fun E ce q H1 locs1 hx hS1 hc1 hc2 hc3 => hx.elim) (fun rv H locs hq hS => ?_)
    obtain ⟨r12, rfl, h, hw⟩ := hq
    show W p l e _ s m _ below meth c H locs _ _ _ (F0 m 31 ls [.int r12])
    show W p l e _ s m _ below meth c H locs ((0 + a1) + a4) ((0 + a2) + a5) _ _
    refine lv_if_ne (tgt := 44) S.1 S.2.1 dX6_stake_31 (by decide) (fun c13 => ?_) (fun c13 => ?_)
    · have h := h.1 c13
      refine lv_aload_n S.1 S.2.1 dX6_stake_44 rfl (lv_at hl 1 rfl) ?_
      refine lv_aload S.1 S.2.1 dX6_stake_45 (lv_at hl 0 rfl) ?_
      refine g4_2 S hg hw g11 u386 dX6_stake_47 ?_
      refine r_call (rest := []) S hg hS (mtX2_sideOf (mc := 0) (ms := 0) h) u639 u640 u641 u49 u642 hdX2_sideOf (rv6 hg hw g7) hw ⟨Nat.le_of_ble_eq_true rfl, Nat.le_of_ble_eq_true rfl⟩ ⟨by show ((0 + a1) + a4) + 0 ≤ mc; omega, by show ((0 + a2) + a5) + 0 ≤ ms; omega⟩ hl.1 (Nat.le_of_ble_eq_true rfl) rfl dX6_stake_50 (fun E ce q H1 locs1 hx hS1 hc1 hc2 hc3 => hx.elim) (fun rv H locs hq hS => ?_)
      obtain ⟨r14, rfl, h, hw⟩ := hq
      show W p l e _ s m _ below meth c H locs _ _ _ (F0 m 53 ls [.ref (ad 7 r14)])
      show W p l e _ s m _ below meth c H locs ((0 + a1) + a4) ((0 + a2) + a5) _ _
      refine lv_astore (lv' := [(5, .ref (ad 7 r14)), (4, .ref (ad 4 r6)), (3, .ref (ad 6 r3)), (0, .ref (ad 0 0)), (1, .int p1), (2, .int p2)]) S.1 S.2.1 dX6_stake_53 hl (by decide) rfl (fun ls hl => ?_)
      refine lv_aload S.1 S.2.1 dX6_stake_55 (lv_at hl 1 rfl) ?_
      refine g4_3 S hg hw g11 u388 dX6_stake_57 ?_
      refine lv_bipush (v := 45) S.1 S.2.1 dX6_stake_60 (by decide) ?_
      refine lv_icmp_ne (tgt := 86) S.1 S.2.1 dX6_stake_62 (by decide) (fun c15 => ?_) (fun c15 => ?_)
      · have h := h.1 c15
        obtain ⟨g16, g17, h⟩ := h
        exact r_throw (fr := 0) (lo := 0) (text := "the card is not free, is offered, or is one too many") hfl S hout hlk hg hS (by decide) u337 u42 (by decide +kernel) hat_61 hl.1 dX6_stake_86 dX6_stake_89 dX6_stake_90 dX6_stake_92 dX6_stake_95 (Nat.le_of_ble_eq_true rfl) (Nat.le_of_ble_eq_true rfl) g16 g17 g16 g17 (fun H1 hz hk => ⟨_, h, hw.more hk⟩)
      · have h := h.2 c15
        refine lv_aload S.1 S.2.1 dX6_stake_65 (lv_at hl 1 rfl) ?_
        refine g4_4 S hg hw g11 u389 dX6_stake_67 ?_
        refine lv_if_ne (tgt := 86) S.1 S.2.1 dX6_stake_70 (by decide) (fun c18 => ?_) (fun c18 => ?_)
        · have h := h.1 c18
          obtain ⟨g19, g20, h⟩ := h
          exact r_throw (fr := 0) (lo := 0) (text := "the card is not free, is offered, or is one too many") hfl S hout hlk hg hS (by decide) u337 u42 (by decide +kernel) hat_61 hl.1 dX6_stake_86 dX6_stake_89 dX6_stake_90 dX6_stake_92 dX6_stake_95 (Nat.le_of_ble_eq_true rfl) (Nat.le_of_ble_eq_true rfl) g19 g20 g19 g20 (fun H1 hz hk => ⟨_, h, hw.more hk⟩)
        · have h := h.2 c18
          refine lv_aload S.1 S.2.1 dX6_stake_73 (lv_at hl 0 rfl) ?_
          obtain ⟨g21, h⟩ := h
          refine g7_2 S hg hw g21 u561 dX6_stake_75 ?_
          refine rL_size S hg hS hw (lv8s g21) u173 hl.1 (Nat.le_of_ble_eq_true rfl) ⟨Nat.le_of_ble_eq_true rfl, Nat.le_of_ble_eq_true rfl⟩ ⟨by omega, by omega⟩ dX6_stake_78 (fun H locs hw hS => ?_)
          refine lv_bipush (v := 8) S.1 S.2.1 dX6_stake_81 (by decide) ?_
          refine lv_icmp_lt (tgt := 96) S.1 S.2.1 dX6_stake_83 (by decide) (fun c22 => ?_) (fun c22 => ?_)
          · have h := h.1 c22
            refine lv_aload S.1 S.2.1 dX6_stake_96 (lv_at hl 0 rfl) ?_
            refine g7_2 S hg hw g21 u561 dX6_stake_98 ?_
            refine lv_aload S.1 S.2.1 dX6_stake_101 (lv_at hl 1 rfl) ?_
            obtain ⟨a23, a24, h1, h2, g25, h⟩ := h
            refine rL_add (mc := a23) (ms := a24) S hg hS hw (lv8s g21) g11 g25 hl.1 (Nat.le_of_ble_eq_true rfl) ⟨Nat.le_of_ble_eq_true rfl, Nat.le_of_ble_eq_true rfl⟩ ⟨by show ((0 + a1) + a4) + a23 ≤ mc; omega, by show ((0 + a2) + a5) + a24 ≤ ms; omega⟩ u405 dX6_stake_103 (fun H locs hw hS => ?_)
            refine lv_pop S.1 S.2.1 dX6_stake_106 rfl ?_
            refine lv_aload S.1 S.2.1 dX6_stake_107 (lv_at hl 1 rfl) ?_
            refine lv_bipush (v := 115) S.1 S.2.1 dX6_stake_109 (by decide) ?_
            refine p4_3 S hg hS hw g11 rfl rfl u388 dX6_stake_111 (fun H locs hw hS => ?_)
            refine lv_aload S.1 S.2.1 dX6_stake_114 (lv_at hl 1 rfl) ?_
            refine lv_iload_n S.1 S.2.1 dX6_stake_116 rfl (lv_at hl 4 rfl) ?_
            refine p4_5 S hg hS hw g11 u391 dX6_stake_117 (fun H locs hw hS => ?_)
            refine lv_aload S.1 S.2.1 dX6_stake_120 (lv_at hl 0 rfl) ?_
            refine g7_2 S hg hw g21 u561 dX6_stake_122 ?_
            refine rL_size S hg hS hw (lv8s g21) u173 hl.1 (Nat.le_of_ble_eq_true rfl) ⟨Nat.le_of_ble_eq_true rfl, Nat.le_of_ble_eq_true rfl⟩ ⟨by omega, by omega⟩ dX6_stake_125 (fun H locs hw hS => ?_)
            exact r_iret (y := yX6_stake) S hr rfl hlk hS (by omega) (by omega) dX6_stake_128 ⟨((k3 (k3 (lAdd K (r14 + 4) r6) 4 3 r6 115) 4 5 r6 p1) 8 2 (r14 + 4)), _, rfl, h, hw⟩
          · have h := h.2 c22
            obtain ⟨g27, g28, h⟩ := h
            exact r_throw (fr := 0) (lo := 0) (text := "the card is not free, is offered, or is one too many") hfl S hout hlk hg hS (by decide) u337 u42 (by decide +kernel) hat_61 hl.1 dX6_stake_86 dX6_stake_89 dX6_stake_90 dX6_stake_92 dX6_stake_95 (Nat.le_of_ble_eq_true rfl) (Nat.le_of_ble_eq_true rfl) g27 g28 g27 g28 (fun H1 hz hk => ⟨_, h, hw.more hk⟩)
    · have h := h.2 c13
      obtain ⟨g29, g30, h⟩ := h
      exact r_throw (fr := 0) (lo := 0) (text := "not open, or not a duel of the card's owner") hfl S hout hlk hg hS (by decide) u623 u51 (by decide +kernel) hat_158 hl.1 dX6_stake_34 dX6_stake_37 dX6_stake_38 dX6_stake_40 dX6_stake_43 (Nat.le_of_ble_eq_true rfl) (Nat.le_of_ble_eq_true rfl) g29 g30 g29 g30 (fun H1 hz hk => ⟨_, h, hw.more hk⟩)

-- X6.start
theorem dX6_start_0 : decode cX6_start 0 = .ok (.aload_n 0, 1) := by decide +kernel
theorem dX6_start_1 : decode cX6_start 1 = .ok (.iload_n 1, 1) := by decide +kernel
theorem dX6_start_2 : decode cX6_start 2 = .ok (.invokevirtual 145, 3) := by decide +kernel
theorem dX6_start_5 : decode cX6_start 5 = .ok (.astore_n 2, 1) := by decide +kernel
theorem dX6_start_6 : decode cX6_start 6 = .ok (.aload_n 2, 1) := by decide +kernel
theorem dX6_start_7 : decode cX6_start 7 = .ok (.getfield 149, 3) := by decide +kernel
theorem dX6_start_10 : decode cX6_start 10 = .ok (.bipush 111, 2) := by decide +kernel
theorem dX6_start_12 : decode cX6_start 12 = .ok (.if_icmp .eq 13, 3) := by decide +kernel
theorem dX6_start_15 : decode cX6_start 15 = .ok (.new 154, 3) := by decide +kernel
theorem dX6_start_18 : decode cX6_start 18 = .ok (.dup, 1) := by decide +kernel
theorem dX6_start_19 : decode cX6_start 19 = .ok (.ldc 177, 2) := by decide +kernel
theorem dX6_start_21 : decode cX6_start 21 = .ok (.invokespecial 158, 3) := by decide +kernel
theorem dX6_start_24 : decode cX6_start 24 = .ok (.athrow, 1) := by decide +kernel
theorem dX6_start_25 : decode cX6_start 25 = .ok (.aload_n 2, 1) := by decide +kernel
theorem dX6_start_26 : decode cX6_start 26 = .ok (.getfield 179, 3) := by decide +kernel
theorem dX6_start_29 : decode cX6_start 29 = .ok (.getfield 167, 3) := by decide +kernel
theorem dX6_start_32 : decode cX6_start 32 = .ok (.invokevirtual 183, 3) := by decide +kernel
theorem dX6_start_35 : decode cX6_start 35 = .ok (.ifCond .ne 16, 3) := by decide +kernel
theorem dX6_start_38 : decode cX6_start 38 = .ok (.aload_n 2, 1) := by decide +kernel
theorem dX6_start_39 : decode cX6_start 39 = .ok (.getfield 187, 3) := by decide +kernel
theorem dX6_start_42 : decode cX6_start 42 = .ok (.getfield 167, 3) := by decide +kernel
theorem dX6_start_45 : decode cX6_start 45 = .ok (.invokevirtual 183, 3) := by decide +kernel
theorem dX6_start_48 : decode cX6_start 48 = .ok (.ifCond .eq 13, 3) := by decide +kernel
theorem dX6_start_51 : decode cX6_start 51 = .ok (.new 57, 3) := by decide +kernel
theorem dX6_start_54 : decode cX6_start 54 = .ok (.dup, 1) := by decide +kernel
theorem dX6_start_55 : decode cX6_start 55 = .ok (.ldc 190, 2) := by decide +kernel
theorem dX6_start_57 : decode cX6_start 57 = .ok (.invokespecial 61, 3) := by decide +kernel
theorem dX6_start_60 : decode cX6_start 60 = .ok (.athrow, 1) := by decide +kernel
theorem dX6_start_61 : decode cX6_start 61 = .ok (.aload_n 2, 1) := by decide +kernel
theorem dX6_start_62 : decode cX6_start 62 = .ok (.bipush 103, 2) := by decide +kernel
theorem dX6_start_64 : decode cX6_start 64 = .ok (.putfield 149, 3) := by decide +kernel
theorem dX6_start_67 : decode cX6_start 67 = .ok (.aload_n 2, 1) := by decide +kernel
theorem dX6_start_68 : decode cX6_start 68 = .ok (.iconst 1, 1) := by decide +kernel
theorem dX6_start_69 : decode cX6_start 69 = .ok (.putfield 192, 3) := by decide +kernel
theorem dX6_start_72 : decode cX6_start 72 = .ok (.aload_n 2, 1) := by decide +kernel
theorem dX6_start_73 : decode cX6_start 73 = .ok (.invokevirtual 195, 3) := by decide +kernel
theorem dX6_start_76 : decode cX6_start 76 = .ok (.ireturn, 1) := by decide +kernel
def wpX6_start (post : Int32 → KS → Prop) (px : String → KS → Prop) (mc ms : Nat) (K : KS) (p1 : Int32) : Prop := (∃ a1 a2 : Nat, 0 + a1 ≤ mc ∧ 0 + a2 ≤ ms ∧ wpX6_duelAt (fun r3 => (r3 < nD K) ∧ ((((K 6 2 r3) = 111 → (((¬ (if K 8 2 ((2 * r3) + 4) = 0 then (1 : Int32) else 0) = 0 → (((0 + a1) + 1 ≤ mc ∧ (0 + a2) + 6 ≤ ms ∧ px "java/lang/IllegalStateException" K))) ∧ ((if K 8 2 ((2 * r3) + 4) = 0 then (1 : Int32) else 0) = 0 → ((((if K 8 2 ((2 * r3 + 1) + 4) = 0 then (1 : Int32) else 0) = 0 → ((wpX2_countStaked (fun r10 => post r10 (k3 (k3 K 6 2 r3 103) 6 4 r3 1)) (k3 (k3 K 6 2 r3 103) 6 4 r3 1) r3))) ∧ (¬ (if K 8 2 ((2 * r3 + 1) + 4) = 0 then (1 : Int32) else 0) = 0 → (((0 + a1) + 1 ≤ mc ∧ (0 + a2) + 6 ≤ ms ∧ px "java/lang/IllegalStateException" K))))))))) ∧ (¬ (K 6 2 r3) = 111 → (((0 + a1) + 1 ≤ mc ∧ (0 + a2) + 6 ≤ ms ∧ px "java/lang/UnsupportedOperationException" K)))))) (fun E => px E K) a1 a2 K p1)
theorem hdX6_start : yX6_start.cls ≠ "java/lang/invoke/MethodHandle" ∧ yX6_start.cls ≠ "java/lang/invoke/VarHandle" ∧ (parseMethodDescriptor yX6_start.desc).map (fun d => d.parameters.length) = some 1 := by decide +kernel
set_option maxHeartbeats 4000000 in
set_option maxRecDepth 100000 in
theorem mtX6_start {l : Launch} {D : va_G} {cI : Nat → ClassId} {e0 : Nat} {A : Nat → Prop} {ad : Nat → Nat → Nat} {K M : KS} {ap o : Int64} {od : UInt64} {mc ms : Nat} {p1 : Int32} {post : Int32 → KS → Prop} {px : String → KS → Prop} (hfl : l.stackTraces = false) (h : wpX6_start post px mc ms K p1) : CM l D cI e0 A yX6_start cX6_start 3 (some FieldType.int) 7 103 mc ms [.ref (ad 0 0), .int p1] (HT D cI e0 A ad K M ap o od) (qK D cI e0 A ad M ap o od rI post) (xK D cI e0 A ad M ap o od px) := by
  refine CM.of (by decide) (Nat.le_of_ble_eq_true rfl) (fun p e s m below meth c ls FX hw hS hl => ?_)
  obtain ⟨S, hg, hr, hlk, hnm, hout⟩ := FX
  have hl : lv_has ls 3 [(0, .ref (ad 0 0)), (1, .int p1)] := hl
  unfold wpX6_start at h
  refine lv_aload_n S.1 S.2.1 dX6_start_0 rfl (lv_at hl 0 rfl) ?_
  refine lv_iload_n S.1 S.2.1 dX6_start_1 rfl (lv_at hl 1 rfl) ?_
  obtain ⟨a1, a2, h1, h2, h⟩ := h
  refine r_call (rest := []) S hg hS (mtX6_duelAt (mc := a1) (ms := a2) hfl h) u618 u620 u8 u27 u621 hdX6_duelAt (rv0 hg hw) hw ⟨Nat.le_of_ble_eq_true rfl, Nat.le_of_ble_eq_true rfl⟩ ⟨by show 0 + a1 ≤ mc; omega, by show 0 + a2 ≤ ms; omega⟩ hl.1 (Nat.le_of_ble_eq_true rfl) rfl dX6_start_2 (fun E ce q H1 locs1 hx hS1 hc1 hc2 hc3 => by obtain ⟨hx1, hw1⟩ := hx; exact r_out hout hlk hS1 (by show (0 + a1) ≤ mc; omega) (by show (0 + a2) ≤ ms; omega) hc1 hc2 hc3 ⟨_, hx1, hw1⟩) (fun rv H locs hq hS => ?_)
  obtain ⟨r3, rfl, h, hw⟩ := hq
  show W p l e _ s m _ below meth c H locs _ _ _ (F0 m 5 ls [.ref (ad 6 r3)])
  refine lv_astore_n (lv' := [(2, .ref (ad 6 r3)), (0, .ref (ad 0 0)), (1, .int p1)]) S.1 S.2.1 dX6_start_5 rfl hl (by decide) rfl (fun ls hl => ?_)
  refine lv_aload_n S.1 S.2.1 dX6_start_6 rfl (lv_at hl 0 rfl) ?_
  obtain ⟨g4, h⟩ := h
  refine g6_2 S hg hw g4 u578 dX6_start_7 ?_
  refine lv_bipush (v := 111) S.1 S.2.1 dX6_start_10 (by decide) ?_
  refine lv_icmp_eq (tgt := 25) S.1 S.2.1 dX6_start_12 (by decide) (fun c5 => ?_) (fun c5 => ?_)
  · have h := h.1 c5
    refine lv_aload_n S.1 S.2.1 dX6_start_25 rfl (lv_at hl 0 rfl) ?_
    refine g6_0 S hg hw g4 u574 dX6_start_26 ?_
    refine g7_2 S hg hw (lt2 g4) u561 dX6_start_29 ?_
    refine rL_isEmpty S hg hS hw (lv8s (lt2 g4)) u649 hl.1 (Nat.le_of_ble_eq_true rfl) ⟨Nat.le_of_ble_eq_true rfl, Nat.le_of_ble_eq_true rfl⟩ ⟨by omega, by omega⟩ dX6_start_32 (fun H locs hw hS => ?_)
    refine lv_if_ne (tgt := 51) S.1 S.2.1 dX6_start_35 (by decide) (fun c6 => ?_) (fun c6 => ?_)
    · have h := h.1 c6
      obtain ⟨g7, g8, h⟩ := h
      exact r_throw (fr := 0) (lo := 0) (text := "a player staked no card") hfl S hout hlk hg hS (by decide) u337 u42 (by decide +kernel) hat_61 hl.1 dX6_start_51 dX6_start_54 dX6_start_55 dX6_start_57 dX6_start_60 (Nat.le_of_ble_eq_true rfl) (Nat.le_of_ble_eq_true rfl) g7 g8 g7 g8 (fun H1 hz hk => ⟨_, h, hw.more hk⟩)
    · have h := h.2 c6
      refine lv_aload_n S.1 S.2.1 dX6_start_38 rfl (lv_at hl 0 rfl) ?_
      refine g6_1 S hg hw g4 u576 dX6_start_39 ?_
      refine g7_2 S hg hw (lt2s g4) u561 dX6_start_42 ?_
      refine rL_isEmpty S hg hS hw (lv8s (lt2s g4)) u649 hl.1 (Nat.le_of_ble_eq_true rfl) ⟨Nat.le_of_ble_eq_true rfl, Nat.le_of_ble_eq_true rfl⟩ ⟨by omega, by omega⟩ dX6_start_45 (fun H locs hw hS => ?_)
      refine lv_if_eq (tgt := 61) S.1 S.2.1 dX6_start_48 (by decide) (fun c9 => ?_) (fun c9 => ?_)
      · have h := h.1 c9
        refine lv_aload_n S.1 S.2.1 dX6_start_61 rfl (lv_at hl 0 rfl) ?_
        refine lv_bipush (v := 103) S.1 S.2.1 dX6_start_62 (by decide) ?_
        refine p6_2 S hg hS hw g4 rfl rfl u578 dX6_start_64 (fun H locs hw hS => ?_)
        refine lv_aload_n S.1 S.2.1 dX6_start_67 rfl (lv_at hl 0 rfl) ?_
        refine lv_iconst (v := 1) S.1 S.2.1 dX6_start_68 (by decide) ?_
        refine p6_4 S hg hS hw g4 u582 dX6_start_69 (fun H locs hw hS => ?_)
        refine lv_aload_n S.1 S.2.1 dX6_start_72 rfl (lv_at hl 0 rfl) ?_
        refine r_call (rest := []) S hg hS (mtX2_countStaked (mc := 0) (ms := 0) h) u654 u655 u656 u49 u657 hdX2_countStaked (rv6 hg hw g4) hw ⟨Nat.le_of_ble_eq_true rfl, Nat.le_of_ble_eq_true rfl⟩ ⟨by show (0 + a1) + 0 ≤ mc; omega, by show (0 + a2) + 0 ≤ ms; omega⟩ hl.1 (Nat.le_of_ble_eq_true rfl) rfl dX6_start_73 (fun E ce q H1 locs1 hx hS1 hc1 hc2 hc3 => hx.elim) (fun rv H locs hq hS => ?_)
        obtain ⟨r10, rfl, h, hw⟩ := hq
        show W p l e _ s m _ below meth c H locs _ _ _ (F0 m 76 ls [.int r10])
        show W p l e _ s m _ below meth c H locs (0 + a1) (0 + a2) _ _
        exact r_iret (y := yX6_start) S hr rfl hlk hS (by omega) (by omega) dX6_start_76 ⟨r10, _, rfl, h, hw⟩
      · have h := h.2 c9
        obtain ⟨g11, g12, h⟩ := h
        exact r_throw (fr := 0) (lo := 0) (text := "a player staked no card") hfl S hout hlk hg hS (by decide) u337 u42 (by decide +kernel) hat_61 hl.1 dX6_start_51 dX6_start_54 dX6_start_55 dX6_start_57 dX6_start_60 (Nat.le_of_ble_eq_true rfl) (Nat.le_of_ble_eq_true rfl) g11 g12 g11 g12 (fun H1 hz hk => ⟨_, h, hw.more hk⟩)
  · have h := h.2 c5
    obtain ⟨g13, g14, h⟩ := h
    exact r_throw (fr := 0) (lo := 0) (text := "the duel is not open") hfl S hout hlk hg hS (by decide) u623 u51 (by decide +kernel) hat_158 hl.1 dX6_start_15 dX6_start_18 dX6_start_19 dX6_start_21 dX6_start_24 (Nat.le_of_ble_eq_true rfl) (Nat.le_of_ble_eq_true rfl) g13 g14 g13 g14 (fun H1 hz hk => ⟨_, h, hw.more hk⟩)

-- X6.play
theorem dX6_play_0 : decode cX6_play 0 = .ok (.aload_n 0, 1) := by decide +kernel
theorem dX6_play_1 : decode cX6_play 1 = .ok (.iload_n 1, 1) := by decide +kernel
theorem dX6_play_2 : decode cX6_play 2 = .ok (.invokevirtual 145, 3) := by decide +kernel
theorem dX6_play_5 : decode cX6_play 5 = .ok (.astore_n 3, 1) := by decide +kernel
theorem dX6_play_6 : decode cX6_play 6 = .ok (.aload_n 0, 1) := by decide +kernel
theorem dX6_play_7 : decode cX6_play 7 = .ok (.iload_n 2, 1) := by decide +kernel
theorem dX6_play_8 : decode cX6_play 8 = .ok (.invokevirtual 89, 3) := by decide +kernel
theorem dX6_play_11 : decode cX6_play 11 = .ok (.astore 4, 2) := by decide +kernel
theorem dX6_play_13 : decode cX6_play 13 = .ok (.aload_n 3, 1) := by decide +kernel
theorem dX6_play_14 : decode cX6_play 14 = .ok (.getfield 149, 3) := by decide +kernel
theorem dX6_play_17 : decode cX6_play 17 = .ok (.bipush 103, 2) := by decide +kernel
theorem dX6_play_19 : decode cX6_play 19 = .ok (.if_icmp .eq 13, 3) := by decide +kernel
theorem dX6_play_22 : decode cX6_play 22 = .ok (.new 154, 3) := by decide +kernel
theorem dX6_play_25 : decode cX6_play 25 = .ok (.dup, 1) := by decide +kernel
theorem dX6_play_26 : decode cX6_play 26 = .ok (.ldc 198, 2) := by decide +kernel
theorem dX6_play_28 : decode cX6_play 28 = .ok (.invokespecial 158, 3) := by decide +kernel
theorem dX6_play_31 : decode cX6_play 31 = .ok (.athrow, 1) := by decide +kernel
theorem dX6_play_32 : decode cX6_play 32 = .ok (.aload_n 3, 1) := by decide +kernel
theorem dX6_play_33 : decode cX6_play 33 = .ok (.invokevirtual 200, 3) := by decide +kernel
theorem dX6_play_36 : decode cX6_play 36 = .ok (.aload 4, 2) := by decide +kernel
theorem dX6_play_38 : decode cX6_play 38 = .ok (.invokevirtual 204, 3) := by decide +kernel
theorem dX6_play_41 : decode cX6_play 41 = .ok (.istore 5, 2) := by decide +kernel
theorem dX6_play_43 : decode cX6_play 43 = .ok (.iload 5, 2) := by decide +kernel
theorem dX6_play_45 : decode cX6_play 45 = .ok (.ifCond .ge 13, 3) := by decide +kernel
theorem dX6_play_48 : decode cX6_play 48 = .ok (.new 154, 3) := by decide +kernel
theorem dX6_play_51 : decode cX6_play 51 = .ok (.dup, 1) := by decide +kernel
theorem dX6_play_52 : decode cX6_play 52 = .ok (.ldc 208, 2) := by decide +kernel
theorem dX6_play_54 : decode cX6_play 54 = .ok (.invokespecial 158, 3) := by decide +kernel
theorem dX6_play_57 : decode cX6_play 57 = .ok (.athrow, 1) := by decide +kernel
theorem dX6_play_58 : decode cX6_play 58 = .ok (.aload_n 3, 1) := by decide +kernel
theorem dX6_play_59 : decode cX6_play 59 = .ok (.getfield 192, 3) := by decide +kernel
theorem dX6_play_62 : decode cX6_play 62 = .ok (.aload 4, 2) := by decide +kernel
theorem dX6_play_64 : decode cX6_play 64 = .ok (.invokevirtual 210, 3) := by decide +kernel
theorem dX6_play_67 : decode cX6_play 67 = .ok (.if_icmp .ge 13, 3) := by decide +kernel
theorem dX6_play_70 : decode cX6_play 70 = .ok (.new 57, 3) := by decide +kernel
theorem dX6_play_73 : decode cX6_play 73 = .ok (.dup, 1) := by decide +kernel
theorem dX6_play_74 : decode cX6_play 74 = .ok (.ldc 213, 2) := by decide +kernel
theorem dX6_play_76 : decode cX6_play 76 = .ok (.invokespecial 61, 3) := by decide +kernel
theorem dX6_play_79 : decode cX6_play 79 = .ok (.athrow, 1) := by decide +kernel
theorem dX6_play_80 : decode cX6_play 80 = .ok (.aload_n 3, 1) := by decide +kernel
theorem dX6_play_81 : decode cX6_play 81 = .ok (.aload 4, 2) := by decide +kernel
theorem dX6_play_83 : decode cX6_play 83 = .ok (.iload 5, 2) := by decide +kernel
theorem dX6_play_85 : decode cX6_play 85 = .ok (.invokevirtual 215, 3) := by decide +kernel
theorem dX6_play_88 : decode cX6_play 88 = .ok (.aload_n 3, 1) := by decide +kernel
theorem dX6_play_89 : decode cX6_play 89 = .ok (.getfield 192, 3) := by decide +kernel
theorem dX6_play_92 : decode cX6_play 92 = .ok (.ireturn, 1) := by decide +kernel
def wpX6_play (post : Int32 → KS → Prop) (px : String → KS → Prop) (mc ms : Nat) (K : KS) (p1 : Int32) (p2 : Int32) : Prop := (∃ a1 a2 : Nat, 0 + a1 ≤ mc ∧ 0 + a2 ≤ ms ∧ wpX6_duelAt (fun r3 => (∃ a4 a5 : Nat, (0 + a1) + a4 ≤ mc ∧ (0 + a2) + a5 ≤ ms ∧ wpX6_cardAt (fun r6 => (r3 < nD K) ∧ ((((K 6 2 r3) = 103 → ((wpX2_sideOnTurn (fun r9 => (r9 < 2 * nD K) ∧ (wpX5_placeOfUnplayed (fun r11 => ((0 ≤ r11 → ((r6 < nC K) ∧ (wpX1_cost (fun r14 => ((r14 ≤ (K 6 4 r3) → ((wpX2_putOnStack (fun _ K16 => (r3 < nD K16) ∧ (post (K16 6 4 r3) K16)) K r3 r6 r11))) ∧ (¬ r14 ≤ (K 6 4 r3) → ((((0 + a1) + a4) + 1 ≤ mc ∧ ((0 + a2) + a5) + 6 ≤ ms ∧ px "java/lang/IllegalStateException" K))))) K r6))) ∧ (¬ 0 ≤ r11 → ((((0 + a1) + a4) + 1 ≤ mc ∧ ((0 + a2) + a5) + 6 ≤ ms ∧ px "java/lang/UnsupportedOperationException" K))))) K r9 r6)) K r3))) ∧ (¬ (K 6 2 r3) = 103 → ((((0 + a1) + a4) + 1 ≤ mc ∧ ((0 + a2) + a5) + 6 ≤ ms ∧ px "java/lang/UnsupportedOperationException" K)))))) (fun E => px E K) a4 a5 K p2)) (fun E => px E K) a1 a2 K p1)
theorem hdX6_play : yX6_play.cls ≠ "java/lang/invoke/MethodHandle" ∧ yX6_play.cls ≠ "java/lang/invoke/VarHandle" ∧ (parseMethodDescriptor yX6_play.desc).map (fun d => d.parameters.length) = some 2 := by decide +kernel
set_option maxHeartbeats 4000000 in
set_option maxRecDepth 100000 in
theorem mtX6_play {l : Launch} {D : va_G} {cI : Nat → ClassId} {e0 : Nat} {A : Nat → Prop} {ad : Nat → Nat → Nat} {K M : KS} {ap o : Int64} {od : UInt64} {mc ms : Nat} {p1 : Int32} {p2 : Int32} {post : Int32 → KS → Prop} {px : String → KS → Prop} (hfl : l.stackTraces = false) (h : wpX6_play post px mc ms K p1 p2) : CM l D cI e0 A yX6_play cX6_play 6 (some FieldType.int) 7 103 mc ms [.ref (ad 0 0), .int p1, .int p2] (HT D cI e0 A ad K M ap o od) (qK D cI e0 A ad M ap o od rI post) (xK D cI e0 A ad M ap o od px) := by
  refine CM.of (by decide) (Nat.le_of_ble_eq_true rfl) (fun p e s m below meth c ls FX hw hS hl => ?_)
  obtain ⟨S, hg, hr, hlk, hnm, hout⟩ := FX
  have hl : lv_has ls 6 [(0, .ref (ad 0 0)), (1, .int p1), (2, .int p2)] := hl
  unfold wpX6_play at h
  refine lv_aload_n S.1 S.2.1 dX6_play_0 rfl (lv_at hl 0 rfl) ?_
  refine lv_iload_n S.1 S.2.1 dX6_play_1 rfl (lv_at hl 1 rfl) ?_
  obtain ⟨a1, a2, h1, h2, h⟩ := h
  refine r_call (rest := []) S hg hS (mtX6_duelAt (mc := a1) (ms := a2) hfl h) u618 u620 u8 u27 u621 hdX6_duelAt (rv0 hg hw) hw ⟨Nat.le_of_ble_eq_true rfl, Nat.le_of_ble_eq_true rfl⟩ ⟨by show 0 + a1 ≤ mc; omega, by show 0 + a2 ≤ ms; omega⟩ hl.1 (Nat.le_of_ble_eq_true rfl) rfl dX6_play_2 (fun E ce q H1 locs1 hx hS1 hc1 hc2 hc3 => by obtain ⟨hx1, hw1⟩ := hx; exact r_out hout hlk hS1 (by show (0 + a1) ≤ mc; omega) (by show (0 + a2) ≤ ms; omega) hc1 hc2 hc3 ⟨_, hx1, hw1⟩) (fun rv H locs hq hS => ?_)
  obtain ⟨r3, rfl, h, hw⟩ := hq
  show W p l e _ s m _ below meth c H locs _ _ _ (F0 m 5 ls [.ref (ad 6 r3)])
  refine lv_astore_n (lv' := [(3, .ref (ad 6 r3)), (0, .ref (ad 0 0)), (1, .int p1), (2, .int p2)]) S.1 S.2.1 dX6_play_5 rfl hl (by decide) rfl (fun ls hl => ?_)
  refine lv_aload_n S.1 S.2.1 dX6_play_6 rfl (lv_at hl 1 rfl) ?_
  refine lv_iload_n S.1 S.2.1 dX6_play_7 rfl (lv_at hl 3 rfl) ?_
  obtain ⟨a4, a5, h1, h2, h⟩ := h
  refine r_call (rest := []) S hg hS (mtX6_cardAt (mc := a4) (ms := a5) hfl h) u485 u487 u6 u27 u488 hdX6_cardAt (rv0 hg hw) hw ⟨Nat.le_of_ble_eq_true rfl, Nat.le_of_ble_eq_true rfl⟩ ⟨by show (0 + a1) + a4 ≤ mc; omega, by show (0 + a2) + a5 ≤ ms; omega⟩ hl.1 (Nat.le_of_ble_eq_true rfl) rfl dX6_play_8 (fun E ce q H1 locs1 hx hS1 hc1 hc2 hc3 => by obtain ⟨hx1, hw1⟩ := hx; exact r_out hout hlk hS1 (by show ((0 + a1) + a4) ≤ mc; omega) (by show ((0 + a2) + a5) ≤ ms; omega) hc1 hc2 hc3 ⟨_, hx1, hw1⟩) (fun rv H locs hq hS => ?_)
  obtain ⟨r6, rfl, h, hw⟩ := hq
  show W p l e _ s m _ below meth c H locs _ _ _ (F0 m 11 ls [.ref (ad 4 r6)])
  refine lv_astore (lv' := [(4, .ref (ad 4 r6)), (3, .ref (ad 6 r3)), (0, .ref (ad 0 0)), (1, .int p1), (2, .int p2)]) S.1 S.2.1 dX6_play_11 hl (by decide) rfl (fun ls hl => ?_)
  refine lv_aload_n S.1 S.2.1 dX6_play_13 rfl (lv_at hl 1 rfl) ?_
  obtain ⟨g7, h⟩ := h
  refine g6_2 S hg hw g7 u578 dX6_play_14 ?_
  refine lv_bipush (v := 103) S.1 S.2.1 dX6_play_17 (by decide) ?_
  refine lv_icmp_eq (tgt := 32) S.1 S.2.1 dX6_play_19 (by decide) (fun c8 => ?_) (fun c8 => ?_)
  · have h := h.1 c8
    refine lv_aload_n S.1 S.2.1 dX6_play_32 rfl (lv_at hl 1 rfl) ?_
    refine r_call (rest := []) S hg hS (mtX2_sideOnTurn (mc := 0) (ms := 0) h) u664 u665 u666 u49 u667 hdX2_sideOnTurn (rv6 hg hw g7) hw ⟨Nat.le_of_ble_eq_true rfl, Nat.le_of_ble_eq_true rfl⟩ ⟨by show ((0 + a1) + a4) + 0 ≤ mc; omega, by show ((0 + a2) + a5) + 0 ≤ ms; omega⟩ hl.1 (Nat.le_of_ble_eq_true rfl) rfl dX6_play_33 (fun E ce q H1 locs1 hx hS1 hc1 hc2 hc3 => hx.elim) (fun rv H locs hq hS => ?_)
    obtain ⟨r9, rfl, h, hw⟩ := hq
    show W p l e _ s m _ below meth c H locs _ _ _ (F0 m 36 ls [.ref (ad 7 r9)])
    show W p l e _ s m _ below meth c H locs ((0 + a1) + a4) ((0 + a2) + a5) _ _
    refine lv_aload S.1 S.2.1 dX6_play_36 (lv_at hl 0 rfl) ?_
    obtain ⟨g10, h⟩ := h
    refine r_call (rest := []) S hg hS (mtX5_placeOfUnplayed (mc := 0) (ms := 0) h) u672 u673 u674 u50 u675 hdX5_placeOfUnplayed (rv7 hg hw g10) hw ⟨Nat.le_of_ble_eq_true rfl, Nat.le_of_ble_eq_true rfl⟩ ⟨by show ((0 + a1) + a4) + 0 ≤ mc; omega, by show ((0 + a2) + a5) + 0 ≤ ms; omega⟩ hl.1 (Nat.le_of_ble_eq_true rfl) rfl dX6_play_38 (fun E ce q H1 locs1 hx hS1 hc1 hc2 hc3 => hx.elim) (fun rv H locs hq hS => ?_)
    obtain ⟨r11, rfl, h, hw⟩ := hq
    show W p l e _ s m _ below meth c H locs _ _ _ (F0 m 41 ls [.int r11])
    show W p l e _ s m _ below meth c H locs ((0 + a1) + a4) ((0 + a2) + a5) _ _
    refine lv_istore (lv' := [(5, .int r11), (4, .ref (ad 4 r6)), (3, .ref (ad 6 r3)), (0, .ref (ad 0 0)), (1, .int p1), (2, .int p2)]) S.1 S.2.1 dX6_play_41 hl (by decide) rfl (fun ls hl => ?_)
    refine lv_iload S.1 S.2.1 dX6_play_43 (lv_at hl 0 rfl) ?_
    refine lv_if_ge (tgt := 58) S.1 S.2.1 dX6_play_45 (by decide) (fun c12 => ?_) (fun c12 => ?_)
    · have h := h.1 c12
      refine lv_aload_n S.1 S.2.1 dX6_play_58 rfl (lv_at hl 2 rfl) ?_
      refine g6_4 S hg hw g7 u582 dX6_play_59 ?_
      refine lv_aload S.1 S.2.1 dX6_play_62 (lv_at hl 1 rfl) ?_
      obtain ⟨g13, h⟩ := h
      refine r_call (rest := [.int (K 6 4 r3)]) S hg hS (mtX1_cost (mc := 0) (ms := 0) h) u679 u680 u681 u43 u682 hdX1_cost (rv4 hg hw g13) hw ⟨Nat.le_of_ble_eq_true rfl, Nat.le_of_ble_eq_true rfl⟩ ⟨by show ((0 + a1) + a4) + 0 ≤ mc; omega, by show ((0 + a2) + a5) + 0 ≤ ms; omega⟩ hl.1 (Nat.le_of_ble_eq_true rfl) rfl dX6_play_64 (fun E ce q H1 locs1 hx hS1 hc1 hc2 hc3 => hx.elim) (fun rv H locs hq hS => ?_)
      obtain ⟨r14, rfl, h, hw⟩ := hq
      show W p l e _ s m _ below meth c H locs _ _ _ (F0 m 67 ls [.int r14, .int (K 6 4 r3)])
      show W p l e _ s m _ below meth c H locs ((0 + a1) + a4) ((0 + a2) + a5) _ _
      refine lv_icmp_ge (tgt := 80) S.1 S.2.1 dX6_play_67 (by decide) (fun c15 => ?_) (fun c15 => ?_)
      · have h := h.1 c15
        refine lv_aload_n S.1 S.2.1 dX6_play_80 rfl (lv_at hl 2 rfl) ?_
        refine lv_aload S.1 S.2.1 dX6_play_81 (lv_at hl 1 rfl) ?_
        refine lv_iload S.1 S.2.1 dX6_play_83 (lv_at hl 0 rfl) ?_
        refine r_call (rest := []) S hg hS (mtX2_putOnStack (mc := 0) (ms := 0) h) u684 u685 u686 u49 u687 hdX2_putOnStack (rv6 hg hw g7) hw ⟨Nat.le_of_ble_eq_true rfl, Nat.le_of_ble_eq_true rfl⟩ ⟨by show ((0 + a1) + a4) + 0 ≤ mc; omega, by show ((0 + a2) + a5) + 0 ≤ ms; omega⟩ hl.1 (Nat.le_of_ble_eq_true rfl) rfl dX6_play_85 (fun E ce q H1 locs1 hx hS1 hc1 hc2 hc3 => hx.elim) (fun rv H locs hq hS => ?_)
        obtain ⟨_, K16, rfl, h, hw⟩ := hq
        show W p l e _ s m _ below meth c H locs _ _ _ (F0 m 88 ls [])
        show W p l e _ s m _ below meth c H locs ((0 + a1) + a4) ((0 + a2) + a5) _ _
        refine lv_aload_n S.1 S.2.1 dX6_play_88 rfl (lv_at hl 2 rfl) ?_
        obtain ⟨g17, h⟩ := h
        refine g6_4 S hg hw g17 u582 dX6_play_89 ?_
        exact r_iret (y := yX6_play) S hr rfl hlk hS (by omega) (by omega) dX6_play_92 ⟨(K16 6 4 r3), _, rfl, h, hw⟩
      · have h := h.2 c15
        obtain ⟨g18, g19, h⟩ := h
        exact r_throw (fr := 0) (lo := 0) (text := "too little mana") hfl S hout hlk hg hS (by decide) u337 u42 (by decide +kernel) hat_61 hl.1 dX6_play_70 dX6_play_73 dX6_play_74 dX6_play_76 dX6_play_79 (Nat.le_of_ble_eq_true rfl) (Nat.le_of_ble_eq_true rfl) g18 g19 g18 g19 (fun H1 hz hk => ⟨_, h, hw.more hk⟩)
    · have h := h.2 c12
      obtain ⟨g20, g21, h⟩ := h
      exact r_throw (fr := 0) (lo := 0) (text := "not a card that this player can play here") hfl S hout hlk hg hS (by decide) u623 u51 (by decide +kernel) hat_158 hl.1 dX6_play_48 dX6_play_51 dX6_play_52 dX6_play_54 dX6_play_57 (Nat.le_of_ble_eq_true rfl) (Nat.le_of_ble_eq_true rfl) g20 g21 g20 g21 (fun H1 hz hk => ⟨_, h, hw.more hk⟩)
  · have h := h.2 c8
    obtain ⟨g22, g23, h⟩ := h
    exact r_throw (fr := 0) (lo := 0) (text := "the duel does not go on") hfl S hout hlk hg hS (by decide) u623 u51 (by decide +kernel) hat_158 hl.1 dX6_play_22 dX6_play_25 dX6_play_26 dX6_play_28 dX6_play_31 (Nat.le_of_ble_eq_true rfl) (Nat.le_of_ble_eq_true rfl) g22 g23 g22 g23 (fun H1 hz hk => ⟨_, h, hw.more hk⟩)

-- X6.endTurn
theorem dX6_endTurn_0 : decode cX6_endTurn 0 = .ok (.aload_n 0, 1) := by decide +kernel
theorem dX6_endTurn_1 : decode cX6_endTurn 1 = .ok (.iload_n 1, 1) := by decide +kernel
theorem dX6_endTurn_2 : decode cX6_endTurn 2 = .ok (.invokevirtual 145, 3) := by decide +kernel
theorem dX6_endTurn_5 : decode cX6_endTurn 5 = .ok (.astore_n 2, 1) := by decide +kernel
theorem dX6_endTurn_6 : decode cX6_endTurn 6 = .ok (.aload_n 2, 1) := by decide +kernel
theorem dX6_endTurn_7 : decode cX6_endTurn 7 = .ok (.getfield 149, 3) := by decide +kernel
theorem dX6_endTurn_10 : decode cX6_endTurn 10 = .ok (.bipush 103, 2) := by decide +kernel
theorem dX6_endTurn_12 : decode cX6_endTurn 12 = .ok (.if_icmp .eq 13, 3) := by decide +kernel
theorem dX6_endTurn_15 : decode cX6_endTurn 15 = .ok (.new 154, 3) := by decide +kernel
theorem dX6_endTurn_18 : decode cX6_endTurn 18 = .ok (.dup, 1) := by decide +kernel
theorem dX6_endTurn_19 : decode cX6_endTurn 19 = .ok (.ldc 198, 2) := by decide +kernel
theorem dX6_endTurn_21 : decode cX6_endTurn 21 = .ok (.invokespecial 158, 3) := by decide +kernel
theorem dX6_endTurn_24 : decode cX6_endTurn 24 = .ok (.athrow, 1) := by decide +kernel
theorem dX6_endTurn_25 : decode cX6_endTurn 25 = .ok (.aload_n 2, 1) := by decide +kernel
theorem dX6_endTurn_26 : decode cX6_endTurn 26 = .ok (.invokevirtual 219, 3) := by decide +kernel
theorem dX6_endTurn_29 : decode cX6_endTurn 29 = .ok (.aload_n 2, 1) := by decide +kernel
theorem dX6_endTurn_30 : decode cX6_endTurn 30 = .ok (.getfield 149, 3) := by decide +kernel
theorem dX6_endTurn_33 : decode cX6_endTurn 33 = .ok (.bipush 103, 2) := by decide +kernel
theorem dX6_endTurn_35 : decode cX6_endTurn 35 = .ok (.if_icmp .ne 7, 3) := by decide +kernel
theorem dX6_endTurn_38 : decode cX6_endTurn 38 = .ok (.aload_n 2, 1) := by decide +kernel
theorem dX6_endTurn_39 : decode cX6_endTurn 39 = .ok (.invokevirtual 222, 3) := by decide +kernel
theorem dX6_endTurn_42 : decode cX6_endTurn 42 = .ok (.aload_n 2, 1) := by decide +kernel
theorem dX6_endTurn_43 : decode cX6_endTurn 43 = .ok (.getfield 149, 3) := by decide +kernel
theorem dX6_endTurn_46 : decode cX6_endTurn 46 = .ok (.bipush 101, 2) := by decide +kernel
theorem dX6_endTurn_48 : decode cX6_endTurn 48 = .ok (.if_icmp .ne 27, 3) := by decide +kernel
theorem dX6_endTurn_51 : decode cX6_endTurn 51 = .ok (.aload_n 0, 1) := by decide +kernel
theorem dX6_endTurn_52 : decode cX6_endTurn 52 = .ok (.aload_n 2, 1) := by decide +kernel
theorem dX6_endTurn_53 : decode cX6_endTurn 53 = .ok (.getfield 179, 3) := by decide +kernel
theorem dX6_endTurn_56 : decode cX6_endTurn 56 = .ok (.aload_n 2, 1) := by decide +kernel
theorem dX6_endTurn_57 : decode cX6_endTurn 57 = .ok (.getfield 225, 3) := by decide +kernel
theorem dX6_endTurn_60 : decode cX6_endTurn 60 = .ok (.invokevirtual 228, 3) := by decide +kernel
theorem dX6_endTurn_63 : decode cX6_endTurn 63 = .ok (.aload_n 0, 1) := by decide +kernel
theorem dX6_endTurn_64 : decode cX6_endTurn 64 = .ok (.aload_n 2, 1) := by decide +kernel
theorem dX6_endTurn_65 : decode cX6_endTurn 65 = .ok (.getfield 187, 3) := by decide +kernel
theorem dX6_endTurn_68 : decode cX6_endTurn 68 = .ok (.aload_n 2, 1) := by decide +kernel
theorem dX6_endTurn_69 : decode cX6_endTurn 69 = .ok (.getfield 225, 3) := by decide +kernel
theorem dX6_endTurn_72 : decode cX6_endTurn 72 = .ok (.invokevirtual 228, 3) := by decide +kernel
theorem dX6_endTurn_75 : decode cX6_endTurn 75 = .ok (.aload_n 2, 1) := by decide +kernel
theorem dX6_endTurn_76 : decode cX6_endTurn 76 = .ok (.getfield 149, 3) := by decide +kernel
theorem dX6_endTurn_79 : decode cX6_endTurn 79 = .ok (.ireturn, 1) := by decide +kernel
def wX6_endTurn_42 (post : Int32 → KS → Prop) (px : String → KS → Prop) (mc ms : Nat) (uc us : Nat) (l2 : Nat) (K : KS) : Prop := (l2 < nD K) ∧ (((¬ (K 6 2 l2) = 101 → ((narrow .char (.int (K 6 2 l2)) = .int (K 6 2 l2)) ∧ post (K 6 2 l2) K)) ∧ ((K 6 2 l2) = 101 → ((∃ a12 a13 : Nat, uc + a12 ≤ mc ∧ us + a13 ≤ ms ∧ wpX6_awardCards (fun _ K14 => (l2 < nD K14) ∧ ((∃ a16 a17 : Nat, (uc + a12) + a16 ≤ mc ∧ (us + a13) + a17 ≤ ms ∧ wpX6_awardCards (fun _ K18 => (l2 < nD K18) ∧ ((narrow .char (.int (K18 6 2 l2)) = .int (K18 6 2 l2)) ∧ post (K18 6 2 l2) K18)) a16 a17 K14 (2 * l2 + 1) (K14 6 3 l2)))) a12 a13 K (2 * l2) (K 6 3 l2))))))
set_option maxHeartbeats 4000000 in
set_option maxRecDepth 100000 in
theorem bX6_endTurn_42 {p : Program} {l : Launch} {e : Env} {s : State} {m : MethodId} {args : Array Value} {below : List Frame} {meth : Method} {c : Code} {D : va_G} {cI : Nat → ClassId} {e0 : Nat} {A : Nat → Prop} {ad : Nat → Nat → Nat} {M : KS} {ap : Int64} {o : Int64} {od : UInt64} {mc ms : Nat} {post : Int32 → KS → Prop} {px : String → KS → Prop} (hfl : l.stackTraces = false) (S : CallFix p m c cX6_endTurn 3 s args WU RX6) (hg : GI D cI e0 A s s.heap) (hr : meth.sig.returnType = (some FieldType.char)) (hlk : meth.locks = false) (hout : ∀ x ∈ c.exceptionTable.toList, False) {H : Heap} {locs : List Loc} {ls : Array Slot} {uc us : Nat} {l2 : Nat} {K : KS} (hS : va_S A s.heap H locs) (hw : HT D cI e0 A ad K M ap o od H) (hl : lv_has ls 3 [(0, .ref (ad 0 0)), (2, .ref (ad 6 l2))]) (huc : uc ≤ mc) (hus : us ≤ ms) (h : wX6_endTurn_42 post px mc ms uc us l2 K) : W p l e ({ frames := 7, cells := mc, slots := ms, locals := 151 } : Room) s m args below meth c H locs uc us (MQQ below (qK D cI e0 A ad M ap o od rI post) (xK D cI e0 A ad M ap o od px) args s mc ms A) (F0 m 42 ls []) := by
  unfold wX6_endTurn_42 at h
  refine lv_aload_n S.1 S.2.1 dX6_endTurn_42 rfl (lv_at hl 1 rfl) ?_
  obtain ⟨g9, h⟩ := h
  refine g6_2 S hg hw g9 u578 dX6_endTurn_43 ?_
  refine lv_bipush (v := 101) S.1 S.2.1 dX6_endTurn_46 (by decide) ?_
  refine lv_icmp_ne (tgt := 75) S.1 S.2.1 dX6_endTurn_48 (by decide) (fun c10 => ?_) (fun c10 => ?_)
  · have h := h.1 c10
    refine lv_aload_n S.1 S.2.1 dX6_endTurn_75 rfl (lv_at hl 1 rfl) ?_
    refine g6_2 S hg hw g9 u578 dX6_endTurn_76 ?_
    obtain ⟨g11, h⟩ := h
    exact r_iret (y := yX6_endTurn) S hr g11 hlk hS (by omega) (by omega) dX6_endTurn_79 ⟨(K 6 2 l2), _, rfl, h, hw⟩
  · have h := h.2 c10
    refine lv_aload_n S.1 S.2.1 dX6_endTurn_51 rfl (lv_at hl 0 rfl) ?_
    refine lv_aload_n S.1 S.2.1 dX6_endTurn_52 rfl (lv_at hl 1 rfl) ?_
    refine g6_0 S hg hw g9 u574 dX6_endTurn_53 ?_
    refine lv_aload_n S.1 S.2.1 dX6_endTurn_56 rfl (lv_at hl 1 rfl) ?_
    refine g6_3 S hg hw g9 u580 dX6_endTurn_57 ?_
    obtain ⟨a12, a13, h1, h2, h⟩ := h
    refine r_call (rest := []) S hg hS (mtX6_awardCards (mc := a12) (ms := a13) h) u732 u734 u14 u27 u735 hdX6_awardCards (rv0 hg hw) hw ⟨Nat.le_of_ble_eq_true rfl, Nat.le_of_ble_eq_true rfl⟩ ⟨by show uc + a12 ≤ mc; omega, by show us + a13 ≤ ms; omega⟩ hl.1 (Nat.le_of_ble_eq_true rfl) rfl dX6_endTurn_60 (fun E ce q H1 locs1 hx hS1 hc1 hc2 hc3 => hx.elim) (fun rv H locs hq hS => ?_)
    obtain ⟨_, K14, rfl, h, hw⟩ := hq
    show W p l e _ s m _ below meth c H locs _ _ _ (F0 m 63 ls [])
    refine lv_aload_n S.1 S.2.1 dX6_endTurn_63 rfl (lv_at hl 0 rfl) ?_
    refine lv_aload_n S.1 S.2.1 dX6_endTurn_64 rfl (lv_at hl 1 rfl) ?_
    obtain ⟨g15, h⟩ := h
    refine g6_1 S hg hw g15 u576 dX6_endTurn_65 ?_
    refine lv_aload_n S.1 S.2.1 dX6_endTurn_68 rfl (lv_at hl 1 rfl) ?_
    refine g6_3 S hg hw g15 u580 dX6_endTurn_69 ?_
    obtain ⟨a16, a17, h1, h2, h⟩ := h
    refine r_call (rest := []) S hg hS (mtX6_awardCards (mc := a16) (ms := a17) h) u732 u734 u14 u27 u735 hdX6_awardCards (rv0 hg hw) hw ⟨Nat.le_of_ble_eq_true rfl, Nat.le_of_ble_eq_true rfl⟩ ⟨by show (uc + a12) + a16 ≤ mc; omega, by show (us + a13) + a17 ≤ ms; omega⟩ hl.1 (Nat.le_of_ble_eq_true rfl) rfl dX6_endTurn_72 (fun E ce q H1 locs1 hx hS1 hc1 hc2 hc3 => hx.elim) (fun rv H locs hq hS => ?_)
    obtain ⟨_, K18, rfl, h, hw⟩ := hq
    show W p l e _ s m _ below meth c H locs _ _ _ (F0 m 75 ls [])
    refine lv_aload_n S.1 S.2.1 dX6_endTurn_75 rfl (lv_at hl 1 rfl) ?_
    obtain ⟨g19, h⟩ := h
    refine g6_2 S hg hw g19 u578 dX6_endTurn_76 ?_
    obtain ⟨g20, h⟩ := h
    exact r_iret (y := yX6_endTurn) S hr g20 hlk hS (by omega) (by omega) dX6_endTurn_79 ⟨(K18 6 2 l2), _, rfl, h, hw⟩
def wpX6_endTurn (post : Int32 → KS → Prop) (px : String → KS → Prop) (mc ms : Nat) (K : KS) (p1 : Int32) : Prop := (∃ a1 a2 : Nat, 0 + a1 ≤ mc ∧ 0 + a2 ≤ ms ∧ wpX6_duelAt (fun r3 => (r3 < nD K) ∧ ((((K 6 2 r3) = 103 → ((wpX2_doStack (fun _ K6 => (r3 < nD K6) ∧ (((¬ (K6 6 2 r3) = 103 → (wX6_endTurn_42 post px mc ms (0 + a1) (0 + a2) r3 K6)) ∧ ((K6 6 2 r3) = 103 → ((wpX2_passTurn (fun _ K21 => wX6_endTurn_42 post px mc ms (0 + a1) (0 + a2) r3 K21) K6 r3)))))) K r3))) ∧ (¬ (K 6 2 r3) = 103 → (((0 + a1) + 1 ≤ mc ∧ (0 + a2) + 6 ≤ ms ∧ px "java/lang/UnsupportedOperationException" K)))))) (fun E => px E K) a1 a2 K p1)
theorem hdX6_endTurn : yX6_endTurn.cls ≠ "java/lang/invoke/MethodHandle" ∧ yX6_endTurn.cls ≠ "java/lang/invoke/VarHandle" ∧ (parseMethodDescriptor yX6_endTurn.desc).map (fun d => d.parameters.length) = some 1 := by decide +kernel
set_option maxHeartbeats 4000000 in
set_option maxRecDepth 100000 in
theorem mtX6_endTurn {l : Launch} {D : va_G} {cI : Nat → ClassId} {e0 : Nat} {A : Nat → Prop} {ad : Nat → Nat → Nat} {K M : KS} {ap o : Int64} {od : UInt64} {mc ms : Nat} {p1 : Int32} {post : Int32 → KS → Prop} {px : String → KS → Prop} (hfl : l.stackTraces = false) (h : wpX6_endTurn post px mc ms K p1) : CM l D cI e0 A yX6_endTurn cX6_endTurn 3 (some FieldType.char) 7 151 mc ms [.ref (ad 0 0), .int p1] (HT D cI e0 A ad K M ap o od) (qK D cI e0 A ad M ap o od rI post) (xK D cI e0 A ad M ap o od px) := by
  refine CM.of (by decide) (Nat.le_of_ble_eq_true rfl) (fun p e s m below meth c ls FX hw hS hl => ?_)
  obtain ⟨S, hg, hr, hlk, hnm, hout⟩ := FX
  have hl : lv_has ls 3 [(0, .ref (ad 0 0)), (1, .int p1)] := hl
  unfold wpX6_endTurn at h
  refine lv_aload_n S.1 S.2.1 dX6_endTurn_0 rfl (lv_at hl 0 rfl) ?_
  refine lv_iload_n S.1 S.2.1 dX6_endTurn_1 rfl (lv_at hl 1 rfl) ?_
  obtain ⟨a1, a2, h1, h2, h⟩ := h
  refine r_call (rest := []) S hg hS (mtX6_duelAt (mc := a1) (ms := a2) hfl h) u618 u620 u8 u27 u621 hdX6_duelAt (rv0 hg hw) hw ⟨Nat.le_of_ble_eq_true rfl, Nat.le_of_ble_eq_true rfl⟩ ⟨by show 0 + a1 ≤ mc; omega, by show 0 + a2 ≤ ms; omega⟩ hl.1 (Nat.le_of_ble_eq_true rfl) rfl dX6_endTurn_2 (fun E ce q H1 locs1 hx hS1 hc1 hc2 hc3 => by obtain ⟨hx1, hw1⟩ := hx; exact r_out hout hlk hS1 (by show (0 + a1) ≤ mc; omega) (by show (0 + a2) ≤ ms; omega) hc1 hc2 hc3 ⟨_, hx1, hw1⟩) (fun rv H locs hq hS => ?_)
  obtain ⟨r3, rfl, h, hw⟩ := hq
  show W p l e _ s m _ below meth c H locs _ _ _ (F0 m 5 ls [.ref (ad 6 r3)])
  refine lv_astore_n (lv' := [(2, .ref (ad 6 r3)), (0, .ref (ad 0 0)), (1, .int p1)]) S.1 S.2.1 dX6_endTurn_5 rfl hl (by decide) rfl (fun ls hl => ?_)
  refine lv_aload_n S.1 S.2.1 dX6_endTurn_6 rfl (lv_at hl 0 rfl) ?_
  obtain ⟨g4, h⟩ := h
  refine g6_2 S hg hw g4 u578 dX6_endTurn_7 ?_
  refine lv_bipush (v := 103) S.1 S.2.1 dX6_endTurn_10 (by decide) ?_
  refine lv_icmp_eq (tgt := 25) S.1 S.2.1 dX6_endTurn_12 (by decide) (fun c5 => ?_) (fun c5 => ?_)
  · have h := h.1 c5
    refine lv_aload_n S.1 S.2.1 dX6_endTurn_25 rfl (lv_at hl 0 rfl) ?_
    refine r_call (rest := []) S hg hS (mtX2_doStack (mc := 0) (ms := 0) h) u702 u703 u704 u49 u705 hdX2_doStack (rv6 hg hw g4) hw ⟨Nat.le_of_ble_eq_true rfl, Nat.le_of_ble_eq_true rfl⟩ ⟨by show (0 + a1) + 0 ≤ mc; omega, by show (0 + a2) + 0 ≤ ms; omega⟩ hl.1 (Nat.le_of_ble_eq_true rfl) rfl dX6_endTurn_26 (fun E ce q H1 locs1 hx hS1 hc1 hc2 hc3 => hx.elim) (fun rv H locs hq hS => ?_)
    obtain ⟨_, K6, rfl, h, hw⟩ := hq
    show W p l e _ s m _ below meth c H locs _ _ _ (F0 m 29 ls [])
    show W p l e _ s m _ below meth c H locs (0 + a1) (0 + a2) _ _
    refine lv_aload_n S.1 S.2.1 dX6_endTurn_29 rfl (lv_at hl 0 rfl) ?_
    obtain ⟨g7, h⟩ := h
    refine g6_2 S hg hw g7 u578 dX6_endTurn_30 ?_
    refine lv_bipush (v := 103) S.1 S.2.1 dX6_endTurn_33 (by decide) ?_
    refine lv_icmp_ne (tgt := 42) S.1 S.2.1 dX6_endTurn_35 (by decide) (fun c8 => ?_) (fun c8 => ?_)
    · have h := h.1 c8
      have hl := lv_sub hl (l' := [(0, .ref (ad 0 0)), (2, .ref (ad 6 r3))]) [1, 0] rfl
      exact bX6_endTurn_42 hfl S hg hr hlk hout hS hw hl (by omega) (by omega) h
    · have h := h.2 c8
      refine lv_aload_n S.1 S.2.1 dX6_endTurn_38 rfl (lv_at hl 0 rfl) ?_
      refine r_call (rest := []) S hg hS (mtX2_passTurn (mc := 0) (ms := 0) h) u720 u721 u722 u49 u723 hdX2_passTurn (rv6 hg hw g7) hw ⟨Nat.le_of_ble_eq_true rfl, Nat.le_of_ble_eq_true rfl⟩ ⟨by show (0 + a1) + 0 ≤ mc; omega, by show (0 + a2) + 0 ≤ ms; omega⟩ hl.1 (Nat.le_of_ble_eq_true rfl) rfl dX6_endTurn_39 (fun E ce q H1 locs1 hx hS1 hc1 hc2 hc3 => hx.elim) (fun rv H locs hq hS => ?_)
      obtain ⟨_, K21, rfl, h, hw⟩ := hq
      show W p l e _ s m _ below meth c H locs _ _ _ (F0 m 42 ls [])
      show W p l e _ s m _ below meth c H locs (0 + a1) (0 + a2) _ _
      have hl := lv_sub hl (l' := [(0, .ref (ad 0 0)), (2, .ref (ad 6 r3))]) [1, 0] rfl
      exact bX6_endTurn_42 hfl S hg hr hlk hout hS hw hl (by omega) (by omega) h
  · have h := h.2 c5
    obtain ⟨g22, g23, h⟩ := h
    exact r_throw (fr := 0) (lo := 0) (text := "the duel does not go on") hfl S hout hlk hg hS (by decide) u623 u51 (by decide +kernel) hat_158 hl.1 dX6_endTurn_15 dX6_endTurn_18 dX6_endTurn_19 dX6_endTurn_21 dX6_endTurn_24 (Nat.le_of_ble_eq_true rfl) (Nat.le_of_ble_eq_true rfl) g22 g23 g22 g23 (fun H1 hz hk => ⟨_, h, hw.more hk⟩)

-- X6.duelState
theorem dX6_duelState_0 : decode cX6_duelState 0 = .ok (.aload_n 0, 1) := by decide +kernel
theorem dX6_duelState_1 : decode cX6_duelState 1 = .ok (.iload_n 1, 1) := by decide +kernel
theorem dX6_duelState_2 : decode cX6_duelState 2 = .ok (.invokevirtual 145, 3) := by decide +kernel
theorem dX6_duelState_5 : decode cX6_duelState 5 = .ok (.getfield 149, 3) := by decide +kernel
theorem dX6_duelState_8 : decode cX6_duelState 8 = .ok (.ireturn, 1) := by decide +kernel
def wpX6_duelState (post : Int32 → Prop) (px : String → Prop) (mc ms : Nat) (K : KS) (p1 : Int32) : Prop := (∃ a1 a2 : Nat, 0 + a1 ≤ mc ∧ 0 + a2 ≤ ms ∧ wpX6_duelAt (fun r3 => (r3 < nD K) ∧ ((narrow .char (.int (K 6 2 r3)) = .int (K 6 2 r3)) ∧ post (K 6 2 r3))) px a1 a2 K p1)
theorem hdX6_duelState : yX6_duelState.cls ≠ "java/lang/invoke/MethodHandle" ∧ yX6_duelState.cls ≠ "java/lang/invoke/VarHandle" ∧ (parseMethodDescriptor yX6_duelState.desc).map (fun d => d.parameters.length) = some 1 := by decide +kernel
set_option maxHeartbeats 4000000 in
set_option maxRecDepth 100000 in
theorem mtX6_duelState {l : Launch} {D : va_G} {cI : Nat → ClassId} {e0 : Nat} {A : Nat → Prop} {ad : Nat → Nat → Nat} {K M : KS} {ap o : Int64} {od : UInt64} {mc ms : Nat} {p1 : Int32} {post : Int32 → Prop} {px : String → Prop} (hfl : l.stackTraces = false) (h : wpX6_duelState post px mc ms K p1) : CM l D cI e0 A yX6_duelState cX6_duelState 2 (some FieldType.char) 7 103 mc ms [.ref (ad 0 0), .int p1] (HT D cI e0 A ad K M ap o od) (qP D cI e0 A ad K M ap o od rI post) (xP D cI e0 A ad K M ap o od px) := by
  refine CM.of (by decide) (Nat.le_of_ble_eq_true rfl) (fun p e s m below meth c ls FX hw hS hl => ?_)
  obtain ⟨S, hg, hr, hlk, hnm, hout⟩ := FX
  have hl : lv_has ls 2 [(0, .ref (ad 0 0)), (1, .int p1)] := hl
  unfold wpX6_duelState at h
  refine lv_aload_n S.1 S.2.1 dX6_duelState_0 rfl (lv_at hl 0 rfl) ?_
  refine lv_iload_n S.1 S.2.1 dX6_duelState_1 rfl (lv_at hl 1 rfl) ?_
  obtain ⟨a1, a2, h1, h2, h⟩ := h
  refine r_call (rest := []) S hg hS (mtX6_duelAt (mc := a1) (ms := a2) hfl h) u618 u620 u8 u27 u621 hdX6_duelAt (rv0 hg hw) hw ⟨Nat.le_of_ble_eq_true rfl, Nat.le_of_ble_eq_true rfl⟩ ⟨by show 0 + a1 ≤ mc; omega, by show 0 + a2 ≤ ms; omega⟩ hl.1 (Nat.le_of_ble_eq_true rfl) rfl dX6_duelState_2 (fun E ce q H1 locs1 hx hS1 hc1 hc2 hc3 => by obtain ⟨hx1, hw1⟩ := hx; exact r_out hout hlk hS1 (by show (0 + a1) ≤ mc; omega) (by show (0 + a2) ≤ ms; omega) hc1 hc2 hc3 ⟨hx1, hw1⟩) (fun rv H locs hq hS => ?_)
  obtain ⟨r3, rfl, h, hw⟩ := hq
  show W p l e _ s m _ below meth c H locs _ _ _ (F0 m 5 ls [.ref (ad 6 r3)])
  obtain ⟨g4, h⟩ := h
  refine g6_2 S hg hw g4 u578 dX6_duelState_5 ?_
  obtain ⟨g5, h⟩ := h
  exact r_iret (y := yX6_duelState) S hr g5 hlk hS (by omega) (by omega) dX6_duelState_8 ⟨(K 6 2 r3), rfl, h, hw⟩

-- X6.life
theorem dX6_life_0 : decode cX6_life 0 = .ok (.aload_n 0, 1) := by decide +kernel
theorem dX6_life_1 : decode cX6_life 1 = .ok (.iload_n 1, 1) := by decide +kernel
theorem dX6_life_2 : decode cX6_life 2 = .ok (.invokevirtual 145, 3) := by decide +kernel
theorem dX6_life_5 : decode cX6_life 5 = .ok (.astore_n 3, 1) := by decide +kernel
theorem dX6_life_6 : decode cX6_life 6 = .ok (.iload_n 2, 1) := by decide +kernel
theorem dX6_life_7 : decode cX6_life 7 = .ok (.ifCond .eq 13, 3) := by decide +kernel
theorem dX6_life_10 : decode cX6_life 10 = .ok (.aload_n 3, 1) := by decide +kernel
theorem dX6_life_11 : decode cX6_life 11 = .ok (.getfield 187, 3) := by decide +kernel
theorem dX6_life_14 : decode cX6_life 14 = .ok (.getfield 232, 3) := by decide +kernel
theorem dX6_life_17 : decode cX6_life 17 = .ok (.goto 10, 3) := by decide +kernel
theorem dX6_life_20 : decode cX6_life 20 = .ok (.aload_n 3, 1) := by decide +kernel
theorem dX6_life_21 : decode cX6_life 21 = .ok (.getfield 179, 3) := by decide +kernel
theorem dX6_life_24 : decode cX6_life 24 = .ok (.getfield 232, 3) := by decide +kernel
theorem dX6_life_27 : decode cX6_life 27 = .ok (.ireturn, 1) := by decide +kernel
def wpX6_life (post : Int32 → Prop) (px : String → Prop) (mc ms : Nat) (K : KS) (p1 : Int32) (p2 : Int32) : Prop := (∃ a1 a2 : Nat, 0 + a1 ≤ mc ∧ 0 + a2 ≤ ms ∧ wpX6_duelAt (fun r3 => ((p2 = 0 → ((r3 < nD K) ∧ (post (K 7 1 (2 * r3))))) ∧ (¬ p2 = 0 → ((r3 < nD K) ∧ (post (K 7 1 (2 * r3 + 1))))))) px a1 a2 K p1)
theorem hdX6_life : yX6_life.cls ≠ "java/lang/invoke/MethodHandle" ∧ yX6_life.cls ≠ "java/lang/invoke/VarHandle" ∧ (parseMethodDescriptor yX6_life.desc).map (fun d => d.parameters.length) = some 2 := by decide +kernel
set_option maxHeartbeats 4000000 in
set_option maxRecDepth 100000 in
theorem mtX6_life {l : Launch} {D : va_G} {cI : Nat → ClassId} {e0 : Nat} {A : Nat → Prop} {ad : Nat → Nat → Nat} {K M : KS} {ap o : Int64} {od : UInt64} {mc ms : Nat} {p1 : Int32} {p2 : Int32} {post : Int32 → Prop} {px : String → Prop} (hfl : l.stackTraces = false) (h : wpX6_life post px mc ms K p1 p2) : CM l D cI e0 A yX6_life cX6_life 4 (some FieldType.int) 7 103 mc ms [.ref (ad 0 0), .int p1, .int p2] (HT D cI e0 A ad K M ap o od) (qP D cI e0 A ad K M ap o od rI post) (xP D cI e0 A ad K M ap o od px) := by
  refine CM.of (by decide) (Nat.le_of_ble_eq_true rfl) (fun p e s m below meth c ls FX hw hS hl => ?_)
  obtain ⟨S, hg, hr, hlk, hnm, hout⟩ := FX
  have hl : lv_has ls 4 [(0, .ref (ad 0 0)), (1, .int p1), (2, .int p2)] := hl
  unfold wpX6_life at h
  refine lv_aload_n S.1 S.2.1 dX6_life_0 rfl (lv_at hl 0 rfl) ?_
  refine lv_iload_n S.1 S.2.1 dX6_life_1 rfl (lv_at hl 1 rfl) ?_
  obtain ⟨a1, a2, h1, h2, h⟩ := h
  refine r_call (rest := []) S hg hS (mtX6_duelAt (mc := a1) (ms := a2) hfl h) u618 u620 u8 u27 u621 hdX6_duelAt (rv0 hg hw) hw ⟨Nat.le_of_ble_eq_true rfl, Nat.le_of_ble_eq_true rfl⟩ ⟨by show 0 + a1 ≤ mc; omega, by show 0 + a2 ≤ ms; omega⟩ hl.1 (Nat.le_of_ble_eq_true rfl) rfl dX6_life_2 (fun E ce q H1 locs1 hx hS1 hc1 hc2 hc3 => by obtain ⟨hx1, hw1⟩ := hx; exact r_out hout hlk hS1 (by show (0 + a1) ≤ mc; omega) (by show (0 + a2) ≤ ms; omega) hc1 hc2 hc3 ⟨hx1, hw1⟩) (fun rv H locs hq hS => ?_)
  obtain ⟨r3, rfl, h, hw⟩ := hq
  show W p l e _ s m _ below meth c H locs _ _ _ (F0 m 5 ls [.ref (ad 6 r3)])
  refine lv_astore_n (lv' := [(3, .ref (ad 6 r3)), (0, .ref (ad 0 0)), (1, .int p1), (2, .int p2)]) S.1 S.2.1 dX6_life_5 rfl hl (by decide) rfl (fun ls hl => ?_)
  refine lv_iload_n S.1 S.2.1 dX6_life_6 rfl (lv_at hl 3 rfl) ?_
  refine lv_if_eq (tgt := 20) S.1 S.2.1 dX6_life_7 (by decide) (fun c4 => ?_) (fun c4 => ?_)
  · have h := h.1 c4
    refine lv_aload_n S.1 S.2.1 dX6_life_20 rfl (lv_at hl 0 rfl) ?_
    obtain ⟨g5, h⟩ := h
    refine g6_0 S hg hw g5 u574 dX6_life_21 ?_
    refine g7_1 S hg hw (lt2 g5) u558 dX6_life_24 ?_
    exact r_iret (y := yX6_life) S hr rfl hlk hS (by omega) (by omega) dX6_life_27 ⟨(K 7 1 (2 * r3)), rfl, h, hw⟩
  · have h := h.2 c4
    refine lv_aload_n S.1 S.2.1 dX6_life_10 rfl (lv_at hl 0 rfl) ?_
    obtain ⟨g6, h⟩ := h
    refine g6_1 S hg hw g6 u576 dX6_life_11 ?_
    refine g7_1 S hg hw (lt2s g6) u558 dX6_life_14 ?_
    refine lv_goto (tgt := 27) S.1 S.2.1 dX6_life_17 (by decide) ?_
    exact r_iret (y := yX6_life) S hr rfl hlk hS (by omega) (by omega) dX6_life_27 ⟨(K 7 1 (2 * r3 + 1)), rfl, h, hw⟩

-- X6.mana
theorem dX6_mana_0 : decode cX6_mana 0 = .ok (.aload_n 0, 1) := by decide +kernel
theorem dX6_mana_1 : decode cX6_mana 1 = .ok (.iload_n 1, 1) := by decide +kernel
theorem dX6_mana_2 : decode cX6_mana 2 = .ok (.invokevirtual 145, 3) := by decide +kernel
theorem dX6_mana_5 : decode cX6_mana 5 = .ok (.astore_n 2, 1) := by decide +kernel
theorem dX6_mana_6 : decode cX6_mana 6 = .ok (.aload_n 2, 1) := by decide +kernel
theorem dX6_mana_7 : decode cX6_mana 7 = .ok (.getfield 149, 3) := by decide +kernel
theorem dX6_mana_10 : decode cX6_mana 10 = .ok (.bipush 103, 2) := by decide +kernel
theorem dX6_mana_12 : decode cX6_mana 12 = .ok (.if_icmp .eq 13, 3) := by decide +kernel
theorem dX6_mana_15 : decode cX6_mana 15 = .ok (.new 154, 3) := by decide +kernel
theorem dX6_mana_18 : decode cX6_mana 18 = .ok (.dup, 1) := by decide +kernel
theorem dX6_mana_19 : decode cX6_mana 19 = .ok (.ldc 198, 2) := by decide +kernel
theorem dX6_mana_21 : decode cX6_mana 21 = .ok (.invokespecial 158, 3) := by decide +kernel
theorem dX6_mana_24 : decode cX6_mana 24 = .ok (.athrow, 1) := by decide +kernel
theorem dX6_mana_25 : decode cX6_mana 25 = .ok (.aload_n 2, 1) := by decide +kernel
theorem dX6_mana_26 : decode cX6_mana 26 = .ok (.getfield 192, 3) := by decide +kernel
theorem dX6_mana_29 : decode cX6_mana 29 = .ok (.ireturn, 1) := by decide +kernel
def wpX6_mana (post : Int32 → Prop) (px : String → Prop) (mc ms : Nat) (K : KS) (p1 : Int32) : Prop := (∃ a1 a2 : Nat, 0 + a1 ≤ mc ∧ 0 + a2 ≤ ms ∧ wpX6_duelAt (fun r3 => (r3 < nD K) ∧ ((((K 6 2 r3) = 103 → (post (K 6 4 r3))) ∧ (¬ (K 6 2 r3) = 103 → (((0 + a1) + 1 ≤ mc ∧ (0 + a2) + 6 ≤ ms ∧ px "java/lang/UnsupportedOperationException")))))) px a1 a2 K p1)
theorem hdX6_mana : yX6_mana.cls ≠ "java/lang/invoke/MethodHandle" ∧ yX6_mana.cls ≠ "java/lang/invoke/VarHandle" ∧ (parseMethodDescriptor yX6_mana.desc).map (fun d => d.parameters.length) = some 1 := by decide +kernel
set_option maxHeartbeats 4000000 in
set_option maxRecDepth 100000 in
theorem mtX6_mana {l : Launch} {D : va_G} {cI : Nat → ClassId} {e0 : Nat} {A : Nat → Prop} {ad : Nat → Nat → Nat} {K M : KS} {ap o : Int64} {od : UInt64} {mc ms : Nat} {p1 : Int32} {post : Int32 → Prop} {px : String → Prop} (hfl : l.stackTraces = false) (h : wpX6_mana post px mc ms K p1) : CM l D cI e0 A yX6_mana cX6_mana 3 (some FieldType.int) 7 103 mc ms [.ref (ad 0 0), .int p1] (HT D cI e0 A ad K M ap o od) (qP D cI e0 A ad K M ap o od rI post) (xP D cI e0 A ad K M ap o od px) := by
  refine CM.of (by decide) (Nat.le_of_ble_eq_true rfl) (fun p e s m below meth c ls FX hw hS hl => ?_)
  obtain ⟨S, hg, hr, hlk, hnm, hout⟩ := FX
  have hl : lv_has ls 3 [(0, .ref (ad 0 0)), (1, .int p1)] := hl
  unfold wpX6_mana at h
  refine lv_aload_n S.1 S.2.1 dX6_mana_0 rfl (lv_at hl 0 rfl) ?_
  refine lv_iload_n S.1 S.2.1 dX6_mana_1 rfl (lv_at hl 1 rfl) ?_
  obtain ⟨a1, a2, h1, h2, h⟩ := h
  refine r_call (rest := []) S hg hS (mtX6_duelAt (mc := a1) (ms := a2) hfl h) u618 u620 u8 u27 u621 hdX6_duelAt (rv0 hg hw) hw ⟨Nat.le_of_ble_eq_true rfl, Nat.le_of_ble_eq_true rfl⟩ ⟨by show 0 + a1 ≤ mc; omega, by show 0 + a2 ≤ ms; omega⟩ hl.1 (Nat.le_of_ble_eq_true rfl) rfl dX6_mana_2 (fun E ce q H1 locs1 hx hS1 hc1 hc2 hc3 => by obtain ⟨hx1, hw1⟩ := hx; exact r_out hout hlk hS1 (by show (0 + a1) ≤ mc; omega) (by show (0 + a2) ≤ ms; omega) hc1 hc2 hc3 ⟨hx1, hw1⟩) (fun rv H locs hq hS => ?_)
  obtain ⟨r3, rfl, h, hw⟩ := hq
  show W p l e _ s m _ below meth c H locs _ _ _ (F0 m 5 ls [.ref (ad 6 r3)])
  refine lv_astore_n (lv' := [(2, .ref (ad 6 r3)), (0, .ref (ad 0 0)), (1, .int p1)]) S.1 S.2.1 dX6_mana_5 rfl hl (by decide) rfl (fun ls hl => ?_)
  refine lv_aload_n S.1 S.2.1 dX6_mana_6 rfl (lv_at hl 0 rfl) ?_
  obtain ⟨g4, h⟩ := h
  refine g6_2 S hg hw g4 u578 dX6_mana_7 ?_
  refine lv_bipush (v := 103) S.1 S.2.1 dX6_mana_10 (by decide) ?_
  refine lv_icmp_eq (tgt := 25) S.1 S.2.1 dX6_mana_12 (by decide) (fun c5 => ?_) (fun c5 => ?_)
  · have h := h.1 c5
    refine lv_aload_n S.1 S.2.1 dX6_mana_25 rfl (lv_at hl 0 rfl) ?_
    refine g6_4 S hg hw g4 u582 dX6_mana_26 ?_
    exact r_iret (y := yX6_mana) S hr rfl hlk hS (by omega) (by omega) dX6_mana_29 ⟨(K 6 4 r3), rfl, h, hw⟩
  · have h := h.2 c5
    obtain ⟨g6, g7, h⟩ := h
    exact r_throw (fr := 0) (lo := 0) (text := "the duel does not go on") hfl S hout hlk hg hS (by decide) u623 u51 (by decide +kernel) hat_158 hl.1 dX6_mana_15 dX6_mana_18 dX6_mana_19 dX6_mana_21 dX6_mana_24 (Nat.le_of_ble_eq_true rfl) (Nat.le_of_ble_eq_true rfl) g6 g7 g6 g7 (fun H1 hz hk => ⟨h, hw.more hk⟩)

-- X6.depth
theorem dX6_depth_0 : decode cX6_depth 0 = .ok (.aload_n 0, 1) := by decide +kernel
theorem dX6_depth_1 : decode cX6_depth 1 = .ok (.iload_n 1, 1) := by decide +kernel
theorem dX6_depth_2 : decode cX6_depth 2 = .ok (.invokevirtual 145, 3) := by decide +kernel
theorem dX6_depth_5 : decode cX6_depth 5 = .ok (.getfield 235, 3) := by decide +kernel
theorem dX6_depth_8 : decode cX6_depth 8 = .ok (.ireturn, 1) := by decide +kernel
def wpX6_depth (post : Int32 → Prop) (px : String → Prop) (mc ms : Nat) (K : KS) (p1 : Int32) : Prop := (∃ a1 a2 : Nat, 0 + a1 ≤ mc ∧ 0 + a2 ≤ ms ∧ wpX6_duelAt (fun r3 => (r3 < nD K) ∧ (post (K 6 7 r3))) px a1 a2 K p1)
theorem hdX6_depth : yX6_depth.cls ≠ "java/lang/invoke/MethodHandle" ∧ yX6_depth.cls ≠ "java/lang/invoke/VarHandle" ∧ (parseMethodDescriptor yX6_depth.desc).map (fun d => d.parameters.length) = some 1 := by decide +kernel
set_option maxHeartbeats 4000000 in
set_option maxRecDepth 100000 in
theorem mtX6_depth {l : Launch} {D : va_G} {cI : Nat → ClassId} {e0 : Nat} {A : Nat → Prop} {ad : Nat → Nat → Nat} {K M : KS} {ap o : Int64} {od : UInt64} {mc ms : Nat} {p1 : Int32} {post : Int32 → Prop} {px : String → Prop} (hfl : l.stackTraces = false) (h : wpX6_depth post px mc ms K p1) : CM l D cI e0 A yX6_depth cX6_depth 2 (some FieldType.int) 7 103 mc ms [.ref (ad 0 0), .int p1] (HT D cI e0 A ad K M ap o od) (qP D cI e0 A ad K M ap o od rI post) (xP D cI e0 A ad K M ap o od px) := by
  refine CM.of (by decide) (Nat.le_of_ble_eq_true rfl) (fun p e s m below meth c ls FX hw hS hl => ?_)
  obtain ⟨S, hg, hr, hlk, hnm, hout⟩ := FX
  have hl : lv_has ls 2 [(0, .ref (ad 0 0)), (1, .int p1)] := hl
  unfold wpX6_depth at h
  refine lv_aload_n S.1 S.2.1 dX6_depth_0 rfl (lv_at hl 0 rfl) ?_
  refine lv_iload_n S.1 S.2.1 dX6_depth_1 rfl (lv_at hl 1 rfl) ?_
  obtain ⟨a1, a2, h1, h2, h⟩ := h
  refine r_call (rest := []) S hg hS (mtX6_duelAt (mc := a1) (ms := a2) hfl h) u618 u620 u8 u27 u621 hdX6_duelAt (rv0 hg hw) hw ⟨Nat.le_of_ble_eq_true rfl, Nat.le_of_ble_eq_true rfl⟩ ⟨by show 0 + a1 ≤ mc; omega, by show 0 + a2 ≤ ms; omega⟩ hl.1 (Nat.le_of_ble_eq_true rfl) rfl dX6_depth_2 (fun E ce q H1 locs1 hx hS1 hc1 hc2 hc3 => by obtain ⟨hx1, hw1⟩ := hx; exact r_out hout hlk hS1 (by show (0 + a1) ≤ mc; omega) (by show (0 + a2) ≤ ms; omega) hc1 hc2 hc3 ⟨hx1, hw1⟩) (fun rv H locs hq hS => ?_)
  obtain ⟨r3, rfl, h, hw⟩ := hq
  show W p l e _ s m _ below meth c H locs _ _ _ (F0 m 5 ls [.ref (ad 6 r3)])
  obtain ⟨g4, h⟩ := h
  refine g6_7 S hg hw g4 u586 dX6_depth_5 ?_
  exact r_iret (y := yX6_depth) S hr rfl hlk hS (by omega) (by omega) dX6_depth_8 ⟨(K 6 7 r3), rfl, h, hw⟩

-- X6.winner
theorem dX6_winner_0 : decode cX6_winner 0 = .ok (.aload_n 0, 1) := by decide +kernel
theorem dX6_winner_1 : decode cX6_winner 1 = .ok (.iload_n 1, 1) := by decide +kernel
theorem dX6_winner_2 : decode cX6_winner 2 = .ok (.invokevirtual 145, 3) := by decide +kernel
theorem dX6_winner_5 : decode cX6_winner 5 = .ok (.astore_n 2, 1) := by decide +kernel
theorem dX6_winner_6 : decode cX6_winner 6 = .ok (.aload_n 2, 1) := by decide +kernel
theorem dX6_winner_7 : decode cX6_winner 7 = .ok (.invokevirtual 238, 3) := by decide +kernel
theorem dX6_winner_10 : decode cX6_winner 10 = .ok (.ifCond .eq 13, 3) := by decide +kernel
theorem dX6_winner_13 : decode cX6_winner 13 = .ok (.new 241, 3) := by decide +kernel
theorem dX6_winner_16 : decode cX6_winner 16 = .ok (.dup, 1) := by decide +kernel
theorem dX6_winner_17 : decode cX6_winner 17 = .ok (.ldc 243, 2) := by decide +kernel
theorem dX6_winner_19 : decode cX6_winner 19 = .ok (.invokespecial 245, 3) := by decide +kernel
theorem dX6_winner_22 : decode cX6_winner 22 = .ok (.athrow, 1) := by decide +kernel
theorem dX6_winner_23 : decode cX6_winner 23 = .ok (.aload_n 2, 1) := by decide +kernel
theorem dX6_winner_24 : decode cX6_winner 24 = .ok (.getfield 225, 3) := by decide +kernel
theorem dX6_winner_27 : decode cX6_winner 27 = .ok (.ireturn, 1) := by decide +kernel
def wpX6_winner (post : Int32 → Prop) (px : String → Prop) (mc ms : Nat) (K : KS) (p1 : Int32) : Prop := (∃ a1 a2 : Nat, 0 + a1 ≤ mc ∧ 0 + a2 ≤ ms ∧ wpX6_duelAt (fun r3 => (r3 < nD K) ∧ (wpX2_hasNotEnded (fun r5 => ((r5 = 0 → (post (K 6 3 r3))) ∧ (¬ r5 = 0 → (((0 + a1) + 1 ≤ mc ∧ (0 + a2) + 6 ≤ ms ∧ px "java/util/NoSuchElementException"))))) K r3)) px a1 a2 K p1)
theorem hdX6_winner : yX6_winner.cls ≠ "java/lang/invoke/MethodHandle" ∧ yX6_winner.cls ≠ "java/lang/invoke/VarHandle" ∧ (parseMethodDescriptor yX6_winner.desc).map (fun d => d.parameters.length) = some 1 := by decide +kernel
set_option maxHeartbeats 4000000 in
set_option maxRecDepth 100000 in
theorem mtX6_winner {l : Launch} {D : va_G} {cI : Nat → ClassId} {e0 : Nat} {A : Nat → Prop} {ad : Nat → Nat → Nat} {K M : KS} {ap o : Int64} {od : UInt64} {mc ms : Nat} {p1 : Int32} {post : Int32 → Prop} {px : String → Prop} (hfl : l.stackTraces = false) (h : wpX6_winner post px mc ms K p1) : CM l D cI e0 A yX6_winner cX6_winner 3 (some FieldType.int) 7 103 mc ms [.ref (ad 0 0), .int p1] (HT D cI e0 A ad K M ap o od) (qP D cI e0 A ad K M ap o od rI post) (xP D cI e0 A ad K M ap o od px) := by
  refine CM.of (by decide) (Nat.le_of_ble_eq_true rfl) (fun p e s m below meth c ls FX hw hS hl => ?_)
  obtain ⟨S, hg, hr, hlk, hnm, hout⟩ := FX
  have hl : lv_has ls 3 [(0, .ref (ad 0 0)), (1, .int p1)] := hl
  unfold wpX6_winner at h
  refine lv_aload_n S.1 S.2.1 dX6_winner_0 rfl (lv_at hl 0 rfl) ?_
  refine lv_iload_n S.1 S.2.1 dX6_winner_1 rfl (lv_at hl 1 rfl) ?_
  obtain ⟨a1, a2, h1, h2, h⟩ := h
  refine r_call (rest := []) S hg hS (mtX6_duelAt (mc := a1) (ms := a2) hfl h) u618 u620 u8 u27 u621 hdX6_duelAt (rv0 hg hw) hw ⟨Nat.le_of_ble_eq_true rfl, Nat.le_of_ble_eq_true rfl⟩ ⟨by show 0 + a1 ≤ mc; omega, by show 0 + a2 ≤ ms; omega⟩ hl.1 (Nat.le_of_ble_eq_true rfl) rfl dX6_winner_2 (fun E ce q H1 locs1 hx hS1 hc1 hc2 hc3 => by obtain ⟨hx1, hw1⟩ := hx; exact r_out hout hlk hS1 (by show (0 + a1) ≤ mc; omega) (by show (0 + a2) ≤ ms; omega) hc1 hc2 hc3 ⟨hx1, hw1⟩) (fun rv H locs hq hS => ?_)
  obtain ⟨r3, rfl, h, hw⟩ := hq
  show W p l e _ s m _ below meth c H locs _ _ _ (F0 m 5 ls [.ref (ad 6 r3)])
  refine lv_astore_n (lv' := [(2, .ref (ad 6 r3)), (0, .ref (ad 0 0)), (1, .int p1)]) S.1 S.2.1 dX6_winner_5 rfl hl (by decide) rfl (fun ls hl => ?_)
  refine lv_aload_n S.1 S.2.1 dX6_winner_6 rfl (lv_at hl 0 rfl) ?_
  obtain ⟨g4, h⟩ := h
  refine r_call (rest := []) S hg hS (mtX2_hasNotEnded (mc := 0) (ms := 0) h) u528 u529 u530 u49 u531 hdX2_hasNotEnded (rv6 hg hw g4) hw ⟨Nat.le_of_ble_eq_true rfl, Nat.le_of_ble_eq_true rfl⟩ ⟨by show (0 + a1) + 0 ≤ mc; omega, by show (0 + a2) + 0 ≤ ms; omega⟩ hl.1 (Nat.le_of_ble_eq_true rfl) rfl dX6_winner_7 (fun E ce q H1 locs1 hx hS1 hc1 hc2 hc3 => hx.elim) (fun rv H locs hq hS => ?_)
  obtain ⟨r5, rfl, h, hw⟩ := hq
  show W p l e _ s m _ below meth c H locs _ _ _ (F0 m 10 ls [.int r5])
  show W p l e _ s m _ below meth c H locs (0 + a1) (0 + a2) _ _
  refine lv_if_eq (tgt := 23) S.1 S.2.1 dX6_winner_10 (by decide) (fun c6 => ?_) (fun c6 => ?_)
  · have h := h.1 c6
    refine lv_aload_n S.1 S.2.1 dX6_winner_23 rfl (lv_at hl 0 rfl) ?_
    refine g6_3 S hg hw g4 u580 dX6_winner_24 ?_
    exact r_iret (y := yX6_winner) S hr rfl hlk hS (by omega) (by omega) dX6_winner_27 ⟨(K 6 3 r3), rfl, h, hw⟩
  · have h := h.2 c6
    obtain ⟨g7, g8, h⟩ := h
    exact r_throwN (text := "the duel has not ended") hfl S hout hlk hg hS u760 u52 (by decide +kernel) hl.1 dX6_winner_13 dX6_winner_16 dX6_winner_17 dX6_winner_19 dX6_winner_22 (Nat.le_of_ble_eq_true rfl) (Nat.le_of_ble_eq_true rfl) g7 g8 g7 g8 (fun H1 hz hk => ⟨h, hw.more hk⟩)

-- X6.close
theorem dX6_close_0 : decode cX6_close 0 = .ok (.aload_n 0, 1) := by decide +kernel
theorem dX6_close_1 : decode cX6_close 1 = .ok (.iload_n 1, 1) := by decide +kernel
theorem dX6_close_2 : decode cX6_close 2 = .ok (.invokevirtual 145, 3) := by decide +kernel
theorem dX6_close_5 : decode cX6_close 5 = .ok (.astore_n 2, 1) := by decide +kernel
theorem dX6_close_6 : decode cX6_close 6 = .ok (.aload_n 2, 1) := by decide +kernel
theorem dX6_close_7 : decode cX6_close 7 = .ok (.getfield 149, 3) := by decide +kernel
theorem dX6_close_10 : decode cX6_close 10 = .ok (.bipush 101, 2) := by decide +kernel
theorem dX6_close_12 : decode cX6_close 12 = .ok (.if_icmp .eq 13, 3) := by decide +kernel
theorem dX6_close_15 : decode cX6_close 15 = .ok (.new 154, 3) := by decide +kernel
theorem dX6_close_18 : decode cX6_close 18 = .ok (.dup, 1) := by decide +kernel
theorem dX6_close_19 : decode cX6_close 19 = .ok (.ldc 246, 2) := by decide +kernel
theorem dX6_close_21 : decode cX6_close 21 = .ok (.invokespecial 158, 3) := by decide +kernel
theorem dX6_close_24 : decode cX6_close 24 = .ok (.athrow, 1) := by decide +kernel
theorem dX6_close_25 : decode cX6_close 25 = .ok (.aload_n 2, 1) := by decide +kernel
theorem dX6_close_26 : decode cX6_close 26 = .ok (.bipush 102, 2) := by decide +kernel
theorem dX6_close_28 : decode cX6_close 28 = .ok (.putfield 149, 3) := by decide +kernel
theorem dX6_close_31 : decode cX6_close 31 = .ok (.aload_n 0, 1) := by decide +kernel
theorem dX6_close_32 : decode cX6_close 32 = .ok (.aload_n 2, 1) := by decide +kernel
theorem dX6_close_33 : decode cX6_close 33 = .ok (.getfield 179, 3) := by decide +kernel
theorem dX6_close_36 : decode cX6_close 36 = .ok (.invokevirtual 248, 3) := by decide +kernel
theorem dX6_close_39 : decode cX6_close 39 = .ok (.aload_n 0, 1) := by decide +kernel
theorem dX6_close_40 : decode cX6_close 40 = .ok (.aload_n 2, 1) := by decide +kernel
theorem dX6_close_41 : decode cX6_close 41 = .ok (.getfield 187, 3) := by decide +kernel
theorem dX6_close_44 : decode cX6_close 44 = .ok (.invokevirtual 248, 3) := by decide +kernel
theorem dX6_close_47 : decode cX6_close 47 = .ok (.aload_n 0, 1) := by decide +kernel
theorem dX6_close_48 : decode cX6_close 48 = .ok (.iload_n 1, 1) := by decide +kernel
theorem dX6_close_49 : decode cX6_close 49 = .ok (.invokevirtual 252, 3) := by decide +kernel
theorem dX6_close_52 : decode cX6_close 52 = .ok (.aload_n 2, 1) := by decide +kernel
theorem dX6_close_53 : decode cX6_close 53 = .ok (.invokevirtual 195, 3) := by decide +kernel
theorem dX6_close_56 : decode cX6_close 56 = .ok (.ireturn, 1) := by decide +kernel
def wpX6_close (post : Int32 → KS → Prop) (px : String → KS → Prop) (mc ms : Nat) (K : KS) (p1 : Int32) : Prop := (∃ a1 a2 : Nat, 0 + a1 ≤ mc ∧ 0 + a2 ≤ ms ∧ wpX6_duelAt (fun r3 => (r3 < nD K) ∧ ((((K 6 2 r3) = 101 → ((wpX6_freeCards (fun _ K6 => (r3 < nD K6) ∧ ((wpX6_freeCards (fun _ K8 => (wpX6_payOutSales (fun _ K9 => (r3 < nD K9) ∧ (wpX2_countStaked (fun r11 => post r11 K9) K9 r3)) K8 p1)) K6 (2 * r3 + 1)))) (k3 K 6 2 r3 102) (2 * r3)))) ∧ (¬ (K 6 2 r3) = 101 → (((0 + a1) + 1 ≤ mc ∧ (0 + a2) + 6 ≤ ms ∧ px "java/lang/UnsupportedOperationException" K)))))) (fun E => px E K) a1 a2 K p1)
theorem hdX6_close : yX6_close.cls ≠ "java/lang/invoke/MethodHandle" ∧ yX6_close.cls ≠ "java/lang/invoke/VarHandle" ∧ (parseMethodDescriptor yX6_close.desc).map (fun d => d.parameters.length) = some 1 := by decide +kernel
set_option maxHeartbeats 4000000 in
set_option maxRecDepth 100000 in
theorem mtX6_close {l : Launch} {D : va_G} {cI : Nat → ClassId} {e0 : Nat} {A : Nat → Prop} {ad : Nat → Nat → Nat} {K M : KS} {ap o : Int64} {od : UInt64} {mc ms : Nat} {p1 : Int32} {post : Int32 → KS → Prop} {px : String → KS → Prop} (hfl : l.stackTraces = false) (h : wpX6_close post px mc ms K p1) : CM l D cI e0 A yX6_close cX6_close 3 (some FieldType.int) 7 104 mc ms [.ref (ad 0 0), .int p1] (HT D cI e0 A ad K M ap o od) (qK D cI e0 A ad M ap o od rI post) (xK D cI e0 A ad M ap o od px) := by
  refine CM.of (by decide) (Nat.le_of_ble_eq_true rfl) (fun p e s m below meth c ls FX hw hS hl => ?_)
  obtain ⟨S, hg, hr, hlk, hnm, hout⟩ := FX
  have hl : lv_has ls 3 [(0, .ref (ad 0 0)), (1, .int p1)] := hl
  unfold wpX6_close at h
  refine lv_aload_n S.1 S.2.1 dX6_close_0 rfl (lv_at hl 0 rfl) ?_
  refine lv_iload_n S.1 S.2.1 dX6_close_1 rfl (lv_at hl 1 rfl) ?_
  obtain ⟨a1, a2, h1, h2, h⟩ := h
  refine r_call (rest := []) S hg hS (mtX6_duelAt (mc := a1) (ms := a2) hfl h) u618 u620 u8 u27 u621 hdX6_duelAt (rv0 hg hw) hw ⟨Nat.le_of_ble_eq_true rfl, Nat.le_of_ble_eq_true rfl⟩ ⟨by show 0 + a1 ≤ mc; omega, by show 0 + a2 ≤ ms; omega⟩ hl.1 (Nat.le_of_ble_eq_true rfl) rfl dX6_close_2 (fun E ce q H1 locs1 hx hS1 hc1 hc2 hc3 => by obtain ⟨hx1, hw1⟩ := hx; exact r_out hout hlk hS1 (by show (0 + a1) ≤ mc; omega) (by show (0 + a2) ≤ ms; omega) hc1 hc2 hc3 ⟨_, hx1, hw1⟩) (fun rv H locs hq hS => ?_)
  obtain ⟨r3, rfl, h, hw⟩ := hq
  show W p l e _ s m _ below meth c H locs _ _ _ (F0 m 5 ls [.ref (ad 6 r3)])
  refine lv_astore_n (lv' := [(2, .ref (ad 6 r3)), (0, .ref (ad 0 0)), (1, .int p1)]) S.1 S.2.1 dX6_close_5 rfl hl (by decide) rfl (fun ls hl => ?_)
  refine lv_aload_n S.1 S.2.1 dX6_close_6 rfl (lv_at hl 0 rfl) ?_
  obtain ⟨g4, h⟩ := h
  refine g6_2 S hg hw g4 u578 dX6_close_7 ?_
  refine lv_bipush (v := 101) S.1 S.2.1 dX6_close_10 (by decide) ?_
  refine lv_icmp_eq (tgt := 25) S.1 S.2.1 dX6_close_12 (by decide) (fun c5 => ?_) (fun c5 => ?_)
  · have h := h.1 c5
    refine lv_aload_n S.1 S.2.1 dX6_close_25 rfl (lv_at hl 0 rfl) ?_
    refine lv_bipush (v := 102) S.1 S.2.1 dX6_close_26 (by decide) ?_
    refine p6_2 S hg hS hw g4 rfl rfl u578 dX6_close_28 (fun H locs hw hS => ?_)
    refine lv_aload_n S.1 S.2.1 dX6_close_31 rfl (lv_at hl 1 rfl) ?_
    refine lv_aload_n S.1 S.2.1 dX6_close_32 rfl (lv_at hl 0 rfl) ?_
    refine g6_0 S hg hw g4 u574 dX6_close_33 ?_
    refine r_call (rest := []) S hg hS (mtX6_freeCards (mc := 0) (ms := 0) h) u781 u783 u16 u27 u784 hdX6_freeCards (rv0 hg hw) hw ⟨Nat.le_of_ble_eq_true rfl, Nat.le_of_ble_eq_true rfl⟩ ⟨by show (0 + a1) + 0 ≤ mc; omega, by show (0 + a2) + 0 ≤ ms; omega⟩ hl.1 (Nat.le_of_ble_eq_true rfl) rfl dX6_close_36 (fun E ce q H1 locs1 hx hS1 hc1 hc2 hc3 => hx.elim) (fun rv H locs hq hS => ?_)
    obtain ⟨_, K6, rfl, h, hw⟩ := hq
    show W p l e _ s m _ below meth c H locs _ _ _ (F0 m 39 ls [])
    show W p l e _ s m _ below meth c H locs (0 + a1) (0 + a2) _ _
    refine lv_aload_n S.1 S.2.1 dX6_close_39 rfl (lv_at hl 1 rfl) ?_
    refine lv_aload_n S.1 S.2.1 dX6_close_40 rfl (lv_at hl 0 rfl) ?_
    obtain ⟨g7, h⟩ := h
    refine g6_1 S hg hw g7 u576 dX6_close_41 ?_
    refine r_call (rest := []) S hg hS (mtX6_freeCards (mc := 0) (ms := 0) h) u781 u783 u16 u27 u784 hdX6_freeCards (rv0 hg hw) hw ⟨Nat.le_of_ble_eq_true rfl, Nat.le_of_ble_eq_true rfl⟩ ⟨by show (0 + a1) + 0 ≤ mc; omega, by show (0 + a2) + 0 ≤ ms; omega⟩ hl.1 (Nat.le_of_ble_eq_true rfl) rfl dX6_close_44 (fun E ce q H1 locs1 hx hS1 hc1 hc2 hc3 => hx.elim) (fun rv H locs hq hS => ?_)
    obtain ⟨_, K8, rfl, h, hw⟩ := hq
    show W p l e _ s m _ below meth c H locs _ _ _ (F0 m 47 ls [])
    show W p l e _ s m _ below meth c H locs (0 + a1) (0 + a2) _ _
    refine lv_aload_n S.1 S.2.1 dX6_close_47 rfl (lv_at hl 1 rfl) ?_
    refine lv_iload_n S.1 S.2.1 dX6_close_48 rfl (lv_at hl 2 rfl) ?_
    refine r_call (rest := []) S hg hS (mtX6_payOutSales (mc := 0) (ms := 0) h) u785 u787 u17 u27 u788 hdX6_payOutSales (rv0 hg hw) hw ⟨Nat.le_of_ble_eq_true rfl, Nat.le_of_ble_eq_true rfl⟩ ⟨by show (0 + a1) + 0 ≤ mc; omega, by show (0 + a2) + 0 ≤ ms; omega⟩ hl.1 (Nat.le_of_ble_eq_true rfl) rfl dX6_close_49 (fun E ce q H1 locs1 hx hS1 hc1 hc2 hc3 => hx.elim) (fun rv H locs hq hS => ?_)
    obtain ⟨_, K9, rfl, h, hw⟩ := hq
    show W p l e _ s m _ below meth c H locs _ _ _ (F0 m 52 ls [])
    show W p l e _ s m _ below meth c H locs (0 + a1) (0 + a2) _ _
    refine lv_aload_n S.1 S.2.1 dX6_close_52 rfl (lv_at hl 0 rfl) ?_
    obtain ⟨g10, h⟩ := h
    refine r_call (rest := []) S hg hS (mtX2_countStaked (mc := 0) (ms := 0) h) u654 u655 u656 u49 u657 hdX2_countStaked (rv6 hg hw g10) hw ⟨Nat.le_of_ble_eq_true rfl, Nat.le_of_ble_eq_true rfl⟩ ⟨by show (0 + a1) + 0 ≤ mc; omega, by show (0 + a2) + 0 ≤ ms; omega⟩ hl.1 (Nat.le_of_ble_eq_true rfl) rfl dX6_close_53 (fun E ce q H1 locs1 hx hS1 hc1 hc2 hc3 => hx.elim) (fun rv H locs hq hS => ?_)
    obtain ⟨r11, rfl, h, hw⟩ := hq
    show W p l e _ s m _ below meth c H locs _ _ _ (F0 m 56 ls [.int r11])
    show W p l e _ s m _ below meth c H locs (0 + a1) (0 + a2) _ _
    exact r_iret (y := yX6_close) S hr rfl hlk hS (by omega) (by omega) dX6_close_56 ⟨r11, _, rfl, h, hw⟩
  · have h := h.2 c5
    obtain ⟨g12, g13, h⟩ := h
    exact r_throw (fr := 0) (lo := 0) (text := "the duel has not ended, or is final") hfl S hout hlk hg hS (by decide) u623 u51 (by decide +kernel) hat_158 hl.1 dX6_close_15 dX6_close_18 dX6_close_19 dX6_close_21 dX6_close_24 (Nat.le_of_ble_eq_true rfl) (Nat.le_of_ble_eq_true rfl) g12 g13 g12 g13 (fun H1 hz hk => ⟨_, h, hw.more hk⟩)

-- X6.snapshot
theorem dX6_snapshot_0 : decode cX6_snapshot 0 = .ok (.aload_n 0, 1) := by decide +kernel
theorem dX6_snapshot_1 : decode cX6_snapshot 1 = .ok (.iload_n 1, 1) := by decide +kernel
theorem dX6_snapshot_2 : decode cX6_snapshot 2 = .ok (.invokevirtual 145, 3) := by decide +kernel
theorem dX6_snapshot_5 : decode cX6_snapshot 5 = .ok (.astore_n 2, 1) := by decide +kernel
theorem dX6_snapshot_6 : decode cX6_snapshot 6 = .ok (.aload_n 2, 1) := by decide +kernel
theorem dX6_snapshot_7 : decode cX6_snapshot 7 = .ok (.getfield 149, 3) := by decide +kernel
theorem dX6_snapshot_10 : decode cX6_snapshot 10 = .ok (.bipush 103, 2) := by decide +kernel
theorem dX6_snapshot_12 : decode cX6_snapshot 12 = .ok (.if_icmp .eq 13, 3) := by decide +kernel
theorem dX6_snapshot_15 : decode cX6_snapshot 15 = .ok (.new 154, 3) := by decide +kernel
theorem dX6_snapshot_18 : decode cX6_snapshot 18 = .ok (.dup, 1) := by decide +kernel
theorem dX6_snapshot_19 : decode cX6_snapshot 19 = .ok (.ldc 198, 2) := by decide +kernel
theorem dX6_snapshot_21 : decode cX6_snapshot 21 = .ok (.invokespecial 158, 3) := by decide +kernel
theorem dX6_snapshot_24 : decode cX6_snapshot 24 = .ok (.athrow, 1) := by decide +kernel
theorem dX6_snapshot_25 : decode cX6_snapshot 25 = .ok (.aload_n 2, 1) := by decide +kernel
theorem dX6_snapshot_26 : decode cX6_snapshot 26 = .ok (.getfield 255, 3) := by decide +kernel
theorem dX6_snapshot_29 : decode cX6_snapshot 29 = .ok (.bipush 6, 2) := by decide +kernel
theorem dX6_snapshot_31 : decode cX6_snapshot 31 = .ok (.if_icmp .lt 14, 3) := by decide +kernel
theorem dX6_snapshot_34 : decode cX6_snapshot 34 = .ok (.new 57, 3) := by decide +kernel
theorem dX6_snapshot_37 : decode cX6_snapshot 37 = .ok (.dup, 1) := by decide +kernel
theorem dX6_snapshot_38 : decode cX6_snapshot 38 = .ok (.ldc_w 258, 3) := by decide +kernel
theorem dX6_snapshot_41 : decode cX6_snapshot 41 = .ok (.invokespecial 61, 3) := by decide +kernel
theorem dX6_snapshot_44 : decode cX6_snapshot 44 = .ok (.athrow, 1) := by decide +kernel
theorem dX6_snapshot_45 : decode cX6_snapshot 45 = .ok (.aload_n 2, 1) := by decide +kernel
theorem dX6_snapshot_46 : decode cX6_snapshot 46 = .ok (.aload_n 0, 1) := by decide +kernel
theorem dX6_snapshot_47 : decode cX6_snapshot 47 = .ok (.getfield 43, 3) := by decide +kernel
theorem dX6_snapshot_50 : decode cX6_snapshot 50 = .ok (.invokevirtual 260, 3) := by decide +kernel
theorem dX6_snapshot_53 : decode cX6_snapshot 53 = .ok (.aload_n 2, 1) := by decide +kernel
theorem dX6_snapshot_54 : decode cX6_snapshot 54 = .ok (.aload_n 0, 1) := by decide +kernel
theorem dX6_snapshot_55 : decode cX6_snapshot 55 = .ok (.getfield 43, 3) := by decide +kernel
theorem dX6_snapshot_58 : decode cX6_snapshot 58 = .ok (.aload_n 0, 1) := by decide +kernel
theorem dX6_snapshot_59 : decode cX6_snapshot 59 = .ok (.getfield 39, 3) := by decide +kernel
theorem dX6_snapshot_62 : decode cX6_snapshot 62 = .ok (.invokevirtual 264, 3) := by decide +kernel
theorem dX6_snapshot_65 : decode cX6_snapshot 65 = .ok (.aload_n 2, 1) := by decide +kernel
theorem dX6_snapshot_66 : decode cX6_snapshot 66 = .ok (.getfield 255, 3) := by decide +kernel
theorem dX6_snapshot_69 : decode cX6_snapshot 69 = .ok (.iconst 1, 1) := by decide +kernel
theorem dX6_snapshot_70 : decode cX6_snapshot 70 = .ok (.isub, 1) := by decide +kernel
theorem dX6_snapshot_71 : decode cX6_snapshot 71 = .ok (.ireturn, 1) := by decide +kernel
def wpX6_snapshot (post : Int32 → KS → Prop) (px : String → KS → Prop) (mc ms : Nat) (K : KS) (p1 : Int32) : Prop := (∃ a1 a2 : Nat, 0 + a1 ≤ mc ∧ 0 + a2 ≤ ms ∧ wpX6_duelAt (fun r3 => (r3 < nD K) ∧ ((((K 6 2 r3) = 103 → ((((K 6 8 r3) < 6 → ((wpX2_writeState (fun _ K7 => (r3 < nD K7) ∧ (wpX2_keep (fun _ K9 => (r3 < nD K9) ∧ (post ((K9 6 8 r3) - 1) K9)) K7 r3)) K r3))) ∧ (¬ (K 6 8 r3) < 6 → (((0 + a1) + 1 ≤ mc ∧ (0 + a2) + 6 ≤ ms ∧ px "java/lang/IllegalStateException" K)))))) ∧ (¬ (K 6 2 r3) = 103 → (((0 + a1) + 1 ≤ mc ∧ (0 + a2) + 6 ≤ ms ∧ px "java/lang/UnsupportedOperationException" K)))))) (fun E => px E K) a1 a2 K p1)
theorem hdX6_snapshot : yX6_snapshot.cls ≠ "java/lang/invoke/MethodHandle" ∧ yX6_snapshot.cls ≠ "java/lang/invoke/VarHandle" ∧ (parseMethodDescriptor yX6_snapshot.desc).map (fun d => d.parameters.length) = some 1 := by decide +kernel
set_option maxHeartbeats 4000000 in
set_option maxRecDepth 100000 in
theorem mtX6_snapshot {l : Launch} {D : va_G} {cI : Nat → ClassId} {e0 : Nat} {A : Nat → Prop} {ad : Nat → Nat → Nat} {K M : KS} {ap o : Int64} {od : UInt64} {mc ms : Nat} {p1 : Int32} {post : Int32 → KS → Prop} {px : String → KS → Prop} (hfl : l.stackTraces = false) (h : wpX6_snapshot post px mc ms K p1) : CM l D cI e0 A yX6_snapshot cX6_snapshot 3 (some FieldType.int) 7 103 mc ms [.ref (ad 0 0), .int p1] (HT D cI e0 A ad K M ap o od) (qK D cI e0 A ad M ap o od rI post) (xK D cI e0 A ad M ap o od px) := by
  refine CM.of (by decide) (Nat.le_of_ble_eq_true rfl) (fun p e s m below meth c ls FX hw hS hl => ?_)
  obtain ⟨S, hg, hr, hlk, hnm, hout⟩ := FX
  have hl : lv_has ls 3 [(0, .ref (ad 0 0)), (1, .int p1)] := hl
  unfold wpX6_snapshot at h
  refine lv_aload_n S.1 S.2.1 dX6_snapshot_0 rfl (lv_at hl 0 rfl) ?_
  refine lv_iload_n S.1 S.2.1 dX6_snapshot_1 rfl (lv_at hl 1 rfl) ?_
  obtain ⟨a1, a2, h1, h2, h⟩ := h
  refine r_call (rest := []) S hg hS (mtX6_duelAt (mc := a1) (ms := a2) hfl h) u618 u620 u8 u27 u621 hdX6_duelAt (rv0 hg hw) hw ⟨Nat.le_of_ble_eq_true rfl, Nat.le_of_ble_eq_true rfl⟩ ⟨by show 0 + a1 ≤ mc; omega, by show 0 + a2 ≤ ms; omega⟩ hl.1 (Nat.le_of_ble_eq_true rfl) rfl dX6_snapshot_2 (fun E ce q H1 locs1 hx hS1 hc1 hc2 hc3 => by obtain ⟨hx1, hw1⟩ := hx; exact r_out hout hlk hS1 (by show (0 + a1) ≤ mc; omega) (by show (0 + a2) ≤ ms; omega) hc1 hc2 hc3 ⟨_, hx1, hw1⟩) (fun rv H locs hq hS => ?_)
  obtain ⟨r3, rfl, h, hw⟩ := hq
  show W p l e _ s m _ below meth c H locs _ _ _ (F0 m 5 ls [.ref (ad 6 r3)])
  refine lv_astore_n (lv' := [(2, .ref (ad 6 r3)), (0, .ref (ad 0 0)), (1, .int p1)]) S.1 S.2.1 dX6_snapshot_5 rfl hl (by decide) rfl (fun ls hl => ?_)
  refine lv_aload_n S.1 S.2.1 dX6_snapshot_6 rfl (lv_at hl 0 rfl) ?_
  obtain ⟨g4, h⟩ := h
  refine g6_2 S hg hw g4 u578 dX6_snapshot_7 ?_
  refine lv_bipush (v := 103) S.1 S.2.1 dX6_snapshot_10 (by decide) ?_
  refine lv_icmp_eq (tgt := 25) S.1 S.2.1 dX6_snapshot_12 (by decide) (fun c5 => ?_) (fun c5 => ?_)
  · have h := h.1 c5
    refine lv_aload_n S.1 S.2.1 dX6_snapshot_25 rfl (lv_at hl 0 rfl) ?_
    refine g6_8 S hg hw g4 u588 dX6_snapshot_26 ?_
    refine lv_bipush (v := 6) S.1 S.2.1 dX6_snapshot_29 (by decide) ?_
    refine lv_icmp_lt (tgt := 45) S.1 S.2.1 dX6_snapshot_31 (by decide) (fun c6 => ?_) (fun c6 => ?_)
    · have h := h.1 c6
      refine lv_aload_n S.1 S.2.1 dX6_snapshot_45 rfl (lv_at hl 0 rfl) ?_
      refine lv_aload_n S.1 S.2.1 dX6_snapshot_46 rfl (lv_at hl 1 rfl) ?_
      refine g0_11 S hg hw u127 dX6_snapshot_47 ?_
      refine r_call (rest := []) S hg hS (mtX2_writeState (mc := 0) (ms := 0) h) u803 u804 u805 u49 u806 hdX2_writeState (rv6 hg hw g4) hw ⟨Nat.le_of_ble_eq_true rfl, Nat.le_of_ble_eq_true rfl⟩ ⟨by show (0 + a1) + 0 ≤ mc; omega, by show (0 + a2) + 0 ≤ ms; omega⟩ hl.1 (Nat.le_of_ble_eq_true rfl) rfl dX6_snapshot_50 (fun E ce q H1 locs1 hx hS1 hc1 hc2 hc3 => hx.elim) (fun rv H locs hq hS => ?_)
      obtain ⟨_, K7, rfl, h, hw⟩ := hq
      show W p l e _ s m _ below meth c H locs _ _ _ (F0 m 53 ls [])
      show W p l e _ s m _ below meth c H locs (0 + a1) (0 + a2) _ _
      refine lv_aload_n S.1 S.2.1 dX6_snapshot_53 rfl (lv_at hl 0 rfl) ?_
      refine lv_aload_n S.1 S.2.1 dX6_snapshot_54 rfl (lv_at hl 1 rfl) ?_
      refine g0_11 S hg hw u127 dX6_snapshot_55 ?_
      refine lv_aload_n S.1 S.2.1 dX6_snapshot_58 rfl (lv_at hl 1 rfl) ?_
      refine g0_10 S hg hw u126 dX6_snapshot_59 ?_
      obtain ⟨g8, h⟩ := h
      refine r_call (rest := []) S hg hS (mtX2_keep (mc := 0) (ms := 0) h) u808 u809 u810 u49 u811 hdX2_keep (rv6 hg hw g8) hw ⟨Nat.le_of_ble_eq_true rfl, Nat.le_of_ble_eq_true rfl⟩ ⟨by show (0 + a1) + 0 ≤ mc; omega, by show (0 + a2) + 0 ≤ ms; omega⟩ hl.1 (Nat.le_of_ble_eq_true rfl) rfl dX6_snapshot_62 (fun E ce q H1 locs1 hx hS1 hc1 hc2 hc3 => hx.elim) (fun rv H locs hq hS => ?_)
      obtain ⟨_, K9, rfl, h, hw⟩ := hq
      show W p l e _ s m _ below meth c H locs _ _ _ (F0 m 65 ls [])
      show W p l e _ s m _ below meth c H locs (0 + a1) (0 + a2) _ _
      refine lv_aload_n S.1 S.2.1 dX6_snapshot_65 rfl (lv_at hl 0 rfl) ?_
      obtain ⟨g10, h⟩ := h
      refine g6_8 S hg hw g10 u588 dX6_snapshot_66 ?_
      refine lv_iconst (v := 1) S.1 S.2.1 dX6_snapshot_69 (by decide) ?_
      refine lv_isub S.1 S.2.1 dX6_snapshot_70 ?_
      exact r_iret (y := yX6_snapshot) S hr rfl hlk hS (by omega) (by omega) dX6_snapshot_71 ⟨((K9 6 8 r3) - 1), _, rfl, h, hw⟩
    · have h := h.2 c6
      obtain ⟨g11, g12, h⟩ := h
      exact r_throwW (fr := 0) (lo := 0) (text := "the duel has 6 snapshots") hfl S hout hlk hg hS (by decide) u337 u42 (by decide +kernel) hat_61 hl.1 dX6_snapshot_34 dX6_snapshot_37 dX6_snapshot_38 dX6_snapshot_41 dX6_snapshot_44 (Nat.le_of_ble_eq_true rfl) (Nat.le_of_ble_eq_true rfl) g11 g12 g11 g12 (fun H1 hz hk => ⟨_, h, hw.more hk⟩)
  · have h := h.2 c5
    obtain ⟨g13, g14, h⟩ := h
    exact r_throw (fr := 0) (lo := 0) (text := "the duel does not go on") hfl S hout hlk hg hS (by decide) u623 u51 (by decide +kernel) hat_158 hl.1 dX6_snapshot_15 dX6_snapshot_18 dX6_snapshot_19 dX6_snapshot_21 dX6_snapshot_24 (Nat.le_of_ble_eq_true rfl) (Nat.le_of_ble_eq_true rfl) g13 g14 g13 g14 (fun H1 hz hk => ⟨_, h, hw.more hk⟩)

-- X6.inSnapshot
theorem dX6_inSnapshot_0 : decode cX6_inSnapshot 0 = .ok (.aload_n 0, 1) := by decide +kernel
theorem dX6_inSnapshot_1 : decode cX6_inSnapshot 1 = .ok (.iload_n 1, 1) := by decide +kernel
theorem dX6_inSnapshot_2 : decode cX6_inSnapshot 2 = .ok (.invokevirtual 145, 3) := by decide +kernel
theorem dX6_inSnapshot_5 : decode cX6_inSnapshot 5 = .ok (.astore 4, 2) := by decide +kernel
theorem dX6_inSnapshot_7 : decode cX6_inSnapshot 7 = .ok (.iload_n 2, 1) := by decide +kernel
theorem dX6_inSnapshot_8 : decode cX6_inSnapshot 8 = .ok (.ifCond .lt 22, 3) := by decide +kernel
theorem dX6_inSnapshot_11 : decode cX6_inSnapshot 11 = .ok (.iload_n 2, 1) := by decide +kernel
theorem dX6_inSnapshot_12 : decode cX6_inSnapshot 12 = .ok (.aload 4, 2) := by decide +kernel
theorem dX6_inSnapshot_14 : decode cX6_inSnapshot 14 = .ok (.getfield 255, 3) := by decide +kernel
theorem dX6_inSnapshot_17 : decode cX6_inSnapshot 17 = .ok (.if_icmp .ge 13, 3) := by decide +kernel
theorem dX6_inSnapshot_20 : decode cX6_inSnapshot 20 = .ok (.iload_n 3, 1) := by decide +kernel
theorem dX6_inSnapshot_21 : decode cX6_inSnapshot 21 = .ok (.ifCond .lt 9, 3) := by decide +kernel
theorem dX6_inSnapshot_24 : decode cX6_inSnapshot 24 = .ok (.iload_n 3, 1) := by decide +kernel
theorem dX6_inSnapshot_25 : decode cX6_inSnapshot 25 = .ok (.bipush 24, 2) := by decide +kernel
theorem dX6_inSnapshot_27 : decode cX6_inSnapshot 27 = .ok (.if_icmp .lt 14, 3) := by decide +kernel
theorem dX6_inSnapshot_30 : decode cX6_inSnapshot 30 = .ok (.new 114, 3) := by decide +kernel
theorem dX6_inSnapshot_33 : decode cX6_inSnapshot 33 = .ok (.dup, 1) := by decide +kernel
theorem dX6_inSnapshot_34 : decode cX6_inSnapshot 34 = .ok (.ldc_w 268, 3) := by decide +kernel
theorem dX6_inSnapshot_37 : decode cX6_inSnapshot 37 = .ok (.invokespecial 118, 3) := by decide +kernel
theorem dX6_inSnapshot_40 : decode cX6_inSnapshot 40 = .ok (.athrow, 1) := by decide +kernel
theorem dX6_inSnapshot_41 : decode cX6_inSnapshot 41 = .ok (.aload 4, 2) := by decide +kernel
theorem dX6_inSnapshot_43 : decode cX6_inSnapshot 43 = .ok (.iload_n 2, 1) := by decide +kernel
theorem dX6_inSnapshot_44 : decode cX6_inSnapshot 44 = .ok (.iload_n 3, 1) := by decide +kernel
theorem dX6_inSnapshot_45 : decode cX6_inSnapshot 45 = .ok (.aload_n 0, 1) := by decide +kernel
theorem dX6_inSnapshot_46 : decode cX6_inSnapshot 46 = .ok (.getfield 39, 3) := by decide +kernel
theorem dX6_inSnapshot_49 : decode cX6_inSnapshot 49 = .ok (.invokevirtual 270, 3) := by decide +kernel
theorem dX6_inSnapshot_52 : decode cX6_inSnapshot 52 = .ok (.ireturn, 1) := by decide +kernel
def wpX6_inSnapshot (post : Int32 → Prop) (px : String → Prop) (mc ms : Nat) (K : KS) (p1 : Int32) (p2 : Int32) (p3 : Int32) : Prop := (∃ a1 a2 : Nat, 0 + a1 ≤ mc ∧ 0 + a2 ≤ ms ∧ wpX6_duelAt (fun r3 => ((p2 < 0 → (((0 + a1) + 1 ≤ mc ∧ (0 + a2) + 6 ≤ ms ∧ px "java/lang/IndexOutOfBoundsException"))) ∧ (¬ p2 < 0 → ((r3 < nD K) ∧ ((((K 6 8 r3) ≤ p2 → (((0 + a1) + 1 ≤ mc ∧ (0 + a2) + 6 ≤ ms ∧ px "java/lang/IndexOutOfBoundsException"))) ∧ (¬ (K 6 8 r3) ≤ p2 → (((p3 < 0 → (((0 + a1) + 1 ≤ mc ∧ (0 + a2) + 6 ≤ ms ∧ px "java/lang/IndexOutOfBoundsException"))) ∧ (¬ p3 < 0 → (((p3 < 24 → ((wpX2_keptNumber (fun r15 => post r15) K r3 p2 p3))) ∧ (¬ p3 < 24 → (((0 + a1) + 1 ≤ mc ∧ (0 + a2) + 6 ≤ ms ∧ px "java/lang/IndexOutOfBoundsException"))))))))))))))) px a1 a2 K p1)
theorem hdX6_inSnapshot : yX6_inSnapshot.cls ≠ "java/lang/invoke/MethodHandle" ∧ yX6_inSnapshot.cls ≠ "java/lang/invoke/VarHandle" ∧ (parseMethodDescriptor yX6_inSnapshot.desc).map (fun d => d.parameters.length) = some 3 := by decide +kernel
set_option maxHeartbeats 4000000 in
set_option maxRecDepth 100000 in
theorem mtX6_inSnapshot {l : Launch} {D : va_G} {cI : Nat → ClassId} {e0 : Nat} {A : Nat → Prop} {ad : Nat → Nat → Nat} {K M : KS} {ap o : Int64} {od : UInt64} {mc ms : Nat} {p1 : Int32} {p2 : Int32} {p3 : Int32} {post : Int32 → Prop} {px : String → Prop} (hfl : l.stackTraces = false) (h : wpX6_inSnapshot post px mc ms K p1 p2 p3) : CM l D cI e0 A yX6_inSnapshot cX6_inSnapshot 5 (some FieldType.int) 7 103 mc ms [.ref (ad 0 0), .int p1, .int p2, .int p3] (HT D cI e0 A ad K M ap o od) (qP D cI e0 A ad K M ap o od rI post) (xP D cI e0 A ad K M ap o od px) := by
  refine CM.of (by decide) (Nat.le_of_ble_eq_true rfl) (fun p e s m below meth c ls FX hw hS hl => ?_)
  obtain ⟨S, hg, hr, hlk, hnm, hout⟩ := FX
  have hl : lv_has ls 5 [(0, .ref (ad 0 0)), (1, .int p1), (2, .int p2), (3, .int p3)] := hl
  unfold wpX6_inSnapshot at h
  refine lv_aload_n S.1 S.2.1 dX6_inSnapshot_0 rfl (lv_at hl 0 rfl) ?_
  refine lv_iload_n S.1 S.2.1 dX6_inSnapshot_1 rfl (lv_at hl 1 rfl) ?_
  obtain ⟨a1, a2, h1, h2, h⟩ := h
  refine r_call (rest := []) S hg hS (mtX6_duelAt (mc := a1) (ms := a2) hfl h) u618 u620 u8 u27 u621 hdX6_duelAt (rv0 hg hw) hw ⟨Nat.le_of_ble_eq_true rfl, Nat.le_of_ble_eq_true rfl⟩ ⟨by show 0 + a1 ≤ mc; omega, by show 0 + a2 ≤ ms; omega⟩ hl.1 (Nat.le_of_ble_eq_true rfl) rfl dX6_inSnapshot_2 (fun E ce q H1 locs1 hx hS1 hc1 hc2 hc3 => by obtain ⟨hx1, hw1⟩ := hx; exact r_out hout hlk hS1 (by show (0 + a1) ≤ mc; omega) (by show (0 + a2) ≤ ms; omega) hc1 hc2 hc3 ⟨hx1, hw1⟩) (fun rv H locs hq hS => ?_)
  obtain ⟨r3, rfl, h, hw⟩ := hq
  show W p l e _ s m _ below meth c H locs _ _ _ (F0 m 5 ls [.ref (ad 6 r3)])
  refine lv_astore (lv' := [(4, .ref (ad 6 r3)), (0, .ref (ad 0 0)), (1, .int p1), (2, .int p2), (3, .int p3)]) S.1 S.2.1 dX6_inSnapshot_5 hl (by decide) rfl (fun ls hl => ?_)
  refine lv_iload_n S.1 S.2.1 dX6_inSnapshot_7 rfl (lv_at hl 3 rfl) ?_
  refine lv_if_lt (tgt := 30) S.1 S.2.1 dX6_inSnapshot_8 (by decide) (fun c4 => ?_) (fun c4 => ?_)
  · have h := h.1 c4
    obtain ⟨g5, g6, h⟩ := h
    exact r_throwW (fr := 0) (lo := 0) (text := "no such snapshot or place") hfl S hout hlk hg hS (by decide) u361 u37 (by decide +kernel) hat_118 hl.1 dX6_inSnapshot_30 dX6_inSnapshot_33 dX6_inSnapshot_34 dX6_inSnapshot_37 dX6_inSnapshot_40 (Nat.le_of_ble_eq_true rfl) (Nat.le_of_ble_eq_true rfl) g5 g6 g5 g6 (fun H1 hz hk => ⟨h, hw.more hk⟩)
  · have h := h.2 c4
    refine lv_iload_n S.1 S.2.1 dX6_inSnapshot_11 rfl (lv_at hl 3 rfl) ?_
    refine lv_aload S.1 S.2.1 dX6_inSnapshot_12 (lv_at hl 0 rfl) ?_
    obtain ⟨g7, h⟩ := h
    refine g6_8 S hg hw g7 u588 dX6_inSnapshot_14 ?_
    refine lv_icmp_ge (tgt := 30) S.1 S.2.1 dX6_inSnapshot_17 (by decide) (fun c8 => ?_) (fun c8 => ?_)
    · have h := h.1 c8
      obtain ⟨g9, g10, h⟩ := h
      exact r_throwW (fr := 0) (lo := 0) (text := "no such snapshot or place") hfl S hout hlk hg hS (by decide) u361 u37 (by decide +kernel) hat_118 hl.1 dX6_inSnapshot_30 dX6_inSnapshot_33 dX6_inSnapshot_34 dX6_inSnapshot_37 dX6_inSnapshot_40 (Nat.le_of_ble_eq_true rfl) (Nat.le_of_ble_eq_true rfl) g9 g10 g9 g10 (fun H1 hz hk => ⟨h, hw.more hk⟩)
    · have h := h.2 c8
      refine lv_iload_n S.1 S.2.1 dX6_inSnapshot_20 rfl (lv_at hl 4 rfl) ?_
      refine lv_if_lt (tgt := 30) S.1 S.2.1 dX6_inSnapshot_21 (by decide) (fun c11 => ?_) (fun c11 => ?_)
      · have h := h.1 c11
        obtain ⟨g12, g13, h⟩ := h
        exact r_throwW (fr := 0) (lo := 0) (text := "no such snapshot or place") hfl S hout hlk hg hS (by decide) u361 u37 (by decide +kernel) hat_118 hl.1 dX6_inSnapshot_30 dX6_inSnapshot_33 dX6_inSnapshot_34 dX6_inSnapshot_37 dX6_inSnapshot_40 (Nat.le_of_ble_eq_true rfl) (Nat.le_of_ble_eq_true rfl) g12 g13 g12 g13 (fun H1 hz hk => ⟨h, hw.more hk⟩)
      · have h := h.2 c11
        refine lv_iload_n S.1 S.2.1 dX6_inSnapshot_24 rfl (lv_at hl 4 rfl) ?_
        refine lv_bipush (v := 24) S.1 S.2.1 dX6_inSnapshot_25 (by decide) ?_
        refine lv_icmp_lt (tgt := 41) S.1 S.2.1 dX6_inSnapshot_27 (by decide) (fun c14 => ?_) (fun c14 => ?_)
        · have h := h.1 c14
          refine lv_aload S.1 S.2.1 dX6_inSnapshot_41 (lv_at hl 0 rfl) ?_
          refine lv_iload_n S.1 S.2.1 dX6_inSnapshot_43 rfl (lv_at hl 3 rfl) ?_
          refine lv_iload_n S.1 S.2.1 dX6_inSnapshot_44 rfl (lv_at hl 4 rfl) ?_
          refine lv_aload_n S.1 S.2.1 dX6_inSnapshot_45 rfl (lv_at hl 1 rfl) ?_
          refine g0_10 S hg hw u126 dX6_inSnapshot_46 ?_
          refine r_call (rest := []) S hg hS (mtX2_keptNumber (mc := 0) (ms := 0) h) u826 u827 u828 u49 u829 hdX2_keptNumber (rv6 hg hw g7) hw ⟨Nat.le_of_ble_eq_true rfl, Nat.le_of_ble_eq_true rfl⟩ ⟨by show (0 + a1) + 0 ≤ mc; omega, by show (0 + a2) + 0 ≤ ms; omega⟩ hl.1 (Nat.le_of_ble_eq_true rfl) rfl dX6_inSnapshot_49 (fun E ce q H1 locs1 hx hS1 hc1 hc2 hc3 => hx.elim) (fun rv H locs hq hS => ?_)
          obtain ⟨r15, rfl, h, hw⟩ := hq
          show W p l e _ s m _ below meth c H locs _ _ _ (F0 m 52 ls [.int r15])
          show W p l e _ s m _ below meth c H locs (0 + a1) (0 + a2) _ _
          exact r_iret (y := yX6_inSnapshot) S hr rfl hlk hS (by omega) (by omega) dX6_inSnapshot_52 ⟨r15, rfl, h, hw⟩
        · have h := h.2 c14
          obtain ⟨g16, g17, h⟩ := h
          exact r_throwW (fr := 0) (lo := 0) (text := "no such snapshot or place") hfl S hout hlk hg hS (by decide) u361 u37 (by decide +kernel) hat_118 hl.1 dX6_inSnapshot_30 dX6_inSnapshot_33 dX6_inSnapshot_34 dX6_inSnapshot_37 dX6_inSnapshot_40 (Nat.le_of_ble_eq_true rfl) (Nat.le_of_ble_eq_true rfl) g16 g17 g16 g17 (fun H1 hz hk => ⟨h, hw.more hk⟩)

-- X6.blocks
theorem dX6_blocks_0 : decode cX6_blocks 0 = .ok (.aload_n 0, 1) := by decide +kernel
theorem dX6_blocks_1 : decode cX6_blocks 1 = .ok (.getfield 39, 3) := by decide +kernel
theorem dX6_blocks_4 : decode cX6_blocks 4 = .ok (.invokevirtual 274, 3) := by decide +kernel
theorem dX6_blocks_7 : decode cX6_blocks 7 = .ok (.ireturn, 1) := by decide +kernel
def wpX6_blocks (post : Int32 → Prop) (K : KS) : Prop := (wpX0_countKept (fun r1 => post r1) K)
theorem hdX6_blocks : yX6_blocks.cls ≠ "java/lang/invoke/MethodHandle" ∧ yX6_blocks.cls ≠ "java/lang/invoke/VarHandle" ∧ (parseMethodDescriptor yX6_blocks.desc).map (fun d => d.parameters.length) = some 0 := by decide +kernel
set_option maxHeartbeats 4000000 in
set_option maxRecDepth 100000 in
theorem mtX6_blocks {l : Launch} {D : va_G} {cI : Nat → ClassId} {e0 : Nat} {A : Nat → Prop} {ad : Nat → Nat → Nat} {K M : KS} {ap o : Int64} {od : UInt64} {mc ms : Nat} {post : Int32 → Prop} (h : wpX6_blocks post K) : CM l D cI e0 A yX6_blocks cX6_blocks 1 (some FieldType.int) 1 22 mc ms [.ref (ad 0 0)] (HT D cI e0 A ad K M ap o od) (qP D cI e0 A ad K M ap o od rI post) xN := by
  refine CM.of (by decide) (Nat.le_of_ble_eq_true rfl) (fun p e s m below meth c ls FX hw hS hl => ?_)
  obtain ⟨S, hg, hr, hlk, hnm, hout⟩ := FX
  have hl : lv_has ls 1 [(0, .ref (ad 0 0))] := hl
  unfold wpX6_blocks at h
  refine lv_aload_n S.1 S.2.1 dX6_blocks_0 rfl (lv_at hl 0 rfl) ?_
  refine g0_10 S hg hw u126 dX6_blocks_1 ?_
  refine r_call (rest := []) S hg hS (mtX0_countKept (mc := 0) (ms := 0) h) u157 u158 u159 u32 u160 hdX0_countKept (rv2 hg hw) hw ⟨Nat.le_of_ble_eq_true rfl, Nat.le_of_ble_eq_true rfl⟩ ⟨by show 0 + 0 ≤ mc; omega, by show 0 + 0 ≤ ms; omega⟩ hl.1 (Nat.le_of_ble_eq_true rfl) rfl dX6_blocks_4 (fun E ce q H1 locs1 hx hS1 hc1 hc2 hc3 => hx.elim) (fun rv H locs hq hS => ?_)
  obtain ⟨r1, rfl, h, hw⟩ := hq
  show W p l e _ s m _ below meth c H locs _ _ _ (F0 m 7 ls [.int r1])
  show W p l e _ s m _ below meth c H locs 0 0 _ _
  exact r_iret (y := yX6_blocks) S hr rfl hlk hS (by omega) (by omega) dX6_blocks_7 ⟨r1, rfl, h, hw⟩

-- X6.rollBack
theorem dX6_rollBack_0 : decode cX6_rollBack 0 = .ok (.aload_n 0, 1) := by decide +kernel
theorem dX6_rollBack_1 : decode cX6_rollBack 1 = .ok (.iload_n 1, 1) := by decide +kernel
theorem dX6_rollBack_2 : decode cX6_rollBack 2 = .ok (.invokevirtual 145, 3) := by decide +kernel
theorem dX6_rollBack_5 : decode cX6_rollBack 5 = .ok (.astore_n 3, 1) := by decide +kernel
theorem dX6_rollBack_6 : decode cX6_rollBack 6 = .ok (.iload_n 2, 1) := by decide +kernel
theorem dX6_rollBack_7 : decode cX6_rollBack 7 = .ok (.ifCond .lt 11, 3) := by decide +kernel
theorem dX6_rollBack_10 : decode cX6_rollBack 10 = .ok (.iload_n 2, 1) := by decide +kernel
theorem dX6_rollBack_11 : decode cX6_rollBack 11 = .ok (.aload_n 3, 1) := by decide +kernel
theorem dX6_rollBack_12 : decode cX6_rollBack 12 = .ok (.getfield 255, 3) := by decide +kernel
theorem dX6_rollBack_15 : decode cX6_rollBack 15 = .ok (.if_icmp .lt 14, 3) := by decide +kernel
theorem dX6_rollBack_18 : decode cX6_rollBack 18 = .ok (.new 114, 3) := by decide +kernel
theorem dX6_rollBack_21 : decode cX6_rollBack 21 = .ok (.dup, 1) := by decide +kernel
theorem dX6_rollBack_22 : decode cX6_rollBack 22 = .ok (.ldc_w 277, 3) := by decide +kernel
theorem dX6_rollBack_25 : decode cX6_rollBack 25 = .ok (.invokespecial 118, 3) := by decide +kernel
theorem dX6_rollBack_28 : decode cX6_rollBack 28 = .ok (.athrow, 1) := by decide +kernel
theorem dX6_rollBack_29 : decode cX6_rollBack 29 = .ok (.aload_n 3, 1) := by decide +kernel
theorem dX6_rollBack_30 : decode cX6_rollBack 30 = .ok (.getfield 149, 3) := by decide +kernel
theorem dX6_rollBack_33 : decode cX6_rollBack 33 = .ok (.bipush 103, 2) := by decide +kernel
theorem dX6_rollBack_35 : decode cX6_rollBack 35 = .ok (.if_icmp .eq 23, 3) := by decide +kernel
theorem dX6_rollBack_38 : decode cX6_rollBack 38 = .ok (.aload_n 3, 1) := by decide +kernel
theorem dX6_rollBack_39 : decode cX6_rollBack 39 = .ok (.getfield 149, 3) := by decide +kernel
theorem dX6_rollBack_42 : decode cX6_rollBack 42 = .ok (.bipush 101, 2) := by decide +kernel
theorem dX6_rollBack_44 : decode cX6_rollBack 44 = .ok (.if_icmp .eq 14, 3) := by decide +kernel
theorem dX6_rollBack_47 : decode cX6_rollBack 47 = .ok (.new 154, 3) := by decide +kernel
theorem dX6_rollBack_50 : decode cX6_rollBack 50 = .ok (.dup, 1) := by decide +kernel
theorem dX6_rollBack_51 : decode cX6_rollBack 51 = .ok (.ldc_w 279, 3) := by decide +kernel
theorem dX6_rollBack_54 : decode cX6_rollBack 54 = .ok (.invokespecial 158, 3) := by decide +kernel
theorem dX6_rollBack_57 : decode cX6_rollBack 57 = .ok (.athrow, 1) := by decide +kernel
theorem dX6_rollBack_58 : decode cX6_rollBack 58 = .ok (.aload_n 0, 1) := by decide +kernel
theorem dX6_rollBack_59 : decode cX6_rollBack 59 = .ok (.aload_n 3, 1) := by decide +kernel
theorem dX6_rollBack_60 : decode cX6_rollBack 60 = .ok (.getfield 179, 3) := by decide +kernel
theorem dX6_rollBack_63 : decode cX6_rollBack 63 = .ok (.getfield 281, 3) := by decide +kernel
theorem dX6_rollBack_66 : decode cX6_rollBack 66 = .ok (.aload_n 3, 1) := by decide +kernel
theorem dX6_rollBack_67 : decode cX6_rollBack 67 = .ok (.invokevirtual 132, 3) := by decide +kernel
theorem dX6_rollBack_70 : decode cX6_rollBack 70 = .ok (.ifCond .ne 18, 3) := by decide +kernel
theorem dX6_rollBack_73 : decode cX6_rollBack 73 = .ok (.aload_n 0, 1) := by decide +kernel
theorem dX6_rollBack_74 : decode cX6_rollBack 74 = .ok (.aload_n 3, 1) := by decide +kernel
theorem dX6_rollBack_75 : decode cX6_rollBack 75 = .ok (.getfield 187, 3) := by decide +kernel
theorem dX6_rollBack_78 : decode cX6_rollBack 78 = .ok (.getfield 281, 3) := by decide +kernel
theorem dX6_rollBack_81 : decode cX6_rollBack 81 = .ok (.aload_n 3, 1) := by decide +kernel
theorem dX6_rollBack_82 : decode cX6_rollBack 82 = .ok (.invokevirtual 132, 3) := by decide +kernel
theorem dX6_rollBack_85 : decode cX6_rollBack 85 = .ok (.ifCond .eq 14, 3) := by decide +kernel
theorem dX6_rollBack_88 : decode cX6_rollBack 88 = .ok (.new 57, 3) := by decide +kernel
theorem dX6_rollBack_91 : decode cX6_rollBack 91 = .ok (.dup, 1) := by decide +kernel
theorem dX6_rollBack_92 : decode cX6_rollBack 92 = .ok (.ldc_w 284, 3) := by decide +kernel
theorem dX6_rollBack_95 : decode cX6_rollBack 95 = .ok (.invokespecial 61, 3) := by decide +kernel
theorem dX6_rollBack_98 : decode cX6_rollBack 98 = .ok (.athrow, 1) := by decide +kernel
theorem dX6_rollBack_99 : decode cX6_rollBack 99 = .ok (.iconst 0, 1) := by decide +kernel
theorem dX6_rollBack_100 : decode cX6_rollBack 100 = .ok (.istore 4, 2) := by decide +kernel
theorem dX6_rollBack_102 : decode cX6_rollBack 102 = .ok (.aload_n 3, 1) := by decide +kernel
theorem dX6_rollBack_103 : decode cX6_rollBack 103 = .ok (.getfield 149, 3) := by decide +kernel
theorem dX6_rollBack_106 : decode cX6_rollBack 106 = .ok (.bipush 101, 2) := by decide +kernel
theorem dX6_rollBack_108 : decode cX6_rollBack 108 = .ok (.if_icmp .ne 31, 3) := by decide +kernel
theorem dX6_rollBack_111 : decode cX6_rollBack 111 = .ok (.aload_n 0, 1) := by decide +kernel
theorem dX6_rollBack_112 : decode cX6_rollBack 112 = .ok (.iload_n 1, 1) := by decide +kernel
theorem dX6_rollBack_113 : decode cX6_rollBack 113 = .ok (.invokevirtual 286, 3) := by decide +kernel
theorem dX6_rollBack_116 : decode cX6_rollBack 116 = .ok (.istore 4, 2) := by decide +kernel
theorem dX6_rollBack_118 : decode cX6_rollBack 118 = .ok (.aload_n 0, 1) := by decide +kernel
theorem dX6_rollBack_119 : decode cX6_rollBack 119 = .ok (.iload_n 1, 1) := by decide +kernel
theorem dX6_rollBack_120 : decode cX6_rollBack 120 = .ok (.invokevirtual 289, 3) := by decide +kernel
theorem dX6_rollBack_123 : decode cX6_rollBack 123 = .ok (.aload_n 0, 1) := by decide +kernel
theorem dX6_rollBack_124 : decode cX6_rollBack 124 = .ok (.aload_n 3, 1) := by decide +kernel
theorem dX6_rollBack_125 : decode cX6_rollBack 125 = .ok (.getfield 179, 3) := by decide +kernel
theorem dX6_rollBack_128 : decode cX6_rollBack 128 = .ok (.invokevirtual 292, 3) := by decide +kernel
theorem dX6_rollBack_131 : decode cX6_rollBack 131 = .ok (.aload_n 0, 1) := by decide +kernel
theorem dX6_rollBack_132 : decode cX6_rollBack 132 = .ok (.aload_n 3, 1) := by decide +kernel
theorem dX6_rollBack_133 : decode cX6_rollBack 133 = .ok (.getfield 187, 3) := by decide +kernel
theorem dX6_rollBack_136 : decode cX6_rollBack 136 = .ok (.invokevirtual 292, 3) := by decide +kernel
theorem dX6_rollBack_139 : decode cX6_rollBack 139 = .ok (.aload_n 3, 1) := by decide +kernel
theorem dX6_rollBack_140 : decode cX6_rollBack 140 = .ok (.iload_n 2, 1) := by decide +kernel
theorem dX6_rollBack_141 : decode cX6_rollBack 141 = .ok (.aload_n 0, 1) := by decide +kernel
theorem dX6_rollBack_142 : decode cX6_rollBack 142 = .ok (.getfield 39, 3) := by decide +kernel
theorem dX6_rollBack_145 : decode cX6_rollBack 145 = .ok (.invokevirtual 295, 3) := by decide +kernel
theorem dX6_rollBack_148 : decode cX6_rollBack 148 = .ok (.iconst 0, 1) := by decide +kernel
theorem dX6_rollBack_149 : decode cX6_rollBack 149 = .ok (.istore 5, 2) := by decide +kernel
theorem dX6_rollBack_151 : decode cX6_rollBack 151 = .ok (.iload 5, 2) := by decide +kernel
theorem dX6_rollBack_153 : decode cX6_rollBack 153 = .ok (.bipush 24, 2) := by decide +kernel
theorem dX6_rollBack_155 : decode cX6_rollBack 155 = .ok (.if_icmp .ge 27, 3) := by decide +kernel
theorem dX6_rollBack_158 : decode cX6_rollBack 158 = .ok (.aload_n 0, 1) := by decide +kernel
theorem dX6_rollBack_159 : decode cX6_rollBack 159 = .ok (.getfield 43, 3) := by decide +kernel
theorem dX6_rollBack_162 : decode cX6_rollBack 162 = .ok (.iload 5, 2) := by decide +kernel
theorem dX6_rollBack_164 : decode cX6_rollBack 164 = .ok (.aload_n 3, 1) := by decide +kernel
theorem dX6_rollBack_165 : decode cX6_rollBack 165 = .ok (.iload_n 2, 1) := by decide +kernel
theorem dX6_rollBack_166 : decode cX6_rollBack 166 = .ok (.iload 5, 2) := by decide +kernel
theorem dX6_rollBack_168 : decode cX6_rollBack 168 = .ok (.aload_n 0, 1) := by decide +kernel
theorem dX6_rollBack_169 : decode cX6_rollBack 169 = .ok (.getfield 39, 3) := by decide +kernel
theorem dX6_rollBack_172 : decode cX6_rollBack 172 = .ok (.invokevirtual 270, 3) := by decide +kernel
theorem dX6_rollBack_175 : decode cX6_rollBack 175 = .ok (.iastore, 1) := by decide +kernel
theorem dX6_rollBack_176 : decode cX6_rollBack 176 = .ok (.iinc 5 1, 3) := by decide +kernel
theorem dX6_rollBack_179 : decode cX6_rollBack 179 = .ok (.goto (-28), 3) := by decide +kernel
theorem dX6_rollBack_182 : decode cX6_rollBack 182 = .ok (.aload_n 3, 1) := by decide +kernel
theorem dX6_rollBack_183 : decode cX6_rollBack 183 = .ok (.iload_n 2, 1) := by decide +kernel
theorem dX6_rollBack_184 : decode cX6_rollBack 184 = .ok (.aload_n 0, 1) := by decide +kernel
theorem dX6_rollBack_185 : decode cX6_rollBack 185 = .ok (.getfield 43, 3) := by decide +kernel
theorem dX6_rollBack_188 : decode cX6_rollBack 188 = .ok (.invokevirtual 299, 3) := by decide +kernel
theorem dX6_rollBack_191 : decode cX6_rollBack 191 = .ok (.iload 4, 2) := by decide +kernel
theorem dX6_rollBack_193 : decode cX6_rollBack 193 = .ok (.ireturn, 1) := by decide +kernel
def wX6_rollBack_151 (post : Int32 → KS → Prop) (px : String → KS → Prop) (mc ms : Nat) : Nat → Nat → Nat → Int32 → Nat → Int32 → Int32 → KS → Prop
  | 0 => fun _ _ _ _ _ _ _ => False
  | n + 1 => fun uc us l2 l3 l4 l5 K => ((24 ≤ l5 → ((l3 < nD K) ∧ (wpX2_resume (fun _ K22 => post l4 K22) K l3 l2))) ∧ (¬ 24 ≤ l5 → ((l3 < nD K) ∧ (wpX2_keptNumber (fun r24 => (vp_in l5 24) ∧ (wX6_rollBack_151 post px mc ms n uc us l2 l3 l4 (l5 + 1) (k3 K 10 1 l5.toNatClampNeg r24))) K l3 l2 l5))))
set_option maxHeartbeats 4000000 in
set_option maxRecDepth 100000 in
theorem bX6_rollBack_151 {p : Program} {l : Launch} {e : Env} {s : State} {m : MethodId} {args : Array Value} {below : List Frame} {meth : Method} {c : Code} {D : va_G} {cI : Nat → ClassId} {e0 : Nat} {A : Nat → Prop} {ad : Nat → Nat → Nat} {M : KS} {ap : Int64} {o : Int64} {od : UInt64} {mc ms : Nat} {post : Int32 → KS → Prop} {px : String → KS → Prop} (hfl : l.stackTraces = false) (S : CallFix p m c cX6_rollBack 6 s args WU RX6) (hg : GI D cI e0 A s s.heap) (hr : meth.sig.returnType = (some FieldType.int)) (hlk : meth.locks = false) (hout : ∀ x ∈ c.exceptionTable.toList, False) : ∀ n : Nat, ∀ {H : Heap} {locs : List Loc} {ls : Array Slot} {uc us : Nat} {l2 : Int32} {l3 : Nat} {l4 : Int32} {l5 : Int32} {K : KS}, va_S A s.heap H locs → HT D cI e0 A ad K M ap o od H → lv_has ls 6 [(0, .ref (ad 0 0)), (2, .int l2), (3, .ref (ad 6 l3)), (4, .int l4), (5, .int l5)] → uc ≤ mc → us ≤ ms → wX6_rollBack_151 post px mc ms n uc us l2 l3 l4 l5 K → W p l e ({ frames := 7, cells := mc, slots := ms, locals := 151 } : Room) s m args below meth c H locs uc us (MQQ below (qK D cI e0 A ad M ap o od rI post) (xK D cI e0 A ad M ap o od px) args s mc ms A) (F0 m 151 ls []) := by
  intro n
  induction n with
  | zero => intros; exact False.elim (by assumption)
  | succ n ih =>
    intro H locs ls uc us l2 l3 l4 l5 K hS hw hl huc hus h
    unfold wX6_rollBack_151 at h
    refine lv_iload S.1 S.2.1 dX6_rollBack_151 (lv_at hl 4 rfl) ?_
    refine lv_bipush (v := 24) S.1 S.2.1 dX6_rollBack_153 (by decide) ?_
    refine lv_icmp_ge (tgt := 182) S.1 S.2.1 dX6_rollBack_155 (by decide) (fun c20 => ?_) (fun c20 => ?_)
    · have h := h.1 c20
      refine lv_aload_n S.1 S.2.1 dX6_rollBack_182 rfl (lv_at hl 2 rfl) ?_
      refine lv_iload_n S.1 S.2.1 dX6_rollBack_183 rfl (lv_at hl 1 rfl) ?_
      refine lv_aload_n S.1 S.2.1 dX6_rollBack_184 rfl (lv_at hl 0 rfl) ?_
      refine g0_11 S hg hw u127 dX6_rollBack_185 ?_
      obtain ⟨g21, h⟩ := h
      refine r_call (rest := []) S hg hS (mtX2_resume (mc := 0) (ms := 0) h) u861 u862 u863 u49 u864 hdX2_resume (rv6 hg hw g21) hw ⟨Nat.le_of_ble_eq_true rfl, Nat.le_of_ble_eq_true rfl⟩ ⟨by show uc + 0 ≤ mc; omega, by show us + 0 ≤ ms; omega⟩ hl.1 (Nat.le_of_ble_eq_true rfl) rfl dX6_rollBack_188 (fun E ce q H1 locs1 hx hS1 hc1 hc2 hc3 => hx.elim) (fun rv H locs hq hS => ?_)
      obtain ⟨_, K22, rfl, h, hw⟩ := hq
      show W p l e _ s m _ below meth c H locs _ _ _ (F0 m 191 ls [])
      show W p l e _ s m _ below meth c H locs uc us _ _
      refine lv_iload S.1 S.2.1 dX6_rollBack_191 (lv_at hl 3 rfl) ?_
      exact r_iret (y := yX6_rollBack) S hr rfl hlk hS (by omega) (by omega) dX6_rollBack_193 ⟨l4, _, rfl, h, hw⟩
    · have h := h.2 c20
      refine lv_aload_n S.1 S.2.1 dX6_rollBack_158 rfl (lv_at hl 0 rfl) ?_
      refine g0_11 S hg hw u127 dX6_rollBack_159 ?_
      refine lv_iload S.1 S.2.1 dX6_rollBack_162 (lv_at hl 4 rfl) ?_
      refine lv_aload_n S.1 S.2.1 dX6_rollBack_164 rfl (lv_at hl 2 rfl) ?_
      refine lv_iload_n S.1 S.2.1 dX6_rollBack_165 rfl (lv_at hl 1 rfl) ?_
      refine lv_iload S.1 S.2.1 dX6_rollBack_166 (lv_at hl 4 rfl) ?_
      refine lv_aload_n S.1 S.2.1 dX6_rollBack_168 rfl (lv_at hl 0 rfl) ?_
      refine g0_10 S hg hw u126 dX6_rollBack_169 ?_
      obtain ⟨g23, h⟩ := h
      refine r_call (rest := [.int l5, .ref (ad 10 1)]) S hg hS (mtX2_keptNumber (mc := 0) (ms := 0) h) u826 u827 u828 u49 u829 hdX2_keptNumber (rv6 hg hw g23) hw ⟨Nat.le_of_ble_eq_true rfl, Nat.le_of_ble_eq_true rfl⟩ ⟨by show uc + 0 ≤ mc; omega, by show us + 0 ≤ ms; omega⟩ hl.1 (Nat.le_of_ble_eq_true rfl) rfl dX6_rollBack_172 (fun E ce q H1 locs1 hx hS1 hc1 hc2 hc3 => hx.elim) (fun rv H locs hq hS => ?_)
      obtain ⟨r24, rfl, h, hw⟩ := hq
      show W p l e _ s m _ below meth c H locs _ _ _ (F0 m 175 ls [.int r24, .int l5, .ref (ad 10 1)])
      show W p l e _ s m _ below meth c H locs uc us _ _
      obtain ⟨g25, h⟩ := h
      refine s10 S hg hS hw (Nat.le_of_ble_eq_true rfl) g25 dX6_rollBack_175 (fun H locs hw hS => ?_)
      refine lv_iinc (v := l5 + 1) (lv' := [(5, .int (l5 + 1)), (0, .ref (ad 0 0)), (2, .int l2), (3, .ref (ad 6 l3)), (4, .int l4)]) S.1 S.2.1 dX6_rollBack_176 hl (k := 4) rfl rfl (by decide) rfl (fun ls hl => ?_)
      refine lv_goto (tgt := 151) S.1 S.2.1 dX6_rollBack_179 (by decide) ?_
      have hl := lv_sub hl (l' := [(0, .ref (ad 0 0)), (2, .int l2), (3, .ref (ad 6 l3)), (4, .int l4), (5, .int (l5 + 1))]) [1, 2, 3, 4, 0] rfl
      exact ih hS hw hl (by omega) (by omega) h
def wX6_rollBack_139 (post : Int32 → KS → Prop) (px : String → KS → Prop) (mc ms : Nat) (uc us : Nat) (l2 : Int32) (l3 : Nat) (l4 : Int32) (K : KS) : Prop := (l3 < nD K) ∧ (wpX2_forgetLaterThan (fun _ K19 => ∃ n1 : Nat, wX6_rollBack_151 post px mc ms n1 uc us l2 l3 l4 0 K19) K l3 l2)
set_option maxHeartbeats 4000000 in
set_option maxRecDepth 100000 in
theorem bX6_rollBack_139 {p : Program} {l : Launch} {e : Env} {s : State} {m : MethodId} {args : Array Value} {below : List Frame} {meth : Method} {c : Code} {D : va_G} {cI : Nat → ClassId} {e0 : Nat} {A : Nat → Prop} {ad : Nat → Nat → Nat} {M : KS} {ap : Int64} {o : Int64} {od : UInt64} {mc ms : Nat} {post : Int32 → KS → Prop} {px : String → KS → Prop} (hfl : l.stackTraces = false) (S : CallFix p m c cX6_rollBack 6 s args WU RX6) (hg : GI D cI e0 A s s.heap) (hr : meth.sig.returnType = (some FieldType.int)) (hlk : meth.locks = false) (hout : ∀ x ∈ c.exceptionTable.toList, False) {H : Heap} {locs : List Loc} {ls : Array Slot} {uc us : Nat} {l2 : Int32} {l3 : Nat} {l4 : Int32} {K : KS} (hS : va_S A s.heap H locs) (hw : HT D cI e0 A ad K M ap o od H) (hl : lv_has ls 6 [(0, .ref (ad 0 0)), (2, .int l2), (3, .ref (ad 6 l3)), (4, .int l4)]) (huc : uc ≤ mc) (hus : us ≤ ms) (h : wX6_rollBack_139 post px mc ms uc us l2 l3 l4 K) : W p l e ({ frames := 7, cells := mc, slots := ms, locals := 151 } : Room) s m args below meth c H locs uc us (MQQ below (qK D cI e0 A ad M ap o od rI post) (xK D cI e0 A ad M ap o od px) args s mc ms A) (F0 m 139 ls []) := by
  unfold wX6_rollBack_139 at h
  refine lv_aload_n S.1 S.2.1 dX6_rollBack_139 rfl (lv_at hl 2 rfl) ?_
  refine lv_iload_n S.1 S.2.1 dX6_rollBack_140 rfl (lv_at hl 1 rfl) ?_
  refine lv_aload_n S.1 S.2.1 dX6_rollBack_141 rfl (lv_at hl 0 rfl) ?_
  refine g0_10 S hg hw u126 dX6_rollBack_142 ?_
  obtain ⟨g18, h⟩ := h
  refine r_call (rest := []) S hg hS (mtX2_forgetLaterThan (mc := 0) (ms := 0) h) u853 u854 u855 u49 u856 hdX2_forgetLaterThan (rv6 hg hw g18) hw ⟨Nat.le_of_ble_eq_true rfl, Nat.le_of_ble_eq_true rfl⟩ ⟨by show uc + 0 ≤ mc; omega, by show us + 0 ≤ ms; omega⟩ hl.1 (Nat.le_of_ble_eq_true rfl) rfl dX6_rollBack_145 (fun E ce q H1 locs1 hx hS1 hc1 hc2 hc3 => hx.elim) (fun rv H locs hq hS => ?_)
  obtain ⟨_, K19, rfl, h, hw⟩ := hq
  show W p l e _ s m _ below meth c H locs _ _ _ (F0 m 148 ls [])
  show W p l e _ s m _ below meth c H locs uc us _ _
  refine lv_iconst (v := 0) S.1 S.2.1 dX6_rollBack_148 (by decide) ?_
  refine lv_istore (lv' := [(5, .int 0), (0, .ref (ad 0 0)), (2, .int l2), (3, .ref (ad 6 l3)), (4, .int l4)]) S.1 S.2.1 dX6_rollBack_149 hl (by decide) rfl (fun ls hl => ?_)
  have hl := lv_sub hl (l' := [(0, .ref (ad 0 0)), (2, .int l2), (3, .ref (ad 6 l3)), (4, .int l4), (5, .int 0)]) [1, 2, 3, 4, 0] rfl
  obtain ⟨n1, h⟩ := h
  exact bX6_rollBack_151 hfl S hg hr hlk hout n1 hS hw hl (by omega) (by omega) h
def wX6_rollBack_58 (post : Int32 → KS → Prop) (px : String → KS → Prop) (mc ms : Nat) (uc us : Nat) (l1 : Int32) (l2 : Int32) (l3 : Nat) (K : KS) : Prop := (l3 < nD K) ∧ ((wpX6_isBusy (fun r11 => ((¬ r11 = 0 → ((uc + 1 ≤ mc ∧ us + 6 ≤ ms ∧ px "java/lang/IllegalStateException" K))) ∧ (r11 = 0 → ((wpX6_isBusy (fun r15 => ((r15 = 0 → (((¬ (K 6 2 l3) = 101 → (wX6_rollBack_139 post px mc ms uc us l2 l3 0 K)) ∧ ((K 6 2 l3) = 101 → ((∃ a26 a27 : Nat, uc + a26 ≤ mc ∧ us + a27 ≤ ms ∧ wpX6_undoSales (fun r28 K29 => (wpX6_dropOffers (fun _ K30 => (l3 < nD K30) ∧ ((∃ a32 a33 : Nat, (uc + a26) + a32 ≤ mc ∧ (us + a27) + a33 ≤ ms ∧ wpX6_takeCardsBack (fun _ K34 => (l3 < nD K34) ∧ ((∃ a36 a37 : Nat, ((uc + a26) + a32) + a36 ≤ mc ∧ ((us + a27) + a33) + a37 ≤ ms ∧ wpX6_takeCardsBack (fun _ K38 => wX6_rollBack_139 post px mc ms (((uc + a26) + a32) + a36) (((us + a27) + a33) + a37) l2 l3 r28 K38) a36 a37 K34 (2 * l3 + 1)))) a32 a33 K30 (2 * l3)))) K29 l1)) a26 a27 K l1)))))) ∧ (¬ r15 = 0 → ((uc + 1 ≤ mc ∧ us + 6 ≤ ms ∧ px "java/lang/IllegalStateException" K))))) K (K 7 0 (2 * l3 + 1)) l3))))) K (K 7 0 (2 * l3)) l3))
set_option maxHeartbeats 4000000 in
set_option maxRecDepth 100000 in
theorem bX6_rollBack_58 {p : Program} {l : Launch} {e : Env} {s : State} {m : MethodId} {args : Array Value} {below : List Frame} {meth : Method} {c : Code} {D : va_G} {cI : Nat → ClassId} {e0 : Nat} {A : Nat → Prop} {ad : Nat → Nat → Nat} {M : KS} {ap : Int64} {o : Int64} {od : UInt64} {mc ms : Nat} {post : Int32 → KS → Prop} {px : String → KS → Prop} (hfl : l.stackTraces = false) (S : CallFix p m c cX6_rollBack 6 s args WU RX6) (hg : GI D cI e0 A s s.heap) (hr : meth.sig.returnType = (some FieldType.int)) (hlk : meth.locks = false) (hout : ∀ x ∈ c.exceptionTable.toList, False) {H : Heap} {locs : List Loc} {ls : Array Slot} {uc us : Nat} {l1 : Int32} {l2 : Int32} {l3 : Nat} {K : KS} (hS : va_S A s.heap H locs) (hw : HT D cI e0 A ad K M ap o od H) (hl : lv_has ls 6 [(0, .ref (ad 0 0)), (1, .int l1), (2, .int l2), (3, .ref (ad 6 l3))]) (huc : uc ≤ mc) (hus : us ≤ ms) (h : wX6_rollBack_58 post px mc ms uc us l1 l2 l3 K) : W p l e ({ frames := 7, cells := mc, slots := ms, locals := 151 } : Room) s m args below meth c H locs uc us (MQQ below (qK D cI e0 A ad M ap o od rI post) (xK D cI e0 A ad M ap o od px) args s mc ms A) (F0 m 58 ls []) := by
  unfold wX6_rollBack_58 at h
  refine lv_aload_n S.1 S.2.1 dX6_rollBack_58 rfl (lv_at hl 0 rfl) ?_
  refine lv_aload_n S.1 S.2.1 dX6_rollBack_59 rfl (lv_at hl 3 rfl) ?_
  obtain ⟨g10, h⟩ := h
  refine g6_0 S hg hw g10 u574 dX6_rollBack_60 ?_
  refine g7_0 S hg hw (lt2 g10) u555 dX6_rollBack_63 ?_
  refine lv_aload_n S.1 S.2.1 dX6_rollBack_66 rfl (lv_at hl 3 rfl) ?_
  refine r_call (rest := []) S hg hS (mtX6_isBusy (mc := 0) (ms := 0) h) u523 u525 u7 u27 u526 hdX6_isBusy (rv0 hg hw) hw ⟨Nat.le_of_ble_eq_true rfl, Nat.le_of_ble_eq_true rfl⟩ ⟨by show uc + 0 ≤ mc; omega, by show us + 0 ≤ ms; omega⟩ hl.1 (Nat.le_of_ble_eq_true rfl) rfl dX6_rollBack_67 (fun E ce q H1 locs1 hx hS1 hc1 hc2 hc3 => hx.elim) (fun rv H locs hq hS => ?_)
  obtain ⟨r11, rfl, h, hw⟩ := hq
  show W p l e _ s m _ below meth c H locs _ _ _ (F0 m 70 ls [.int r11])
  show W p l e _ s m _ below meth c H locs uc us _ _
  refine lv_if_ne (tgt := 88) S.1 S.2.1 dX6_rollBack_70 (by decide) (fun c12 => ?_) (fun c12 => ?_)
  · have h := h.1 c12
    obtain ⟨g13, g14, h⟩ := h
    exact r_throwW (fr := 0) (lo := 0) (text := "a player is in another duel that has not ended") hfl S hout hlk hg hS (by decide) u337 u42 (by decide +kernel) hat_61 hl.1 dX6_rollBack_88 dX6_rollBack_91 dX6_rollBack_92 dX6_rollBack_95 dX6_rollBack_98 (Nat.le_of_ble_eq_true rfl) (Nat.le_of_ble_eq_true rfl) g13 g14 g13 g14 (fun H1 hz hk => ⟨_, h, hw.more hk⟩)
  · have h := h.2 c12
    refine lv_aload_n S.1 S.2.1 dX6_rollBack_73 rfl (lv_at hl 0 rfl) ?_
    refine lv_aload_n S.1 S.2.1 dX6_rollBack_74 rfl (lv_at hl 3 rfl) ?_
    refine g6_1 S hg hw g10 u576 dX6_rollBack_75 ?_
    refine g7_0 S hg hw (lt2s g10) u555 dX6_rollBack_78 ?_
    refine lv_aload_n S.1 S.2.1 dX6_rollBack_81 rfl (lv_at hl 3 rfl) ?_
    refine r_call (rest := []) S hg hS (mtX6_isBusy (mc := 0) (ms := 0) h) u523 u525 u7 u27 u526 hdX6_isBusy (rv0 hg hw) hw ⟨Nat.le_of_ble_eq_true rfl, Nat.le_of_ble_eq_true rfl⟩ ⟨by show uc + 0 ≤ mc; omega, by show us + 0 ≤ ms; omega⟩ hl.1 (Nat.le_of_ble_eq_true rfl) rfl dX6_rollBack_82 (fun E ce q H1 locs1 hx hS1 hc1 hc2 hc3 => hx.elim) (fun rv H locs hq hS => ?_)
    obtain ⟨r15, rfl, h, hw⟩ := hq
    show W p l e _ s m _ below meth c H locs _ _ _ (F0 m 85 ls [.int r15])
    show W p l e _ s m _ below meth c H locs uc us _ _
    refine lv_if_eq (tgt := 99) S.1 S.2.1 dX6_rollBack_85 (by decide) (fun c16 => ?_) (fun c16 => ?_)
    · have h := h.1 c16
      refine lv_iconst (v := 0) S.1 S.2.1 dX6_rollBack_99 (by decide) ?_
      refine lv_istore (lv' := [(4, .int 0), (0, .ref (ad 0 0)), (1, .int l1), (2, .int l2), (3, .ref (ad 6 l3))]) S.1 S.2.1 dX6_rollBack_100 hl (by decide) rfl (fun ls hl => ?_)
      refine lv_aload_n S.1 S.2.1 dX6_rollBack_102 rfl (lv_at hl 4 rfl) ?_
      refine g6_2 S hg hw g10 u578 dX6_rollBack_103 ?_
      refine lv_bipush (v := 101) S.1 S.2.1 dX6_rollBack_106 (by decide) ?_
      refine lv_icmp_ne (tgt := 139) S.1 S.2.1 dX6_rollBack_108 (by decide) (fun c17 => ?_) (fun c17 => ?_)
      · have h := h.1 c17
        have hl := lv_sub hl (l' := [(0, .ref (ad 0 0)), (2, .int l2), (3, .ref (ad 6 l3)), (4, .int 0)]) [1, 3, 4, 0] rfl
        exact bX6_rollBack_139 hfl S hg hr hlk hout hS hw hl (by omega) (by omega) h
      · have h := h.2 c17
        refine lv_aload_n S.1 S.2.1 dX6_rollBack_111 rfl (lv_at hl 1 rfl) ?_
        refine lv_iload_n S.1 S.2.1 dX6_rollBack_112 rfl (lv_at hl 2 rfl) ?_
        obtain ⟨a26, a27, h1, h2, h⟩ := h
        refine r_call (rest := []) S hg hS (mtX6_undoSales (mc := a26) (ms := a27) h) u841 u843 u21 u27 u844 hdX6_undoSales (rv0 hg hw) hw ⟨Nat.le_of_ble_eq_true rfl, Nat.le_of_ble_eq_true rfl⟩ ⟨by show uc + a26 ≤ mc; omega, by show us + a27 ≤ ms; omega⟩ hl.1 (Nat.le_of_ble_eq_true rfl) rfl dX6_rollBack_113 (fun E ce q H1 locs1 hx hS1 hc1 hc2 hc3 => hx.elim) (fun rv H locs hq hS => ?_)
        obtain ⟨r28, K29, rfl, h, hw⟩ := hq
        show W p l e _ s m _ below meth c H locs _ _ _ (F0 m 116 ls [.int r28])
        refine lv_istore (lv' := [(4, .int r28), (0, .ref (ad 0 0)), (1, .int l1), (2, .int l2), (3, .ref (ad 6 l3))]) S.1 S.2.1 dX6_rollBack_116 hl (by decide) rfl (fun ls hl => ?_)
        refine lv_aload_n S.1 S.2.1 dX6_rollBack_118 rfl (lv_at hl 1 rfl) ?_
        refine lv_iload_n S.1 S.2.1 dX6_rollBack_119 rfl (lv_at hl 2 rfl) ?_
        refine r_call (rest := []) S hg hS (mtX6_dropOffers (mc := 0) (ms := 0) h) u845 u847 u22 u27 u848 hdX6_dropOffers (rv0 hg hw) hw ⟨Nat.le_of_ble_eq_true rfl, Nat.le_of_ble_eq_true rfl⟩ ⟨by show (uc + a26) + 0 ≤ mc; omega, by show (us + a27) + 0 ≤ ms; omega⟩ hl.1 (Nat.le_of_ble_eq_true rfl) rfl dX6_rollBack_120 (fun E ce q H1 locs1 hx hS1 hc1 hc2 hc3 => hx.elim) (fun rv H locs hq hS => ?_)
        obtain ⟨_, K30, rfl, h, hw⟩ := hq
        show W p l e _ s m _ below meth c H locs _ _ _ (F0 m 123 ls [])
        show W p l e _ s m _ below meth c H locs (uc + a26) (us + a27) _ _
        refine lv_aload_n S.1 S.2.1 dX6_rollBack_123 rfl (lv_at hl 1 rfl) ?_
        refine lv_aload_n S.1 S.2.1 dX6_rollBack_124 rfl (lv_at hl 4 rfl) ?_
        obtain ⟨g31, h⟩ := h
        refine g6_0 S hg hw g31 u574 dX6_rollBack_125 ?_
        obtain ⟨a32, a33, h1, h2, h⟩ := h
        refine r_call (rest := []) S hg hS (mtX6_takeCardsBack (mc := a32) (ms := a33) h) u849 u851 u23 u27 u852 hdX6_takeCardsBack (rv0 hg hw) hw ⟨Nat.le_of_ble_eq_true rfl, Nat.le_of_ble_eq_true rfl⟩ ⟨by show (uc + a26) + a32 ≤ mc; omega, by show (us + a27) + a33 ≤ ms; omega⟩ hl.1 (Nat.le_of_ble_eq_true rfl) rfl dX6_rollBack_128 (fun E ce q H1 locs1 hx hS1 hc1 hc2 hc3 => hx.elim) (fun rv H locs hq hS => ?_)
        obtain ⟨_, K34, rfl, h, hw⟩ := hq
        show W p l e _ s m _ below meth c H locs _ _ _ (F0 m 131 ls [])
        refine lv_aload_n S.1 S.2.1 dX6_rollBack_131 rfl (lv_at hl 1 rfl) ?_
        refine lv_aload_n S.1 S.2.1 dX6_rollBack_132 rfl (lv_at hl 4 rfl) ?_
        obtain ⟨g35, h⟩ := h
        refine g6_1 S hg hw g35 u576 dX6_rollBack_133 ?_
        obtain ⟨a36, a37, h1, h2, h⟩ := h
        refine r_call (rest := []) S hg hS (mtX6_takeCardsBack (mc := a36) (ms := a37) h) u849 u851 u23 u27 u852 hdX6_takeCardsBack (rv0 hg hw) hw ⟨Nat.le_of_ble_eq_true rfl, Nat.le_of_ble_eq_true rfl⟩ ⟨by show ((uc + a26) + a32) + a36 ≤ mc; omega, by show ((us + a27) + a33) + a37 ≤ ms; omega⟩ hl.1 (Nat.le_of_ble_eq_true rfl) rfl dX6_rollBack_136 (fun E ce q H1 locs1 hx hS1 hc1 hc2 hc3 => hx.elim) (fun rv H locs hq hS => ?_)
        obtain ⟨_, K38, rfl, h, hw⟩ := hq
        show W p l e _ s m _ below meth c H locs _ _ _ (F0 m 139 ls [])
        have hl := lv_sub hl (l' := [(0, .ref (ad 0 0)), (2, .int l2), (3, .ref (ad 6 l3)), (4, .int r28)]) [1, 3, 4, 0] rfl
        exact bX6_rollBack_139 hfl S hg hr hlk hout hS hw hl (by omega) (by omega) h
    · have h := h.2 c16
      obtain ⟨g39, g40, h⟩ := h
      exact r_throwW (fr := 0) (lo := 0) (text := "a player is in another duel that has not ended") hfl S hout hlk hg hS (by decide) u337 u42 (by decide +kernel) hat_61 hl.1 dX6_rollBack_88 dX6_rollBack_91 dX6_rollBack_92 dX6_rollBack_95 dX6_rollBack_98 (Nat.le_of_ble_eq_true rfl) (Nat.le_of_ble_eq_true rfl) g39 g40 g39 g40 (fun H1 hz hk => ⟨_, h, hw.more hk⟩)
def wpX6_rollBack (post : Int32 → KS → Prop) (px : String → KS → Prop) (mc ms : Nat) (K : KS) (p1 : Int32) (p2 : Int32) : Prop := (∃ a1 a2 : Nat, 0 + a1 ≤ mc ∧ 0 + a2 ≤ ms ∧ wpX6_duelAt (fun r3 => ((p2 < 0 → (((0 + a1) + 1 ≤ mc ∧ (0 + a2) + 6 ≤ ms ∧ px "java/lang/IndexOutOfBoundsException" K))) ∧ (¬ p2 < 0 → ((r3 < nD K) ∧ (((p2 < (K 6 8 r3) → ((((K 6 2 r3) = 103 → (wX6_rollBack_58 post px mc ms (0 + a1) (0 + a2) p1 p2 r3 K)) ∧ (¬ (K 6 2 r3) = 103 → ((((K 6 2 r3) = 101 → (wX6_rollBack_58 post px mc ms (0 + a1) (0 + a2) p1 p2 r3 K)) ∧ (¬ (K 6 2 r3) = 101 → (((0 + a1) + 1 ≤ mc ∧ (0 + a2) + 6 ≤ ms ∧ px "java/lang/UnsupportedOperationException" K))))))))) ∧ (¬ p2 < (K 6 8 r3) → (((0 + a1) + 1 ≤ mc ∧ (0 + a2) + 6 ≤ ms ∧ px "java/lang/IndexOutOfBoundsException" K))))))))) (fun E => px E K) a1 a2 K p1)
theorem hdX6_rollBack : yX6_rollBack.cls ≠ "java/lang/invoke/MethodHandle" ∧ yX6_rollBack.cls ≠ "java/lang/invoke/VarHandle" ∧ (parseMethodDescriptor yX6_rollBack.desc).map (fun d => d.parameters.length) = some 2 := by decide +kernel
set_option maxHeartbeats 4000000 in
set_option maxRecDepth 100000 in
theorem mtX6_rollBack {l : Launch} {D : va_G} {cI : Nat → ClassId} {e0 : Nat} {A : Nat → Prop} {ad : Nat → Nat → Nat} {K M : KS} {ap o : Int64} {od : UInt64} {mc ms : Nat} {p1 : Int32} {p2 : Int32} {post : Int32 → KS → Prop} {px : String → KS → Prop} (hfl : l.stackTraces = false) (h : wpX6_rollBack post px mc ms K p1 p2) : CM l D cI e0 A yX6_rollBack cX6_rollBack 6 (some FieldType.int) 7 151 mc ms [.ref (ad 0 0), .int p1, .int p2] (HT D cI e0 A ad K M ap o od) (qK D cI e0 A ad M ap o od rI post) (xK D cI e0 A ad M ap o od px) := by
  refine CM.of (by decide) (Nat.le_of_ble_eq_true rfl) (fun p e s m below meth c ls FX hw hS hl => ?_)
  obtain ⟨S, hg, hr, hlk, hnm, hout⟩ := FX
  have hl : lv_has ls 6 [(0, .ref (ad 0 0)), (1, .int p1), (2, .int p2)] := hl
  unfold wpX6_rollBack at h
  refine lv_aload_n S.1 S.2.1 dX6_rollBack_0 rfl (lv_at hl 0 rfl) ?_
  refine lv_iload_n S.1 S.2.1 dX6_rollBack_1 rfl (lv_at hl 1 rfl) ?_
  obtain ⟨a1, a2, h1, h2, h⟩ := h
  refine r_call (rest := []) S hg hS (mtX6_duelAt (mc := a1) (ms := a2) hfl h) u618 u620 u8 u27 u621 hdX6_duelAt (rv0 hg hw) hw ⟨Nat.le_of_ble_eq_true rfl, Nat.le_of_ble_eq_true rfl⟩ ⟨by show 0 + a1 ≤ mc; omega, by show 0 + a2 ≤ ms; omega⟩ hl.1 (Nat.le_of_ble_eq_true rfl) rfl dX6_rollBack_2 (fun E ce q H1 locs1 hx hS1 hc1 hc2 hc3 => by obtain ⟨hx1, hw1⟩ := hx; exact r_out hout hlk hS1 (by show (0 + a1) ≤ mc; omega) (by show (0 + a2) ≤ ms; omega) hc1 hc2 hc3 ⟨_, hx1, hw1⟩) (fun rv H locs hq hS => ?_)
  obtain ⟨r3, rfl, h, hw⟩ := hq
  show W p l e _ s m _ below meth c H locs _ _ _ (F0 m 5 ls [.ref (ad 6 r3)])
  refine lv_astore_n (lv' := [(3, .ref (ad 6 r3)), (0, .ref (ad 0 0)), (1, .int p1), (2, .int p2)]) S.1 S.2.1 dX6_rollBack_5 rfl hl (by decide) rfl (fun ls hl => ?_)
  refine lv_iload_n S.1 S.2.1 dX6_rollBack_6 rfl (lv_at hl 3 rfl) ?_
  refine lv_if_lt (tgt := 18) S.1 S.2.1 dX6_rollBack_7 (by decide) (fun c4 => ?_) (fun c4 => ?_)
  · have h := h.1 c4
    obtain ⟨g5, g6, h⟩ := h
    exact r_throwW (fr := 0) (lo := 0) (text := "no such snapshot") hfl S hout hlk hg hS (by decide) u361 u37 (by decide +kernel) hat_118 hl.1 dX6_rollBack_18 dX6_rollBack_21 dX6_rollBack_22 dX6_rollBack_25 dX6_rollBack_28 (Nat.le_of_ble_eq_true rfl) (Nat.le_of_ble_eq_true rfl) g5 g6 g5 g6 (fun H1 hz hk => ⟨_, h, hw.more hk⟩)
  · have h := h.2 c4
    refine lv_iload_n S.1 S.2.1 dX6_rollBack_10 rfl (lv_at hl 3 rfl) ?_
    refine lv_aload_n S.1 S.2.1 dX6_rollBack_11 rfl (lv_at hl 0 rfl) ?_
    obtain ⟨g7, h⟩ := h
    refine g6_8 S hg hw g7 u588 dX6_rollBack_12 ?_
    refine lv_icmp_lt (tgt := 29) S.1 S.2.1 dX6_rollBack_15 (by decide) (fun c8 => ?_) (fun c8 => ?_)
    · have h := h.1 c8
      refine lv_aload_n S.1 S.2.1 dX6_rollBack_29 rfl (lv_at hl 0 rfl) ?_
      refine g6_2 S hg hw g7 u578 dX6_rollBack_30 ?_
      refine lv_bipush (v := 103) S.1 S.2.1 dX6_rollBack_33 (by decide) ?_
      refine lv_icmp_eq (tgt := 58) S.1 S.2.1 dX6_rollBack_35 (by decide) (fun c9 => ?_) (fun c9 => ?_)
      · have h := h.1 c9
        have hl := lv_sub hl (l' := [(0, .ref (ad 0 0)), (1, .int p1), (2, .int p2), (3, .ref (ad 6 r3))]) [1, 2, 3, 0] rfl
        exact bX6_rollBack_58 hfl S hg hr hlk hout hS hw hl (by omega) (by omega) h
      · have h := h.2 c9
        refine lv_aload_n S.1 S.2.1 dX6_rollBack_38 rfl (lv_at hl 0 rfl) ?_
        refine g6_2 S hg hw g7 u578 dX6_rollBack_39 ?_
        refine lv_bipush (v := 101) S.1 S.2.1 dX6_rollBack_42 (by decide) ?_
        refine lv_icmp_eq (tgt := 58) S.1 S.2.1 dX6_rollBack_44 (by decide) (fun c41 => ?_) (fun c41 => ?_)
        · have h := h.1 c41
          have hl := lv_sub hl (l' := [(0, .ref (ad 0 0)), (1, .int p1), (2, .int p2), (3, .ref (ad 6 r3))]) [1, 2, 3, 0] rfl
          exact bX6_rollBack_58 hfl S hg hr hlk hout hS hw hl (by omega) (by omega) h
        · have h := h.2 c41
          obtain ⟨g42, g43, h⟩ := h
          exact r_throwW (fr := 0) (lo := 0) (text := "the duel is open or final") hfl S hout hlk hg hS (by decide) u623 u51 (by decide +kernel) hat_158 hl.1 dX6_rollBack_47 dX6_rollBack_50 dX6_rollBack_51 dX6_rollBack_54 dX6_rollBack_57 (Nat.le_of_ble_eq_true rfl) (Nat.le_of_ble_eq_true rfl) g42 g43 g42 g43 (fun H1 hz hk => ⟨_, h, hw.more hk⟩)
    · have h := h.2 c8
      obtain ⟨g44, g45, h⟩ := h
      exact r_throwW (fr := 0) (lo := 0) (text := "no such snapshot") hfl S hout hlk hg hS (by decide) u361 u37 (by decide +kernel) hat_118 hl.1 dX6_rollBack_18 dX6_rollBack_21 dX6_rollBack_22 dX6_rollBack_25 dX6_rollBack_28 (Nat.le_of_ble_eq_true rfl) (Nat.le_of_ble_eq_true rfl) g44 g45 g44 g45 (fun H1 hz hk => ⟨_, h, hw.more hk⟩)

-- X6.withdraw
theorem dX6_withdraw_0 : decode cX6_withdraw 0 = .ok (.aload_n 0, 1) := by decide +kernel
theorem dX6_withdraw_1 : decode cX6_withdraw 1 = .ok (.iload_n 1, 1) := by decide +kernel
theorem dX6_withdraw_2 : decode cX6_withdraw 2 = .ok (.invokevirtual 311, 3) := by decide +kernel
theorem dX6_withdraw_5 : decode cX6_withdraw 5 = .ok (.astore_n 2, 1) := by decide +kernel
theorem dX6_withdraw_6 : decode cX6_withdraw 6 = .ok (.aload_n 2, 1) := by decide +kernel
theorem dX6_withdraw_7 : decode cX6_withdraw 7 = .ok (.getfield 315, 3) := by decide +kernel
theorem dX6_withdraw_10 : decode cX6_withdraw 10 = .ok (.bipush 111, 2) := by decide +kernel
theorem dX6_withdraw_12 : decode cX6_withdraw 12 = .ok (.if_icmp .eq 14, 3) := by decide +kernel
theorem dX6_withdraw_15 : decode cX6_withdraw 15 = .ok (.new 154, 3) := by decide +kernel
theorem dX6_withdraw_18 : decode cX6_withdraw 18 = .ok (.dup, 1) := by decide +kernel
theorem dX6_withdraw_19 : decode cX6_withdraw 19 = .ok (.ldc_w 316, 3) := by decide +kernel
theorem dX6_withdraw_22 : decode cX6_withdraw 22 = .ok (.invokespecial 158, 3) := by decide +kernel
theorem dX6_withdraw_25 : decode cX6_withdraw 25 = .ok (.athrow, 1) := by decide +kernel
theorem dX6_withdraw_26 : decode cX6_withdraw 26 = .ok (.aload_n 2, 1) := by decide +kernel
theorem dX6_withdraw_27 : decode cX6_withdraw 27 = .ok (.bipush 103, 2) := by decide +kernel
theorem dX6_withdraw_29 : decode cX6_withdraw 29 = .ok (.putfield 315, 3) := by decide +kernel
theorem dX6_withdraw_32 : decode cX6_withdraw 32 = .ok (.aload_n 2, 1) := by decide +kernel
theorem dX6_withdraw_33 : decode cX6_withdraw 33 = .ok (.getfield 318, 3) := by decide +kernel
theorem dX6_withdraw_36 : decode cX6_withdraw 36 = .ok (.iconst 0, 1) := by decide +kernel
theorem dX6_withdraw_37 : decode cX6_withdraw 37 = .ok (.putfield 163, 3) := by decide +kernel
theorem dX6_withdraw_40 : decode cX6_withdraw 40 = .ok (.aload_n 2, 1) := by decide +kernel
theorem dX6_withdraw_41 : decode cX6_withdraw 41 = .ok (.getfield 318, 3) := by decide +kernel
theorem dX6_withdraw_44 : decode cX6_withdraw 44 = .ok (.getfield 96, 3) := by decide +kernel
theorem dX6_withdraw_47 : decode cX6_withdraw 47 = .ok (.ireturn, 1) := by decide +kernel
def wpX6_withdraw (post : Int32 → KS → Prop) (px : String → KS → Prop) (mc ms : Nat) (K : KS) (p1 : Int32) : Prop := (∃ a1 a2 : Nat, 0 + a1 ≤ mc ∧ 0 + a2 ≤ ms ∧ wpX6_offerAt (fun r3 => (r3 < nO K) ∧ ((((K 5 4 r3) = 111 → ((((k3 K 5 4 r3 103) 5 0 r3).toNatClampNeg < nC (k3 K 5 4 r3 103)) ∧ ((((k3 (k3 K 5 4 r3 103) 4 4 (((k3 K 5 4 r3 103) 5 0 r3).toNatClampNeg) 0) 5 0 r3).toNatClampNeg < nC (k3 (k3 K 5 4 r3 103) 4 4 (((k3 K 5 4 r3 103) 5 0 r3).toNatClampNeg) 0)) ∧ (post ((k3 (k3 K 5 4 r3 103) 4 4 (((k3 K 5 4 r3 103) 5 0 r3).toNatClampNeg) 0) 4 0 (((k3 (k3 K 5 4 r3 103) 4 4 (((k3 K 5 4 r3 103) 5 0 r3).toNatClampNeg) 0) 5 0 r3).toNatClampNeg)) (k3 (k3 K 5 4 r3 103) 4 4 (((k3 K 5 4 r3 103) 5 0 r3).toNatClampNeg) 0))))) ∧ (¬ (K 5 4 r3) = 111 → (((0 + a1) + 1 ≤ mc ∧ (0 + a2) + 6 ≤ ms ∧ px "java/lang/UnsupportedOperationException" K)))))) (fun E => px E K) a1 a2 K p1)
theorem hdX6_withdraw : yX6_withdraw.cls ≠ "java/lang/invoke/MethodHandle" ∧ yX6_withdraw.cls ≠ "java/lang/invoke/VarHandle" ∧ (parseMethodDescriptor yX6_withdraw.desc).map (fun d => d.parameters.length) = some 1 := by decide +kernel
set_option maxHeartbeats 4000000 in
set_option maxRecDepth 100000 in
theorem mtX6_withdraw {l : Launch} {D : va_G} {cI : Nat → ClassId} {e0 : Nat} {A : Nat → Prop} {ad : Nat → Nat → Nat} {K M : KS} {ap o : Int64} {od : UInt64} {mc ms : Nat} {p1 : Int32} {post : Int32 → KS → Prop} {px : String → KS → Prop} (hfl : l.stackTraces = false) (h : wpX6_withdraw post px mc ms K p1) : CM l D cI e0 A yX6_withdraw cX6_withdraw 3 (some FieldType.int) 7 103 mc ms [.ref (ad 0 0), .int p1] (HT D cI e0 A ad K M ap o od) (qK D cI e0 A ad M ap o od rI post) (xK D cI e0 A ad M ap o od px) := by
  refine CM.of (by decide) (Nat.le_of_ble_eq_true rfl) (fun p e s m below meth c ls FX hw hS hl => ?_)
  obtain ⟨S, hg, hr, hlk, hnm, hout⟩ := FX
  have hl : lv_has ls 3 [(0, .ref (ad 0 0)), (1, .int p1)] := hl
  unfold wpX6_withdraw at h
  refine lv_aload_n S.1 S.2.1 dX6_withdraw_0 rfl (lv_at hl 0 rfl) ?_
  refine lv_iload_n S.1 S.2.1 dX6_withdraw_1 rfl (lv_at hl 1 rfl) ?_
  obtain ⟨a1, a2, h1, h2, h⟩ := h
  refine r_call (rest := []) S hg hS (mtX6_offerAt (mc := a1) (ms := a2) hfl h) u905 u907 u24 u27 u908 hdX6_offerAt (rv0 hg hw) hw ⟨Nat.le_of_ble_eq_true rfl, Nat.le_of_ble_eq_true rfl⟩ ⟨by show 0 + a1 ≤ mc; omega, by show 0 + a2 ≤ ms; omega⟩ hl.1 (Nat.le_of_ble_eq_true rfl) rfl dX6_withdraw_2 (fun E ce q H1 locs1 hx hS1 hc1 hc2 hc3 => by obtain ⟨hx1, hw1⟩ := hx; exact r_out hout hlk hS1 (by show (0 + a1) ≤ mc; omega) (by show (0 + a2) ≤ ms; omega) hc1 hc2 hc3 ⟨_, hx1, hw1⟩) (fun rv H locs hq hS => ?_)
  obtain ⟨r3, rfl, h, hw⟩ := hq
  show W p l e _ s m _ below meth c H locs _ _ _ (F0 m 5 ls [.ref (ad 5 r3)])
  refine lv_astore_n (lv' := [(2, .ref (ad 5 r3)), (0, .ref (ad 0 0)), (1, .int p1)]) S.1 S.2.1 dX6_withdraw_5 rfl hl (by decide) rfl (fun ls hl => ?_)
  refine lv_aload_n S.1 S.2.1 dX6_withdraw_6 rfl (lv_at hl 0 rfl) ?_
  obtain ⟨g4, h⟩ := h
  refine g5_4 S hg hw g4 u885 dX6_withdraw_7 ?_
  refine lv_bipush (v := 111) S.1 S.2.1 dX6_withdraw_10 (by decide) ?_
  refine lv_icmp_eq (tgt := 26) S.1 S.2.1 dX6_withdraw_12 (by decide) (fun c5 => ?_) (fun c5 => ?_)
  · have h := h.1 c5
    refine lv_aload_n S.1 S.2.1 dX6_withdraw_26 rfl (lv_at hl 0 rfl) ?_
    refine lv_bipush (v := 103) S.1 S.2.1 dX6_withdraw_27 (by decide) ?_
    refine p5_4 S hg hS hw g4 rfl rfl u885 dX6_withdraw_29 (fun H locs hw hS => ?_)
    refine lv_aload_n S.1 S.2.1 dX6_withdraw_32 rfl (lv_at hl 0 rfl) ?_
    refine g5_0 S hg hw g4 u877 dX6_withdraw_33 ?_
    refine lv_iconst (v := 0) S.1 S.2.1 dX6_withdraw_36 (by decide) ?_
    obtain ⟨g6, h⟩ := h
    refine p4_4 S hg hS hw g6 rfl rfl u389 dX6_withdraw_37 (fun H locs hw hS => ?_)
    refine lv_aload_n S.1 S.2.1 dX6_withdraw_40 rfl (lv_at hl 0 rfl) ?_
    refine g5_0 S hg hw g4 u877 dX6_withdraw_41 ?_
    obtain ⟨g7, h⟩ := h
    refine g4_0 S hg hw g7 u382 dX6_withdraw_44 ?_
    exact r_iret (y := yX6_withdraw) S hr rfl hlk hS (by omega) (by omega) dX6_withdraw_47 ⟨((k3 (k3 K 5 4 r3 103) 4 4 (((k3 K 5 4 r3 103) 5 0 r3).toNatClampNeg) 0) 4 0 (((k3 (k3 K 5 4 r3 103) 4 4 (((k3 K 5 4 r3 103) 5 0 r3).toNatClampNeg) 0) 5 0 r3).toNatClampNeg)), _, rfl, h, hw⟩
  · have h := h.2 c5
    obtain ⟨g8, g9, h⟩ := h
    exact r_throwW (fr := 0) (lo := 0) (text := "the offer is not open") hfl S hout hlk hg hS (by decide) u623 u51 (by decide +kernel) hat_158 hl.1 dX6_withdraw_15 dX6_withdraw_18 dX6_withdraw_19 dX6_withdraw_22 dX6_withdraw_25 (Nat.le_of_ble_eq_true rfl) (Nat.le_of_ble_eq_true rfl) g8 g9 g8 g9 (fun H1 hz hk => ⟨_, h, hw.more hk⟩)

-- X6.buy
theorem dX6_buy_0 : decode cX6_buy 0 = .ok (.aload_n 0, 1) := by decide +kernel
theorem dX6_buy_1 : decode cX6_buy 1 = .ok (.iload_n 1, 1) := by decide +kernel
theorem dX6_buy_2 : decode cX6_buy 2 = .ok (.invokevirtual 65, 3) := by decide +kernel
theorem dX6_buy_5 : decode cX6_buy 5 = .ok (.aload_n 0, 1) := by decide +kernel
theorem dX6_buy_6 : decode cX6_buy 6 = .ok (.iload_n 2, 1) := by decide +kernel
theorem dX6_buy_7 : decode cX6_buy 7 = .ok (.invokevirtual 311, 3) := by decide +kernel
theorem dX6_buy_10 : decode cX6_buy 10 = .ok (.astore_n 3, 1) := by decide +kernel
theorem dX6_buy_11 : decode cX6_buy 11 = .ok (.aload_n 3, 1) := by decide +kernel
theorem dX6_buy_12 : decode cX6_buy 12 = .ok (.getfield 315, 3) := by decide +kernel
theorem dX6_buy_15 : decode cX6_buy 15 = .ok (.bipush 111, 2) := by decide +kernel
theorem dX6_buy_17 : decode cX6_buy 17 = .ok (.if_icmp .ne 14, 3) := by decide +kernel
theorem dX6_buy_20 : decode cX6_buy 20 = .ok (.aload_n 3, 1) := by decide +kernel
theorem dX6_buy_21 : decode cX6_buy 21 = .ok (.getfield 318, 3) := by decide +kernel
theorem dX6_buy_24 : decode cX6_buy 24 = .ok (.getfield 93, 3) := by decide +kernel
theorem dX6_buy_27 : decode cX6_buy 27 = .ok (.iload_n 1, 1) := by decide +kernel
theorem dX6_buy_28 : decode cX6_buy 28 = .ok (.if_icmp .ne 14, 3) := by decide +kernel
theorem dX6_buy_31 : decode cX6_buy 31 = .ok (.new 154, 3) := by decide +kernel
theorem dX6_buy_34 : decode cX6_buy 34 = .ok (.dup, 1) := by decide +kernel
theorem dX6_buy_35 : decode cX6_buy 35 = .ok (.ldc_w 322, 3) := by decide +kernel
theorem dX6_buy_38 : decode cX6_buy 38 = .ok (.invokespecial 158, 3) := by decide +kernel
theorem dX6_buy_41 : decode cX6_buy 41 = .ok (.athrow, 1) := by decide +kernel
theorem dX6_buy_42 : decode cX6_buy 42 = .ok (.aload_n 0, 1) := by decide +kernel
theorem dX6_buy_43 : decode cX6_buy 43 = .ok (.getfield 9, 3) := by decide +kernel
theorem dX6_buy_46 : decode cX6_buy 46 = .ok (.iload_n 1, 1) := by decide +kernel
theorem dX6_buy_47 : decode cX6_buy 47 = .ok (.iaload, 1) := by decide +kernel
theorem dX6_buy_48 : decode cX6_buy 48 = .ok (.aload_n 3, 1) := by decide +kernel
theorem dX6_buy_49 : decode cX6_buy 49 = .ok (.getfield 324, 3) := by decide +kernel
theorem dX6_buy_52 : decode cX6_buy 52 = .ok (.if_icmp .ge 14, 3) := by decide +kernel
theorem dX6_buy_55 : decode cX6_buy 55 = .ok (.new 57, 3) := by decide +kernel
theorem dX6_buy_58 : decode cX6_buy 58 = .ok (.dup, 1) := by decide +kernel
theorem dX6_buy_59 : decode cX6_buy 59 = .ok (.ldc_w 327, 3) := by decide +kernel
theorem dX6_buy_62 : decode cX6_buy 62 = .ok (.invokespecial 61, 3) := by decide +kernel
theorem dX6_buy_65 : decode cX6_buy 65 = .ok (.athrow, 1) := by decide +kernel
theorem dX6_buy_66 : decode cX6_buy 66 = .ok (.aload_n 0, 1) := by decide +kernel
theorem dX6_buy_67 : decode cX6_buy 67 = .ok (.aload_n 3, 1) := by decide +kernel
theorem dX6_buy_68 : decode cX6_buy 68 = .ok (.iload_n 1, 1) := by decide +kernel
theorem dX6_buy_69 : decode cX6_buy 69 = .ok (.invokevirtual 329, 3) := by decide +kernel
theorem dX6_buy_72 : decode cX6_buy 72 = .ok (.aload_n 3, 1) := by decide +kernel
theorem dX6_buy_73 : decode cX6_buy 73 = .ok (.getfield 318, 3) := by decide +kernel
theorem dX6_buy_76 : decode cX6_buy 76 = .ok (.getfield 96, 3) := by decide +kernel
theorem dX6_buy_79 : decode cX6_buy 79 = .ok (.ireturn, 1) := by decide +kernel
def wpX6_buy (post : Int32 → KS → Prop) (px : String → KS → Prop) (mc ms : Nat) (K : KS) (p1 : Int32) (p2 : Int32) : Prop := (∃ a1 a2 : Nat, 0 + a1 ≤ mc ∧ 0 + a2 ≤ ms ∧ wpX6_needPlayer (fun _ => (∃ a3 a4 : Nat, (0 + a1) + a3 ≤ mc ∧ (0 + a2) + a4 ≤ ms ∧ wpX6_offerAt (fun r5 => (r5 < nO K) ∧ (((¬ (K 5 4 r5) = 111 → ((((0 + a1) + a3) + 1 ≤ mc ∧ ((0 + a2) + a4) + 6 ≤ ms ∧ px "java/lang/UnsupportedOperationException" K))) ∧ ((K 5 4 r5) = 111 → (((K 5 0 r5).toNatClampNeg < nC K) ∧ (((¬ (K 4 2 ((K 5 0 r5).toNatClampNeg)) = p1 → ((vp_in p1 6) ∧ ((((K 5 1 r5) ≤ (K 10 0 p1.toNatClampNeg) → ((∃ a14 a15 : Nat, ((0 + a1) + a3) + a14 ≤ mc ∧ ((0 + a2) + a4) + a15 ≤ ms ∧ wpX6_sell (fun _ K16 => (r5 < nO K16) ∧ (((K16 5 0 r5).toNatClampNeg < nC K16) ∧ (post (K16 4 0 ((K16 5 0 r5).toNatClampNeg)) K16))) a14 a15 K r5 p1))) ∧ (¬ (K 5 1 r5) ≤ (K 10 0 p1.toNatClampNeg) → ((((0 + a1) + a3) + 1 ≤ mc ∧ ((0 + a2) + a4) + 6 ≤ ms ∧ px "java/lang/IllegalStateException" K))))))) ∧ ((K 4 2 ((K 5 0 r5).toNatClampNeg)) = p1 → ((((0 + a1) + a3) + 1 ≤ mc ∧ ((0 + a2) + a4) + 6 ≤ ms ∧ px "java/lang/UnsupportedOperationException" K)))))))))) (fun E => px E K) a3 a4 K p2)) (fun E => px E K) a1 a2 K p1)
theorem hdX6_buy : yX6_buy.cls ≠ "java/lang/invoke/MethodHandle" ∧ yX6_buy.cls ≠ "java/lang/invoke/VarHandle" ∧ (parseMethodDescriptor yX6_buy.desc).map (fun d => d.parameters.length) = some 2 := by decide +kernel
set_option maxHeartbeats 4000000 in
set_option maxRecDepth 100000 in
theorem mtX6_buy {l : Launch} {D : va_G} {cI : Nat → ClassId} {e0 : Nat} {A : Nat → Prop} {ad : Nat → Nat → Nat} {K M : KS} {ap o : Int64} {od : UInt64} {mc ms : Nat} {p1 : Int32} {p2 : Int32} {post : Int32 → KS → Prop} {px : String → KS → Prop} (hfl : l.stackTraces = false) (h : wpX6_buy post px mc ms K p1 p2) : CM l D cI e0 A yX6_buy cX6_buy 4 (some FieldType.int) 8 343 mc ms [.ref (ad 0 0), .int p1, .int p2] (HT D cI e0 A ad K M ap o od) (qK D cI e0 A ad M ap o od rI post) (xK D cI e0 A ad M ap o od px) := by
  refine CM.of (by decide) (Nat.le_of_ble_eq_true rfl) (fun p e s m below meth c ls FX hw hS hl => ?_)
  obtain ⟨S, hg, hr, hlk, hnm, hout⟩ := FX
  have hl : lv_has ls 4 [(0, .ref (ad 0 0)), (1, .int p1), (2, .int p2)] := hl
  unfold wpX6_buy at h
  refine lv_aload_n S.1 S.2.1 dX6_buy_0 rfl (lv_at hl 0 rfl) ?_
  refine lv_iload_n S.1 S.2.1 dX6_buy_1 rfl (lv_at hl 1 rfl) ?_
  obtain ⟨a1, a2, h1, h2, h⟩ := h
  refine r_call (rest := []) S hg hS (mtX6_needPlayer (mc := a1) (ms := a2) hfl h) u357 u359 u2 u27 u360 hdX6_needPlayer (rv0 hg hw) hw ⟨Nat.le_of_ble_eq_true rfl, Nat.le_of_ble_eq_true rfl⟩ ⟨by show 0 + a1 ≤ mc; omega, by show 0 + a2 ≤ ms; omega⟩ hl.1 (Nat.le_of_ble_eq_true rfl) rfl dX6_buy_2 (fun E ce q H1 locs1 hx hS1 hc1 hc2 hc3 => by obtain ⟨hx1, hw1⟩ := hx; exact r_out hout hlk hS1 (by show (0 + a1) ≤ mc; omega) (by show (0 + a2) ≤ ms; omega) hc1 hc2 hc3 ⟨_, hx1, hw1⟩) (fun rv H locs hq hS => ?_)
  obtain ⟨_, rfl, h, hw⟩ := hq
  show W p l e _ s m _ below meth c H locs _ _ _ (F0 m 5 ls [])
  refine lv_aload_n S.1 S.2.1 dX6_buy_5 rfl (lv_at hl 0 rfl) ?_
  refine lv_iload_n S.1 S.2.1 dX6_buy_6 rfl (lv_at hl 2 rfl) ?_
  obtain ⟨a3, a4, h1, h2, h⟩ := h
  refine r_call (rest := []) S hg hS (mtX6_offerAt (mc := a3) (ms := a4) hfl h) u905 u907 u24 u27 u908 hdX6_offerAt (rv0 hg hw) hw ⟨Nat.le_of_ble_eq_true rfl, Nat.le_of_ble_eq_true rfl⟩ ⟨by show (0 + a1) + a3 ≤ mc; omega, by show (0 + a2) + a4 ≤ ms; omega⟩ hl.1 (Nat.le_of_ble_eq_true rfl) rfl dX6_buy_7 (fun E ce q H1 locs1 hx hS1 hc1 hc2 hc3 => by obtain ⟨hx1, hw1⟩ := hx; exact r_out hout hlk hS1 (by show ((0 + a1) + a3) ≤ mc; omega) (by show ((0 + a2) + a4) ≤ ms; omega) hc1 hc2 hc3 ⟨_, hx1, hw1⟩) (fun rv H locs hq hS => ?_)
  obtain ⟨r5, rfl, h, hw⟩ := hq
  show W p l e _ s m _ below meth c H locs _ _ _ (F0 m 10 ls [.ref (ad 5 r5)])
  refine lv_astore_n (lv' := [(3, .ref (ad 5 r5)), (0, .ref (ad 0 0)), (1, .int p1), (2, .int p2)]) S.1 S.2.1 dX6_buy_10 rfl hl (by decide) rfl (fun ls hl => ?_)
  refine lv_aload_n S.1 S.2.1 dX6_buy_11 rfl (lv_at hl 0 rfl) ?_
  obtain ⟨g6, h⟩ := h
  refine g5_4 S hg hw g6 u885 dX6_buy_12 ?_
  refine lv_bipush (v := 111) S.1 S.2.1 dX6_buy_15 (by decide) ?_
  refine lv_icmp_ne (tgt := 31) S.1 S.2.1 dX6_buy_17 (by decide) (fun c7 => ?_) (fun c7 => ?_)
  · have h := h.1 c7
    obtain ⟨g8, g9, h⟩ := h
    exact r_throwW (fr := 0) (lo := 0) (text := "the offer is not open, or the card is the buyer's") hfl S hout hlk hg hS (by decide) u623 u51 (by decide +kernel) hat_158 hl.1 dX6_buy_31 dX6_buy_34 dX6_buy_35 dX6_buy_38 dX6_buy_41 (Nat.le_of_ble_eq_true rfl) (Nat.le_of_ble_eq_true rfl) g8 g9 g8 g9 (fun H1 hz hk => ⟨_, h, hw.more hk⟩)
  · have h := h.2 c7
    refine lv_aload_n S.1 S.2.1 dX6_buy_20 rfl (lv_at hl 0 rfl) ?_
    refine g5_0 S hg hw g6 u877 dX6_buy_21 ?_
    obtain ⟨g10, h⟩ := h
    refine g4_2 S hg hw g10 u386 dX6_buy_24 ?_
    refine lv_iload_n S.1 S.2.1 dX6_buy_27 rfl (lv_at hl 2 rfl) ?_
    refine lv_icmp_ne (tgt := 42) S.1 S.2.1 dX6_buy_28 (by decide) (fun c11 => ?_) (fun c11 => ?_)
    · have h := h.1 c11
      refine lv_aload_n S.1 S.2.1 dX6_buy_42 rfl (lv_at hl 1 rfl) ?_
      refine g0_0 S hg hw u116 dX6_buy_43 ?_
      refine lv_iload_n S.1 S.2.1 dX6_buy_46 rfl (lv_at hl 2 rfl) ?_
      obtain ⟨g12, h⟩ := h
      refine a10 S hg hw (Nat.le_of_ble_eq_true rfl) g12 dX6_buy_47 ?_
      refine lv_aload_n S.1 S.2.1 dX6_buy_48 rfl (lv_at hl 0 rfl) ?_
      refine g5_1 S hg hw g6 u879 dX6_buy_49 ?_
      refine lv_icmp_ge (tgt := 66) S.1 S.2.1 dX6_buy_52 (by decide) (fun c13 => ?_) (fun c13 => ?_)
      · have h := h.1 c13
        refine lv_aload_n S.1 S.2.1 dX6_buy_66 rfl (lv_at hl 1 rfl) ?_
        refine lv_aload_n S.1 S.2.1 dX6_buy_67 rfl (lv_at hl 0 rfl) ?_
        refine lv_iload_n S.1 S.2.1 dX6_buy_68 rfl (lv_at hl 2 rfl) ?_
        obtain ⟨a14, a15, h1, h2, h⟩ := h
        refine r_call (rest := []) S hg hS (mtX6_sell (mc := a14) (ms := a15) h) u917 u919 u25 u27 u920 hdX6_sell (rv0 hg hw) hw ⟨Nat.le_of_ble_eq_true rfl, Nat.le_of_ble_eq_true rfl⟩ ⟨by show ((0 + a1) + a3) + a14 ≤ mc; omega, by show ((0 + a2) + a4) + a15 ≤ ms; omega⟩ hl.1 (Nat.le_of_ble_eq_true rfl) rfl dX6_buy_69 (fun E ce q H1 locs1 hx hS1 hc1 hc2 hc3 => hx.elim) (fun rv H locs hq hS => ?_)
        obtain ⟨_, K16, rfl, h, hw⟩ := hq
        show W p l e _ s m _ below meth c H locs _ _ _ (F0 m 72 ls [])
        refine lv_aload_n S.1 S.2.1 dX6_buy_72 rfl (lv_at hl 0 rfl) ?_
        obtain ⟨g17, h⟩ := h
        refine g5_0 S hg hw g17 u877 dX6_buy_73 ?_
        obtain ⟨g18, h⟩ := h
        refine g4_0 S hg hw g18 u382 dX6_buy_76 ?_
        exact r_iret (y := yX6_buy) S hr rfl hlk hS (by omega) (by omega) dX6_buy_79 ⟨(K16 4 0 ((K16 5 0 r5).toNatClampNeg)), _, rfl, h, hw⟩
      · have h := h.2 c13
        obtain ⟨g19, g20, h⟩ := h
        exact r_throwW (fr := 0) (lo := 0) (text := "too few coins") hfl S hout hlk hg hS (by decide) u337 u42 (by decide +kernel) hat_61 hl.1 dX6_buy_55 dX6_buy_58 dX6_buy_59 dX6_buy_62 dX6_buy_65 (Nat.le_of_ble_eq_true rfl) (Nat.le_of_ble_eq_true rfl) g19 g20 g19 g20 (fun H1 hz hk => ⟨_, h, hw.more hk⟩)
    · have h := h.2 c11
      obtain ⟨g21, g22, h⟩ := h
      exact r_throwW (fr := 0) (lo := 0) (text := "the offer is not open, or the card is the buyer's") hfl S hout hlk hg hS (by decide) u623 u51 (by decide +kernel) hat_158 hl.1 dX6_buy_31 dX6_buy_34 dX6_buy_35 dX6_buy_38 dX6_buy_41 (Nat.le_of_ble_eq_true rfl) (Nat.le_of_ble_eq_true rfl) g21 g22 g21 g22 (fun H1 hz hk => ⟨_, h, hw.more hk⟩)

-- X6.offerState
theorem dX6_offerState_0 : decode cX6_offerState 0 = .ok (.aload_n 0, 1) := by decide +kernel
theorem dX6_offerState_1 : decode cX6_offerState 1 = .ok (.iload_n 1, 1) := by decide +kernel
theorem dX6_offerState_2 : decode cX6_offerState 2 = .ok (.invokevirtual 311, 3) := by decide +kernel
theorem dX6_offerState_5 : decode cX6_offerState 5 = .ok (.getfield 315, 3) := by decide +kernel
theorem dX6_offerState_8 : decode cX6_offerState 8 = .ok (.ireturn, 1) := by decide +kernel
def wpX6_offerState (post : Int32 → Prop) (px : String → Prop) (mc ms : Nat) (K : KS) (p1 : Int32) : Prop := (∃ a1 a2 : Nat, 0 + a1 ≤ mc ∧ 0 + a2 ≤ ms ∧ wpX6_offerAt (fun r3 => (r3 < nO K) ∧ ((narrow .char (.int (K 5 4 r3)) = .int (K 5 4 r3)) ∧ post (K 5 4 r3))) px a1 a2 K p1)
theorem hdX6_offerState : yX6_offerState.cls ≠ "java/lang/invoke/MethodHandle" ∧ yX6_offerState.cls ≠ "java/lang/invoke/VarHandle" ∧ (parseMethodDescriptor yX6_offerState.desc).map (fun d => d.parameters.length) = some 1 := by decide +kernel
set_option maxHeartbeats 4000000 in
set_option maxRecDepth 100000 in
theorem mtX6_offerState {l : Launch} {D : va_G} {cI : Nat → ClassId} {e0 : Nat} {A : Nat → Prop} {ad : Nat → Nat → Nat} {K M : KS} {ap o : Int64} {od : UInt64} {mc ms : Nat} {p1 : Int32} {post : Int32 → Prop} {px : String → Prop} (hfl : l.stackTraces = false) (h : wpX6_offerState post px mc ms K p1) : CM l D cI e0 A yX6_offerState cX6_offerState 2 (some FieldType.char) 7 103 mc ms [.ref (ad 0 0), .int p1] (HT D cI e0 A ad K M ap o od) (qP D cI e0 A ad K M ap o od rI post) (xP D cI e0 A ad K M ap o od px) := by
  refine CM.of (by decide) (Nat.le_of_ble_eq_true rfl) (fun p e s m below meth c ls FX hw hS hl => ?_)
  obtain ⟨S, hg, hr, hlk, hnm, hout⟩ := FX
  have hl : lv_has ls 2 [(0, .ref (ad 0 0)), (1, .int p1)] := hl
  unfold wpX6_offerState at h
  refine lv_aload_n S.1 S.2.1 dX6_offerState_0 rfl (lv_at hl 0 rfl) ?_
  refine lv_iload_n S.1 S.2.1 dX6_offerState_1 rfl (lv_at hl 1 rfl) ?_
  obtain ⟨a1, a2, h1, h2, h⟩ := h
  refine r_call (rest := []) S hg hS (mtX6_offerAt (mc := a1) (ms := a2) hfl h) u905 u907 u24 u27 u908 hdX6_offerAt (rv0 hg hw) hw ⟨Nat.le_of_ble_eq_true rfl, Nat.le_of_ble_eq_true rfl⟩ ⟨by show 0 + a1 ≤ mc; omega, by show 0 + a2 ≤ ms; omega⟩ hl.1 (Nat.le_of_ble_eq_true rfl) rfl dX6_offerState_2 (fun E ce q H1 locs1 hx hS1 hc1 hc2 hc3 => by obtain ⟨hx1, hw1⟩ := hx; exact r_out hout hlk hS1 (by show (0 + a1) ≤ mc; omega) (by show (0 + a2) ≤ ms; omega) hc1 hc2 hc3 ⟨hx1, hw1⟩) (fun rv H locs hq hS => ?_)
  obtain ⟨r3, rfl, h, hw⟩ := hq
  show W p l e _ s m _ below meth c H locs _ _ _ (F0 m 5 ls [.ref (ad 5 r3)])
  obtain ⟨g4, h⟩ := h
  refine g5_4 S hg hw g4 u885 dX6_offerState_5 ?_
  obtain ⟨g5, h⟩ := h
  exact r_iret (y := yX6_offerState) S hr g5 hlk hS (by omega) (by omega) dX6_offerState_8 ⟨(K 5 4 r3), rfl, h, hw⟩

-- X6.house
theorem dX6_house_0 : decode cX6_house 0 = .ok (.aload_n 0, 1) := by decide +kernel
theorem dX6_house_1 : decode cX6_house 1 = .ok (.getfield 333, 3) := by decide +kernel
theorem dX6_house_4 : decode cX6_house 4 = .ok (.ireturn, 1) := by decide +kernel
def wpX6_house (post : Int32 → Prop) (K : KS) : Prop := post (K 0 3 0)
theorem hdX6_house : yX6_house.cls ≠ "java/lang/invoke/MethodHandle" ∧ yX6_house.cls ≠ "java/lang/invoke/VarHandle" ∧ (parseMethodDescriptor yX6_house.desc).map (fun d => d.parameters.length) = some 0 := by decide +kernel
set_option maxHeartbeats 4000000 in
set_option maxRecDepth 100000 in
theorem mtX6_house {l : Launch} {D : va_G} {cI : Nat → ClassId} {e0 : Nat} {A : Nat → Prop} {ad : Nat → Nat → Nat} {K M : KS} {ap o : Int64} {od : UInt64} {mc ms : Nat} {post : Int32 → Prop} (h : wpX6_house post K) : CM l D cI e0 A yX6_house cX6_house 1 (some FieldType.int) 0 0 mc ms [.ref (ad 0 0)] (HT D cI e0 A ad K M ap o od) (qP D cI e0 A ad K M ap o od rI post) xN := by
  refine CM.of (by decide) (Nat.le_of_ble_eq_true rfl) (fun p e s m below meth c ls FX hw hS hl => ?_)
  obtain ⟨S, hg, hr, hlk, hnm, hout⟩ := FX
  have hl : lv_has ls 1 [(0, .ref (ad 0 0))] := hl
  unfold wpX6_house at h
  refine lv_aload_n S.1 S.2.1 dX6_house_0 rfl (lv_at hl 0 rfl) ?_
  refine g0_3 S hg hw u119 dX6_house_1 ?_
  exact r_iret (y := yX6_house) S hr rfl hlk hS (by omega) (by omega) dX6_house_4 ⟨(K 0 3 0), rfl, h, hw⟩

-- X6.apart
theorem dX6_apart_0 : decode cX6_apart 0 = .ok (.aload_n 0, 1) := by decide +kernel
theorem dX6_apart_1 : decode cX6_apart 1 = .ok (.getfield 336, 3) := by decide +kernel
theorem dX6_apart_4 : decode cX6_apart 4 = .ok (.i2l, 1) := by decide +kernel
theorem dX6_apart_5 : decode cX6_apart 5 = .ok (.lreturn, 1) := by decide +kernel
def wpX6_apart (post : Int64 → Prop) (K : KS) : Prop := post ((K 0 4 0).toInt64)
theorem hdX6_apart : yX6_apart.cls ≠ "java/lang/invoke/MethodHandle" ∧ yX6_apart.cls ≠ "java/lang/invoke/VarHandle" ∧ (parseMethodDescriptor yX6_apart.desc).map (fun d => d.parameters.length) = some 0 := by decide +kernel
set_option maxHeartbeats 4000000 in
set_option maxRecDepth 100000 in
theorem mtX6_apart {l : Launch} {D : va_G} {cI : Nat → ClassId} {e0 : Nat} {A : Nat → Prop} {ad : Nat → Nat → Nat} {K M : KS} {ap o : Int64} {od : UInt64} {mc ms : Nat} {post : Int64 → Prop} (h : wpX6_apart post K) : CM l D cI e0 A yX6_apart cX6_apart 1 (some FieldType.long) 0 0 mc ms [.ref (ad 0 0)] (HT D cI e0 A ad K M ap o od) (qP D cI e0 A ad K M ap o od rL post) xN := by
  refine CM.of (by decide) (Nat.le_of_ble_eq_true rfl) (fun p e s m below meth c ls FX hw hS hl => ?_)
  obtain ⟨S, hg, hr, hlk, hnm, hout⟩ := FX
  have hl : lv_has ls 1 [(0, .ref (ad 0 0))] := hl
  unfold wpX6_apart at h
  refine lv_aload_n S.1 S.2.1 dX6_apart_0 rfl (lv_at hl 0 rfl) ?_
  refine g0_4 S hg hw u120 dX6_apart_1 ?_
  refine lv_i2l S.1 S.2.1 dX6_apart_4 rfl ?_
  exact r_lret (y := yX6_apart) S hr hlk hS (by omega) (by omega) dX6_apart_5 ⟨((K 0 4 0).toInt64), rfl, h, hw⟩

-- X6.isSound
theorem dX6_isSound_0 : decode cX6_isSound 0 = .ok (.iconst 0, 1) := by decide +kernel
theorem dX6_isSound_1 : decode cX6_isSound 1 = .ok (.istore_n 1, 1) := by decide +kernel
theorem dX6_isSound_2 : decode cX6_isSound 2 = .ok (.iload_n 1, 1) := by decide +kernel
theorem dX6_isSound_3 : decode cX6_isSound 3 = .ok (.aload_n 0, 1) := by decide +kernel
theorem dX6_isSound_4 : decode cX6_isSound 4 = .ok (.getfield 16, 3) := by decide +kernel
theorem dX6_isSound_7 : decode cX6_isSound 7 = .ok (.invokevirtual 71, 3) := by decide +kernel
theorem dX6_isSound_10 : decode cX6_isSound 10 = .ok (.if_icmp .ge 41, 3) := by decide +kernel
theorem dX6_isSound_13 : decode cX6_isSound 13 = .ok (.aload_n 0, 1) := by decide +kernel
theorem dX6_isSound_14 : decode cX6_isSound 14 = .ok (.getfield 16, 3) := by decide +kernel
theorem dX6_isSound_17 : decode cX6_isSound 17 = .ok (.iload_n 1, 1) := by decide +kernel
theorem dX6_isSound_18 : decode cX6_isSound 18 = .ok (.invokevirtual 107, 3) := by decide +kernel
theorem dX6_isSound_21 : decode cX6_isSound 21 = .ok (.checkcast 77, 3) := by decide +kernel
theorem dX6_isSound_24 : decode cX6_isSound 24 = .ok (.astore_n 2, 1) := by decide +kernel
theorem dX6_isSound_25 : decode cX6_isSound 25 = .ok (.aload_n 0, 1) := by decide +kernel
theorem dX6_isSound_26 : decode cX6_isSound 26 = .ok (.getfield 32, 3) := by decide +kernel
theorem dX6_isSound_29 : decode cX6_isSound 29 = .ok (.aload_n 2, 1) := by decide +kernel
theorem dX6_isSound_30 : decode cX6_isSound 30 = .ok (.getfield 96, 3) := by decide +kernel
theorem dX6_isSound_33 : decode cX6_isSound 33 = .ok (.invokevirtual 99, 3) := by decide +kernel
theorem dX6_isSound_36 : decode cX6_isSound 36 = .ok (.aload_n 2, 1) := by decide +kernel
theorem dX6_isSound_37 : decode cX6_isSound 37 = .ok (.getfield 93, 3) := by decide +kernel
theorem dX6_isSound_40 : decode cX6_isSound 40 = .ok (.if_icmp .eq 5, 3) := by decide +kernel
theorem dX6_isSound_43 : decode cX6_isSound 43 = .ok (.iconst 0, 1) := by decide +kernel
theorem dX6_isSound_44 : decode cX6_isSound 44 = .ok (.ireturn, 1) := by decide +kernel
theorem dX6_isSound_45 : decode cX6_isSound 45 = .ok (.iinc 1 1, 3) := by decide +kernel
theorem dX6_isSound_48 : decode cX6_isSound 48 = .ok (.goto (-46), 3) := by decide +kernel
theorem dX6_isSound_51 : decode cX6_isSound 51 = .ok (.aload_n 0, 1) := by decide +kernel
theorem dX6_isSound_52 : decode cX6_isSound 52 = .ok (.getfield 333, 3) := by decide +kernel
theorem dX6_isSound_55 : decode cX6_isSound 55 = .ok (.aload_n 0, 1) := by decide +kernel
theorem dX6_isSound_56 : decode cX6_isSound 56 = .ok (.getfield 336, 3) := by decide +kernel
theorem dX6_isSound_59 : decode cX6_isSound 59 = .ok (.iadd, 1) := by decide +kernel
theorem dX6_isSound_60 : decode cX6_isSound 60 = .ok (.istore_n 1, 1) := by decide +kernel
theorem dX6_isSound_61 : decode cX6_isSound 61 = .ok (.iconst 0, 1) := by decide +kernel
theorem dX6_isSound_62 : decode cX6_isSound 62 = .ok (.istore_n 2, 1) := by decide +kernel
theorem dX6_isSound_63 : decode cX6_isSound 63 = .ok (.iload_n 2, 1) := by decide +kernel
theorem dX6_isSound_64 : decode cX6_isSound 64 = .ok (.aload_n 0, 1) := by decide +kernel
theorem dX6_isSound_65 : decode cX6_isSound 65 = .ok (.getfield 53, 3) := by decide +kernel
theorem dX6_isSound_68 : decode cX6_isSound 68 = .ok (.if_icmp .ge 18, 3) := by decide +kernel
theorem dX6_isSound_71 : decode cX6_isSound 71 = .ok (.iload_n 1, 1) := by decide +kernel
theorem dX6_isSound_72 : decode cX6_isSound 72 = .ok (.aload_n 0, 1) := by decide +kernel
theorem dX6_isSound_73 : decode cX6_isSound 73 = .ok (.getfield 9, 3) := by decide +kernel
theorem dX6_isSound_76 : decode cX6_isSound 76 = .ok (.iload_n 2, 1) := by decide +kernel
theorem dX6_isSound_77 : decode cX6_isSound 77 = .ok (.iaload, 1) := by decide +kernel
theorem dX6_isSound_78 : decode cX6_isSound 78 = .ok (.iadd, 1) := by decide +kernel
theorem dX6_isSound_79 : decode cX6_isSound 79 = .ok (.istore_n 1, 1) := by decide +kernel
theorem dX6_isSound_80 : decode cX6_isSound 80 = .ok (.iinc 2 1, 3) := by decide +kernel
theorem dX6_isSound_83 : decode cX6_isSound 83 = .ok (.goto (-20), 3) := by decide +kernel
theorem dX6_isSound_86 : decode cX6_isSound 86 = .ok (.iload_n 1, 1) := by decide +kernel
theorem dX6_isSound_87 : decode cX6_isSound 87 = .ok (.aload_n 0, 1) := by decide +kernel
theorem dX6_isSound_88 : decode cX6_isSound 88 = .ok (.getfield 62, 3) := by decide +kernel
theorem dX6_isSound_91 : decode cX6_isSound 91 = .ok (.if_icmp .ne 7, 3) := by decide +kernel
theorem dX6_isSound_94 : decode cX6_isSound 94 = .ok (.iconst 1, 1) := by decide +kernel
theorem dX6_isSound_95 : decode cX6_isSound 95 = .ok (.goto 4, 3) := by decide +kernel
theorem dX6_isSound_98 : decode cX6_isSound 98 = .ok (.iconst 0, 1) := by decide +kernel
theorem dX6_isSound_99 : decode cX6_isSound 99 = .ok (.ireturn, 1) := by decide +kernel
def wX6_isSound_63 (post : Int32 → Prop) : Nat → Int32 → Int32 → KS → Prop
  | 0 => fun _ _ _ => False
  | n + 1 => fun l1 l2 K => (((K 0 1 0) ≤ l2 → (((¬ l1 = (K 0 2 0) → (post 0)) ∧ (l1 = (K 0 2 0) → (post 1))))) ∧ (¬ (K 0 1 0) ≤ l2 → ((vp_in l2 6) ∧ (∀ x5 : Int32, x5 = l1 + (K 10 0 l2.toNatClampNeg) → (wX6_isSound_63 post n x5 (l2 + 1) K)))))
set_option maxHeartbeats 4000000 in
set_option maxRecDepth 100000 in
theorem bX6_isSound_63 {p : Program} {l : Launch} {e : Env} {s : State} {m : MethodId} {args : Array Value} {below : List Frame} {meth : Method} {c : Code} {D : va_G} {cI : Nat → ClassId} {e0 : Nat} {A : Nat → Prop} {ad : Nat → Nat → Nat} {M : KS} {ap : Int64} {o : Int64} {od : UInt64} {mc ms : Nat} {K : KS} {post : Int32 → Prop} (S : CallFix p m c cX6_isSound 3 s args WU RX6) (hg : GI D cI e0 A s s.heap) (hr : meth.sig.returnType = (some FieldType.boolean)) (hlk : meth.locks = false) (hout : ∀ x ∈ c.exceptionTable.toList, False) : ∀ n : Nat, ∀ {H : Heap} {locs : List Loc} {ls : Array Slot} {l1 : Int32} {l2 : Int32}, va_S A s.heap H locs → HT D cI e0 A ad K M ap o od H → lv_has ls 3 [(0, .ref (ad 0 0)), (1, .int l1), (2, .int l2)] → wX6_isSound_63 post n l1 l2 K → W p l e ({ frames := 3, cells := mc, slots := ms, locals := 81 } : Room) s m args below meth c H locs 0 0 (MQQ below (qP D cI e0 A ad K M ap o od rI post) xN args s mc ms A) (F0 m 63 ls []) := by
  intro n
  induction n with
  | zero => intros; exact False.elim (by assumption)
  | succ n ih =>
    intro H locs ls l1 l2 hS hw hl h
    unfold wX6_isSound_63 at h
    refine lv_iload_n S.1 S.2.1 dX6_isSound_63 rfl (lv_at hl 2 rfl) ?_
    refine lv_aload_n S.1 S.2.1 dX6_isSound_64 rfl (lv_at hl 0 rfl) ?_
    refine g0_1 S hg hw u117 dX6_isSound_65 ?_
    refine lv_icmp_ge (tgt := 86) S.1 S.2.1 dX6_isSound_68 (by decide) (fun c2 => ?_) (fun c2 => ?_)
    · have h := h.1 c2
      refine lv_iload_n S.1 S.2.1 dX6_isSound_86 rfl (lv_at hl 1 rfl) ?_
      refine lv_aload_n S.1 S.2.1 dX6_isSound_87 rfl (lv_at hl 0 rfl) ?_
      refine g0_2 S hg hw u118 dX6_isSound_88 ?_
      refine lv_icmp_ne (tgt := 98) S.1 S.2.1 dX6_isSound_91 (by decide) (fun c3 => ?_) (fun c3 => ?_)
      · have h := h.1 c3
        refine lv_iconst (v := 0) S.1 S.2.1 dX6_isSound_98 (by decide) ?_
        exact r_iret (y := yX6_isSound) S hr rfl hlk hS (by omega) (by omega) dX6_isSound_99 ⟨0, rfl, h, hw⟩
      · have h := h.2 c3
        refine lv_iconst (v := 1) S.1 S.2.1 dX6_isSound_94 (by decide) ?_
        refine lv_goto (tgt := 99) S.1 S.2.1 dX6_isSound_95 (by decide) ?_
        exact r_iret (y := yX6_isSound) S hr rfl hlk hS (by omega) (by omega) dX6_isSound_99 ⟨1, rfl, h, hw⟩
    · have h := h.2 c2
      refine lv_iload_n S.1 S.2.1 dX6_isSound_71 rfl (lv_at hl 1 rfl) ?_
      refine lv_aload_n S.1 S.2.1 dX6_isSound_72 rfl (lv_at hl 0 rfl) ?_
      refine g0_0 S hg hw u116 dX6_isSound_73 ?_
      refine lv_iload_n S.1 S.2.1 dX6_isSound_76 rfl (lv_at hl 2 rfl) ?_
      obtain ⟨g4, h⟩ := h
      refine a10 S hg hw (Nat.le_of_ble_eq_true rfl) g4 dX6_isSound_77 ?_
      refine lv_iadd S.1 S.2.1 dX6_isSound_78 ?_
      refine lv_topi (fun x5 ex5 => ?_)
      have h := h x5 ex5
      refine lv_istore_n (lv' := [(1, .int x5), (0, .ref (ad 0 0)), (2, .int l2)]) S.1 S.2.1 dX6_isSound_79 rfl hl (by decide) rfl (fun ls hl => ?_)
      refine lv_iinc (v := l2 + 1) (lv' := [(2, .int (l2 + 1)), (1, .int x5), (0, .ref (ad 0 0))]) S.1 S.2.1 dX6_isSound_80 hl (k := 2) rfl rfl (by decide) rfl (fun ls hl => ?_)
      refine lv_goto (tgt := 63) S.1 S.2.1 dX6_isSound_83 (by decide) ?_
      have hl := lv_sub hl (l' := [(0, .ref (ad 0 0)), (1, .int x5), (2, .int (l2 + 1))]) [2, 1, 0] rfl
      exact ih hS hw hl h
def wX6_isSound_2 (post : Int32 → Prop) : Nat → Int32 → KS → Prop
  | 0 => fun _ _ => False
  | n + 1 => fun l1 K => (((K 8 2 0) ≤ l1 → (∃ n1 : Nat, wX6_isSound_63 post n1 ((K 0 3 0) + (K 0 4 0)) 0 K)) ∧ (¬ (K 8 2 0) ≤ l1 → ((okGet K 0 l1) ∧ (((K 9 0 l1.toNatClampNeg).toNatClampNeg < nC K) ∧ ((wpX3_lastHolder (fun r8 => ((r8 = (K 4 2 ((K 9 0 l1.toNatClampNeg).toNatClampNeg)) → (wX6_isSound_2 post n (l1 + 1) K)) ∧ (¬ r8 = (K 4 2 ((K 9 0 l1.toNatClampNeg).toNatClampNeg)) → (post 0)))) K (K 4 0 ((K 9 0 l1.toNatClampNeg).toNatClampNeg))))))))
set_option maxHeartbeats 4000000 in
set_option maxRecDepth 100000 in
theorem bX6_isSound_2 {p : Program} {l : Launch} {e : Env} {s : State} {m : MethodId} {args : Array Value} {below : List Frame} {meth : Method} {c : Code} {D : va_G} {cI : Nat → ClassId} {e0 : Nat} {A : Nat → Prop} {ad : Nat → Nat → Nat} {M : KS} {ap : Int64} {o : Int64} {od : UInt64} {mc ms : Nat} {K : KS} {post : Int32 → Prop} (S : CallFix p m c cX6_isSound 3 s args WU RX6) (hg : GI D cI e0 A s s.heap) (hr : meth.sig.returnType = (some FieldType.boolean)) (hlk : meth.locks = false) (hout : ∀ x ∈ c.exceptionTable.toList, False) : ∀ n : Nat, ∀ {H : Heap} {locs : List Loc} {ls : Array Slot} {l1 : Int32}, va_S A s.heap H locs → HT D cI e0 A ad K M ap o od H → lv_has ls 3 [(0, .ref (ad 0 0)), (1, .int l1)] → wX6_isSound_2 post n l1 K → W p l e ({ frames := 3, cells := mc, slots := ms, locals := 81 } : Room) s m args below meth c H locs 0 0 (MQQ below (qP D cI e0 A ad K M ap o od rI post) xN args s mc ms A) (F0 m 2 ls []) := by
  intro n
  induction n with
  | zero => intros; exact False.elim (by assumption)
  | succ n ih =>
    intro H locs ls l1 hS hw hl h
    unfold wX6_isSound_2 at h
    refine lv_iload_n S.1 S.2.1 dX6_isSound_2 rfl (lv_at hl 1 rfl) ?_
    refine lv_aload_n S.1 S.2.1 dX6_isSound_3 rfl (lv_at hl 0 rfl) ?_
    refine g0_5 S hg hw u121 dX6_isSound_4 ?_
    refine rL_size S hg hS hw (lv8 0) u173 hl.1 (Nat.le_of_ble_eq_true rfl) ⟨Nat.le_of_ble_eq_true rfl, Nat.le_of_ble_eq_true rfl⟩ ⟨by omega, by omega⟩ dX6_isSound_7 (fun H locs hw hS => ?_)
    refine lv_icmp_ge (tgt := 51) S.1 S.2.1 dX6_isSound_10 (by decide) (fun c1 => ?_) (fun c1 => ?_)
    · have h := h.1 c1
      refine lv_aload_n S.1 S.2.1 dX6_isSound_51 rfl (lv_at hl 0 rfl) ?_
      refine g0_3 S hg hw u119 dX6_isSound_52 ?_
      refine lv_aload_n S.1 S.2.1 dX6_isSound_55 rfl (lv_at hl 0 rfl) ?_
      refine g0_4 S hg hw u120 dX6_isSound_56 ?_
      refine lv_iadd S.1 S.2.1 dX6_isSound_59 ?_
      refine lv_istore_n (lv' := [(1, .int ((K 0 3 0) + (K 0 4 0))), (0, .ref (ad 0 0))]) S.1 S.2.1 dX6_isSound_60 rfl hl (by decide) rfl (fun ls hl => ?_)
      refine lv_iconst (v := 0) S.1 S.2.1 dX6_isSound_61 (by decide) ?_
      refine lv_istore_n (lv' := [(2, .int 0), (1, .int ((K 0 3 0) + (K 0 4 0))), (0, .ref (ad 0 0))]) S.1 S.2.1 dX6_isSound_62 rfl hl (by decide) rfl (fun ls hl => ?_)
      have hl := lv_sub hl (l' := [(0, .ref (ad 0 0)), (1, .int ((K 0 3 0) + (K 0 4 0))), (2, .int 0)]) [2, 1, 0] rfl
      obtain ⟨n1, h⟩ := h
      exact bX6_isSound_63 S hg hr hlk hout n1 hS hw hl h
    · have h := h.2 c1
      refine lv_aload_n S.1 S.2.1 dX6_isSound_13 rfl (lv_at hl 0 rfl) ?_
      refine g0_5 S hg hw u121 dX6_isSound_14 ?_
      refine lv_iload_n S.1 S.2.1 dX6_isSound_17 rfl (lv_at hl 1 rfl) ?_
      obtain ⟨g6, h⟩ := h
      refine rL_get S hg hS hw (lv8 0) g6 u177 hl.1 (Nat.le_of_ble_eq_true rfl) ⟨Nat.le_of_ble_eq_true rfl, Nat.le_of_ble_eq_true rfl⟩ ⟨by omega, by omega⟩ dX6_isSound_18 (fun H locs hw hS => ?_)
      show W p l e _ s m _ below meth c H locs _ _ _ (F0 m 21 ls [.ref (ad 4 ((K 9 0 l1.toNatClampNeg).toNatClampNeg))])
      obtain ⟨g7, h⟩ := h
      refine ck4 S hg hw g7 u191 dX6_isSound_21 ?_
      refine lv_astore_n (lv' := [(2, .ref (ad 4 ((K 9 0 l1.toNatClampNeg).toNatClampNeg))), (0, .ref (ad 0 0)), (1, .int l1)]) S.1 S.2.1 dX6_isSound_24 rfl hl (by decide) rfl (fun ls hl => ?_)
      refine lv_aload_n S.1 S.2.1 dX6_isSound_25 rfl (lv_at hl 1 rfl) ?_
      refine g0_9 S hg hw u125 dX6_isSound_26 ?_
      refine lv_aload_n S.1 S.2.1 dX6_isSound_29 rfl (lv_at hl 0 rfl) ?_
      refine g4_0 S hg hw g7 u382 dX6_isSound_30 ?_
      refine r_call (rest := []) S hg hS (mtX3_lastHolder (mc := 0) (ms := 0) h) u192 u193 u194 u31 u195 hdX3_lastHolder (rv1 hg hw) hw ⟨Nat.le_of_ble_eq_true rfl, Nat.le_of_ble_eq_true rfl⟩ ⟨by show 0 + 0 ≤ mc; omega, by show 0 + 0 ≤ ms; omega⟩ hl.1 (Nat.le_of_ble_eq_true rfl) rfl dX6_isSound_33 (fun E ce q H1 locs1 hx hS1 hc1 hc2 hc3 => hx.elim) (fun rv H locs hq hS => ?_)
      obtain ⟨r8, rfl, h, hw⟩ := hq
      show W p l e _ s m _ below meth c H locs _ _ _ (F0 m 36 ls [.int r8])
      show W p l e _ s m _ below meth c H locs 0 0 _ _
      refine lv_aload_n S.1 S.2.1 dX6_isSound_36 rfl (lv_at hl 0 rfl) ?_
      refine g4_2 S hg hw g7 u386 dX6_isSound_37 ?_
      refine lv_icmp_eq (tgt := 45) S.1 S.2.1 dX6_isSound_40 (by decide) (fun c9 => ?_) (fun c9 => ?_)
      · have h := h.1 c9
        refine lv_iinc (v := l1 + 1) (lv' := [(1, .int (l1 + 1)), (2, .ref (ad 4 ((K 9 0 l1.toNatClampNeg).toNatClampNeg))), (0, .ref (ad 0 0))]) S.1 S.2.1 dX6_isSound_45 hl (k := 2) rfl rfl (by decide) rfl (fun ls hl => ?_)
        refine lv_goto (tgt := 2) S.1 S.2.1 dX6_isSound_48 (by decide) ?_
        have hl := lv_sub hl (l' := [(0, .ref (ad 0 0)), (1, .int (l1 + 1))]) [2, 0] rfl
        exact ih hS hw hl h
      · have h := h.2 c9
        refine lv_iconst (v := 0) S.1 S.2.1 dX6_isSound_43 (by decide) ?_
        exact r_iret (y := yX6_isSound) S hr rfl hlk hS (by omega) (by omega) dX6_isSound_44 ⟨0, rfl, h, hw⟩
def wpX6_isSound (post : Int32 → Prop) (K : KS) : Prop := ∃ n1 : Nat, wX6_isSound_2 post n1 0 K
theorem hdX6_isSound : yX6_isSound.cls ≠ "java/lang/invoke/MethodHandle" ∧ yX6_isSound.cls ≠ "java/lang/invoke/VarHandle" ∧ (parseMethodDescriptor yX6_isSound.desc).map (fun d => d.parameters.length) = some 0 := by decide +kernel
set_option maxHeartbeats 4000000 in
set_option maxRecDepth 100000 in
theorem mtX6_isSound {l : Launch} {D : va_G} {cI : Nat → ClassId} {e0 : Nat} {A : Nat → Prop} {ad : Nat → Nat → Nat} {K M : KS} {ap o : Int64} {od : UInt64} {mc ms : Nat} {post : Int32 → Prop} (h : wpX6_isSound post K) : CM l D cI e0 A yX6_isSound cX6_isSound 3 (some FieldType.boolean) 3 81 mc ms [.ref (ad 0 0)] (HT D cI e0 A ad K M ap o od) (qP D cI e0 A ad K M ap o od rI post) xN := by
  refine CM.of (by decide) (Nat.le_of_ble_eq_true rfl) (fun p e s m below meth c ls FX hw hS hl => ?_)
  obtain ⟨S, hg, hr, hlk, hnm, hout⟩ := FX
  have hl : lv_has ls 3 [(0, .ref (ad 0 0))] := hl
  unfold wpX6_isSound at h
  refine lv_iconst (v := 0) S.1 S.2.1 dX6_isSound_0 (by decide) ?_
  refine lv_istore_n (lv' := [(1, .int 0), (0, .ref (ad 0 0))]) S.1 S.2.1 dX6_isSound_1 rfl hl (by decide) rfl (fun ls hl => ?_)
  have hl := lv_sub hl (l' := [(0, .ref (ad 0 0)), (1, .int 0)]) [1, 0] rfl
  obtain ⟨n1, h⟩ := h
  exact bX6_isSound_2 S hg hr hlk hout n1 hS hw hl h
