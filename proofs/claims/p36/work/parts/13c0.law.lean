def wL_law_1179 (uc us : Nat) (t0 : Int32) (K M : KS) : Prop := (t0 : Int32) = 1
set_option maxHeartbeats 4000000 in
set_option maxRecDepth 100000 in
theorem bL_law_1179 {p : Program} {l : Launch} {e : Env} {s : State} {m : MethodId} {below : List Frame} {meth : Method} {c : Code} {D : va_G} {cI : Nat → ClassId} {e0 : Nat} {A : Nat → Prop} {b L : Nat} {xs : Nat → Int32} {ap o : Int64} {od : UInt64} (FX : LX p l s m meth c D cI e0 A b L xs) : ∀ {ad : Nat → Nat → Nat} {H : Heap} {locs : List Loc} {ls : Array Slot} {uc us : Nat} {t0 : Int32} {K M : KS}, va_S A s.heap H locs → HT D cI e0 A ad K M ap o od H → lv_has ls 24 [] → uc ≤ 897972 → us ≤ 6395332 → wL_law_1179 uc us t0 K M → W p l e room_1 s m #[Value.ref b] below meth c H locs uc us (lw_Z below #[Value.ref b] s) (F0 m 1179 ls [.int t0]) := by
  obtain ⟨hfl, S, hg, hX, hbl, hbA, hL⟩ := FX.facts
  intro ad H locs ls uc us t0 K M hS hw hl huc hus h
  unfold wL_law_1179 at h
  exact lw_end FX hS (by omega) (by omega) h dL_law_1179
def wL_law_1178 (uc us : Nat) (K M : KS) : Prop := wL_law_1179 uc us 0 K M
set_option maxHeartbeats 4000000 in
set_option maxRecDepth 100000 in
theorem bL_law_1178 {p : Program} {l : Launch} {e : Env} {s : State} {m : MethodId} {below : List Frame} {meth : Method} {c : Code} {D : va_G} {cI : Nat → ClassId} {e0 : Nat} {A : Nat → Prop} {b L : Nat} {xs : Nat → Int32} {ap o : Int64} {od : UInt64} (FX : LX p l s m meth c D cI e0 A b L xs) : ∀ {ad : Nat → Nat → Nat} {H : Heap} {locs : List Loc} {ls : Array Slot} {uc us : Nat} {K M : KS}, va_S A s.heap H locs → HT D cI e0 A ad K M ap o od H → lv_has ls 24 [] → uc ≤ 897972 → us ≤ 6395332 → wL_law_1178 uc us K M → W p l e room_1 s m #[Value.ref b] below meth c H locs uc us (lw_Z below #[Value.ref b] s) (F0 m 1178 ls []) := by
  obtain ⟨hfl, S, hg, hX, hbl, hbA, hL⟩ := FX.facts
  intro ad H locs ls uc us K M hS hw hl huc hus h
  unfold wL_law_1178 at h
  refine lv_iconst (v := 0) S.1 S.2.1 dL_law_1178 (by decide) ?_
  have hl := lv_sub hl (l' := []) [] rfl
  exact bL_law_1179 FX hS hw hl (by omega) (by omega) h
def wL_law_1052 (uc us : Nat) (K M : KS) : Prop := (0 : Int32) = 1
set_option maxHeartbeats 4000000 in
set_option maxRecDepth 100000 in
theorem bL_law_1052 {p : Program} {l : Launch} {e : Env} {s : State} {m : MethodId} {below : List Frame} {meth : Method} {c : Code} {D : va_G} {cI : Nat → ClassId} {e0 : Nat} {A : Nat → Prop} {b L : Nat} {xs : Nat → Int32} {ap o : Int64} {od : UInt64} (FX : LX p l s m meth c D cI e0 A b L xs) : ∀ {ad : Nat → Nat → Nat} {H : Heap} {locs : List Loc} {ls : Array Slot} {uc us : Nat} {K M : KS}, va_S A s.heap H locs → HT D cI e0 A ad K M ap o od H → lv_has ls 24 [] → uc ≤ 897972 → us ≤ 6395332 → wL_law_1052 uc us K M → W p l e room_1 s m #[Value.ref b] below meth c H locs uc us (lw_Z below #[Value.ref b] s) (F0 m 1052 ls []) := by
  obtain ⟨hfl, S, hg, hX, hbl, hbA, hL⟩ := FX.facts
  intro ad H locs ls uc us K M hS hw hl huc hus h
  unfold wL_law_1052 at h
  refine lv_iconst (v := 0) S.1 S.2.1 dL_law_1052 (by decide) ?_
  exact lw_end FX hS (by omega) (by omega) h dL_law_1053
def wL_law_1120 (uc us : Nat) (K M : KS) : Prop := (0 : Int32) = 1
set_option maxHeartbeats 4000000 in
set_option maxRecDepth 100000 in
theorem bL_law_1120 {p : Program} {l : Launch} {e : Env} {s : State} {m : MethodId} {below : List Frame} {meth : Method} {c : Code} {D : va_G} {cI : Nat → ClassId} {e0 : Nat} {A : Nat → Prop} {b L : Nat} {xs : Nat → Int32} {ap o : Int64} {od : UInt64} (FX : LX p l s m meth c D cI e0 A b L xs) : ∀ {ad : Nat → Nat → Nat} {H : Heap} {locs : List Loc} {ls : Array Slot} {uc us : Nat} {K M : KS}, va_S A s.heap H locs → HT D cI e0 A ad K M ap o od H → lv_has ls 24 [] → uc ≤ 897972 → us ≤ 6395332 → wL_law_1120 uc us K M → W p l e room_1 s m #[Value.ref b] below meth c H locs uc us (lw_Z below #[Value.ref b] s) (F0 m 1120 ls []) := by
  obtain ⟨hfl, S, hg, hX, hbl, hbA, hL⟩ := FX.facts
  intro ad H locs ls uc us K M hS hw hl huc hus h
  unfold wL_law_1120 at h
  refine lv_iconst (v := 0) S.1 S.2.1 dL_law_1120 (by decide) ?_
  exact lw_end FX hS (by omega) (by omega) h dL_law_1121
def wL_law_1113 (bk30 : Nat → Nat → Int32 → Int32 → Int32 → Int32 → Int32 → Int32 → KS → KS → Prop) (uc us : Nat) (l2 : Int32) (l3 : Int32) (l4 : Int32) (l5 : Int32) (l6 : Int32) (l8 : Int32) (K M : KS) : Prop := (wpX6_isSound (fun r60 => ((¬ r60 = 0 → (bk30 uc us l2 l3 l4 l5 l6 (l8 + 1) K M)) ∧ (r60 = 0 → (wL_law_1120 uc us K M)))) K)
set_option maxHeartbeats 4000000 in
set_option maxRecDepth 100000 in
theorem bL_law_1113 {p : Program} {l : Launch} {e : Env} {s : State} {m : MethodId} {below : List Frame} {meth : Method} {c : Code} {D : va_G} {cI : Nat → ClassId} {e0 : Nat} {A : Nat → Prop} {b L : Nat} {xs : Nat → Int32} {ap o : Int64} {od : UInt64} {bk30 : Nat → Nat → Int32 → Int32 → Int32 → Int32 → Int32 → Int32 → KS → KS → Prop} (FX : LX p l s m meth c D cI e0 A b L xs) (hbk30 : ∀ {ad : Nat → Nat → Nat} {H : Heap} {locs : List Loc} {ls : Array Slot} {uc us : Nat} {l2 : Int32} {l3 : Int32} {l4 : Int32} {l5 : Int32} {l6 : Int32} {l8 : Int32} {K M : KS}, va_S A s.heap H locs → HT D cI e0 A ad K M ap o od H → lv_has ls 24 [(0, .ref b), (1, .ref (ad 0 0)), (2, .int l2), (3, .int l3), (4, .int l4), (5, .int l5), (6, .int l6), (7, .ref (ad 16 0)), (8, .int l8)] → uc ≤ 897972 → us ≤ 6395332 → bk30 uc us l2 l3 l4 l5 l6 l8 K M → W p l e room_1 s m #[Value.ref b] below meth c H locs uc us (lw_Z below #[Value.ref b] s) (F0 m 30 ls [])) : ∀ {ad : Nat → Nat → Nat} {H : Heap} {locs : List Loc} {ls : Array Slot} {uc us : Nat} {l2 : Int32} {l3 : Int32} {l4 : Int32} {l5 : Int32} {l6 : Int32} {l8 : Int32} {K M : KS}, va_S A s.heap H locs → HT D cI e0 A ad K M ap o od H → lv_has ls 24 [(0, .ref b), (1, .ref (ad 0 0)), (2, .int l2), (3, .int l3), (4, .int l4), (5, .int l5), (6, .int l6), (7, .ref (ad 16 0)), (8, .int l8)] → uc ≤ 897972 → us ≤ 6395332 → wL_law_1113 bk30 uc us l2 l3 l4 l5 l6 l8 K M → W p l e room_1 s m #[Value.ref b] below meth c H locs uc us (lw_Z below #[Value.ref b] s) (F0 m 1113 ls []) := by
  obtain ⟨hfl, S, hg, hX, hbl, hbA, hL⟩ := FX.facts
  intro ad H locs ls uc us l2 l3 l4 l5 l6 l8 K M hS hw hl huc hus h
  unfold wL_law_1113 at h
  refine lv_aload_n S.1 S.2.1 dL_law_1113 rfl (lv_at hl 1 rfl) ?_
  refine r_call (rest := []) S hg hS (mtX6_isSound (mc := 0) (ms := 0) h) u169 u170 u171 u27 u172 hdX6_isSound (rv0 hg hw) hw ⟨Nat.le_of_ble_eq_true rfl, Nat.le_of_ble_eq_true rfl⟩ ⟨by show uc + 0 ≤ 897972; omega, by show us + 0 ≤ 6395332; omega⟩ hl.1 (Nat.le_of_ble_eq_true rfl) rfl dL_law_1114 (fun E ce q H1 locs1 hx hS1 hc1 hc2 hc3 => hx.elim) (fun rv H locs hq hS => ?_)
  obtain ⟨r60, rfl, h, hw⟩ := hq
  show W p l e _ s m _ below meth c H locs _ _ _ (F0 m 1117 ls [.int r60])
  show W p l e _ s m _ below meth c H locs uc us _ _
  refine lv_if_ne (tgt := 1122) S.1 S.2.1 dL_law_1117 (by decide) (fun c61 => ?_) (fun c61 => ?_)
  · have h := h.1 c61
    refine lv_iinc (v := l8 + 1) (lv' := [(8, .int (l8 + 1)), (0, .ref b), (1, .ref (ad 0 0)), (2, .int l2), (3, .int l3), (4, .int l4), (5, .int l5), (6, .int l6), (7, .ref (ad 16 0))]) S.1 S.2.1 dL_law_1122 hl (k := 8) rfl rfl (by decide) rfl (fun ls hl => ?_)
    refine lv_goto (tgt := 30) S.1 S.2.1 dL_law_1125 (by decide) ?_
    have hl := lv_sub hl (l' := [(0, .ref b), (1, .ref (ad 0 0)), (2, .int l2), (3, .int l3), (4, .int l4), (5, .int l5), (6, .int l6), (7, .ref (ad 16 0)), (8, .int (l8 + 1))]) [1, 2, 3, 4, 5, 6, 7, 8, 0] rfl
    exact hbk30 hS hw hl (by omega) (by omega) h
  · have h := h.2 c61
    have hl := lv_sub hl (l' := []) [] rfl
    exact bL_law_1120 FX hS hw hl (by omega) (by omega) h
def wL_law_1057 (bk30 : Nat → Nat → Int32 → Int32 → Int32 → Int32 → Int32 → Int32 → KS → KS → Prop) : Nat → Nat → Nat → Int32 → Int32 → Int32 → Int32 → Int32 → Int32 → Int64 → Int32 → Int32 → KS → KS → Prop
  | 0 => fun _ _ _ _ _ _ _ _ _ _ _ _ _ => False
  | n + 1 => fun uc us l2 l3 l4 l5 l6 l8 l17 l19 l22 K M => ((l3 ≤ l22 → (((0 ≤ l19 → (wL_law_1113 bk30 uc us l2 l3 l4 l5 l6 l8 K M)) ∧ (¬ 0 ≤ l19 → ((∃ a62 a63 : Nat, uc + a62 ≤ 897972 ∧ us + a63 ≤ 6395332 ∧ wpL_state (fun r64 => ((¬ (lg_cmp r64 l17) = 0 → (wL_law_1120 (uc + a62) (us + a63) K M)) ∧ ((lg_cmp r64 l17) = 0 → (wL_law_1113 bk30 (uc + a62) (us + a63) l2 l3 l4 l5 l6 l8 K M)))) a62 a63 K l2 l3 l4 l5)))))) ∧ (¬ l3 ≤ l22 → ((∃ a66 a67 : Nat, uc + a66 ≤ 897972 ∧ us + a67 ≤ 6395332 ∧ wpL_c2 (fun r68 => (∃ a69 a70 : Nat, (uc + a66) + a69 ≤ 897972 ∧ (us + a67) + a70 ≤ 6395332 ∧ wpL_c3 (fun r71 => ((r68 = r71 → (wL_law_1057 bk30 n ((uc + a66) + a69) ((us + a67) + a70) l2 l3 l4 l5 l6 l8 l17 l19 (l22 + 1) K M)) ∧ (¬ r68 = r71 → ((0 : Int32) = 1)))) a69 a70 K l22 0 0)) a66 a67 K l22 0 0))))
set_option maxHeartbeats 4000000 in
set_option maxRecDepth 100000 in
theorem bL_law_1057 {p : Program} {l : Launch} {e : Env} {s : State} {m : MethodId} {below : List Frame} {meth : Method} {c : Code} {D : va_G} {cI : Nat → ClassId} {e0 : Nat} {A : Nat → Prop} {b L : Nat} {xs : Nat → Int32} {ap o : Int64} {od : UInt64} {bk30 : Nat → Nat → Int32 → Int32 → Int32 → Int32 → Int32 → Int32 → KS → KS → Prop} (FX : LX p l s m meth c D cI e0 A b L xs) (hbk30 : ∀ {ad : Nat → Nat → Nat} {H : Heap} {locs : List Loc} {ls : Array Slot} {uc us : Nat} {l2 : Int32} {l3 : Int32} {l4 : Int32} {l5 : Int32} {l6 : Int32} {l8 : Int32} {K M : KS}, va_S A s.heap H locs → HT D cI e0 A ad K M ap o od H → lv_has ls 24 [(0, .ref b), (1, .ref (ad 0 0)), (2, .int l2), (3, .int l3), (4, .int l4), (5, .int l5), (6, .int l6), (7, .ref (ad 16 0)), (8, .int l8)] → uc ≤ 897972 → us ≤ 6395332 → bk30 uc us l2 l3 l4 l5 l6 l8 K M → W p l e room_1 s m #[Value.ref b] below meth c H locs uc us (lw_Z below #[Value.ref b] s) (F0 m 30 ls [])) : ∀ n : Nat, ∀ {ad : Nat → Nat → Nat} {H : Heap} {locs : List Loc} {ls : Array Slot} {uc us : Nat} {l2 : Int32} {l3 : Int32} {l4 : Int32} {l5 : Int32} {l6 : Int32} {l8 : Int32} {l17 : Int64} {l19 : Int32} {l22 : Int32} {K M : KS}, va_S A s.heap H locs → HT D cI e0 A ad K M ap o od H → lv_has ls 24 [(0, .ref b), (1, .ref (ad 0 0)), (2, .int l2), (3, .int l3), (4, .int l4), (5, .int l5), (6, .int l6), (7, .ref (ad 16 0)), (8, .int l8), (17, .long (l17)), (19, .int l19), (22, .int l22)] → uc ≤ 897972 → us ≤ 6395332 → wL_law_1057 bk30 n uc us l2 l3 l4 l5 l6 l8 l17 l19 l22 K M → W p l e room_1 s m #[Value.ref b] below meth c H locs uc us (lw_Z below #[Value.ref b] s) (F0 m 1057 ls []) := by
  obtain ⟨hfl, S, hg, hX, hbl, hbA, hL⟩ := FX.facts
  intro n
  induction n with
  | zero => intros; exact False.elim (by assumption)
  | succ n ih =>
    intro ad H locs ls uc us l2 l3 l4 l5 l6 l8 l17 l19 l22 K M hS hw hl huc hus h
    unfold wL_law_1057 at h
    refine lv_iload S.1 S.2.1 dL_law_1057 (lv_at hl 11 rfl) ?_
    refine lv_iload_n S.1 S.2.1 dL_law_1059 rfl (lv_at hl 3 rfl) ?_
    refine lv_icmp_ge (tgt := 1092) S.1 S.2.1 dL_law_1060 (by decide) (fun c58 => ?_) (fun c58 => ?_)
    · have h := h.1 c58
      refine lv_iload S.1 S.2.1 dL_law_1092 (lv_at hl 10 rfl) ?_
      refine lv_if_ge (tgt := 1113) S.1 S.2.1 dL_law_1094 (by decide) (fun c59 => ?_) (fun c59 => ?_)
      · have h := h.1 c59
        have hl := lv_sub hl (l' := [(0, .ref b), (1, .ref (ad 0 0)), (2, .int l2), (3, .int l3), (4, .int l4), (5, .int l5), (6, .int l6), (7, .ref (ad 16 0)), (8, .int l8)]) [0, 1, 2, 3, 4, 5, 6, 7, 8] rfl
        exact bL_law_1113 FX hbk30 hS hw hl (by omega) (by omega) h
      · have h := h.2 c59
        refine lv_aload_n S.1 S.2.1 dL_law_1097 rfl (lv_at hl 1 rfl) ?_
        refine lv_iload_n S.1 S.2.1 dL_law_1098 rfl (lv_at hl 2 rfl) ?_
        refine lv_iload_n S.1 S.2.1 dL_law_1099 rfl (lv_at hl 3 rfl) ?_
        refine lv_iload S.1 S.2.1 dL_law_1100 (lv_at hl 4 rfl) ?_
        refine lv_iload S.1 S.2.1 dL_law_1102 (lv_at hl 5 rfl) ?_
        obtain ⟨a62, a63, h1, h2, h⟩ := h
        refine r_callS (rest := []) S hg hS (mtL_state (mc := a62) (ms := a63) hfl h) u925 u926 u26 u927 hdL_state hw ⟨Nat.le_of_ble_eq_true rfl, Nat.le_of_ble_eq_true rfl⟩ ⟨by show uc + a62 ≤ 897972; omega, by show us + a63 ≤ 6395332; omega⟩ hl.1 (Nat.le_of_ble_eq_true rfl) rfl dL_law_1104 (fun E ce q H1 locs1 hx hS1 hc1 hc2 hc3 => hx.elim) (fun rv H locs hq hS => ?_)
        obtain ⟨r64, rfl, h, hw⟩ := hq
        show W p l e _ s m _ below meth c H locs _ _ _ (F0 m 1107 ls [.long (r64)])
        refine lv_lload S.1 S.2.1 dL_law_1107 (lv_at hl 9 rfl) ?_
        refine W.lcmp S.1 S.2.1 dL_law_1109 ?_
        refine lv_if_ne (tgt := 1120) S.1 S.2.1 dL_law_1110 (by decide) (fun c65 => ?_) (fun c65 => ?_)
        · have h := h.1 c65
          have hl := lv_sub hl (l' := []) [] rfl
          exact bL_law_1120 FX hS hw hl (by omega) (by omega) h
        · have h := h.2 c65
          have hl := lv_sub hl (l' := [(0, .ref b), (1, .ref (ad 0 0)), (2, .int l2), (3, .int l3), (4, .int l4), (5, .int l5), (6, .int l6), (7, .ref (ad 16 0)), (8, .int l8)]) [0, 1, 2, 3, 4, 5, 6, 7, 8] rfl
          exact bL_law_1113 FX hbk30 hS hw hl (by omega) (by omega) h
    · have h := h.2 c58
      refine lv_aload_n S.1 S.2.1 dL_law_1063 rfl (lv_at hl 1 rfl) ?_
      refine lv_iconst (v := 2) S.1 S.2.1 dL_law_1064 (by decide) ?_
      refine lv_iload S.1 S.2.1 dL_law_1065 (lv_at hl 11 rfl) ?_
      refine lv_iconst (v := 0) S.1 S.2.1 dL_law_1067 (by decide) ?_
      refine lv_iconst (v := 0) S.1 S.2.1 dL_law_1068 (by decide) ?_
      obtain ⟨a66, a67, h1, h2, h⟩ := h
      refine r_callSW (rest := []) S hg hS (mtL_c2 (mc := a66) (ms := a67) hfl h) u216 u217 u26 u218 hdL_call hw ⟨Nat.le_of_ble_eq_true rfl, Nat.le_of_ble_eq_true rfl⟩ ⟨by show uc + a66 ≤ 897972; omega, by show us + a67 ≤ 6395332; omega⟩ hl.1 (Nat.le_of_ble_eq_true rfl) rfl dL_law_1069 (fun rv H locs hq hS => ?_)
      obtain ⟨r68, rfl, h, hw⟩ := hq
      show W p l e _ s m _ below meth c H locs _ _ _ (F0 m 1072 ls [.int r68])
      refine lv_aload_n S.1 S.2.1 dL_law_1072 rfl (lv_at hl 1 rfl) ?_
      refine lv_iconst (v := 3) S.1 S.2.1 dL_law_1073 (by decide) ?_
      refine lv_iload S.1 S.2.1 dL_law_1074 (lv_at hl 11 rfl) ?_
      refine lv_iconst (v := 0) S.1 S.2.1 dL_law_1076 (by decide) ?_
      refine lv_iconst (v := 0) S.1 S.2.1 dL_law_1077 (by decide) ?_
      obtain ⟨a69, a70, h1, h2, h⟩ := h
      refine r_callSW (rest := [.int r68]) S hg hS (mtL_c3 (mc := a69) (ms := a70) hfl h) u216 u217 u26 u218 hdL_call hw ⟨Nat.le_of_ble_eq_true rfl, Nat.le_of_ble_eq_true rfl⟩ ⟨by show (uc + a66) + a69 ≤ 897972; omega, by show (us + a67) + a70 ≤ 6395332; omega⟩ hl.1 (Nat.le_of_ble_eq_true rfl) rfl dL_law_1078 (fun rv H locs hq hS => ?_)
      obtain ⟨r71, rfl, h, hw⟩ := hq
      show W p l e _ s m _ below meth c H locs _ _ _ (F0 m 1081 ls [.int r71, .int r68])
      refine lv_icmp_eq (tgt := 1086) S.1 S.2.1 dL_law_1081 (by decide) (fun c72 => ?_) (fun c72 => ?_)
      · have h := h.1 c72
        refine lv_iinc (v := l22 + 1) (lv' := [(22, .int (l22 + 1)), (0, .ref b), (1, .ref (ad 0 0)), (2, .int l2), (3, .int l3), (4, .int l4), (5, .int l5), (6, .int l6), (7, .ref (ad 16 0)), (8, .int l8), (17, .long (l17)), (19, .int l19)]) S.1 S.2.1 dL_law_1086 hl (k := 11) rfl rfl (by decide) rfl (fun ls hl => ?_)
        refine lv_goto (tgt := 1057) S.1 S.2.1 dL_law_1089 (by decide) ?_
        have hl := lv_sub hl (l' := [(0, .ref b), (1, .ref (ad 0 0)), (2, .int l2), (3, .int l3), (4, .int l4), (5, .int l5), (6, .int l6), (7, .ref (ad 16 0)), (8, .int l8), (17, .long (l17)), (19, .int l19), (22, .int (l22 + 1))]) [1, 2, 3, 4, 5, 6, 7, 8, 9, 10, 11, 0] rfl
        exact ih hS hw hl (by omega) (by omega) h
      · have h := h.2 c72
        refine lv_iconst (v := 0) S.1 S.2.1 dL_law_1084 (by decide) ?_
        exact lw_end FX hS (by omega) (by omega) h dL_law_1085
def wL_law_964 (bk30 : Nat → Nat → Int32 → Int32 → Int32 → Int32 → Int32 → Int32 → KS → KS → Prop) : Nat → Nat → Nat → Int32 → Int32 → Int32 → Int32 → Int32 → Int32 → Int64 → Int32 → Int32 → Int32 → Int32 → KS → KS → Prop
  | 0 => fun _ _ _ _ _ _ _ _ _ _ _ _ _ _ _ => False
  | n + 1 => fun uc us l2 l3 l4 l5 l6 l8 l17 l19 l20 l21 l22 K M => ((l2 ≤ l22 → ((wpX6_house (fun r52 => (wpX6_apart (fun r53 => ((¬ (lg_cmp (((l20 + r52).toInt64) + r53) l6.toInt64) = 0 → (wL_law_1052 uc us K M)) ∧ ((lg_cmp (((l20 + r52).toInt64) + r53) l6.toInt64) = 0 → (((¬ l21 = l3 → (wL_law_1052 uc us K M)) ∧ (l21 = l3 → ((wpX6_blocks (fun r56 => ((r56 ≤ 288 → (∃ n1 : Nat, wL_law_1057 bk30 n1 uc us l2 l3 l4 l5 l6 l8 l17 l19 0 K M)) ∧ (¬ r56 ≤ 288 → (wL_law_1052 uc us K M)))) K)))))))) K)) K))) ∧ (¬ l2 ≤ l22 → ((∃ a73 a74 : Nat, uc + a73 ≤ 897972 ∧ us + a74 ≤ 6395332 ∧ wpL_c6 (fun r75 => (∃ a76 a77 : Nat, (uc + a73) + a76 ≤ 897972 ∧ (us + a74) + a77 ≤ 6395332 ∧ wpL_c5 (fun r78 => ((0 ≤ r75 → (wL_law_964 bk30 n ((uc + a73) + a76) ((us + a74) + a77) l2 l3 l4 l5 l6 l8 l17 l19 (l20 + r75) (l21 + r78) (l22 + 1) K M)) ∧ (¬ 0 ≤ r75 → ((0 : Int32) = 1)))) a76 a77 K l22 0 0)) a73 a74 K l22 0 0))))
set_option maxHeartbeats 4000000 in
set_option maxRecDepth 100000 in
theorem bL_law_964 {p : Program} {l : Launch} {e : Env} {s : State} {m : MethodId} {below : List Frame} {meth : Method} {c : Code} {D : va_G} {cI : Nat → ClassId} {e0 : Nat} {A : Nat → Prop} {b L : Nat} {xs : Nat → Int32} {ap o : Int64} {od : UInt64} {bk30 : Nat → Nat → Int32 → Int32 → Int32 → Int32 → Int32 → Int32 → KS → KS → Prop} (FX : LX p l s m meth c D cI e0 A b L xs) (hbk30 : ∀ {ad : Nat → Nat → Nat} {H : Heap} {locs : List Loc} {ls : Array Slot} {uc us : Nat} {l2 : Int32} {l3 : Int32} {l4 : Int32} {l5 : Int32} {l6 : Int32} {l8 : Int32} {K M : KS}, va_S A s.heap H locs → HT D cI e0 A ad K M ap o od H → lv_has ls 24 [(0, .ref b), (1, .ref (ad 0 0)), (2, .int l2), (3, .int l3), (4, .int l4), (5, .int l5), (6, .int l6), (7, .ref (ad 16 0)), (8, .int l8)] → uc ≤ 897972 → us ≤ 6395332 → bk30 uc us l2 l3 l4 l5 l6 l8 K M → W p l e room_1 s m #[Value.ref b] below meth c H locs uc us (lw_Z below #[Value.ref b] s) (F0 m 30 ls [])) : ∀ n : Nat, ∀ {ad : Nat → Nat → Nat} {H : Heap} {locs : List Loc} {ls : Array Slot} {uc us : Nat} {l2 : Int32} {l3 : Int32} {l4 : Int32} {l5 : Int32} {l6 : Int32} {l8 : Int32} {l17 : Int64} {l19 : Int32} {l20 : Int32} {l21 : Int32} {l22 : Int32} {K M : KS}, va_S A s.heap H locs → HT D cI e0 A ad K M ap o od H → lv_has ls 24 [(0, .ref b), (1, .ref (ad 0 0)), (2, .int l2), (3, .int l3), (4, .int l4), (5, .int l5), (6, .int l6), (7, .ref (ad 16 0)), (8, .int l8), (17, .long (l17)), (19, .int l19), (20, .int l20), (21, .int l21), (22, .int l22)] → uc ≤ 897972 → us ≤ 6395332 → wL_law_964 bk30 n uc us l2 l3 l4 l5 l6 l8 l17 l19 l20 l21 l22 K M → W p l e room_1 s m #[Value.ref b] below meth c H locs uc us (lw_Z below #[Value.ref b] s) (F0 m 964 ls []) := by
  obtain ⟨hfl, S, hg, hX, hbl, hbA, hL⟩ := FX.facts
  intro n
  induction n with
  | zero => intros; exact False.elim (by assumption)
  | succ n ih =>
    intro ad H locs ls uc us l2 l3 l4 l5 l6 l8 l17 l19 l20 l21 l22 K M hS hw hl huc hus h
    unfold wL_law_964 at h
    refine lv_iload S.1 S.2.1 dL_law_964 (lv_at hl 13 rfl) ?_
    refine lv_iload_n S.1 S.2.1 dL_law_966 rfl (lv_at hl 2 rfl) ?_
    refine lv_icmp_ge (tgt := 1016) S.1 S.2.1 dL_law_967 (by decide) (fun c51 => ?_) (fun c51 => ?_)
    · have h := h.1 c51
      refine lv_iload S.1 S.2.1 dL_law_1016 (lv_at hl 11 rfl) ?_
      refine lv_aload_n S.1 S.2.1 dL_law_1018 rfl (lv_at hl 1 rfl) ?_
      refine r_call (rest := [.int l20]) S hg hS (mtX6_house (mc := 0) (ms := 0) h) u161 u162 u163 u27 u164 hdX6_house (rv0 hg hw) hw ⟨Nat.le_of_ble_eq_true rfl, Nat.le_of_ble_eq_true rfl⟩ ⟨by show uc + 0 ≤ 897972; omega, by show us + 0 ≤ 6395332; omega⟩ hl.1 (Nat.le_of_ble_eq_true rfl) rfl dL_law_1019 (fun E ce q H1 locs1 hx hS1 hc1 hc2 hc3 => hx.elim) (fun rv H locs hq hS => ?_)
      obtain ⟨r52, rfl, h, hw⟩ := hq
      show W p l e _ s m _ below meth c H locs _ _ _ (F0 m 1022 ls [.int r52, .int l20])
      show W p l e _ s m _ below meth c H locs uc us _ _
      refine lv_iadd S.1 S.2.1 dL_law_1022 ?_
      refine lv_i2l S.1 S.2.1 dL_law_1023 rfl ?_
      refine lv_aload_n S.1 S.2.1 dL_law_1024 rfl (lv_at hl 1 rfl) ?_
      refine r_call (rest := [.long ((l20 + r52).toInt64)]) S hg hS (mtX6_apart (mc := 0) (ms := 0) h) u165 u166 u167 u27 u168 hdX6_apart (rv0 hg hw) hw ⟨Nat.le_of_ble_eq_true rfl, Nat.le_of_ble_eq_true rfl⟩ ⟨by show uc + 0 ≤ 897972; omega, by show us + 0 ≤ 6395332; omega⟩ hl.1 (Nat.le_of_ble_eq_true rfl) rfl dL_law_1025 (fun E ce q H1 locs1 hx hS1 hc1 hc2 hc3 => hx.elim) (fun rv H locs hq hS => ?_)
      obtain ⟨r53, rfl, h, hw⟩ := hq
      show W p l e _ s m _ below meth c H locs _ _ _ (F0 m 1028 ls [.long (r53), .long ((l20 + r52).toInt64)])
      show W p l e _ s m _ below meth c H locs uc us _ _
      refine lv_ladd S.1 S.2.1 dL_law_1028 ?_
      refine lv_iload S.1 S.2.1 dL_law_1029 (lv_at hl 6 rfl) ?_
      refine lv_i2l S.1 S.2.1 dL_law_1031 rfl ?_
      refine W.lcmp S.1 S.2.1 dL_law_1032 ?_
      refine lv_if_ne (tgt := 1052) S.1 S.2.1 dL_law_1033 (by decide) (fun c54 => ?_) (fun c54 => ?_)
      · have h := h.1 c54
        have hl := lv_sub hl (l' := []) [] rfl
        exact bL_law_1052 FX hS hw hl (by omega) (by omega) h
      · have h := h.2 c54
        refine lv_iload S.1 S.2.1 dL_law_1036 (lv_at hl 12 rfl) ?_
        refine lv_iload_n S.1 S.2.1 dL_law_1038 rfl (lv_at hl 3 rfl) ?_
        refine lv_icmp_ne (tgt := 1052) S.1 S.2.1 dL_law_1039 (by decide) (fun c55 => ?_) (fun c55 => ?_)
        · have h := h.1 c55
          have hl := lv_sub hl (l' := []) [] rfl
          exact bL_law_1052 FX hS hw hl (by omega) (by omega) h
        · have h := h.2 c55
          refine lv_aload_n S.1 S.2.1 dL_law_1042 rfl (lv_at hl 1 rfl) ?_
          refine r_call (rest := []) S hg hS (mtX6_blocks (mc := 0) (ms := 0) h) u153 u154 u155 u27 u156 hdX6_blocks (rv0 hg hw) hw ⟨Nat.le_of_ble_eq_true rfl, Nat.le_of_ble_eq_true rfl⟩ ⟨by show uc + 0 ≤ 897972; omega, by show us + 0 ≤ 6395332; omega⟩ hl.1 (Nat.le_of_ble_eq_true rfl) rfl dL_law_1043 (fun E ce q H1 locs1 hx hS1 hc1 hc2 hc3 => hx.elim) (fun rv H locs hq hS => ?_)
          obtain ⟨r56, rfl, h, hw⟩ := hq
          show W p l e _ s m _ below meth c H locs _ _ _ (F0 m 1046 ls [.int r56])
          show W p l e _ s m _ below meth c H locs uc us _ _
          refine lv_sipush (v := 288) S.1 S.2.1 dL_law_1046 (by decide) ?_
          refine lv_icmp_le (tgt := 1054) S.1 S.2.1 dL_law_1049 (by decide) (fun c57 => ?_) (fun c57 => ?_)
          · have h := h.1 c57
            refine lv_iconst (v := 0) S.1 S.2.1 dL_law_1054 (by decide) ?_
            refine lv_istore (lv' := [(22, .int 0), (0, .ref b), (1, .ref (ad 0 0)), (2, .int l2), (3, .int l3), (4, .int l4), (5, .int l5), (6, .int l6), (7, .ref (ad 16 0)), (8, .int l8), (17, .long (l17)), (19, .int l19), (20, .int l20), (21, .int l21)]) S.1 S.2.1 dL_law_1055 hl (by decide) rfl (fun ls hl => ?_)
            have hl := lv_sub hl (l' := [(0, .ref b), (1, .ref (ad 0 0)), (2, .int l2), (3, .int l3), (4, .int l4), (5, .int l5), (6, .int l6), (7, .ref (ad 16 0)), (8, .int l8), (17, .long (l17)), (19, .int l19), (22, .int 0)]) [1, 2, 3, 4, 5, 6, 7, 8, 9, 10, 11, 0] rfl
            obtain ⟨n1, h⟩ := h
            exact bL_law_1057 FX hbk30 n1 hS hw hl (by omega) (by omega) h
          · have h := h.2 c57
            have hl := lv_sub hl (l' := []) [] rfl
            exact bL_law_1052 FX hS hw hl (by omega) (by omega) h
    · have h := h.2 c51
      refine lv_aload_n S.1 S.2.1 dL_law_970 rfl (lv_at hl 1 rfl) ?_
      refine lv_bipush (v := 6) S.1 S.2.1 dL_law_971 (by decide) ?_
      refine lv_iload S.1 S.2.1 dL_law_973 (lv_at hl 13 rfl) ?_
      refine lv_iconst (v := 0) S.1 S.2.1 dL_law_975 (by decide) ?_
      refine lv_iconst (v := 0) S.1 S.2.1 dL_law_976 (by decide) ?_
      obtain ⟨a73, a74, h1, h2, h⟩ := h
      refine r_callSW (rest := []) S hg hS (mtL_c6 (mc := a73) (ms := a74) hfl h) u216 u217 u26 u218 hdL_call hw ⟨Nat.le_of_ble_eq_true rfl, Nat.le_of_ble_eq_true rfl⟩ ⟨by show uc + a73 ≤ 897972; omega, by show us + a74 ≤ 6395332; omega⟩ hl.1 (Nat.le_of_ble_eq_true rfl) rfl dL_law_977 (fun rv H locs hq hS => ?_)
      obtain ⟨r75, rfl, h, hw⟩ := hq
      show W p l e _ s m _ below meth c H locs _ _ _ (F0 m 980 ls [.int r75])
      refine lv_istore (lv' := [(23, .int r75), (0, .ref b), (1, .ref (ad 0 0)), (2, .int l2), (3, .int l3), (4, .int l4), (5, .int l5), (6, .int l6), (7, .ref (ad 16 0)), (8, .int l8), (17, .long (l17)), (19, .int l19), (20, .int l20), (21, .int l21), (22, .int l22)]) S.1 S.2.1 dL_law_980 hl (by decide) rfl (fun ls hl => ?_)
      refine lv_iload S.1 S.2.1 dL_law_982 (lv_at hl 12 rfl) ?_
      refine lv_iload S.1 S.2.1 dL_law_984 (lv_at hl 0 rfl) ?_
      refine lv_iadd S.1 S.2.1 dL_law_986 ?_
      refine lv_istore (lv' := [(20, .int (l20 + r75)), (23, .int r75), (0, .ref b), (1, .ref (ad 0 0)), (2, .int l2), (3, .int l3), (4, .int l4), (5, .int l5), (6, .int l6), (7, .ref (ad 16 0)), (8, .int l8), (17, .long (l17)), (19, .int l19), (21, .int l21), (22, .int l22)]) S.1 S.2.1 dL_law_987 hl (by decide) rfl (fun ls hl => ?_)
      refine lv_iload S.1 S.2.1 dL_law_989 (lv_at hl 13 rfl) ?_
      refine lv_aload_n S.1 S.2.1 dL_law_991 rfl (lv_at hl 3 rfl) ?_
      refine lv_iconst (v := 5) S.1 S.2.1 dL_law_992 (by decide) ?_
      refine lv_iload S.1 S.2.1 dL_law_993 (lv_at hl 14 rfl) ?_
      refine lv_iconst (v := 0) S.1 S.2.1 dL_law_995 (by decide) ?_
      refine lv_iconst (v := 0) S.1 S.2.1 dL_law_996 (by decide) ?_
      obtain ⟨a76, a77, h1, h2, h⟩ := h
      refine r_callSW (rest := [.int l21]) S hg hS (mtL_c5 (mc := a76) (ms := a77) hfl h) u216 u217 u26 u218 hdL_call hw ⟨Nat.le_of_ble_eq_true rfl, Nat.le_of_ble_eq_true rfl⟩ ⟨by show (uc + a73) + a76 ≤ 897972; omega, by show (us + a74) + a77 ≤ 6395332; omega⟩ hl.1 (Nat.le_of_ble_eq_true rfl) rfl dL_law_997 (fun rv H locs hq hS => ?_)
      obtain ⟨r78, rfl, h, hw⟩ := hq
      show W p l e _ s m _ below meth c H locs _ _ _ (F0 m 1000 ls [.int r78, .int l21])
      refine lv_iadd S.1 S.2.1 dL_law_1000 ?_
      refine lv_istore (lv' := [(21, .int (l21 + r78)), (20, .int (l20 + r75)), (23, .int r75), (0, .ref b), (1, .ref (ad 0 0)), (2, .int l2), (3, .int l3), (4, .int l4), (5, .int l5), (6, .int l6), (7, .ref (ad 16 0)), (8, .int l8), (17, .long (l17)), (19, .int l19), (22, .int l22)]) S.1 S.2.1 dL_law_1001 hl (by decide) rfl (fun ls hl => ?_)
      refine lv_iload S.1 S.2.1 dL_law_1003 (lv_at hl 2 rfl) ?_
      refine lv_if_ge (tgt := 1010) S.1 S.2.1 dL_law_1005 (by decide) (fun c79 => ?_) (fun c79 => ?_)
      · have h := h.1 c79
        refine lv_iinc (v := l22 + 1) (lv' := [(22, .int (l22 + 1)), (21, .int (l21 + r78)), (20, .int (l20 + r75)), (23, .int r75), (0, .ref b), (1, .ref (ad 0 0)), (2, .int l2), (3, .int l3), (4, .int l4), (5, .int l5), (6, .int l6), (7, .ref (ad 16 0)), (8, .int l8), (17, .long (l17)), (19, .int l19)]) S.1 S.2.1 dL_law_1010 hl (k := 14) rfl rfl (by decide) rfl (fun ls hl => ?_)
        refine lv_goto (tgt := 964) S.1 S.2.1 dL_law_1013 (by decide) ?_
        have hl := lv_sub hl (l' := [(0, .ref b), (1, .ref (ad 0 0)), (2, .int l2), (3, .int l3), (4, .int l4), (5, .int l5), (6, .int l6), (7, .ref (ad 16 0)), (8, .int l8), (17, .long (l17)), (19, .int l19), (20, .int (l20 + r75)), (21, .int (l21 + r78)), (22, .int (l22 + 1))]) [4, 5, 6, 7, 8, 9, 10, 11, 12, 13, 14, 2, 1, 0] rfl
        exact ih hS hw hl (by omega) (by omega) h
      · have h := h.2 c79
        refine lv_iconst (v := 0) S.1 S.2.1 dL_law_1008 (by decide) ?_
        exact lw_end FX hS (by omega) (by omega) h dL_law_1009
def wL_law_955 (bk30 : Nat → Nat → Int32 → Int32 → Int32 → Int32 → Int32 → Int32 → KS → KS → Prop) (uc us : Nat) (l2 : Int32) (l3 : Int32) (l4 : Int32) (l5 : Int32) (l6 : Int32) (l8 : Int32) (l17 : Int64) (l19 : Int32) (K M : KS) : Prop := ∃ n1 : Nat, wL_law_964 bk30 n1 uc us l2 l3 l4 l5 l6 l8 l17 l19 0 0 0 K M
set_option maxHeartbeats 4000000 in
set_option maxRecDepth 100000 in
theorem bL_law_955 {p : Program} {l : Launch} {e : Env} {s : State} {m : MethodId} {below : List Frame} {meth : Method} {c : Code} {D : va_G} {cI : Nat → ClassId} {e0 : Nat} {A : Nat → Prop} {b L : Nat} {xs : Nat → Int32} {ap o : Int64} {od : UInt64} {bk30 : Nat → Nat → Int32 → Int32 → Int32 → Int32 → Int32 → Int32 → KS → KS → Prop} (FX : LX p l s m meth c D cI e0 A b L xs) (hbk30 : ∀ {ad : Nat → Nat → Nat} {H : Heap} {locs : List Loc} {ls : Array Slot} {uc us : Nat} {l2 : Int32} {l3 : Int32} {l4 : Int32} {l5 : Int32} {l6 : Int32} {l8 : Int32} {K M : KS}, va_S A s.heap H locs → HT D cI e0 A ad K M ap o od H → lv_has ls 24 [(0, .ref b), (1, .ref (ad 0 0)), (2, .int l2), (3, .int l3), (4, .int l4), (5, .int l5), (6, .int l6), (7, .ref (ad 16 0)), (8, .int l8)] → uc ≤ 897972 → us ≤ 6395332 → bk30 uc us l2 l3 l4 l5 l6 l8 K M → W p l e room_1 s m #[Value.ref b] below meth c H locs uc us (lw_Z below #[Value.ref b] s) (F0 m 30 ls [])) : ∀ {ad : Nat → Nat → Nat} {H : Heap} {locs : List Loc} {ls : Array Slot} {uc us : Nat} {l2 : Int32} {l3 : Int32} {l4 : Int32} {l5 : Int32} {l6 : Int32} {l8 : Int32} {l17 : Int64} {l19 : Int32} {K M : KS}, va_S A s.heap H locs → HT D cI e0 A ad K M ap o od H → lv_has ls 24 [(0, .ref b), (1, .ref (ad 0 0)), (2, .int l2), (3, .int l3), (4, .int l4), (5, .int l5), (6, .int l6), (7, .ref (ad 16 0)), (8, .int l8), (17, .long (l17)), (19, .int l19)] → uc ≤ 897972 → us ≤ 6395332 → wL_law_955 bk30 uc us l2 l3 l4 l5 l6 l8 l17 l19 K M → W p l e room_1 s m #[Value.ref b] below meth c H locs uc us (lw_Z below #[Value.ref b] s) (F0 m 955 ls []) := by
  obtain ⟨hfl, S, hg, hX, hbl, hbA, hL⟩ := FX.facts
  intro ad H locs ls uc us l2 l3 l4 l5 l6 l8 l17 l19 K M hS hw hl huc hus h
  unfold wL_law_955 at h
  refine lv_iconst (v := 0) S.1 S.2.1 dL_law_955 (by decide) ?_
  refine lv_istore (lv' := [(20, .int 0), (0, .ref b), (1, .ref (ad 0 0)), (2, .int l2), (3, .int l3), (4, .int l4), (5, .int l5), (6, .int l6), (7, .ref (ad 16 0)), (8, .int l8), (17, .long (l17)), (19, .int l19)]) S.1 S.2.1 dL_law_956 hl (by decide) rfl (fun ls hl => ?_)
  refine lv_iconst (v := 0) S.1 S.2.1 dL_law_958 (by decide) ?_
  refine lv_istore (lv' := [(21, .int 0), (20, .int 0), (0, .ref b), (1, .ref (ad 0 0)), (2, .int l2), (3, .int l3), (4, .int l4), (5, .int l5), (6, .int l6), (7, .ref (ad 16 0)), (8, .int l8), (17, .long (l17)), (19, .int l19)]) S.1 S.2.1 dL_law_959 hl (by decide) rfl (fun ls hl => ?_)
  refine lv_iconst (v := 0) S.1 S.2.1 dL_law_961 (by decide) ?_
  refine lv_istore (lv' := [(22, .int 0), (21, .int 0), (20, .int 0), (0, .ref b), (1, .ref (ad 0 0)), (2, .int l2), (3, .int l3), (4, .int l4), (5, .int l5), (6, .int l6), (7, .ref (ad 16 0)), (8, .int l8), (17, .long (l17)), (19, .int l19)]) S.1 S.2.1 dL_law_962 hl (by decide) rfl (fun ls hl => ?_)
  have hl := lv_sub hl (l' := [(0, .ref b), (1, .ref (ad 0 0)), (2, .int l2), (3, .int l3), (4, .int l4), (5, .int l5), (6, .int l6), (7, .ref (ad 16 0)), (8, .int l8), (17, .long (l17)), (19, .int l19), (20, .int 0), (21, .int 0), (22, .int 0)]) [3, 4, 5, 6, 7, 8, 9, 10, 11, 12, 13, 2, 1, 0] rfl
  obtain ⟨n1, h⟩ := h
  exact bL_law_964 FX hbk30 n1 hS hw hl (by omega) (by omega) h
def wL_law_893 (bk30 : Nat → Nat → Int32 → Int32 → Int32 → Int32 → Int32 → Int32 → KS → KS → Prop) (uc us : Nat) (l2 : Int32) (l3 : Int32) (l4 : Int32) (l6 : Int32) (l8 : Int32) (l17 : Int64) (l19 : Int32) (t0 : Int32) (t1 : Int32) (K M : KS) : Prop := wL_law_955 bk30 uc us l2 l3 l4 (t1 + t0) l6 l8 l17 l19 K M
set_option maxHeartbeats 4000000 in
set_option maxRecDepth 100000 in
theorem bL_law_893 {p : Program} {l : Launch} {e : Env} {s : State} {m : MethodId} {below : List Frame} {meth : Method} {c : Code} {D : va_G} {cI : Nat → ClassId} {e0 : Nat} {A : Nat → Prop} {b L : Nat} {xs : Nat → Int32} {ap o : Int64} {od : UInt64} {bk30 : Nat → Nat → Int32 → Int32 → Int32 → Int32 → Int32 → Int32 → KS → KS → Prop} (FX : LX p l s m meth c D cI e0 A b L xs) (hbk30 : ∀ {ad : Nat → Nat → Nat} {H : Heap} {locs : List Loc} {ls : Array Slot} {uc us : Nat} {l2 : Int32} {l3 : Int32} {l4 : Int32} {l5 : Int32} {l6 : Int32} {l8 : Int32} {K M : KS}, va_S A s.heap H locs → HT D cI e0 A ad K M ap o od H → lv_has ls 24 [(0, .ref b), (1, .ref (ad 0 0)), (2, .int l2), (3, .int l3), (4, .int l4), (5, .int l5), (6, .int l6), (7, .ref (ad 16 0)), (8, .int l8)] → uc ≤ 897972 → us ≤ 6395332 → bk30 uc us l2 l3 l4 l5 l6 l8 K M → W p l e room_1 s m #[Value.ref b] below meth c H locs uc us (lw_Z below #[Value.ref b] s) (F0 m 30 ls [])) : ∀ {ad : Nat → Nat → Nat} {H : Heap} {locs : List Loc} {ls : Array Slot} {uc us : Nat} {l2 : Int32} {l3 : Int32} {l4 : Int32} {l6 : Int32} {l8 : Int32} {l17 : Int64} {l19 : Int32} {t0 : Int32} {t1 : Int32} {K M : KS}, va_S A s.heap H locs → HT D cI e0 A ad K M ap o od H → lv_has ls 24 [(0, .ref b), (1, .ref (ad 0 0)), (2, .int l2), (3, .int l3), (4, .int l4), (6, .int l6), (7, .ref (ad 16 0)), (8, .int l8), (17, .long (l17)), (19, .int l19)] → uc ≤ 897972 → us ≤ 6395332 → wL_law_893 bk30 uc us l2 l3 l4 l6 l8 l17 l19 t0 t1 K M → W p l e room_1 s m #[Value.ref b] below meth c H locs uc us (lw_Z below #[Value.ref b] s) (F0 m 893 ls [.int t0, .int t1]) := by
  obtain ⟨hfl, S, hg, hX, hbl, hbA, hL⟩ := FX.facts
  intro ad H locs ls uc us l2 l3 l4 l6 l8 l17 l19 t0 t1 K M hS hw hl huc hus h
  unfold wL_law_893 at h
  refine lv_iadd S.1 S.2.1 dL_law_893 ?_
  refine lv_istore (lv' := [(5, .int (t1 + t0)), (0, .ref b), (1, .ref (ad 0 0)), (2, .int l2), (3, .int l3), (4, .int l4), (6, .int l6), (7, .ref (ad 16 0)), (8, .int l8), (17, .long (l17)), (19, .int l19)]) S.1 S.2.1 dL_law_894 hl (by decide) rfl (fun ls hl => ?_)
  refine lv_goto (tgt := 955) S.1 S.2.1 dL_law_896 (by decide) ?_
  have hl := lv_sub hl (l' := [(0, .ref b), (1, .ref (ad 0 0)), (2, .int l2), (3, .int l3), (4, .int l4), (5, .int (t1 + t0)), (6, .int l6), (7, .ref (ad 16 0)), (8, .int l8), (17, .long (l17)), (19, .int l19)]) [1, 2, 3, 4, 5, 0, 6, 7, 8, 9, 10] rfl
  exact bL_law_955 FX hbk30 hS hw hl (by omega) (by omega) h
def wL_law_850 (bk30 : Nat → Nat → Int32 → Int32 → Int32 → Int32 → Int32 → Int32 → KS → KS → Prop) (uc us : Nat) (l2 : Int32) (l3 : Int32) (l4 : Int32) (l5 : Int32) (l6 : Int32) (l8 : Int32) (l17 : Int64) (l19 : Int32) (K M : KS) : Prop := wL_law_955 bk30 uc us l2 l3 l4 l5 l6 l8 l17 l19 K M
set_option maxHeartbeats 4000000 in
set_option maxRecDepth 100000 in
theorem bL_law_850 {p : Program} {l : Launch} {e : Env} {s : State} {m : MethodId} {below : List Frame} {meth : Method} {c : Code} {D : va_G} {cI : Nat → ClassId} {e0 : Nat} {A : Nat → Prop} {b L : Nat} {xs : Nat → Int32} {ap o : Int64} {od : UInt64} {bk30 : Nat → Nat → Int32 → Int32 → Int32 → Int32 → Int32 → Int32 → KS → KS → Prop} (FX : LX p l s m meth c D cI e0 A b L xs) (hbk30 : ∀ {ad : Nat → Nat → Nat} {H : Heap} {locs : List Loc} {ls : Array Slot} {uc us : Nat} {l2 : Int32} {l3 : Int32} {l4 : Int32} {l5 : Int32} {l6 : Int32} {l8 : Int32} {K M : KS}, va_S A s.heap H locs → HT D cI e0 A ad K M ap o od H → lv_has ls 24 [(0, .ref b), (1, .ref (ad 0 0)), (2, .int l2), (3, .int l3), (4, .int l4), (5, .int l5), (6, .int l6), (7, .ref (ad 16 0)), (8, .int l8)] → uc ≤ 897972 → us ≤ 6395332 → bk30 uc us l2 l3 l4 l5 l6 l8 K M → W p l e room_1 s m #[Value.ref b] below meth c H locs uc us (lw_Z below #[Value.ref b] s) (F0 m 30 ls [])) : ∀ {ad : Nat → Nat → Nat} {H : Heap} {locs : List Loc} {ls : Array Slot} {uc us : Nat} {l2 : Int32} {l3 : Int32} {l4 : Int32} {l5 : Int32} {l6 : Int32} {l8 : Int32} {l17 : Int64} {l19 : Int32} {K M : KS}, va_S A s.heap H locs → HT D cI e0 A ad K M ap o od H → lv_has ls 24 [(0, .ref b), (1, .ref (ad 0 0)), (2, .int l2), (3, .int l3), (4, .int l4), (5, .int l5), (6, .int l6), (7, .ref (ad 16 0)), (8, .int l8), (17, .long (l17)), (19, .int l19)] → uc ≤ 897972 → us ≤ 6395332 → wL_law_850 bk30 uc us l2 l3 l4 l5 l6 l8 l17 l19 K M → W p l e room_1 s m #[Value.ref b] below meth c H locs uc us (lw_Z below #[Value.ref b] s) (F0 m 850 ls []) := by
  obtain ⟨hfl, S, hg, hX, hbl, hbA, hL⟩ := FX.facts
  intro ad H locs ls uc us l2 l3 l4 l5 l6 l8 l17 l19 K M hS hw hl huc hus h
  unfold wL_law_850 at h
  refine lv_goto (tgt := 955) S.1 S.2.1 dL_law_850 (by decide) ?_
  have hl := lv_sub hl (l' := [(0, .ref b), (1, .ref (ad 0 0)), (2, .int l2), (3, .int l3), (4, .int l4), (5, .int l5), (6, .int l6), (7, .ref (ad 16 0)), (8, .int l8), (17, .long (l17)), (19, .int l19)]) [0, 1, 2, 3, 4, 5, 6, 7, 8, 9, 10] rfl
  exact bL_law_955 FX hbk30 hS hw hl (by omega) (by omega) h
def wL_law_839 (uc us : Nat) (K M : KS) : Prop := (0 : Int32) = 1
set_option maxHeartbeats 4000000 in
set_option maxRecDepth 100000 in
theorem bL_law_839 {p : Program} {l : Launch} {e : Env} {s : State} {m : MethodId} {below : List Frame} {meth : Method} {c : Code} {D : va_G} {cI : Nat → ClassId} {e0 : Nat} {A : Nat → Prop} {b L : Nat} {xs : Nat → Int32} {ap o : Int64} {od : UInt64} (FX : LX p l s m meth c D cI e0 A b L xs) : ∀ {ad : Nat → Nat → Nat} {H : Heap} {locs : List Loc} {ls : Array Slot} {uc us : Nat} {K M : KS}, va_S A s.heap H locs → HT D cI e0 A ad K M ap o od H → lv_has ls 24 [] → uc ≤ 897972 → us ≤ 6395332 → wL_law_839 uc us K M → W p l e room_1 s m #[Value.ref b] below meth c H locs uc us (lw_Z below #[Value.ref b] s) (F0 m 839 ls []) := by
  obtain ⟨hfl, S, hg, hX, hbl, hbA, hL⟩ := FX.facts
  intro ad H locs ls uc us K M hS hw hl huc hus h
  unfold wL_law_839 at h
  refine lv_iconst (v := 0) S.1 S.2.1 dL_law_839 (by decide) ?_
  exact lw_end FX hS (by omega) (by omega) h dL_law_840
def wL_law_668 (uc us : Nat) (K M : KS) : Prop := (0 : Int32) = 1
set_option maxHeartbeats 4000000 in
set_option maxRecDepth 100000 in
theorem bL_law_668 {p : Program} {l : Launch} {e : Env} {s : State} {m : MethodId} {below : List Frame} {meth : Method} {c : Code} {D : va_G} {cI : Nat → ClassId} {e0 : Nat} {A : Nat → Prop} {b L : Nat} {xs : Nat → Int32} {ap o : Int64} {od : UInt64} (FX : LX p l s m meth c D cI e0 A b L xs) : ∀ {ad : Nat → Nat → Nat} {H : Heap} {locs : List Loc} {ls : Array Slot} {uc us : Nat} {K M : KS}, va_S A s.heap H locs → HT D cI e0 A ad K M ap o od H → lv_has ls 24 [] → uc ≤ 897972 → us ≤ 6395332 → wL_law_668 uc us K M → W p l e room_1 s m #[Value.ref b] below meth c H locs uc us (lw_Z below #[Value.ref b] s) (F0 m 668 ls []) := by
  obtain ⟨hfl, S, hg, hX, hbl, hbA, hL⟩ := FX.facts
  intro ad H locs ls uc us K M hS hw hl huc hus h
  unfold wL_law_668 at h
  refine lv_iconst (v := 0) S.1 S.2.1 dL_law_668 (by decide) ?_
  exact lw_end FX hS (by omega) (by omega) h dL_law_669
def wL_law_562 (uc us : Nat) (K M : KS) : Prop := (0 : Int32) = 1
set_option maxHeartbeats 4000000 in
set_option maxRecDepth 100000 in
theorem bL_law_562 {p : Program} {l : Launch} {e : Env} {s : State} {m : MethodId} {below : List Frame} {meth : Method} {c : Code} {D : va_G} {cI : Nat → ClassId} {e0 : Nat} {A : Nat → Prop} {b L : Nat} {xs : Nat → Int32} {ap o : Int64} {od : UInt64} (FX : LX p l s m meth c D cI e0 A b L xs) : ∀ {ad : Nat → Nat → Nat} {H : Heap} {locs : List Loc} {ls : Array Slot} {uc us : Nat} {K M : KS}, va_S A s.heap H locs → HT D cI e0 A ad K M ap o od H → lv_has ls 24 [] → uc ≤ 897972 → us ≤ 6395332 → wL_law_562 uc us K M → W p l e room_1 s m #[Value.ref b] below meth c H locs uc us (lw_Z below #[Value.ref b] s) (F0 m 562 ls []) := by
  obtain ⟨hfl, S, hg, hX, hbl, hbA, hL⟩ := FX.facts
  intro ad H locs ls uc us K M hS hw hl huc hus h
  unfold wL_law_562 at h
  refine lv_iconst (v := 0) S.1 S.2.1 dL_law_562 (by decide) ?_
  exact lw_end FX hS (by omega) (by omega) h dL_law_563
def wL_law_559 (bk30 : Nat → Nat → Int32 → Int32 → Int32 → Int32 → Int32 → Int32 → KS → KS → Prop) (uc us : Nat) (l2 : Int32) (l3 : Int32) (l4 : Int32) (l5 : Int32) (l6 : Int32) (l8 : Int32) (l17 : Int64) (l19 : Int32) (t0 : Int32) (t1 : Int32) (K M : KS) : Prop := ((t1 = t0 → (wL_law_955 bk30 uc us l2 l3 l4 l5 l6 l8 l17 l19 K M)) ∧ (¬ t1 = t0 → (wL_law_562 uc us K M)))
set_option maxHeartbeats 4000000 in
set_option maxRecDepth 100000 in
theorem bL_law_559 {p : Program} {l : Launch} {e : Env} {s : State} {m : MethodId} {below : List Frame} {meth : Method} {c : Code} {D : va_G} {cI : Nat → ClassId} {e0 : Nat} {A : Nat → Prop} {b L : Nat} {xs : Nat → Int32} {ap o : Int64} {od : UInt64} {bk30 : Nat → Nat → Int32 → Int32 → Int32 → Int32 → Int32 → Int32 → KS → KS → Prop} (FX : LX p l s m meth c D cI e0 A b L xs) (hbk30 : ∀ {ad : Nat → Nat → Nat} {H : Heap} {locs : List Loc} {ls : Array Slot} {uc us : Nat} {l2 : Int32} {l3 : Int32} {l4 : Int32} {l5 : Int32} {l6 : Int32} {l8 : Int32} {K M : KS}, va_S A s.heap H locs → HT D cI e0 A ad K M ap o od H → lv_has ls 24 [(0, .ref b), (1, .ref (ad 0 0)), (2, .int l2), (3, .int l3), (4, .int l4), (5, .int l5), (6, .int l6), (7, .ref (ad 16 0)), (8, .int l8)] → uc ≤ 897972 → us ≤ 6395332 → bk30 uc us l2 l3 l4 l5 l6 l8 K M → W p l e room_1 s m #[Value.ref b] below meth c H locs uc us (lw_Z below #[Value.ref b] s) (F0 m 30 ls [])) : ∀ {ad : Nat → Nat → Nat} {H : Heap} {locs : List Loc} {ls : Array Slot} {uc us : Nat} {l2 : Int32} {l3 : Int32} {l4 : Int32} {l5 : Int32} {l6 : Int32} {l8 : Int32} {l17 : Int64} {l19 : Int32} {t0 : Int32} {t1 : Int32} {K M : KS}, va_S A s.heap H locs → HT D cI e0 A ad K M ap o od H → lv_has ls 24 [(0, .ref b), (1, .ref (ad 0 0)), (2, .int l2), (3, .int l3), (4, .int l4), (5, .int l5), (6, .int l6), (7, .ref (ad 16 0)), (8, .int l8), (17, .long (l17)), (19, .int l19)] → uc ≤ 897972 → us ≤ 6395332 → wL_law_559 bk30 uc us l2 l3 l4 l5 l6 l8 l17 l19 t0 t1 K M → W p l e room_1 s m #[Value.ref b] below meth c H locs uc us (lw_Z below #[Value.ref b] s) (F0 m 559 ls [.int t0, .int t1]) := by
  obtain ⟨hfl, S, hg, hX, hbl, hbA, hL⟩ := FX.facts
  intro ad H locs ls uc us l2 l3 l4 l5 l6 l8 l17 l19 t0 t1 K M hS hw hl huc hus h
  unfold wL_law_559 at h
  refine lv_icmp_eq (tgt := 955) S.1 S.2.1 dL_law_559 (by decide) (fun c173 => ?_) (fun c173 => ?_)
  · have h := h.1 c173
    have hl := lv_sub hl (l' := [(0, .ref b), (1, .ref (ad 0 0)), (2, .int l2), (3, .int l3), (4, .int l4), (5, .int l5), (6, .int l6), (7, .ref (ad 16 0)), (8, .int l8), (17, .long (l17)), (19, .int l19)]) [0, 1, 2, 3, 4, 5, 6, 7, 8, 9, 10] rfl
    exact bL_law_955 FX hbk30 hS hw hl (by omega) (by omega) h
  · have h := h.2 c173
    have hl := lv_sub hl (l' := []) [] rfl
    exact bL_law_562 FX hS hw hl (by omega) (by omega) h
def wL_law_538 (bk30 : Nat → Nat → Int32 → Int32 → Int32 → Int32 → Int32 → Int32 → KS → KS → Prop) (uc us : Nat) (l2 : Int32) (l3 : Int32) (l4 : Int32) (l5 : Int32) (l6 : Int32) (l8 : Int32) (l14 : Int32) (l17 : Int64) (l19 : Int32) (t0 : Int32) (K M : KS) : Prop := (∃ a169 a170 : Nat, uc + a169 ≤ 897972 ∧ us + a170 ≤ 6395332 ∧ wpL_c17 (fun r171 => ((r171 = (-1005) → (wL_law_559 bk30 (uc + a169) (us + a170) l2 l3 l4 l5 l6 l8 l17 l19 0 t0 K M)) ∧ (¬ r171 = (-1005) → (wL_law_559 bk30 (uc + a169) (us + a170) l2 l3 l4 l5 l6 l8 l17 l19 1 t0 K M)))) a169 a170 K l14 0 0)
set_option maxHeartbeats 4000000 in
set_option maxRecDepth 100000 in
theorem bL_law_538 {p : Program} {l : Launch} {e : Env} {s : State} {m : MethodId} {below : List Frame} {meth : Method} {c : Code} {D : va_G} {cI : Nat → ClassId} {e0 : Nat} {A : Nat → Prop} {b L : Nat} {xs : Nat → Int32} {ap o : Int64} {od : UInt64} {bk30 : Nat → Nat → Int32 → Int32 → Int32 → Int32 → Int32 → Int32 → KS → KS → Prop} (FX : LX p l s m meth c D cI e0 A b L xs) (hbk30 : ∀ {ad : Nat → Nat → Nat} {H : Heap} {locs : List Loc} {ls : Array Slot} {uc us : Nat} {l2 : Int32} {l3 : Int32} {l4 : Int32} {l5 : Int32} {l6 : Int32} {l8 : Int32} {K M : KS}, va_S A s.heap H locs → HT D cI e0 A ad K M ap o od H → lv_has ls 24 [(0, .ref b), (1, .ref (ad 0 0)), (2, .int l2), (3, .int l3), (4, .int l4), (5, .int l5), (6, .int l6), (7, .ref (ad 16 0)), (8, .int l8)] → uc ≤ 897972 → us ≤ 6395332 → bk30 uc us l2 l3 l4 l5 l6 l8 K M → W p l e room_1 s m #[Value.ref b] below meth c H locs uc us (lw_Z below #[Value.ref b] s) (F0 m 30 ls [])) : ∀ {ad : Nat → Nat → Nat} {H : Heap} {locs : List Loc} {ls : Array Slot} {uc us : Nat} {l2 : Int32} {l3 : Int32} {l4 : Int32} {l5 : Int32} {l6 : Int32} {l8 : Int32} {l14 : Int32} {l17 : Int64} {l19 : Int32} {t0 : Int32} {K M : KS}, va_S A s.heap H locs → HT D cI e0 A ad K M ap o od H → lv_has ls 24 [(0, .ref b), (1, .ref (ad 0 0)), (2, .int l2), (3, .int l3), (4, .int l4), (5, .int l5), (6, .int l6), (7, .ref (ad 16 0)), (8, .int l8), (14, .int l14), (17, .long (l17)), (19, .int l19)] → uc ≤ 897972 → us ≤ 6395332 → wL_law_538 bk30 uc us l2 l3 l4 l5 l6 l8 l14 l17 l19 t0 K M → W p l e room_1 s m #[Value.ref b] below meth c H locs uc us (lw_Z below #[Value.ref b] s) (F0 m 538 ls [.int t0]) := by
  obtain ⟨hfl, S, hg, hX, hbl, hbA, hL⟩ := FX.facts
  intro ad H locs ls uc us l2 l3 l4 l5 l6 l8 l14 l17 l19 t0 K M hS hw hl huc hus h
  unfold wL_law_538 at h
  refine lv_aload_n S.1 S.2.1 dL_law_538 rfl (lv_at hl 1 rfl) ?_
  refine lv_bipush (v := 17) S.1 S.2.1 dL_law_539 (by decide) ?_
  refine lv_iload S.1 S.2.1 dL_law_541 (lv_at hl 9 rfl) ?_
  refine lv_iconst (v := 0) S.1 S.2.1 dL_law_543 (by decide) ?_
  refine lv_iconst (v := 0) S.1 S.2.1 dL_law_544 (by decide) ?_
  obtain ⟨a169, a170, h1, h2, h⟩ := h
  refine r_callSW (rest := [.int t0]) S hg hS (mtL_c17 (mc := a169) (ms := a170) hfl h) u216 u217 u26 u218 hdL_call hw ⟨Nat.le_of_ble_eq_true rfl, Nat.le_of_ble_eq_true rfl⟩ ⟨by show uc + a169 ≤ 897972; omega, by show us + a170 ≤ 6395332; omega⟩ hl.1 (Nat.le_of_ble_eq_true rfl) rfl dL_law_545 (fun rv H locs hq hS => ?_)
  obtain ⟨r171, rfl, h, hw⟩ := hq
  show W p l e _ s m _ below meth c H locs _ _ _ (F0 m 548 ls [.int r171, .int t0])
  refine lv_sipush (v := (-1005)) S.1 S.2.1 dL_law_548 (by decide) ?_
  refine lv_icmp_eq (tgt := 558) S.1 S.2.1 dL_law_551 (by decide) (fun c172 => ?_) (fun c172 => ?_)
  · have h := h.1 c172
    refine lv_iconst (v := 0) S.1 S.2.1 dL_law_558 (by decide) ?_
    have hl := lv_sub hl (l' := [(0, .ref b), (1, .ref (ad 0 0)), (2, .int l2), (3, .int l3), (4, .int l4), (5, .int l5), (6, .int l6), (7, .ref (ad 16 0)), (8, .int l8), (17, .long (l17)), (19, .int l19)]) [0, 1, 2, 3, 4, 5, 6, 7, 8, 10, 11] rfl
    exact bL_law_559 FX hbk30 hS hw hl (by omega) (by omega) h
  · have h := h.2 c172
    refine lv_iconst (v := 1) S.1 S.2.1 dL_law_554 (by decide) ?_
    refine lv_goto (tgt := 559) S.1 S.2.1 dL_law_555 (by decide) ?_
    have hl := lv_sub hl (l' := [(0, .ref b), (1, .ref (ad 0 0)), (2, .int l2), (3, .int l3), (4, .int l4), (5, .int l5), (6, .int l6), (7, .ref (ad 16 0)), (8, .int l8), (17, .long (l17)), (19, .int l19)]) [0, 1, 2, 3, 4, 5, 6, 7, 8, 10, 11] rfl
    exact bL_law_559 FX hbk30 hS hw hl (by omega) (by omega) h
def wL_law_486 (bk30 : Nat → Nat → Int32 → Int32 → Int32 → Int32 → Int32 → Int32 → KS → KS → Prop) (uc us : Nat) (l2 : Int32) (l3 : Int32) (l4 : Int32) (l5 : Int32) (l6 : Int32) (l8 : Int32) (l17 : Int64) (l19 : Int32) (K M : KS) : Prop := wL_law_955 bk30 uc us l2 l3 l4 l5 l6 l8 l17 l19 K M
set_option maxHeartbeats 4000000 in
set_option maxRecDepth 100000 in
theorem bL_law_486 {p : Program} {l : Launch} {e : Env} {s : State} {m : MethodId} {below : List Frame} {meth : Method} {c : Code} {D : va_G} {cI : Nat → ClassId} {e0 : Nat} {A : Nat → Prop} {b L : Nat} {xs : Nat → Int32} {ap o : Int64} {od : UInt64} {bk30 : Nat → Nat → Int32 → Int32 → Int32 → Int32 → Int32 → Int32 → KS → KS → Prop} (FX : LX p l s m meth c D cI e0 A b L xs) (hbk30 : ∀ {ad : Nat → Nat → Nat} {H : Heap} {locs : List Loc} {ls : Array Slot} {uc us : Nat} {l2 : Int32} {l3 : Int32} {l4 : Int32} {l5 : Int32} {l6 : Int32} {l8 : Int32} {K M : KS}, va_S A s.heap H locs → HT D cI e0 A ad K M ap o od H → lv_has ls 24 [(0, .ref b), (1, .ref (ad 0 0)), (2, .int l2), (3, .int l3), (4, .int l4), (5, .int l5), (6, .int l6), (7, .ref (ad 16 0)), (8, .int l8)] → uc ≤ 897972 → us ≤ 6395332 → bk30 uc us l2 l3 l4 l5 l6 l8 K M → W p l e room_1 s m #[Value.ref b] below meth c H locs uc us (lw_Z below #[Value.ref b] s) (F0 m 30 ls [])) : ∀ {ad : Nat → Nat → Nat} {H : Heap} {locs : List Loc} {ls : Array Slot} {uc us : Nat} {l2 : Int32} {l3 : Int32} {l4 : Int32} {l5 : Int32} {l6 : Int32} {l8 : Int32} {l17 : Int64} {l19 : Int32} {K M : KS}, va_S A s.heap H locs → HT D cI e0 A ad K M ap o od H → lv_has ls 24 [(0, .ref b), (1, .ref (ad 0 0)), (2, .int l2), (3, .int l3), (4, .int l4), (5, .int l5), (6, .int l6), (7, .ref (ad 16 0)), (8, .int l8), (17, .long (l17)), (19, .int l19)] → uc ≤ 897972 → us ≤ 6395332 → wL_law_486 bk30 uc us l2 l3 l4 l5 l6 l8 l17 l19 K M → W p l e room_1 s m #[Value.ref b] below meth c H locs uc us (lw_Z below #[Value.ref b] s) (F0 m 486 ls []) := by
  obtain ⟨hfl, S, hg, hX, hbl, hbA, hL⟩ := FX.facts
  intro ad H locs ls uc us l2 l3 l4 l5 l6 l8 l17 l19 K M hS hw hl huc hus h
  unfold wL_law_486 at h
  refine lv_goto (tgt := 955) S.1 S.2.1 dL_law_486 (by decide) ?_
  have hl := lv_sub hl (l' := [(0, .ref b), (1, .ref (ad 0 0)), (2, .int l2), (3, .int l3), (4, .int l4), (5, .int l5), (6, .int l6), (7, .ref (ad 16 0)), (8, .int l8), (17, .long (l17)), (19, .int l19)]) [0, 1, 2, 3, 4, 5, 6, 7, 8, 9, 10] rfl
  exact bL_law_955 FX hbk30 hS hw hl (by omega) (by omega) h
def wL_law_484 (uc us : Nat) (K M : KS) : Prop := (0 : Int32) = 1
set_option maxHeartbeats 4000000 in
set_option maxRecDepth 100000 in
theorem bL_law_484 {p : Program} {l : Launch} {e : Env} {s : State} {m : MethodId} {below : List Frame} {meth : Method} {c : Code} {D : va_G} {cI : Nat → ClassId} {e0 : Nat} {A : Nat → Prop} {b L : Nat} {xs : Nat → Int32} {ap o : Int64} {od : UInt64} (FX : LX p l s m meth c D cI e0 A b L xs) : ∀ {ad : Nat → Nat → Nat} {H : Heap} {locs : List Loc} {ls : Array Slot} {uc us : Nat} {K M : KS}, va_S A s.heap H locs → HT D cI e0 A ad K M ap o od H → lv_has ls 24 [] → uc ≤ 897972 → us ≤ 6395332 → wL_law_484 uc us K M → W p l e room_1 s m #[Value.ref b] below meth c H locs uc us (lw_Z below #[Value.ref b] s) (F0 m 484 ls []) := by
  obtain ⟨hfl, S, hg, hX, hbl, hbA, hL⟩ := FX.facts
  intro ad H locs ls uc us K M hS hw hl huc hus h
  unfold wL_law_484 at h
  refine lv_iconst (v := 0) S.1 S.2.1 dL_law_484 (by decide) ?_
  exact lw_end FX hS (by omega) (by omega) h dL_law_485
def wL_law_342 (bk30 : Nat → Nat → Int32 → Int32 → Int32 → Int32 → Int32 → Int32 → KS → KS → Prop) (uc us : Nat) (l2 : Int32) (l3 : Int32) (l5 : Int32) (l6 : Int32) (l8 : Int32) (l17 : Int64) (l19 : Int32) (t0 : Int32) (t1 : Int32) (K M : KS) : Prop := wL_law_955 bk30 uc us l2 l3 (t1 + t0) l5 l6 l8 l17 l19 K M
set_option maxHeartbeats 4000000 in
set_option maxRecDepth 100000 in
theorem bL_law_342 {p : Program} {l : Launch} {e : Env} {s : State} {m : MethodId} {below : List Frame} {meth : Method} {c : Code} {D : va_G} {cI : Nat → ClassId} {e0 : Nat} {A : Nat → Prop} {b L : Nat} {xs : Nat → Int32} {ap o : Int64} {od : UInt64} {bk30 : Nat → Nat → Int32 → Int32 → Int32 → Int32 → Int32 → Int32 → KS → KS → Prop} (FX : LX p l s m meth c D cI e0 A b L xs) (hbk30 : ∀ {ad : Nat → Nat → Nat} {H : Heap} {locs : List Loc} {ls : Array Slot} {uc us : Nat} {l2 : Int32} {l3 : Int32} {l4 : Int32} {l5 : Int32} {l6 : Int32} {l8 : Int32} {K M : KS}, va_S A s.heap H locs → HT D cI e0 A ad K M ap o od H → lv_has ls 24 [(0, .ref b), (1, .ref (ad 0 0)), (2, .int l2), (3, .int l3), (4, .int l4), (5, .int l5), (6, .int l6), (7, .ref (ad 16 0)), (8, .int l8)] → uc ≤ 897972 → us ≤ 6395332 → bk30 uc us l2 l3 l4 l5 l6 l8 K M → W p l e room_1 s m #[Value.ref b] below meth c H locs uc us (lw_Z below #[Value.ref b] s) (F0 m 30 ls [])) : ∀ {ad : Nat → Nat → Nat} {H : Heap} {locs : List Loc} {ls : Array Slot} {uc us : Nat} {l2 : Int32} {l3 : Int32} {l5 : Int32} {l6 : Int32} {l8 : Int32} {l17 : Int64} {l19 : Int32} {t0 : Int32} {t1 : Int32} {K M : KS}, va_S A s.heap H locs → HT D cI e0 A ad K M ap o od H → lv_has ls 24 [(0, .ref b), (1, .ref (ad 0 0)), (2, .int l2), (3, .int l3), (5, .int l5), (6, .int l6), (7, .ref (ad 16 0)), (8, .int l8), (17, .long (l17)), (19, .int l19)] → uc ≤ 897972 → us ≤ 6395332 → wL_law_342 bk30 uc us l2 l3 l5 l6 l8 l17 l19 t0 t1 K M → W p l e room_1 s m #[Value.ref b] below meth c H locs uc us (lw_Z below #[Value.ref b] s) (F0 m 342 ls [.int t0, .int t1]) := by
  obtain ⟨hfl, S, hg, hX, hbl, hbA, hL⟩ := FX.facts
  intro ad H locs ls uc us l2 l3 l5 l6 l8 l17 l19 t0 t1 K M hS hw hl huc hus h
  unfold wL_law_342 at h
  refine lv_iadd S.1 S.2.1 dL_law_342 ?_
  refine lv_istore (lv' := [(4, .int (t1 + t0)), (0, .ref b), (1, .ref (ad 0 0)), (2, .int l2), (3, .int l3), (5, .int l5), (6, .int l6), (7, .ref (ad 16 0)), (8, .int l8), (17, .long (l17)), (19, .int l19)]) S.1 S.2.1 dL_law_343 hl (by decide) rfl (fun ls hl => ?_)
  refine lv_goto (tgt := 955) S.1 S.2.1 dL_law_345 (by decide) ?_
  have hl := lv_sub hl (l' := [(0, .ref b), (1, .ref (ad 0 0)), (2, .int l2), (3, .int l3), (4, .int (t1 + t0)), (5, .int l5), (6, .int l6), (7, .ref (ad 16 0)), (8, .int l8), (17, .long (l17)), (19, .int l19)]) [1, 2, 3, 4, 0, 5, 6, 7, 8, 9, 10] rfl
  exact bL_law_955 FX hbk30 hS hw hl (by omega) (by omega) h
def wL_law_306 (bk30 : Nat → Nat → Int32 → Int32 → Int32 → Int32 → Int32 → Int32 → KS → KS → Prop) (uc us : Nat) (l2 : Int32) (l4 : Int32) (l5 : Int32) (l6 : Int32) (l8 : Int32) (l17 : Int64) (l19 : Int32) (t0 : Int32) (t1 : Int32) (K M : KS) : Prop := wL_law_955 bk30 uc us l2 (t1 + t0) l4 l5 l6 l8 l17 l19 K M
set_option maxHeartbeats 4000000 in
set_option maxRecDepth 100000 in
theorem bL_law_306 {p : Program} {l : Launch} {e : Env} {s : State} {m : MethodId} {below : List Frame} {meth : Method} {c : Code} {D : va_G} {cI : Nat → ClassId} {e0 : Nat} {A : Nat → Prop} {b L : Nat} {xs : Nat → Int32} {ap o : Int64} {od : UInt64} {bk30 : Nat → Nat → Int32 → Int32 → Int32 → Int32 → Int32 → Int32 → KS → KS → Prop} (FX : LX p l s m meth c D cI e0 A b L xs) (hbk30 : ∀ {ad : Nat → Nat → Nat} {H : Heap} {locs : List Loc} {ls : Array Slot} {uc us : Nat} {l2 : Int32} {l3 : Int32} {l4 : Int32} {l5 : Int32} {l6 : Int32} {l8 : Int32} {K M : KS}, va_S A s.heap H locs → HT D cI e0 A ad K M ap o od H → lv_has ls 24 [(0, .ref b), (1, .ref (ad 0 0)), (2, .int l2), (3, .int l3), (4, .int l4), (5, .int l5), (6, .int l6), (7, .ref (ad 16 0)), (8, .int l8)] → uc ≤ 897972 → us ≤ 6395332 → bk30 uc us l2 l3 l4 l5 l6 l8 K M → W p l e room_1 s m #[Value.ref b] below meth c H locs uc us (lw_Z below #[Value.ref b] s) (F0 m 30 ls [])) : ∀ {ad : Nat → Nat → Nat} {H : Heap} {locs : List Loc} {ls : Array Slot} {uc us : Nat} {l2 : Int32} {l4 : Int32} {l5 : Int32} {l6 : Int32} {l8 : Int32} {l17 : Int64} {l19 : Int32} {t0 : Int32} {t1 : Int32} {K M : KS}, va_S A s.heap H locs → HT D cI e0 A ad K M ap o od H → lv_has ls 24 [(0, .ref b), (1, .ref (ad 0 0)), (2, .int l2), (4, .int l4), (5, .int l5), (6, .int l6), (7, .ref (ad 16 0)), (8, .int l8), (17, .long (l17)), (19, .int l19)] → uc ≤ 897972 → us ≤ 6395332 → wL_law_306 bk30 uc us l2 l4 l5 l6 l8 l17 l19 t0 t1 K M → W p l e room_1 s m #[Value.ref b] below meth c H locs uc us (lw_Z below #[Value.ref b] s) (F0 m 306 ls [.int t0, .int t1]) := by
  obtain ⟨hfl, S, hg, hX, hbl, hbA, hL⟩ := FX.facts
  intro ad H locs ls uc us l2 l4 l5 l6 l8 l17 l19 t0 t1 K M hS hw hl huc hus h
  unfold wL_law_306 at h
  refine lv_iadd S.1 S.2.1 dL_law_306 ?_
  refine lv_istore_n (lv' := [(3, .int (t1 + t0)), (0, .ref b), (1, .ref (ad 0 0)), (2, .int l2), (4, .int l4), (5, .int l5), (6, .int l6), (7, .ref (ad 16 0)), (8, .int l8), (17, .long (l17)), (19, .int l19)]) S.1 S.2.1 dL_law_307 rfl hl (by decide) rfl (fun ls hl => ?_)
  refine lv_goto (tgt := 955) S.1 S.2.1 dL_law_308 (by decide) ?_
  have hl := lv_sub hl (l' := [(0, .ref b), (1, .ref (ad 0 0)), (2, .int l2), (3, .int (t1 + t0)), (4, .int l4), (5, .int l5), (6, .int l6), (7, .ref (ad 16 0)), (8, .int l8), (17, .long (l17)), (19, .int l19)]) [1, 2, 3, 0, 4, 5, 6, 7, 8, 9, 10] rfl
  exact bL_law_955 FX hbk30 hS hw hl (by omega) (by omega) h
def wL_law_282 (bk30 : Nat → Nat → Int32 → Int32 → Int32 → Int32 → Int32 → Int32 → KS → KS → Prop) (uc us : Nat) (l2 : Int32) (l3 : Int32) (l4 : Int32) (l5 : Int32) (l6 : Int32) (l8 : Int32) (l10 : Int32) (l17 : Int64) (t0 : Int32) (K M : KS) : Prop := (wpL_low (fun r209 => (∃ a210 a211 : Nat, uc + a210 ≤ 897972 ∧ us + a211 ≤ 6395332 ∧ wpL_c1 (fun r212 K213 => ((r212 < 0 → (wL_law_306 bk30 (uc + a210) (us + a211) l2 l4 l5 l6 l8 l17 r212 0 l3 K213 M)) ∧ (¬ r212 < 0 → (wL_law_306 bk30 (uc + a210) (us + a211) l2 l4 l5 l6 l8 l17 r212 1 l3 K213 M)))) a210 a211 K t0 r209 0)) K l10 17)
set_option maxHeartbeats 4000000 in
set_option maxRecDepth 100000 in
theorem bL_law_282 {p : Program} {l : Launch} {e : Env} {s : State} {m : MethodId} {below : List Frame} {meth : Method} {c : Code} {D : va_G} {cI : Nat → ClassId} {e0 : Nat} {A : Nat → Prop} {b L : Nat} {xs : Nat → Int32} {ap o : Int64} {od : UInt64} {bk30 : Nat → Nat → Int32 → Int32 → Int32 → Int32 → Int32 → Int32 → KS → KS → Prop} (FX : LX p l s m meth c D cI e0 A b L xs) (hbk30 : ∀ {ad : Nat → Nat → Nat} {H : Heap} {locs : List Loc} {ls : Array Slot} {uc us : Nat} {l2 : Int32} {l3 : Int32} {l4 : Int32} {l5 : Int32} {l6 : Int32} {l8 : Int32} {K M : KS}, va_S A s.heap H locs → HT D cI e0 A ad K M ap o od H → lv_has ls 24 [(0, .ref b), (1, .ref (ad 0 0)), (2, .int l2), (3, .int l3), (4, .int l4), (5, .int l5), (6, .int l6), (7, .ref (ad 16 0)), (8, .int l8)] → uc ≤ 897972 → us ≤ 6395332 → bk30 uc us l2 l3 l4 l5 l6 l8 K M → W p l e room_1 s m #[Value.ref b] below meth c H locs uc us (lw_Z below #[Value.ref b] s) (F0 m 30 ls [])) : ∀ {ad : Nat → Nat → Nat} {H : Heap} {locs : List Loc} {ls : Array Slot} {uc us : Nat} {l2 : Int32} {l3 : Int32} {l4 : Int32} {l5 : Int32} {l6 : Int32} {l8 : Int32} {l10 : Int32} {l17 : Int64} {t0 : Int32} {K M : KS}, va_S A s.heap H locs → HT D cI e0 A ad K M ap o od H → lv_has ls 24 [(0, .ref b), (1, .ref (ad 0 0)), (2, .int l2), (3, .int l3), (4, .int l4), (5, .int l5), (6, .int l6), (7, .ref (ad 16 0)), (8, .int l8), (10, .int l10), (17, .long (l17))] → uc ≤ 897972 → us ≤ 6395332 → wL_law_282 bk30 uc us l2 l3 l4 l5 l6 l8 l10 l17 t0 K M → W p l e room_1 s m #[Value.ref b] below meth c H locs uc us (lw_Z below #[Value.ref b] s) (F0 m 282 ls [.int t0, .int 1, .ref (ad 0 0)]) := by
  obtain ⟨hfl, S, hg, hX, hbl, hbA, hL⟩ := FX.facts
  intro ad H locs ls uc us l2 l3 l4 l5 l6 l8 l10 l17 t0 K M hS hw hl huc hus h
  unfold wL_law_282 at h
  refine lv_iload S.1 S.2.1 dL_law_282 (lv_at hl 9 rfl) ?_
  refine lv_bipush (v := 17) S.1 S.2.1 dL_law_284 (by decide) ?_
  refine r_callS (rest := [.int t0, .int 1, .ref (ad 0 0)]) S hg hS (mtL_low (mc := 0) (ms := 0) h) u212 u213 u26 u214 hdL_low hw ⟨Nat.le_of_ble_eq_true rfl, Nat.le_of_ble_eq_true rfl⟩ ⟨by show uc + 0 ≤ 897972; omega, by show us + 0 ≤ 6395332; omega⟩ hl.1 (Nat.le_of_ble_eq_true rfl) rfl dL_law_286 (fun E ce q H1 locs1 hx hS1 hc1 hc2 hc3 => hx.elim) (fun rv H locs hq hS => ?_)
  obtain ⟨r209, rfl, h, hw⟩ := hq
  show W p l e _ s m _ below meth c H locs _ _ _ (F0 m 289 ls [.int r209, .int t0, .int 1, .ref (ad 0 0)])
  show W p l e _ s m _ below meth c H locs uc us _ _
  refine lv_iconst (v := 0) S.1 S.2.1 dL_law_289 (by decide) ?_
  obtain ⟨a210, a211, h1, h2, h⟩ := h
  refine r_callSW (rest := []) S hg hS (mtL_c1 (mc := a210) (ms := a211) hfl h) u216 u217 u26 u218 hdL_call hw ⟨Nat.le_of_ble_eq_true rfl, Nat.le_of_ble_eq_true rfl⟩ ⟨by show uc + a210 ≤ 897972; omega, by show us + a211 ≤ 6395332; omega⟩ hl.1 (Nat.le_of_ble_eq_true rfl) rfl dL_law_290 (fun rv H locs hq hS => ?_)
  obtain ⟨r212, K213, ad1, rfl, h, hA, hw⟩ := hq
  rw [hA.1] at hl
  rw [hA.2] at hl
  clear hA
  revert hl
  revert hw
  generalize ad1 = ad
  intro hw hl
  show W p l e _ s m _ below meth c H locs _ _ _ (F0 m 293 ls [.int r212])
  refine lv_istore (lv' := [(19, .int r212), (0, .ref b), (1, .ref (ad 0 0)), (2, .int l2), (3, .int l3), (4, .int l4), (5, .int l5), (6, .int l6), (7, .ref (ad 16 0)), (8, .int l8), (10, .int l10), (17, .long (l17))]) S.1 S.2.1 dL_law_293 hl (by decide) rfl (fun ls hl => ?_)
  refine lv_iload_n S.1 S.2.1 dL_law_295 rfl (lv_at hl 4 rfl) ?_
  refine lv_iload S.1 S.2.1 dL_law_296 (lv_at hl 0 rfl) ?_
  refine lv_if_lt (tgt := 305) S.1 S.2.1 dL_law_298 (by decide) (fun c214 => ?_) (fun c214 => ?_)
  · have h := h.1 c214
    refine lv_iconst (v := 0) S.1 S.2.1 dL_law_305 (by decide) ?_
    have hl := lv_sub hl (l' := [(0, .ref b), (1, .ref (ad 0 0)), (2, .int l2), (4, .int l4), (5, .int l5), (6, .int l6), (7, .ref (ad 16 0)), (8, .int l8), (17, .long (l17)), (19, .int r212)]) [1, 2, 3, 5, 6, 7, 8, 9, 11, 0] rfl
    exact bL_law_306 FX hbk30 hS hw hl (by omega) (by omega) h
  · have h := h.2 c214
    refine lv_iconst (v := 1) S.1 S.2.1 dL_law_301 (by decide) ?_
    refine lv_goto (tgt := 306) S.1 S.2.1 dL_law_302 (by decide) ?_
    have hl := lv_sub hl (l' := [(0, .ref b), (1, .ref (ad 0 0)), (2, .int l2), (4, .int l4), (5, .int l5), (6, .int l6), (7, .ref (ad 16 0)), (8, .int l8), (17, .long (l17)), (19, .int r212)]) [1, 2, 3, 5, 6, 7, 8, 9, 11, 0] rfl
    exact bL_law_306 FX hbk30 hS hw hl (by omega) (by omega) h
def wL_law_253 (bk30 : Nat → Nat → Int32 → Int32 → Int32 → Int32 → Int32 → Int32 → KS → KS → Prop) (uc us : Nat) (l3 : Int32) (l4 : Int32) (l5 : Int32) (l6 : Int32) (l8 : Int32) (l17 : Int64) (l19 : Int32) (t0 : Int32) (t1 : Int32) (K M : KS) : Prop := wL_law_955 bk30 uc us (t1 + t0) l3 l4 l5 l6 l8 l17 l19 K M
set_option maxHeartbeats 4000000 in
set_option maxRecDepth 100000 in
theorem bL_law_253 {p : Program} {l : Launch} {e : Env} {s : State} {m : MethodId} {below : List Frame} {meth : Method} {c : Code} {D : va_G} {cI : Nat → ClassId} {e0 : Nat} {A : Nat → Prop} {b L : Nat} {xs : Nat → Int32} {ap o : Int64} {od : UInt64} {bk30 : Nat → Nat → Int32 → Int32 → Int32 → Int32 → Int32 → Int32 → KS → KS → Prop} (FX : LX p l s m meth c D cI e0 A b L xs) (hbk30 : ∀ {ad : Nat → Nat → Nat} {H : Heap} {locs : List Loc} {ls : Array Slot} {uc us : Nat} {l2 : Int32} {l3 : Int32} {l4 : Int32} {l5 : Int32} {l6 : Int32} {l8 : Int32} {K M : KS}, va_S A s.heap H locs → HT D cI e0 A ad K M ap o od H → lv_has ls 24 [(0, .ref b), (1, .ref (ad 0 0)), (2, .int l2), (3, .int l3), (4, .int l4), (5, .int l5), (6, .int l6), (7, .ref (ad 16 0)), (8, .int l8)] → uc ≤ 897972 → us ≤ 6395332 → bk30 uc us l2 l3 l4 l5 l6 l8 K M → W p l e room_1 s m #[Value.ref b] below meth c H locs uc us (lw_Z below #[Value.ref b] s) (F0 m 30 ls [])) : ∀ {ad : Nat → Nat → Nat} {H : Heap} {locs : List Loc} {ls : Array Slot} {uc us : Nat} {l3 : Int32} {l4 : Int32} {l5 : Int32} {l6 : Int32} {l8 : Int32} {l17 : Int64} {l19 : Int32} {t0 : Int32} {t1 : Int32} {K M : KS}, va_S A s.heap H locs → HT D cI e0 A ad K M ap o od H → lv_has ls 24 [(0, .ref b), (1, .ref (ad 0 0)), (3, .int l3), (4, .int l4), (5, .int l5), (6, .int l6), (7, .ref (ad 16 0)), (8, .int l8), (17, .long (l17)), (19, .int l19)] → uc ≤ 897972 → us ≤ 6395332 → wL_law_253 bk30 uc us l3 l4 l5 l6 l8 l17 l19 t0 t1 K M → W p l e room_1 s m #[Value.ref b] below meth c H locs uc us (lw_Z below #[Value.ref b] s) (F0 m 253 ls [.int t0, .int t1]) := by
  obtain ⟨hfl, S, hg, hX, hbl, hbA, hL⟩ := FX.facts
  intro ad H locs ls uc us l3 l4 l5 l6 l8 l17 l19 t0 t1 K M hS hw hl huc hus h
  unfold wL_law_253 at h
  refine lv_iadd S.1 S.2.1 dL_law_253 ?_
  refine lv_istore_n (lv' := [(2, .int (t1 + t0)), (0, .ref b), (1, .ref (ad 0 0)), (3, .int l3), (4, .int l4), (5, .int l5), (6, .int l6), (7, .ref (ad 16 0)), (8, .int l8), (17, .long (l17)), (19, .int l19)]) S.1 S.2.1 dL_law_254 rfl hl (by decide) rfl (fun ls hl => ?_)
  refine lv_goto (tgt := 955) S.1 S.2.1 dL_law_255 (by decide) ?_
  have hl := lv_sub hl (l' := [(0, .ref b), (1, .ref (ad 0 0)), (2, .int (t1 + t0)), (3, .int l3), (4, .int l4), (5, .int l5), (6, .int l6), (7, .ref (ad 16 0)), (8, .int l8), (17, .long (l17)), (19, .int l19)]) [1, 2, 0, 3, 4, 5, 6, 7, 8, 9, 10] rfl
  exact bL_law_955 FX hbk30 hS hw hl (by omega) (by omega) h
def wL_law_239 (bk30 : Nat → Nat → Int32 → Int32 → Int32 → Int32 → Int32 → Int32 → KS → KS → Prop) (uc us : Nat) (l2 : Int32) (l3 : Int32) (l4 : Int32) (l5 : Int32) (l8 : Int32) (l17 : Int64) (l19 : Int32) (t0 : Int32) (t1 : Int32) (K M : KS) : Prop := ((l19 < 0 → (wL_law_253 bk30 uc us l3 l4 l5 (t1 + t0) l8 l17 l19 0 l2 K M)) ∧ (¬ l19 < 0 → (wL_law_253 bk30 uc us l3 l4 l5 (t1 + t0) l8 l17 l19 1 l2 K M)))
set_option maxHeartbeats 4000000 in
set_option maxRecDepth 100000 in
theorem bL_law_239 {p : Program} {l : Launch} {e : Env} {s : State} {m : MethodId} {below : List Frame} {meth : Method} {c : Code} {D : va_G} {cI : Nat → ClassId} {e0 : Nat} {A : Nat → Prop} {b L : Nat} {xs : Nat → Int32} {ap o : Int64} {od : UInt64} {bk30 : Nat → Nat → Int32 → Int32 → Int32 → Int32 → Int32 → Int32 → KS → KS → Prop} (FX : LX p l s m meth c D cI e0 A b L xs) (hbk30 : ∀ {ad : Nat → Nat → Nat} {H : Heap} {locs : List Loc} {ls : Array Slot} {uc us : Nat} {l2 : Int32} {l3 : Int32} {l4 : Int32} {l5 : Int32} {l6 : Int32} {l8 : Int32} {K M : KS}, va_S A s.heap H locs → HT D cI e0 A ad K M ap o od H → lv_has ls 24 [(0, .ref b), (1, .ref (ad 0 0)), (2, .int l2), (3, .int l3), (4, .int l4), (5, .int l5), (6, .int l6), (7, .ref (ad 16 0)), (8, .int l8)] → uc ≤ 897972 → us ≤ 6395332 → bk30 uc us l2 l3 l4 l5 l6 l8 K M → W p l e room_1 s m #[Value.ref b] below meth c H locs uc us (lw_Z below #[Value.ref b] s) (F0 m 30 ls [])) : ∀ {ad : Nat → Nat → Nat} {H : Heap} {locs : List Loc} {ls : Array Slot} {uc us : Nat} {l2 : Int32} {l3 : Int32} {l4 : Int32} {l5 : Int32} {l8 : Int32} {l17 : Int64} {l19 : Int32} {t0 : Int32} {t1 : Int32} {K M : KS}, va_S A s.heap H locs → HT D cI e0 A ad K M ap o od H → lv_has ls 24 [(0, .ref b), (1, .ref (ad 0 0)), (2, .int l2), (3, .int l3), (4, .int l4), (5, .int l5), (7, .ref (ad 16 0)), (8, .int l8), (17, .long (l17)), (19, .int l19)] → uc ≤ 897972 → us ≤ 6395332 → wL_law_239 bk30 uc us l2 l3 l4 l5 l8 l17 l19 t0 t1 K M → W p l e room_1 s m #[Value.ref b] below meth c H locs uc us (lw_Z below #[Value.ref b] s) (F0 m 239 ls [.int t0, .int t1]) := by
  obtain ⟨hfl, S, hg, hX, hbl, hbA, hL⟩ := FX.facts
  intro ad H locs ls uc us l2 l3 l4 l5 l8 l17 l19 t0 t1 K M hS hw hl huc hus h
  unfold wL_law_239 at h
  refine lv_iadd S.1 S.2.1 dL_law_239 ?_
  refine lv_istore (lv' := [(6, .int (t1 + t0)), (0, .ref b), (1, .ref (ad 0 0)), (2, .int l2), (3, .int l3), (4, .int l4), (5, .int l5), (7, .ref (ad 16 0)), (8, .int l8), (17, .long (l17)), (19, .int l19)]) S.1 S.2.1 dL_law_240 hl (by decide) rfl (fun ls hl => ?_)
  refine lv_iload_n S.1 S.2.1 dL_law_242 rfl (lv_at hl 3 rfl) ?_
  refine lv_iload S.1 S.2.1 dL_law_243 (lv_at hl 10 rfl) ?_
  refine lv_if_lt (tgt := 252) S.1 S.2.1 dL_law_245 (by decide) (fun c221 => ?_) (fun c221 => ?_)
  · have h := h.1 c221
    refine lv_iconst (v := 0) S.1 S.2.1 dL_law_252 (by decide) ?_
    have hl := lv_sub hl (l' := [(0, .ref b), (1, .ref (ad 0 0)), (3, .int l3), (4, .int l4), (5, .int l5), (6, .int (t1 + t0)), (7, .ref (ad 16 0)), (8, .int l8), (17, .long (l17)), (19, .int l19)]) [1, 2, 4, 5, 6, 0, 7, 8, 9, 10] rfl
    exact bL_law_253 FX hbk30 hS hw hl (by omega) (by omega) h
  · have h := h.2 c221
    refine lv_iconst (v := 1) S.1 S.2.1 dL_law_248 (by decide) ?_
    refine lv_goto (tgt := 253) S.1 S.2.1 dL_law_249 (by decide) ?_
    have hl := lv_sub hl (l' := [(0, .ref b), (1, .ref (ad 0 0)), (3, .int l3), (4, .int l4), (5, .int l5), (6, .int (t1 + t0)), (7, .ref (ad 16 0)), (8, .int l8), (17, .long (l17)), (19, .int l19)]) [1, 2, 4, 5, 6, 0, 7, 8, 9, 10] rfl
    exact bL_law_253 FX hbk30 hS hw hl (by omega) (by omega) h
def wL_law_181 (bk30 : Nat → Nat → Int32 → Int32 → Int32 → Int32 → Int32 → Int32 → KS → KS → Prop) (uc us : Nat) (l2 : Int32) (l3 : Int32) (l4 : Int32) (l5 : Int32) (l6 : Int32) (l8 : Int32) (l10 : Int32) (l11 : Int32) (l12 : Int32) (l13 : Int32) (l14 : Int32) (l15 : Int32) (t0 : Int32) (K M : KS) : Prop := (∃ a31 a32 : Nat, uc + a31 ≤ 897972 ∧ us + a32 ≤ 6395332 ∧ wpL_state (fun r33 => ((¬ t0 = 0 → (((3 ≤ t0 → (((¬ t0 = 3 → (((8 ≤ t0 → (((¬ t0 = 8 → (((13 ≤ t0 → (((16 ≤ t0 → (((¬ t0 = 16 → (((19 ≤ t0 → (((21 ≤ t0 → (((24 ≤ t0 → (((¬ t0 = 24 → ((∃ a46 a47 : Nat, (uc + a31) + a46 ≤ 897972 ∧ (us + a32) + a47 ≤ 6395332 ∧ wpL_c24 (fun r48 K49 => ((r48 < 0 → (wL_law_955 bk30 ((uc + a31) + a46) ((us + a32) + a47) l2 l3 l4 l5 l6 l8 r33 r48 K49 M)) ∧ (¬ r48 < 0 → ((∃ a80 a81 : Nat, ((uc + a31) + a46) + a80 ≤ 897972 ∧ ((us + a32) + a47) + a81 ≤ 6395332 ∧ wpL_c2 (fun r82 => ((r82 = l11 → (wL_law_955 bk30 (((uc + a31) + a46) + a80) (((us + a32) + a47) + a81) l2 l3 l4 l5 l6 l8 r33 r48 K49 M)) ∧ (¬ r82 = l11 → ((0 : Int32) = 1)))) a80 a81 K49 r48 0 0))))) a46 a47 K l11 l15 0))) ∧ (t0 = 24 → ((∃ a84 a85 : Nat, (uc + a31) + a84 ≤ 897972 ∧ (us + a32) + a85 ≤ 6395332 ∧ wpL_c23 (fun r86 K87 => wL_law_955 bk30 ((uc + a31) + a84) ((us + a32) + a85) l2 l3 l4 l5 l6 l8 r33 r86 K87 M) a84 a85 K l15 0 0)))))) ∧ (¬ 24 ≤ t0 → ((wpL_low (fun r88 => (∃ a89 a90 : Nat, (uc + a31) + a89 ≤ 897972 ∧ (us + a32) + a90 ≤ 6395332 ∧ wpL_c22 (fun r91 K92 => ((r91 < 0 → (wL_law_893 bk30 ((uc + a31) + a89) ((us + a32) + a90) l2 l3 l4 l6 l8 r33 r91 0 l5 K92 M)) ∧ (¬ r91 < 0 → (wL_law_893 bk30 ((uc + a31) + a89) ((us + a32) + a90) l2 l3 l4 l6 l8 r33 r91 1 l5 K92 M)))) a89 a90 K l13 r88 0)) K (l10 >>> (8 &&& 31)) 90)))))) ∧ (¬ 21 ≤ t0 → ((wpL_low (fun r94 => (∃ a95 a96 : Nat, (uc + a31) + a95 ≤ 897972 ∧ (us + a32) + a96 ≤ 6395332 ∧ wpL_c21 (fun r97 K98 => ((r97 < 0 → (wL_law_850 bk30 ((uc + a31) + a95) ((us + a32) + a96) l2 l3 l4 l5 l6 l8 r33 r97 K98 M)) ∧ (¬ r97 < 0 → ((vp_in l14 8) ∧ ((((M 16 0 l14.toNatClampNeg) ≤ r94 → (wL_law_839 ((uc + a31) + a95) ((us + a32) + a96) K98 M)) ∧ (¬ (M 16 0 l14.toNatClampNeg) ≤ r94 → ((∃ a102 a103 : Nat, ((uc + a31) + a95) + a102 ≤ 897972 ∧ ((us + a32) + a96) + a103 ≤ 6395332 ∧ wpL_c13 (fun r104 => ((¬ r104 = 103 → (wL_law_839 (((uc + a31) + a95) + a102) (((us + a32) + a96) + a103) K98 M)) ∧ (r104 = 103 → ((∃ a106 a107 : Nat, (((uc + a31) + a95) + a102) + a106 ≤ 897972 ∧ (((us + a32) + a96) + a103) + a107 ≤ 6395332 ∧ wpL_c14_0 (fun r108 => (∃ a109 a110 : Nat, ((((uc + a31) + a95) + a102) + a106) + a109 ≤ 897972 ∧ ((((us + a32) + a96) + a103) + a107) + a110 ≤ 6395332 ∧ wpL_c20 (fun r111 => ((¬ r108 = r111 → (wL_law_839 (((((uc + a31) + a95) + a102) + a106) + a109) (((((us + a32) + a96) + a103) + a107) + a110) K98 M)) ∧ (r108 = r111 → ((∃ a113 a114 : Nat, (((((uc + a31) + a95) + a102) + a106) + a109) + a113 ≤ 897972 ∧ (((((us + a32) + a96) + a103) + a107) + a110) + a114 ≤ 6395332 ∧ wpL_c14_1 (fun r115 => (∃ a116 a117 : Nat, ((((((uc + a31) + a95) + a102) + a106) + a109) + a113) + a116 ≤ 897972 ∧ ((((((us + a32) + a96) + a103) + a107) + a110) + a114) + a117 ≤ 6395332 ∧ wpL_c20 (fun r118 => ((¬ r115 = r118 → (wL_law_839 (((((((uc + a31) + a95) + a102) + a106) + a109) + a113) + a116) (((((((us + a32) + a96) + a103) + a107) + a110) + a114) + a117) K98 M)) ∧ (r115 = r118 → ((∃ a120 a121 : Nat, (((((((uc + a31) + a95) + a102) + a106) + a109) + a113) + a116) + a120 ≤ 897972 ∧ (((((((us + a32) + a96) + a103) + a107) + a110) + a114) + a117) + a121 ≤ 6395332 ∧ wpL_c15 (fun r122 => (∃ a123 a124 : Nat, ((((((((uc + a31) + a95) + a102) + a106) + a109) + a113) + a116) + a120) + a123 ≤ 897972 ∧ ((((((((us + a32) + a96) + a103) + a107) + a110) + a114) + a117) + a121) + a124 ≤ 6395332 ∧ wpL_c20 (fun r125 => ((¬ r122 = r125 → (wL_law_839 (((((((((uc + a31) + a95) + a102) + a106) + a109) + a113) + a116) + a120) + a123) (((((((((us + a32) + a96) + a103) + a107) + a110) + a114) + a117) + a121) + a124) K98 M)) ∧ (r122 = r125 → ((∃ a127 a128 : Nat, (((((((((uc + a31) + a95) + a102) + a106) + a109) + a113) + a116) + a120) + a123) + a127 ≤ 897972 ∧ (((((((((us + a32) + a96) + a103) + a107) + a110) + a114) + a117) + a121) + a124) + a128 ≤ 6395332 ∧ wpL_c16 (fun r129 => (∃ a130 a131 : Nat, ((((((((((uc + a31) + a95) + a102) + a106) + a109) + a113) + a116) + a120) + a123) + a127) + a130 ≤ 897972 ∧ ((((((((((us + a32) + a96) + a103) + a107) + a110) + a114) + a117) + a121) + a124) + a128) + a131 ≤ 6395332 ∧ wpL_c20 (fun r132 => ((r129 = r132 → (wL_law_850 bk30 (((((((((((uc + a31) + a95) + a102) + a106) + a109) + a113) + a116) + a120) + a123) + a127) + a130) (((((((((((us + a32) + a96) + a103) + a107) + a110) + a114) + a117) + a121) + a124) + a128) + a131) l2 l3 l4 l5 l6 l8 r33 r97 K98 (k3 M 16 0 l14.toNatClampNeg (r94 + 1)))) ∧ (¬ r129 = r132 → (wL_law_839 (((((((((((uc + a31) + a95) + a102) + a106) + a109) + a113) + a116) + a120) + a123) + a127) + a130) (((((((((((us + a32) + a96) + a103) + a107) + a110) + a114) + a117) + a121) + a124) + a128) + a131) K98 M)))) a130 a131 K98 l14 r94 20)) a127 a128 K98 l14 0 0))))) a123 a124 K98 l14 r94 2)) a120 a121 K98 l14 0 0))))) a116 a117 K98 l14 r94 1)) a113 a114 K98 l14 0))))) a109 a110 K98 l14 r94 0)) a106 a107 K98 l14 0))))) a102 a103 K98 l14 0 0))))))))) a95 a96 K l14 r94 0)) K (l10 >>> (4 &&& 31)) 3)))))) ∧ (¬ 19 ≤ t0 → ((∃ a134 a135 : Nat, (uc + a31) + a134 ≤ 897972 ∧ (us + a32) + a135 ≤ 6395332 ∧ wpL_c19 (fun r136 K137 => ((r136 < 0 → (wL_law_955 bk30 ((uc + a31) + a134) ((us + a32) + a135) l2 l3 l4 l5 l6 l8 r33 r136 K137 M)) ∧ (¬ r136 < 0 → ((vp_in l14 8) ∧ (((¬ r136 = (M 16 0 l14.toNatClampNeg) → (wL_law_668 ((uc + a31) + a134) ((us + a32) + a135) K137 M)) ∧ (r136 = (M 16 0 l14.toNatClampNeg) → ((∃ a141 a142 : Nat, ((uc + a31) + a134) + a141 ≤ 897972 ∧ ((us + a32) + a135) + a142 ≤ 6395332 ∧ wpL_c20 (fun r143 => (∃ a144 a145 : Nat, (((uc + a31) + a134) + a141) + a144 ≤ 897972 ∧ (((us + a32) + a135) + a142) + a145 ≤ 6395332 ∧ wpL_c14_0 (fun r146 => ((¬ r143 = r146 → (wL_law_668 ((((uc + a31) + a134) + a141) + a144) ((((us + a32) + a135) + a142) + a145) K137 M)) ∧ (r143 = r146 → ((∃ a148 a149 : Nat, ((((uc + a31) + a134) + a141) + a144) + a148 ≤ 897972 ∧ ((((us + a32) + a135) + a142) + a145) + a149 ≤ 6395332 ∧ wpL_c20 (fun r150 => (∃ a151 a152 : Nat, (((((uc + a31) + a134) + a141) + a144) + a148) + a151 ≤ 897972 ∧ (((((us + a32) + a135) + a142) + a145) + a149) + a152 ≤ 6395332 ∧ wpL_c15 (fun r153 => ((r150 = r153 → (wL_law_955 bk30 ((((((uc + a31) + a134) + a141) + a144) + a148) + a151) ((((((us + a32) + a135) + a142) + a145) + a149) + a152) l2 l3 l4 l5 l6 l8 r33 r136 K137 (k3 M 16 0 l14.toNatClampNeg ((M 16 0 l14.toNatClampNeg) + 1)))) ∧ (¬ r150 = r153 → (wL_law_668 ((((((uc + a31) + a134) + a141) + a144) + a148) + a151) ((((((us + a32) + a135) + a142) + a145) + a149) + a152) K137 M)))) a151 a152 K137 l14 0 0)) a148 a149 K137 l14 r136 2))))) a144 a145 K137 l14 0)) a141 a142 K137 l14 r136 0))))))))) a134 a135 K l14 0 0)))))) ∧ (t0 = 16 → ((∃ a155 a156 : Nat, (uc + a31) + a155 ≤ 897972 ∧ (us + a32) + a156 ≤ 6395332 ∧ wpL_c18 (fun r157 K158 => wL_law_955 bk30 ((uc + a31) + a155) ((us + a32) + a156) l2 l3 l4 l5 l6 l8 r33 r157 K158 M) a155 a156 K l14 0 0)))))) ∧ (¬ 16 ≤ t0 → ((∃ a159 a160 : Nat, (uc + a31) + a159 ≤ 897972 ∧ (us + a32) + a160 ≤ 6395332 ∧ wpL_c12 (fun r161 K162 => ((r161 < 0 → (wL_law_955 bk30 ((uc + a31) + a159) ((us + a32) + a160) l2 l3 l4 l5 l6 l8 r33 r161 K162 M)) ∧ (¬ r161 < 0 → ((∃ a164 a165 : Nat, ((uc + a31) + a159) + a164 ≤ 897972 ∧ ((us + a32) + a160) + a165 ≤ 6395332 ∧ wpL_c16 (fun r166 => ((¬ r166 = 0 → (wL_law_562 (((uc + a31) + a159) + a164) (((us + a32) + a160) + a165) K162 M)) ∧ (r166 = 0 → (((¬ r161 = 101 → (wL_law_538 bk30 (((uc + a31) + a159) + a164) (((us + a32) + a160) + a165) l2 l3 l4 l5 l6 l8 l14 r33 r161 0 K162 M)) ∧ (r161 = 101 → (wL_law_538 bk30 (((uc + a31) + a159) + a164) (((us + a32) + a160) + a165) l2 l3 l4 l5 l6 l8 l14 r33 r161 1 K162 M))))))) a164 a165 K162 l14 0 0))))) a159 a160 K l14 0 0)))))) ∧ (¬ 13 ≤ t0 → ((∃ a174 a175 : Nat, (uc + a31) + a174 ≤ 897972 ∧ (us + a32) + a175 ≤ 6395332 ∧ wpL_c15 (fun r176 => (∃ a177 a178 : Nat, ((uc + a31) + a174) + a177 ≤ 897972 ∧ ((us + a32) + a175) + a178 ≤ 6395332 ∧ wpL_c16 (fun r179 => (∃ a180 a181 : Nat, (((uc + a31) + a174) + a177) + a180 ≤ 897972 ∧ (((us + a32) + a175) + a178) + a181 ≤ 6395332 ∧ wpL_c11 (fun r182 K183 => ((r182 < 0 → (wL_law_486 bk30 ((((uc + a31) + a174) + a177) + a180) ((((us + a32) + a175) + a178) + a181) l2 l3 l4 l5 l6 l8 r33 r182 K183 M)) ∧ (¬ r182 < 0 → (((r176 < r182 → (wL_law_484 ((((uc + a31) + a174) + a177) + a180) ((((us + a32) + a175) + a178) + a181) K183 M)) ∧ (¬ r176 < r182 → ((∃ a186 a187 : Nat, ((((uc + a31) + a174) + a177) + a180) + a186 ≤ 897972 ∧ ((((us + a32) + a175) + a178) + a181) + a187 ≤ 6395332 ∧ wpL_c16 (fun r188 => ((r188 = (r179 + 1) → (wL_law_486 bk30 (((((uc + a31) + a174) + a177) + a180) + a186) (((((us + a32) + a175) + a178) + a181) + a187) l2 l3 l4 l5 l6 l8 r33 r182 K183 M)) ∧ (¬ r188 = (r179 + 1) → (wL_law_484 (((((uc + a31) + a174) + a177) + a180) + a186) (((((us + a32) + a175) + a178) + a181) + a187) K183 M)))) a186 a187 K183 l14 0 0)))))))) a180 a181 K l14 l13 0)) a177 a178 K l14 0 0)) a174 a175 K l14 0 0)))))) ∧ (t0 = 8 → ((∃ a190 a191 : Nat, (uc + a31) + a190 ≤ 897972 ∧ (us + a32) + a191 ≤ 6395332 ∧ wpL_c10 (fun r192 K193 => wL_law_955 bk30 ((uc + a31) + a190) ((us + a32) + a191) l2 l3 l4 l5 l6 l8 r33 r192 K193 M) a190 a191 K l14 0 0)))))) ∧ (¬ 8 ≤ t0 → ((∃ a194 a195 : Nat, (uc + a31) + a194 ≤ 897972 ∧ (us + a32) + a195 ≤ 6395332 ∧ wpL_c9 (fun r196 K197 => ((r196 < 0 → (wL_law_955 bk30 ((uc + a31) + a194) ((us + a32) + a195) l2 l3 l4 l5 l6 l8 r33 r196 K197 M)) ∧ (¬ r196 < 0 → ((∃ a199 a200 : Nat, ((uc + a31) + a194) + a199 ≤ 897972 ∧ ((us + a32) + a195) + a200 ≤ 6395332 ∧ wpL_c4 (fun r201 => ((r201 = 115 → (wL_law_955 bk30 (((uc + a31) + a194) + a199) (((us + a32) + a195) + a200) l2 l3 l4 l5 l6 l8 r33 r196 K197 M)) ∧ (¬ r201 = 115 → ((0 : Int32) = 1)))) a199 a200 K197 l13 0 0))))) a194 a195 K l14 l13 0)))))) ∧ (t0 = 3 → ((∃ a203 a204 : Nat, (uc + a31) + a203 ≤ 897972 ∧ (us + a32) + a204 ≤ 6395332 ∧ wpL_c8 (fun r205 K206 => ((r205 < 0 → (wL_law_342 bk30 ((uc + a31) + a203) ((us + a32) + a204) l2 l3 l5 l6 l8 r33 r205 0 l4 K206 M)) ∧ (¬ r205 < 0 → (wL_law_342 bk30 ((uc + a31) + a203) ((us + a32) + a204) l2 l3 l5 l6 l8 r33 r205 1 l4 K206 M)))) a203 a204 K l11 l12 0)))))) ∧ (¬ 3 ≤ t0 → (((12 ≤ l8 → (wL_law_282 bk30 (uc + a31) (us + a32) l2 l3 l4 l5 l6 l8 l10 r33 l11 K M)) ∧ (¬ 12 ≤ l8 → (wL_law_282 bk30 (uc + a31) (us + a32) l2 l3 l4 l5 l6 l8 l10 r33 (l8 - l8 / 3 * 3) K M)))))))) ∧ (t0 = 0 → ((wpL_low (fun r215 => (∃ a216 a217 : Nat, (uc + a31) + a216 ≤ 897972 ∧ (us + a32) + a217 ≤ 6395332 ∧ wpL_c0 (fun r218 K219 => ((r218 < 0 → (wL_law_239 bk30 ((uc + a31) + a216) ((us + a32) + a217) l2 l3 l4 l5 l8 r33 r218 0 l6 K219 M)) ∧ (¬ r218 < 0 → ((wpL_low (fun r222 => wL_law_239 bk30 ((uc + a31) + a216) ((us + a32) + a217) l2 l3 l4 l5 l8 r33 r218 r222 l6 K219 M) K219 l10 300))))) a216 a217 K r215 0 0)) K l10 300))))) a31 a32 K l2 l3 l4 l5)
set_option maxHeartbeats 4000000 in
set_option maxRecDepth 100000 in
theorem bL_law_181 {p : Program} {l : Launch} {e : Env} {s : State} {m : MethodId} {below : List Frame} {meth : Method} {c : Code} {D : va_G} {cI : Nat → ClassId} {e0 : Nat} {A : Nat → Prop} {b L : Nat} {xs : Nat → Int32} {ap o : Int64} {od : UInt64} {bk30 : Nat → Nat → Int32 → Int32 → Int32 → Int32 → Int32 → Int32 → KS → KS → Prop} (FX : LX p l s m meth c D cI e0 A b L xs) (hbk30 : ∀ {ad : Nat → Nat → Nat} {H : Heap} {locs : List Loc} {ls : Array Slot} {uc us : Nat} {l2 : Int32} {l3 : Int32} {l4 : Int32} {l5 : Int32} {l6 : Int32} {l8 : Int32} {K M : KS}, va_S A s.heap H locs → HT D cI e0 A ad K M ap o od H → lv_has ls 24 [(0, .ref b), (1, .ref (ad 0 0)), (2, .int l2), (3, .int l3), (4, .int l4), (5, .int l5), (6, .int l6), (7, .ref (ad 16 0)), (8, .int l8)] → uc ≤ 897972 → us ≤ 6395332 → bk30 uc us l2 l3 l4 l5 l6 l8 K M → W p l e room_1 s m #[Value.ref b] below meth c H locs uc us (lw_Z below #[Value.ref b] s) (F0 m 30 ls [])) : ∀ {ad : Nat → Nat → Nat} {H : Heap} {locs : List Loc} {ls : Array Slot} {uc us : Nat} {l2 : Int32} {l3 : Int32} {l4 : Int32} {l5 : Int32} {l6 : Int32} {l8 : Int32} {l10 : Int32} {l11 : Int32} {l12 : Int32} {l13 : Int32} {l14 : Int32} {l15 : Int32} {t0 : Int32} {K M : KS}, va_S A s.heap H locs → HT D cI e0 A ad K M ap o od H → lv_has ls 24 [(0, .ref b), (1, .ref (ad 0 0)), (2, .int l2), (3, .int l3), (4, .int l4), (5, .int l5), (6, .int l6), (7, .ref (ad 16 0)), (8, .int l8), (10, .int l10), (11, .int l11), (12, .int l12), (13, .int l13), (14, .int l14), (15, .int l15)] → uc ≤ 897972 → us ≤ 6395332 → wL_law_181 bk30 uc us l2 l3 l4 l5 l6 l8 l10 l11 l12 l13 l14 l15 t0 K M → W p l e room_1 s m #[Value.ref b] below meth c H locs uc us (lw_Z below #[Value.ref b] s) (F0 m 181 ls [.int t0]) := by
  obtain ⟨hfl, S, hg, hX, hbl, hbA, hL⟩ := FX.facts
  intro ad H locs ls uc us l2 l3 l4 l5 l6 l8 l10 l11 l12 l13 l14 l15 t0 K M hS hw hl huc hus h
  unfold wL_law_181 at h
  refine lv_istore (lv' := [(16, .int t0), (0, .ref b), (1, .ref (ad 0 0)), (2, .int l2), (3, .int l3), (4, .int l4), (5, .int l5), (6, .int l6), (7, .ref (ad 16 0)), (8, .int l8), (10, .int l10), (11, .int l11), (12, .int l12), (13, .int l13), (14, .int l14), (15, .int l15)]) S.1 S.2.1 dL_law_181 hl (by decide) rfl (fun ls hl => ?_)
  refine lv_aload_n S.1 S.2.1 dL_law_183 rfl (lv_at hl 2 rfl) ?_
  refine lv_iload_n S.1 S.2.1 dL_law_184 rfl (lv_at hl 3 rfl) ?_
  refine lv_iload_n S.1 S.2.1 dL_law_185 rfl (lv_at hl 4 rfl) ?_
  refine lv_iload S.1 S.2.1 dL_law_186 (lv_at hl 5 rfl) ?_
  refine lv_iload S.1 S.2.1 dL_law_188 (lv_at hl 6 rfl) ?_
  obtain ⟨a31, a32, h1, h2, h⟩ := h
  refine r_callS (rest := []) S hg hS (mtL_state (mc := a31) (ms := a32) hfl h) u925 u926 u26 u927 hdL_state hw ⟨Nat.le_of_ble_eq_true rfl, Nat.le_of_ble_eq_true rfl⟩ ⟨by show uc + a31 ≤ 897972; omega, by show us + a32 ≤ 6395332; omega⟩ hl.1 (Nat.le_of_ble_eq_true rfl) rfl dL_law_190 (fun E ce q H1 locs1 hx hS1 hc1 hc2 hc3 => hx.elim) (fun rv H locs hq hS => ?_)
  obtain ⟨r33, rfl, h, hw⟩ := hq
  show W p l e _ s m _ below meth c H locs _ _ _ (F0 m 193 ls [.long (r33)])
  refine lv_lstore (lv' := [(17, .long (r33)), (16, .int t0), (0, .ref b), (1, .ref (ad 0 0)), (2, .int l2), (3, .int l3), (4, .int l4), (5, .int l5), (6, .int l6), (7, .ref (ad 16 0)), (8, .int l8), (10, .int l10), (11, .int l11), (12, .int l12), (13, .int l13), (14, .int l14), (15, .int l15)]) S.1 S.2.1 dL_law_193 hl (by decide) rfl (fun ls hl => ?_)
  refine lv_iconst (v := 0) S.1 S.2.1 dL_law_195 (by decide) ?_
  refine lv_istore (lv' := [(19, .int 0), (17, .long (r33)), (16, .int t0), (0, .ref b), (1, .ref (ad 0 0)), (2, .int l2), (3, .int l3), (4, .int l4), (5, .int l5), (6, .int l6), (7, .ref (ad 16 0)), (8, .int l8), (10, .int l10), (11, .int l11), (12, .int l12), (13, .int l13), (14, .int l14), (15, .int l15)]) S.1 S.2.1 dL_law_196 hl (by decide) rfl (fun ls hl => ?_)
  refine lv_iload S.1 S.2.1 dL_law_198 (lv_at hl 2 rfl) ?_
  refine lv_if_ne (tgt := 258) S.1 S.2.1 dL_law_200 (by decide) (fun c34 => ?_) (fun c34 => ?_)
  · have h := h.1 c34
    refine lv_iload S.1 S.2.1 dL_law_258 (lv_at hl 2 rfl) ?_
    refine lv_iconst (v := 3) S.1 S.2.1 dL_law_260 (by decide) ?_
    refine lv_icmp_ge (tgt := 311) S.1 S.2.1 dL_law_261 (by decide) (fun c35 => ?_) (fun c35 => ?_)
    · have h := h.1 c35
      refine lv_iload S.1 S.2.1 dL_law_311 (lv_at hl 2 rfl) ?_
      refine lv_iconst (v := 3) S.1 S.2.1 dL_law_313 (by decide) ?_
      refine lv_icmp_ne (tgt := 348) S.1 S.2.1 dL_law_314 (by decide) (fun c36 => ?_) (fun c36 => ?_)
      · have h := h.1 c36
        refine lv_iload S.1 S.2.1 dL_law_348 (lv_at hl 2 rfl) ?_
        refine lv_bipush (v := 8) S.1 S.2.1 dL_law_350 (by decide) ?_
        refine lv_icmp_ge (tgt := 389) S.1 S.2.1 dL_law_352 (by decide) (fun c37 => ?_) (fun c37 => ?_)
        · have h := h.1 c37
          refine lv_iload S.1 S.2.1 dL_law_389 (lv_at hl 2 rfl) ?_
          refine lv_bipush (v := 8) S.1 S.2.1 dL_law_391 (by decide) ?_
          refine lv_icmp_ne (tgt := 411) S.1 S.2.1 dL_law_393 (by decide) (fun c38 => ?_) (fun c38 => ?_)
          · have h := h.1 c38
            refine lv_iload S.1 S.2.1 dL_law_411 (lv_at hl 2 rfl) ?_
            refine lv_bipush (v := 13) S.1 S.2.1 dL_law_413 (by decide) ?_
            refine lv_icmp_ge (tgt := 489) S.1 S.2.1 dL_law_415 (by decide) (fun c39 => ?_) (fun c39 => ?_)
            · have h := h.1 c39
              refine lv_iload S.1 S.2.1 dL_law_489 (lv_at hl 2 rfl) ?_
              refine lv_bipush (v := 16) S.1 S.2.1 dL_law_491 (by decide) ?_
              refine lv_icmp_ge (tgt := 564) S.1 S.2.1 dL_law_493 (by decide) (fun c40 => ?_) (fun c40 => ?_)
              · have h := h.1 c40
                refine lv_iload S.1 S.2.1 dL_law_564 (lv_at hl 2 rfl) ?_
                refine lv_bipush (v := 16) S.1 S.2.1 dL_law_566 (by decide) ?_
                refine lv_icmp_ne (tgt := 586) S.1 S.2.1 dL_law_568 (by decide) (fun c41 => ?_) (fun c41 => ?_)
                · have h := h.1 c41
                  refine lv_iload S.1 S.2.1 dL_law_586 (lv_at hl 2 rfl) ?_
                  refine lv_bipush (v := 19) S.1 S.2.1 dL_law_588 (by decide) ?_
                  refine lv_icmp_ge (tgt := 682) S.1 S.2.1 dL_law_590 (by decide) (fun c42 => ?_) (fun c42 => ?_)
                  · have h := h.1 c42
                    refine lv_iload S.1 S.2.1 dL_law_682 (lv_at hl 2 rfl) ?_
                    refine lv_bipush (v := 21) S.1 S.2.1 dL_law_684 (by decide) ?_
                    refine lv_icmp_ge (tgt := 853) S.1 S.2.1 dL_law_686 (by decide) (fun c43 => ?_) (fun c43 => ?_)
                    · have h := h.1 c43
                      refine lv_iload S.1 S.2.1 dL_law_853 (lv_at hl 2 rfl) ?_
                      refine lv_bipush (v := 24) S.1 S.2.1 dL_law_855 (by decide) ?_
                      refine lv_icmp_ge (tgt := 899) S.1 S.2.1 dL_law_857 (by decide) (fun c44 => ?_) (fun c44 => ?_)
                      · have h := h.1 c44
                        refine lv_iload S.1 S.2.1 dL_law_899 (lv_at hl 2 rfl) ?_
                        refine lv_bipush (v := 24) S.1 S.2.1 dL_law_901 (by decide) ?_
                        refine lv_icmp_ne (tgt := 921) S.1 S.2.1 dL_law_903 (by decide) (fun c45 => ?_) (fun c45 => ?_)
                        · have h := h.1 c45
                          refine lv_aload_n S.1 S.2.1 dL_law_921 rfl (lv_at hl 4 rfl) ?_
                          refine lv_bipush (v := 24) S.1 S.2.1 dL_law_922 (by decide) ?_
                          refine lv_iload S.1 S.2.1 dL_law_924 (lv_at hl 13 rfl) ?_
                          refine lv_iload S.1 S.2.1 dL_law_926 (lv_at hl 17 rfl) ?_
                          refine lv_iconst (v := 0) S.1 S.2.1 dL_law_928 (by decide) ?_
                          obtain ⟨a46, a47, h1, h2, h⟩ := h
                          refine r_callSW (rest := []) S hg hS (mtL_c24 (mc := a46) (ms := a47) hfl h) u216 u217 u26 u218 hdL_call hw ⟨Nat.le_of_ble_eq_true rfl, Nat.le_of_ble_eq_true rfl⟩ ⟨by show (uc + a31) + a46 ≤ 897972; omega, by show (us + a32) + a47 ≤ 6395332; omega⟩ hl.1 (Nat.le_of_ble_eq_true rfl) rfl dL_law_929 (fun rv H locs hq hS => ?_)
                          obtain ⟨r48, K49, ad1, rfl, h, hA, hw⟩ := hq
                          rw [hA.1] at hl
                          rw [hA.2] at hl
                          clear hA
                          revert hl
                          revert hw
                          generalize ad1 = ad
                          intro hw hl
                          show W p l e _ s m _ below meth c H locs _ _ _ (F0 m 932 ls [.int r48])
                          refine lv_istore (lv' := [(19, .int r48), (17, .long (r33)), (16, .int t0), (0, .ref b), (1, .ref (ad 0 0)), (2, .int l2), (3, .int l3), (4, .int l4), (5, .int l5), (6, .int l6), (7, .ref (ad 16 0)), (8, .int l8), (10, .int l10), (11, .int l11), (12, .int l12), (13, .int l13), (14, .int l14), (15, .int l15)]) S.1 S.2.1 dL_law_932 hl (by decide) rfl (fun ls hl => ?_)
                          refine lv_iload S.1 S.2.1 dL_law_934 (lv_at hl 0 rfl) ?_
                          refine lv_if_lt (tgt := 955) S.1 S.2.1 dL_law_936 (by decide) (fun c50 => ?_) (fun c50 => ?_)
                          · have h := h.1 c50
                            have hl := lv_sub hl (l' := [(0, .ref b), (1, .ref (ad 0 0)), (2, .int l2), (3, .int l3), (4, .int l4), (5, .int l5), (6, .int l6), (7, .ref (ad 16 0)), (8, .int l8), (17, .long (r33)), (19, .int r48)]) [3, 4, 5, 6, 7, 8, 9, 10, 11, 1, 0] rfl
                            exact bL_law_955 FX hbk30 hS hw hl (by omega) (by omega) h
                          · have h := h.2 c50
                            refine lv_aload_n S.1 S.2.1 dL_law_939 rfl (lv_at hl 4 rfl) ?_
                            refine lv_iconst (v := 2) S.1 S.2.1 dL_law_940 (by decide) ?_
                            refine lv_iload S.1 S.2.1 dL_law_941 (lv_at hl 0 rfl) ?_
                            refine lv_iconst (v := 0) S.1 S.2.1 dL_law_943 (by decide) ?_
                            refine lv_iconst (v := 0) S.1 S.2.1 dL_law_944 (by decide) ?_
                            obtain ⟨a80, a81, h1, h2, h⟩ := h
                            refine r_callSW (rest := []) S hg hS (mtL_c2 (mc := a80) (ms := a81) hfl h) u216 u217 u26 u218 hdL_call hw ⟨Nat.le_of_ble_eq_true rfl, Nat.le_of_ble_eq_true rfl⟩ ⟨by show ((uc + a31) + a46) + a80 ≤ 897972; omega, by show ((us + a32) + a47) + a81 ≤ 6395332; omega⟩ hl.1 (Nat.le_of_ble_eq_true rfl) rfl dL_law_945 (fun rv H locs hq hS => ?_)
                            obtain ⟨r82, rfl, h, hw⟩ := hq
                            show W p l e _ s m _ below meth c H locs _ _ _ (F0 m 948 ls [.int r82])
                            refine lv_iload S.1 S.2.1 dL_law_948 (lv_at hl 13 rfl) ?_
                            refine lv_icmp_eq (tgt := 955) S.1 S.2.1 dL_law_950 (by decide) (fun c83 => ?_) (fun c83 => ?_)
                            · have h := h.1 c83
                              have hl := lv_sub hl (l' := [(0, .ref b), (1, .ref (ad 0 0)), (2, .int l2), (3, .int l3), (4, .int l4), (5, .int l5), (6, .int l6), (7, .ref (ad 16 0)), (8, .int l8), (17, .long (r33)), (19, .int r48)]) [3, 4, 5, 6, 7, 8, 9, 10, 11, 1, 0] rfl
                              exact bL_law_955 FX hbk30 hS hw hl (by omega) (by omega) h
                            · have h := h.2 c83
                              refine lv_iconst (v := 0) S.1 S.2.1 dL_law_953 (by decide) ?_
                              exact lw_end FX hS (by omega) (by omega) h dL_law_954
                        · have h := h.2 c45
                          refine lv_aload_n S.1 S.2.1 dL_law_906 rfl (lv_at hl 4 rfl) ?_
                          refine lv_bipush (v := 23) S.1 S.2.1 dL_law_907 (by decide) ?_
                          refine lv_iload S.1 S.2.1 dL_law_909 (lv_at hl 17 rfl) ?_
                          refine lv_iconst (v := 0) S.1 S.2.1 dL_law_911 (by decide) ?_
                          refine lv_iconst (v := 0) S.1 S.2.1 dL_law_912 (by decide) ?_
                          obtain ⟨a84, a85, h1, h2, h⟩ := h
                          refine r_callSW (rest := []) S hg hS (mtL_c23 (mc := a84) (ms := a85) hfl h) u216 u217 u26 u218 hdL_call hw ⟨Nat.le_of_ble_eq_true rfl, Nat.le_of_ble_eq_true rfl⟩ ⟨by show (uc + a31) + a84 ≤ 897972; omega, by show (us + a32) + a85 ≤ 6395332; omega⟩ hl.1 (Nat.le_of_ble_eq_true rfl) rfl dL_law_913 (fun rv H locs hq hS => ?_)
                          obtain ⟨r86, K87, ad1, rfl, h, hA, hw⟩ := hq
                          rw [hA.1] at hl
                          rw [hA.2] at hl
                          clear hA
                          revert hl
                          revert hw
                          generalize ad1 = ad
                          intro hw hl
                          show W p l e _ s m _ below meth c H locs _ _ _ (F0 m 916 ls [.int r86])
                          refine lv_istore (lv' := [(19, .int r86), (17, .long (r33)), (16, .int t0), (0, .ref b), (1, .ref (ad 0 0)), (2, .int l2), (3, .int l3), (4, .int l4), (5, .int l5), (6, .int l6), (7, .ref (ad 16 0)), (8, .int l8), (10, .int l10), (11, .int l11), (12, .int l12), (13, .int l13), (14, .int l14), (15, .int l15)]) S.1 S.2.1 dL_law_916 hl (by decide) rfl (fun ls hl => ?_)
                          refine lv_goto (tgt := 955) S.1 S.2.1 dL_law_918 (by decide) ?_
                          have hl := lv_sub hl (l' := [(0, .ref b), (1, .ref (ad 0 0)), (2, .int l2), (3, .int l3), (4, .int l4), (5, .int l5), (6, .int l6), (7, .ref (ad 16 0)), (8, .int l8), (17, .long (r33)), (19, .int r86)]) [3, 4, 5, 6, 7, 8, 9, 10, 11, 1, 0] rfl
                          exact bL_law_955 FX hbk30 hS hw hl (by omega) (by omega) h
                      · have h := h.2 c44
                        refine lv_aload_n S.1 S.2.1 dL_law_860 rfl (lv_at hl 4 rfl) ?_
                        refine lv_bipush (v := 22) S.1 S.2.1 dL_law_861 (by decide) ?_
                        refine lv_iload S.1 S.2.1 dL_law_863 (lv_at hl 15 rfl) ?_
                        refine lv_iload S.1 S.2.1 dL_law_865 (lv_at hl 12 rfl) ?_
                        refine lv_bipush (v := 8) S.1 S.2.1 dL_law_867 (by decide) ?_
                        refine lv_ishr S.1 S.2.1 dL_law_869 ?_
                        refine lv_bipush (v := 90) S.1 S.2.1 dL_law_870 (by decide) ?_
                        refine r_callS (rest := [.int l13, .int 22, .ref (ad 0 0)]) S hg hS (mtL_low (mc := 0) (ms := 0) h) u212 u213 u26 u214 hdL_low hw ⟨Nat.le_of_ble_eq_true rfl, Nat.le_of_ble_eq_true rfl⟩ ⟨by show (uc + a31) + 0 ≤ 897972; omega, by show (us + a32) + 0 ≤ 6395332; omega⟩ hl.1 (Nat.le_of_ble_eq_true rfl) rfl dL_law_872 (fun E ce q H1 locs1 hx hS1 hc1 hc2 hc3 => hx.elim) (fun rv H locs hq hS => ?_)
                        obtain ⟨r88, rfl, h, hw⟩ := hq
                        show W p l e _ s m _ below meth c H locs _ _ _ (F0 m 875 ls [.int r88, .int l13, .int 22, .ref (ad 0 0)])
                        show W p l e _ s m _ below meth c H locs (uc + a31) (us + a32) _ _
                        refine lv_iconst (v := 0) S.1 S.2.1 dL_law_875 (by decide) ?_
                        obtain ⟨a89, a90, h1, h2, h⟩ := h
                        refine r_callSW (rest := []) S hg hS (mtL_c22 (mc := a89) (ms := a90) hfl h) u216 u217 u26 u218 hdL_call hw ⟨Nat.le_of_ble_eq_true rfl, Nat.le_of_ble_eq_true rfl⟩ ⟨by show (uc + a31) + a89 ≤ 897972; omega, by show (us + a32) + a90 ≤ 6395332; omega⟩ hl.1 (Nat.le_of_ble_eq_true rfl) rfl dL_law_876 (fun rv H locs hq hS => ?_)
                        obtain ⟨r91, K92, ad1, rfl, h, hA, hw⟩ := hq
                        rw [hA.1] at hl
                        rw [hA.2] at hl
                        clear hA
                        revert hl
                        revert hw
                        generalize ad1 = ad
                        intro hw hl
                        show W p l e _ s m _ below meth c H locs _ _ _ (F0 m 879 ls [.int r91])
                        refine lv_istore (lv' := [(19, .int r91), (17, .long (r33)), (16, .int t0), (0, .ref b), (1, .ref (ad 0 0)), (2, .int l2), (3, .int l3), (4, .int l4), (5, .int l5), (6, .int l6), (7, .ref (ad 16 0)), (8, .int l8), (10, .int l10), (11, .int l11), (12, .int l12), (13, .int l13), (14, .int l14), (15, .int l15)]) S.1 S.2.1 dL_law_879 hl (by decide) rfl (fun ls hl => ?_)
                        refine lv_iload S.1 S.2.1 dL_law_881 (lv_at hl 8 rfl) ?_
                        refine lv_iload S.1 S.2.1 dL_law_883 (lv_at hl 0 rfl) ?_
                        refine lv_if_lt (tgt := 892) S.1 S.2.1 dL_law_885 (by decide) (fun c93 => ?_) (fun c93 => ?_)
                        · have h := h.1 c93
                          refine lv_iconst (v := 0) S.1 S.2.1 dL_law_892 (by decide) ?_
                          have hl := lv_sub hl (l' := [(0, .ref b), (1, .ref (ad 0 0)), (2, .int l2), (3, .int l3), (4, .int l4), (6, .int l6), (7, .ref (ad 16 0)), (8, .int l8), (17, .long (r33)), (19, .int r91)]) [3, 4, 5, 6, 7, 9, 10, 11, 1, 0] rfl
                          exact bL_law_893 FX hbk30 hS hw hl (by omega) (by omega) h
                        · have h := h.2 c93
                          refine lv_iconst (v := 1) S.1 S.2.1 dL_law_888 (by decide) ?_
                          refine lv_goto (tgt := 893) S.1 S.2.1 dL_law_889 (by decide) ?_
                          have hl := lv_sub hl (l' := [(0, .ref b), (1, .ref (ad 0 0)), (2, .int l2), (3, .int l3), (4, .int l4), (6, .int l6), (7, .ref (ad 16 0)), (8, .int l8), (17, .long (r33)), (19, .int r91)]) [3, 4, 5, 6, 7, 9, 10, 11, 1, 0] rfl
                          exact bL_law_893 FX hbk30 hS hw hl (by omega) (by omega) h
                    · have h := h.2 c43
                      refine lv_iload S.1 S.2.1 dL_law_689 (lv_at hl 12 rfl) ?_
                      refine lv_iconst (v := 4) S.1 S.2.1 dL_law_691 (by decide) ?_
                      refine lv_ishr S.1 S.2.1 dL_law_692 ?_
                      refine lv_iconst (v := 3) S.1 S.2.1 dL_law_693 (by decide) ?_
                      refine r_callS (rest := []) S hg hS (mtL_low (mc := 0) (ms := 0) h) u212 u213 u26 u214 hdL_low hw ⟨Nat.le_of_ble_eq_true rfl, Nat.le_of_ble_eq_true rfl⟩ ⟨by show (uc + a31) + 0 ≤ 897972; omega, by show (us + a32) + 0 ≤ 6395332; omega⟩ hl.1 (Nat.le_of_ble_eq_true rfl) rfl dL_law_694 (fun E ce q H1 locs1 hx hS1 hc1 hc2 hc3 => hx.elim) (fun rv H locs hq hS => ?_)
                      obtain ⟨r94, rfl, h, hw⟩ := hq
                      show W p l e _ s m _ below meth c H locs _ _ _ (F0 m 697 ls [.int r94])
                      show W p l e _ s m _ below meth c H locs (uc + a31) (us + a32) _ _
                      refine lv_istore (lv' := [(20, .int r94), (19, .int 0), (17, .long (r33)), (16, .int t0), (0, .ref b), (1, .ref (ad 0 0)), (2, .int l2), (3, .int l3), (4, .int l4), (5, .int l5), (6, .int l6), (7, .ref (ad 16 0)), (8, .int l8), (10, .int l10), (11, .int l11), (12, .int l12), (13, .int l13), (14, .int l14), (15, .int l15)]) S.1 S.2.1 dL_law_697 hl (by decide) rfl (fun ls hl => ?_)
                      refine lv_aload_n S.1 S.2.1 dL_law_699 rfl (lv_at hl 5 rfl) ?_
                      refine lv_bipush (v := 21) S.1 S.2.1 dL_law_700 (by decide) ?_
                      refine lv_iload S.1 S.2.1 dL_law_702 (lv_at hl 17 rfl) ?_
                      refine lv_iload S.1 S.2.1 dL_law_704 (lv_at hl 0 rfl) ?_
                      refine lv_iconst (v := 0) S.1 S.2.1 dL_law_706 (by decide) ?_
                      obtain ⟨a95, a96, h1, h2, h⟩ := h
                      refine r_callSW (rest := []) S hg hS (mtL_c21 (mc := a95) (ms := a96) hfl h) u216 u217 u26 u218 hdL_call hw ⟨Nat.le_of_ble_eq_true rfl, Nat.le_of_ble_eq_true rfl⟩ ⟨by show (uc + a31) + a95 ≤ 897972; omega, by show (us + a32) + a96 ≤ 6395332; omega⟩ hl.1 (Nat.le_of_ble_eq_true rfl) rfl dL_law_707 (fun rv H locs hq hS => ?_)
                      obtain ⟨r97, K98, ad1, rfl, h, hA, hw⟩ := hq
                      rw [hA.1] at hl
                      rw [hA.2] at hl
                      clear hA
                      revert hl
                      revert hw
                      generalize ad1 = ad
                      intro hw hl
                      show W p l e _ s m _ below meth c H locs _ _ _ (F0 m 710 ls [.int r97])
                      refine lv_istore (lv' := [(19, .int r97), (20, .int r94), (17, .long (r33)), (16, .int t0), (0, .ref b), (1, .ref (ad 0 0)), (2, .int l2), (3, .int l3), (4, .int l4), (5, .int l5), (6, .int l6), (7, .ref (ad 16 0)), (8, .int l8), (10, .int l10), (11, .int l11), (12, .int l12), (13, .int l13), (14, .int l14), (15, .int l15)]) S.1 S.2.1 dL_law_710 hl (by decide) rfl (fun ls hl => ?_)
                      refine lv_iload S.1 S.2.1 dL_law_712 (lv_at hl 0 rfl) ?_
                      refine lv_if_lt (tgt := 850) S.1 S.2.1 dL_law_714 (by decide) (fun c99 => ?_) (fun c99 => ?_)
                      · have h := h.1 c99
                        have hl := lv_sub hl (l' := [(0, .ref b), (1, .ref (ad 0 0)), (2, .int l2), (3, .int l3), (4, .int l4), (5, .int l5), (6, .int l6), (7, .ref (ad 16 0)), (8, .int l8), (17, .long (r33)), (19, .int r97)]) [4, 5, 6, 7, 8, 9, 10, 11, 12, 2, 0] rfl
                        exact bL_law_850 FX hbk30 hS hw hl (by omega) (by omega) h
                      · have h := h.2 c99
                        refine lv_iload S.1 S.2.1 dL_law_717 (lv_at hl 1 rfl) ?_
                        refine lv_aload S.1 S.2.1 dL_law_719 (lv_at hl 11 rfl) ?_
                        refine lv_iload S.1 S.2.1 dL_law_721 (lv_at hl 17 rfl) ?_
                        obtain ⟨g100, h⟩ := h
                        refine a16 S hg hw rfl g100 dL_law_723 ?_
                        refine lv_icmp_ge (tgt := 839) S.1 S.2.1 dL_law_724 (by decide) (fun c101 => ?_) (fun c101 => ?_)
                        · have h := h.1 c101
                          have hl := lv_sub hl (l' := []) [] rfl
                          exact bL_law_839 FX hS hw hl (by omega) (by omega) h
                        · have h := h.2 c101
                          refine lv_aload_n S.1 S.2.1 dL_law_727 rfl (lv_at hl 5 rfl) ?_
                          refine lv_bipush (v := 13) S.1 S.2.1 dL_law_728 (by decide) ?_
                          refine lv_iload S.1 S.2.1 dL_law_730 (lv_at hl 17 rfl) ?_
                          refine lv_iconst (v := 0) S.1 S.2.1 dL_law_732 (by decide) ?_
                          refine lv_iconst (v := 0) S.1 S.2.1 dL_law_733 (by decide) ?_
                          obtain ⟨a102, a103, h1, h2, h⟩ := h
                          refine r_callSW (rest := []) S hg hS (mtL_c13 (mc := a102) (ms := a103) hfl h) u216 u217 u26 u218 hdL_call hw ⟨Nat.le_of_ble_eq_true rfl, Nat.le_of_ble_eq_true rfl⟩ ⟨by show ((uc + a31) + a95) + a102 ≤ 897972; omega, by show ((us + a32) + a96) + a103 ≤ 6395332; omega⟩ hl.1 (Nat.le_of_ble_eq_true rfl) rfl dL_law_734 (fun rv H locs hq hS => ?_)
                          obtain ⟨r104, rfl, h, hw⟩ := hq
                          show W p l e _ s m _ below meth c H locs _ _ _ (F0 m 737 ls [.int r104])
                          refine lv_bipush (v := 103) S.1 S.2.1 dL_law_737 (by decide) ?_
                          refine lv_icmp_ne (tgt := 839) S.1 S.2.1 dL_law_739 (by decide) (fun c105 => ?_) (fun c105 => ?_)
                          · have h := h.1 c105
                            have hl := lv_sub hl (l' := []) [] rfl
                            exact bL_law_839 FX hS hw hl (by omega) (by omega) h
                          · have h := h.2 c105
                            refine lv_aload_n S.1 S.2.1 dL_law_742 rfl (lv_at hl 5 rfl) ?_
                            refine lv_bipush (v := 14) S.1 S.2.1 dL_law_743 (by decide) ?_
                            refine lv_iload S.1 S.2.1 dL_law_745 (lv_at hl 17 rfl) ?_
                            refine lv_iconst (v := 0) S.1 S.2.1 dL_law_747 (by decide) ?_
                            refine lv_iconst (v := 0) S.1 S.2.1 dL_law_748 (by decide) ?_
                            obtain ⟨a106, a107, h1, h2, h⟩ := h
                            refine r_callSW (rest := []) S hg hS (mtL_c14_0 (mc := a106) (ms := a107) hfl h) u216 u217 u26 u218 hdL_call hw ⟨Nat.le_of_ble_eq_true rfl, Nat.le_of_ble_eq_true rfl⟩ ⟨by show (((uc + a31) + a95) + a102) + a106 ≤ 897972; omega, by show (((us + a32) + a96) + a103) + a107 ≤ 6395332; omega⟩ hl.1 (Nat.le_of_ble_eq_true rfl) rfl dL_law_749 (fun rv H locs hq hS => ?_)
                            obtain ⟨r108, rfl, h, hw⟩ := hq
                            show W p l e _ s m _ below meth c H locs _ _ _ (F0 m 752 ls [.int r108])
                            refine lv_aload_n S.1 S.2.1 dL_law_752 rfl (lv_at hl 5 rfl) ?_
                            refine lv_bipush (v := 20) S.1 S.2.1 dL_law_753 (by decide) ?_
                            refine lv_iload S.1 S.2.1 dL_law_755 (lv_at hl 17 rfl) ?_
                            refine lv_iload S.1 S.2.1 dL_law_757 (lv_at hl 1 rfl) ?_
                            refine lv_iconst (v := 0) S.1 S.2.1 dL_law_759 (by decide) ?_
                            obtain ⟨a109, a110, h1, h2, h⟩ := h
                            refine r_callSW (rest := [.int r108]) S hg hS (mtL_c20 (mc := a109) (ms := a110) hfl h) u216 u217 u26 u218 hdL_call hw ⟨Nat.le_of_ble_eq_true rfl, Nat.le_of_ble_eq_true rfl⟩ ⟨by show ((((uc + a31) + a95) + a102) + a106) + a109 ≤ 897972; omega, by show ((((us + a32) + a96) + a103) + a107) + a110 ≤ 6395332; omega⟩ hl.1 (Nat.le_of_ble_eq_true rfl) rfl dL_law_760 (fun rv H locs hq hS => ?_)
                            obtain ⟨r111, rfl, h, hw⟩ := hq
                            show W p l e _ s m _ below meth c H locs _ _ _ (F0 m 763 ls [.int r111, .int r108])
                            refine lv_icmp_ne (tgt := 839) S.1 S.2.1 dL_law_763 (by decide) (fun c112 => ?_) (fun c112 => ?_)
                            · have h := h.1 c112
                              have hl := lv_sub hl (l' := []) [] rfl
                              exact bL_law_839 FX hS hw hl (by omega) (by omega) h
                            · have h := h.2 c112
                              refine lv_aload_n S.1 S.2.1 dL_law_766 rfl (lv_at hl 5 rfl) ?_
                              refine lv_bipush (v := 14) S.1 S.2.1 dL_law_767 (by decide) ?_
                              refine lv_iload S.1 S.2.1 dL_law_769 (lv_at hl 17 rfl) ?_
                              refine lv_iconst (v := 1) S.1 S.2.1 dL_law_771 (by decide) ?_
                              refine lv_iconst (v := 0) S.1 S.2.1 dL_law_772 (by decide) ?_
                              obtain ⟨a113, a114, h1, h2, h⟩ := h
                              refine r_callSW (rest := []) S hg hS (mtL_c14_1 (mc := a113) (ms := a114) hfl h) u216 u217 u26 u218 hdL_call hw ⟨Nat.le_of_ble_eq_true rfl, Nat.le_of_ble_eq_true rfl⟩ ⟨by show (((((uc + a31) + a95) + a102) + a106) + a109) + a113 ≤ 897972; omega, by show (((((us + a32) + a96) + a103) + a107) + a110) + a114 ≤ 6395332; omega⟩ hl.1 (Nat.le_of_ble_eq_true rfl) rfl dL_law_773 (fun rv H locs hq hS => ?_)
                              obtain ⟨r115, rfl, h, hw⟩ := hq
                              show W p l e _ s m _ below meth c H locs _ _ _ (F0 m 776 ls [.int r115])
                              refine lv_aload_n S.1 S.2.1 dL_law_776 rfl (lv_at hl 5 rfl) ?_
                              refine lv_bipush (v := 20) S.1 S.2.1 dL_law_777 (by decide) ?_
                              refine lv_iload S.1 S.2.1 dL_law_779 (lv_at hl 17 rfl) ?_
                              refine lv_iload S.1 S.2.1 dL_law_781 (lv_at hl 1 rfl) ?_
                              refine lv_iconst (v := 1) S.1 S.2.1 dL_law_783 (by decide) ?_
                              obtain ⟨a116, a117, h1, h2, h⟩ := h
                              refine r_callSW (rest := [.int r115]) S hg hS (mtL_c20 (mc := a116) (ms := a117) hfl h) u216 u217 u26 u218 hdL_call hw ⟨Nat.le_of_ble_eq_true rfl, Nat.le_of_ble_eq_true rfl⟩ ⟨by show ((((((uc + a31) + a95) + a102) + a106) + a109) + a113) + a116 ≤ 897972; omega, by show ((((((us + a32) + a96) + a103) + a107) + a110) + a114) + a117 ≤ 6395332; omega⟩ hl.1 (Nat.le_of_ble_eq_true rfl) rfl dL_law_784 (fun rv H locs hq hS => ?_)
                              obtain ⟨r118, rfl, h, hw⟩ := hq
                              show W p l e _ s m _ below meth c H locs _ _ _ (F0 m 787 ls [.int r118, .int r115])
                              refine lv_icmp_ne (tgt := 839) S.1 S.2.1 dL_law_787 (by decide) (fun c119 => ?_) (fun c119 => ?_)
                              · have h := h.1 c119
                                have hl := lv_sub hl (l' := []) [] rfl
                                exact bL_law_839 FX hS hw hl (by omega) (by omega) h
                              · have h := h.2 c119
                                refine lv_aload_n S.1 S.2.1 dL_law_790 rfl (lv_at hl 5 rfl) ?_
                                refine lv_bipush (v := 15) S.1 S.2.1 dL_law_791 (by decide) ?_
                                refine lv_iload S.1 S.2.1 dL_law_793 (lv_at hl 17 rfl) ?_
                                refine lv_iconst (v := 0) S.1 S.2.1 dL_law_795 (by decide) ?_
                                refine lv_iconst (v := 0) S.1 S.2.1 dL_law_796 (by decide) ?_
                                obtain ⟨a120, a121, h1, h2, h⟩ := h
                                refine r_callSW (rest := []) S hg hS (mtL_c15 (mc := a120) (ms := a121) hfl h) u216 u217 u26 u218 hdL_call hw ⟨Nat.le_of_ble_eq_true rfl, Nat.le_of_ble_eq_true rfl⟩ ⟨by show (((((((uc + a31) + a95) + a102) + a106) + a109) + a113) + a116) + a120 ≤ 897972; omega, by show (((((((us + a32) + a96) + a103) + a107) + a110) + a114) + a117) + a121 ≤ 6395332; omega⟩ hl.1 (Nat.le_of_ble_eq_true rfl) rfl dL_law_797 (fun rv H locs hq hS => ?_)
                                obtain ⟨r122, rfl, h, hw⟩ := hq
                                show W p l e _ s m _ below meth c H locs _ _ _ (F0 m 800 ls [.int r122])
                                refine lv_aload_n S.1 S.2.1 dL_law_800 rfl (lv_at hl 5 rfl) ?_
                                refine lv_bipush (v := 20) S.1 S.2.1 dL_law_801 (by decide) ?_
                                refine lv_iload S.1 S.2.1 dL_law_803 (lv_at hl 17 rfl) ?_
                                refine lv_iload S.1 S.2.1 dL_law_805 (lv_at hl 1 rfl) ?_
                                refine lv_iconst (v := 2) S.1 S.2.1 dL_law_807 (by decide) ?_
                                obtain ⟨a123, a124, h1, h2, h⟩ := h
                                refine r_callSW (rest := [.int r122]) S hg hS (mtL_c20 (mc := a123) (ms := a124) hfl h) u216 u217 u26 u218 hdL_call hw ⟨Nat.le_of_ble_eq_true rfl, Nat.le_of_ble_eq_true rfl⟩ ⟨by show ((((((((uc + a31) + a95) + a102) + a106) + a109) + a113) + a116) + a120) + a123 ≤ 897972; omega, by show ((((((((us + a32) + a96) + a103) + a107) + a110) + a114) + a117) + a121) + a124 ≤ 6395332; omega⟩ hl.1 (Nat.le_of_ble_eq_true rfl) rfl dL_law_808 (fun rv H locs hq hS => ?_)
                                obtain ⟨r125, rfl, h, hw⟩ := hq
                                show W p l e _ s m _ below meth c H locs _ _ _ (F0 m 811 ls [.int r125, .int r122])
                                refine lv_icmp_ne (tgt := 839) S.1 S.2.1 dL_law_811 (by decide) (fun c126 => ?_) (fun c126 => ?_)
                                · have h := h.1 c126
                                  have hl := lv_sub hl (l' := []) [] rfl
                                  exact bL_law_839 FX hS hw hl (by omega) (by omega) h
                                · have h := h.2 c126
                                  refine lv_aload_n S.1 S.2.1 dL_law_814 rfl (lv_at hl 5 rfl) ?_
                                  refine lv_bipush (v := 16) S.1 S.2.1 dL_law_815 (by decide) ?_
                                  refine lv_iload S.1 S.2.1 dL_law_817 (lv_at hl 17 rfl) ?_
                                  refine lv_iconst (v := 0) S.1 S.2.1 dL_law_819 (by decide) ?_
                                  refine lv_iconst (v := 0) S.1 S.2.1 dL_law_820 (by decide) ?_
                                  obtain ⟨a127, a128, h1, h2, h⟩ := h
                                  refine r_callSW (rest := []) S hg hS (mtL_c16 (mc := a127) (ms := a128) hfl h) u216 u217 u26 u218 hdL_call hw ⟨Nat.le_of_ble_eq_true rfl, Nat.le_of_ble_eq_true rfl⟩ ⟨by show (((((((((uc + a31) + a95) + a102) + a106) + a109) + a113) + a116) + a120) + a123) + a127 ≤ 897972; omega, by show (((((((((us + a32) + a96) + a103) + a107) + a110) + a114) + a117) + a121) + a124) + a128 ≤ 6395332; omega⟩ hl.1 (Nat.le_of_ble_eq_true rfl) rfl dL_law_821 (fun rv H locs hq hS => ?_)
                                  obtain ⟨r129, rfl, h, hw⟩ := hq
                                  show W p l e _ s m _ below meth c H locs _ _ _ (F0 m 824 ls [.int r129])
                                  refine lv_aload_n S.1 S.2.1 dL_law_824 rfl (lv_at hl 5 rfl) ?_
                                  refine lv_bipush (v := 20) S.1 S.2.1 dL_law_825 (by decide) ?_
                                  refine lv_iload S.1 S.2.1 dL_law_827 (lv_at hl 17 rfl) ?_
                                  refine lv_iload S.1 S.2.1 dL_law_829 (lv_at hl 1 rfl) ?_
                                  refine lv_bipush (v := 20) S.1 S.2.1 dL_law_831 (by decide) ?_
                                  obtain ⟨a130, a131, h1, h2, h⟩ := h
                                  refine r_callSW (rest := [.int r129]) S hg hS (mtL_c20 (mc := a130) (ms := a131) hfl h) u216 u217 u26 u218 hdL_call hw ⟨Nat.le_of_ble_eq_true rfl, Nat.le_of_ble_eq_true rfl⟩ ⟨by show ((((((((((uc + a31) + a95) + a102) + a106) + a109) + a113) + a116) + a120) + a123) + a127) + a130 ≤ 897972; omega, by show ((((((((((us + a32) + a96) + a103) + a107) + a110) + a114) + a117) + a121) + a124) + a128) + a131 ≤ 6395332; omega⟩ hl.1 (Nat.le_of_ble_eq_true rfl) rfl dL_law_833 (fun rv H locs hq hS => ?_)
                                  obtain ⟨r132, rfl, h, hw⟩ := hq
                                  show W p l e _ s m _ below meth c H locs _ _ _ (F0 m 836 ls [.int r132, .int r129])
                                  refine lv_icmp_eq (tgt := 841) S.1 S.2.1 dL_law_836 (by decide) (fun c133 => ?_) (fun c133 => ?_)
                                  · have h := h.1 c133
                                    refine lv_aload S.1 S.2.1 dL_law_841 (lv_at hl 11 rfl) ?_
                                    refine lv_iload S.1 S.2.1 dL_law_843 (lv_at hl 17 rfl) ?_
                                    refine lv_iload S.1 S.2.1 dL_law_845 (lv_at hl 1 rfl) ?_
                                    refine lv_iconst (v := 1) S.1 S.2.1 dL_law_847 (by decide) ?_
                                    refine lv_iadd S.1 S.2.1 dL_law_848 ?_
                                    refine s16 S hg hS hw rfl g100 dL_law_849 (fun H locs hw hS => ?_)
                                    have hl := lv_sub hl (l' := [(0, .ref b), (1, .ref (ad 0 0)), (2, .int l2), (3, .int l3), (4, .int l4), (5, .int l5), (6, .int l6), (7, .ref (ad 16 0)), (8, .int l8), (17, .long (r33)), (19, .int r97)]) [4, 5, 6, 7, 8, 9, 10, 11, 12, 2, 0] rfl
                                    exact bL_law_850 FX hbk30 hS hw hl (by omega) (by omega) h
                                  · have h := h.2 c133
                                    have hl := lv_sub hl (l' := []) [] rfl
                                    exact bL_law_839 FX hS hw hl (by omega) (by omega) h
                  · have h := h.2 c42
                    refine lv_aload_n S.1 S.2.1 dL_law_593 rfl (lv_at hl 4 rfl) ?_
                    refine lv_bipush (v := 19) S.1 S.2.1 dL_law_594 (by decide) ?_
                    refine lv_iload S.1 S.2.1 dL_law_596 (lv_at hl 16 rfl) ?_
                    refine lv_iconst (v := 0) S.1 S.2.1 dL_law_598 (by decide) ?_
                    refine lv_iconst (v := 0) S.1 S.2.1 dL_law_599 (by decide) ?_
                    obtain ⟨a134, a135, h1, h2, h⟩ := h
                    refine r_callSW (rest := []) S hg hS (mtL_c19 (mc := a134) (ms := a135) hfl h) u216 u217 u26 u218 hdL_call hw ⟨Nat.le_of_ble_eq_true rfl, Nat.le_of_ble_eq_true rfl⟩ ⟨by show (uc + a31) + a134 ≤ 897972; omega, by show (us + a32) + a135 ≤ 6395332; omega⟩ hl.1 (Nat.le_of_ble_eq_true rfl) rfl dL_law_600 (fun rv H locs hq hS => ?_)
                    obtain ⟨r136, K137, ad1, rfl, h, hA, hw⟩ := hq
                    rw [hA.1] at hl
                    rw [hA.2] at hl
                    clear hA
                    revert hl
                    revert hw
                    generalize ad1 = ad
                    intro hw hl
                    show W p l e _ s m _ below meth c H locs _ _ _ (F0 m 603 ls [.int r136])
                    refine lv_istore (lv' := [(19, .int r136), (17, .long (r33)), (16, .int t0), (0, .ref b), (1, .ref (ad 0 0)), (2, .int l2), (3, .int l3), (4, .int l4), (5, .int l5), (6, .int l6), (7, .ref (ad 16 0)), (8, .int l8), (10, .int l10), (11, .int l11), (12, .int l12), (13, .int l13), (14, .int l14), (15, .int l15)]) S.1 S.2.1 dL_law_603 hl (by decide) rfl (fun ls hl => ?_)
                    refine lv_iload S.1 S.2.1 dL_law_605 (lv_at hl 0 rfl) ?_
                    refine lv_if_lt (tgt := 955) S.1 S.2.1 dL_law_607 (by decide) (fun c138 => ?_) (fun c138 => ?_)
                    · have h := h.1 c138
                      have hl := lv_sub hl (l' := [(0, .ref b), (1, .ref (ad 0 0)), (2, .int l2), (3, .int l3), (4, .int l4), (5, .int l5), (6, .int l6), (7, .ref (ad 16 0)), (8, .int l8), (17, .long (r33)), (19, .int r136)]) [3, 4, 5, 6, 7, 8, 9, 10, 11, 1, 0] rfl
                      exact bL_law_955 FX hbk30 hS hw hl (by omega) (by omega) h
                    · have h := h.2 c138
                      refine lv_iload S.1 S.2.1 dL_law_610 (lv_at hl 0 rfl) ?_
                      refine lv_aload S.1 S.2.1 dL_law_612 (lv_at hl 10 rfl) ?_
                      refine lv_iload S.1 S.2.1 dL_law_614 (lv_at hl 16 rfl) ?_
                      obtain ⟨g139, h⟩ := h
                      refine a16 S hg hw rfl g139 dL_law_616 ?_
                      refine lv_icmp_ne (tgt := 668) S.1 S.2.1 dL_law_617 (by decide) (fun c140 => ?_) (fun c140 => ?_)
                      · have h := h.1 c140
                        have hl := lv_sub hl (l' := []) [] rfl
                        exact bL_law_668 FX hS hw hl (by omega) (by omega) h
                      · have h := h.2 c140
                        refine lv_aload_n S.1 S.2.1 dL_law_620 rfl (lv_at hl 4 rfl) ?_
                        refine lv_bipush (v := 20) S.1 S.2.1 dL_law_621 (by decide) ?_
                        refine lv_iload S.1 S.2.1 dL_law_623 (lv_at hl 16 rfl) ?_
                        refine lv_iload S.1 S.2.1 dL_law_625 (lv_at hl 0 rfl) ?_
                        refine lv_iconst (v := 0) S.1 S.2.1 dL_law_627 (by decide) ?_
                        obtain ⟨a141, a142, h1, h2, h⟩ := h
                        refine r_callSW (rest := []) S hg hS (mtL_c20 (mc := a141) (ms := a142) hfl h) u216 u217 u26 u218 hdL_call hw ⟨Nat.le_of_ble_eq_true rfl, Nat.le_of_ble_eq_true rfl⟩ ⟨by show ((uc + a31) + a134) + a141 ≤ 897972; omega, by show ((us + a32) + a135) + a142 ≤ 6395332; omega⟩ hl.1 (Nat.le_of_ble_eq_true rfl) rfl dL_law_628 (fun rv H locs hq hS => ?_)
                        obtain ⟨r143, rfl, h, hw⟩ := hq
                        show W p l e _ s m _ below meth c H locs _ _ _ (F0 m 631 ls [.int r143])
                        refine lv_aload_n S.1 S.2.1 dL_law_631 rfl (lv_at hl 4 rfl) ?_
                        refine lv_bipush (v := 14) S.1 S.2.1 dL_law_632 (by decide) ?_
                        refine lv_iload S.1 S.2.1 dL_law_634 (lv_at hl 16 rfl) ?_
                        refine lv_iconst (v := 0) S.1 S.2.1 dL_law_636 (by decide) ?_
                        refine lv_iconst (v := 0) S.1 S.2.1 dL_law_637 (by decide) ?_
                        obtain ⟨a144, a145, h1, h2, h⟩ := h
                        refine r_callSW (rest := [.int r143]) S hg hS (mtL_c14_0 (mc := a144) (ms := a145) hfl h) u216 u217 u26 u218 hdL_call hw ⟨Nat.le_of_ble_eq_true rfl, Nat.le_of_ble_eq_true rfl⟩ ⟨by show (((uc + a31) + a134) + a141) + a144 ≤ 897972; omega, by show (((us + a32) + a135) + a142) + a145 ≤ 6395332; omega⟩ hl.1 (Nat.le_of_ble_eq_true rfl) rfl dL_law_638 (fun rv H locs hq hS => ?_)
                        obtain ⟨r146, rfl, h, hw⟩ := hq
                        show W p l e _ s m _ below meth c H locs _ _ _ (F0 m 641 ls [.int r146, .int r143])
                        refine lv_icmp_ne (tgt := 668) S.1 S.2.1 dL_law_641 (by decide) (fun c147 => ?_) (fun c147 => ?_)
                        · have h := h.1 c147
                          have hl := lv_sub hl (l' := []) [] rfl
                          exact bL_law_668 FX hS hw hl (by omega) (by omega) h
                        · have h := h.2 c147
                          refine lv_aload_n S.1 S.2.1 dL_law_644 rfl (lv_at hl 4 rfl) ?_
                          refine lv_bipush (v := 20) S.1 S.2.1 dL_law_645 (by decide) ?_
                          refine lv_iload S.1 S.2.1 dL_law_647 (lv_at hl 16 rfl) ?_
                          refine lv_iload S.1 S.2.1 dL_law_649 (lv_at hl 0 rfl) ?_
                          refine lv_iconst (v := 2) S.1 S.2.1 dL_law_651 (by decide) ?_
                          obtain ⟨a148, a149, h1, h2, h⟩ := h
                          refine r_callSW (rest := []) S hg hS (mtL_c20 (mc := a148) (ms := a149) hfl h) u216 u217 u26 u218 hdL_call hw ⟨Nat.le_of_ble_eq_true rfl, Nat.le_of_ble_eq_true rfl⟩ ⟨by show ((((uc + a31) + a134) + a141) + a144) + a148 ≤ 897972; omega, by show ((((us + a32) + a135) + a142) + a145) + a149 ≤ 6395332; omega⟩ hl.1 (Nat.le_of_ble_eq_true rfl) rfl dL_law_652 (fun rv H locs hq hS => ?_)
                          obtain ⟨r150, rfl, h, hw⟩ := hq
                          show W p l e _ s m _ below meth c H locs _ _ _ (F0 m 655 ls [.int r150])
                          refine lv_aload_n S.1 S.2.1 dL_law_655 rfl (lv_at hl 4 rfl) ?_
                          refine lv_bipush (v := 15) S.1 S.2.1 dL_law_656 (by decide) ?_
                          refine lv_iload S.1 S.2.1 dL_law_658 (lv_at hl 16 rfl) ?_
                          refine lv_iconst (v := 0) S.1 S.2.1 dL_law_660 (by decide) ?_
                          refine lv_iconst (v := 0) S.1 S.2.1 dL_law_661 (by decide) ?_
                          obtain ⟨a151, a152, h1, h2, h⟩ := h
                          refine r_callSW (rest := [.int r150]) S hg hS (mtL_c15 (mc := a151) (ms := a152) hfl h) u216 u217 u26 u218 hdL_call hw ⟨Nat.le_of_ble_eq_true rfl, Nat.le_of_ble_eq_true rfl⟩ ⟨by show (((((uc + a31) + a134) + a141) + a144) + a148) + a151 ≤ 897972; omega, by show (((((us + a32) + a135) + a142) + a145) + a149) + a152 ≤ 6395332; omega⟩ hl.1 (Nat.le_of_ble_eq_true rfl) rfl dL_law_662 (fun rv H locs hq hS => ?_)
                          obtain ⟨r153, rfl, h, hw⟩ := hq
                          show W p l e _ s m _ below meth c H locs _ _ _ (F0 m 665 ls [.int r153, .int r150])
                          refine lv_icmp_eq (tgt := 670) S.1 S.2.1 dL_law_665 (by decide) (fun c154 => ?_) (fun c154 => ?_)
                          · have h := h.1 c154
                            refine lv_aload S.1 S.2.1 dL_law_670 (lv_at hl 10 rfl) ?_
                            refine lv_iload S.1 S.2.1 dL_law_672 (lv_at hl 16 rfl) ?_
                            refine lv_dup2_11 S.1 S.2.1 dL_law_674 rfl rfl ?_
                            refine a16 S hg hw rfl g139 dL_law_675 ?_
                            refine lv_iconst (v := 1) S.1 S.2.1 dL_law_676 (by decide) ?_
                            refine lv_iadd S.1 S.2.1 dL_law_677 ?_
                            refine s16 S hg hS hw rfl g139 dL_law_678 (fun H locs hw hS => ?_)
                            refine lv_goto (tgt := 955) S.1 S.2.1 dL_law_679 (by decide) ?_
                            have hl := lv_sub hl (l' := [(0, .ref b), (1, .ref (ad 0 0)), (2, .int l2), (3, .int l3), (4, .int l4), (5, .int l5), (6, .int l6), (7, .ref (ad 16 0)), (8, .int l8), (17, .long (r33)), (19, .int r136)]) [3, 4, 5, 6, 7, 8, 9, 10, 11, 1, 0] rfl
                            exact bL_law_955 FX hbk30 hS hw hl (by omega) (by omega) h
                          · have h := h.2 c154
                            have hl := lv_sub hl (l' := []) [] rfl
                            exact bL_law_668 FX hS hw hl (by omega) (by omega) h
                · have h := h.2 c41
                  refine lv_aload_n S.1 S.2.1 dL_law_571 rfl (lv_at hl 4 rfl) ?_
                  refine lv_bipush (v := 18) S.1 S.2.1 dL_law_572 (by decide) ?_
                  refine lv_iload S.1 S.2.1 dL_law_574 (lv_at hl 16 rfl) ?_
                  refine lv_iconst (v := 0) S.1 S.2.1 dL_law_576 (by decide) ?_
                  refine lv_iconst (v := 0) S.1 S.2.1 dL_law_577 (by decide) ?_
                  obtain ⟨a155, a156, h1, h2, h⟩ := h
                  refine r_callSW (rest := []) S hg hS (mtL_c18 (mc := a155) (ms := a156) hfl h) u216 u217 u26 u218 hdL_call hw ⟨Nat.le_of_ble_eq_true rfl, Nat.le_of_ble_eq_true rfl⟩ ⟨by show (uc + a31) + a155 ≤ 897972; omega, by show (us + a32) + a156 ≤ 6395332; omega⟩ hl.1 (Nat.le_of_ble_eq_true rfl) rfl dL_law_578 (fun rv H locs hq hS => ?_)
                  obtain ⟨r157, K158, ad1, rfl, h, hA, hw⟩ := hq
                  rw [hA.1] at hl
                  rw [hA.2] at hl
                  clear hA
                  revert hl
                  revert hw
                  generalize ad1 = ad
                  intro hw hl
                  show W p l e _ s m _ below meth c H locs _ _ _ (F0 m 581 ls [.int r157])
                  refine lv_istore (lv' := [(19, .int r157), (17, .long (r33)), (16, .int t0), (0, .ref b), (1, .ref (ad 0 0)), (2, .int l2), (3, .int l3), (4, .int l4), (5, .int l5), (6, .int l6), (7, .ref (ad 16 0)), (8, .int l8), (10, .int l10), (11, .int l11), (12, .int l12), (13, .int l13), (14, .int l14), (15, .int l15)]) S.1 S.2.1 dL_law_581 hl (by decide) rfl (fun ls hl => ?_)
                  refine lv_goto (tgt := 955) S.1 S.2.1 dL_law_583 (by decide) ?_
                  have hl := lv_sub hl (l' := [(0, .ref b), (1, .ref (ad 0 0)), (2, .int l2), (3, .int l3), (4, .int l4), (5, .int l5), (6, .int l6), (7, .ref (ad 16 0)), (8, .int l8), (17, .long (r33)), (19, .int r157)]) [3, 4, 5, 6, 7, 8, 9, 10, 11, 1, 0] rfl
                  exact bL_law_955 FX hbk30 hS hw hl (by omega) (by omega) h
              · have h := h.2 c40
                refine lv_aload_n S.1 S.2.1 dL_law_496 rfl (lv_at hl 4 rfl) ?_
                refine lv_bipush (v := 12) S.1 S.2.1 dL_law_497 (by decide) ?_
                refine lv_iload S.1 S.2.1 dL_law_499 (lv_at hl 16 rfl) ?_
                refine lv_iconst (v := 0) S.1 S.2.1 dL_law_501 (by decide) ?_
                refine lv_iconst (v := 0) S.1 S.2.1 dL_law_502 (by decide) ?_
                obtain ⟨a159, a160, h1, h2, h⟩ := h
                refine r_callSW (rest := []) S hg hS (mtL_c12 (mc := a159) (ms := a160) hfl h) u216 u217 u26 u218 hdL_call hw ⟨Nat.le_of_ble_eq_true rfl, Nat.le_of_ble_eq_true rfl⟩ ⟨by show (uc + a31) + a159 ≤ 897972; omega, by show (us + a32) + a160 ≤ 6395332; omega⟩ hl.1 (Nat.le_of_ble_eq_true rfl) rfl dL_law_503 (fun rv H locs hq hS => ?_)
                obtain ⟨r161, K162, ad1, rfl, h, hA, hw⟩ := hq
                rw [hA.1] at hl
                rw [hA.2] at hl
                clear hA
                revert hl
                revert hw
                generalize ad1 = ad
                intro hw hl
                show W p l e _ s m _ below meth c H locs _ _ _ (F0 m 506 ls [.int r161])
                refine lv_istore (lv' := [(19, .int r161), (17, .long (r33)), (16, .int t0), (0, .ref b), (1, .ref (ad 0 0)), (2, .int l2), (3, .int l3), (4, .int l4), (5, .int l5), (6, .int l6), (7, .ref (ad 16 0)), (8, .int l8), (10, .int l10), (11, .int l11), (12, .int l12), (13, .int l13), (14, .int l14), (15, .int l15)]) S.1 S.2.1 dL_law_506 hl (by decide) rfl (fun ls hl => ?_)
                refine lv_iload S.1 S.2.1 dL_law_508 (lv_at hl 0 rfl) ?_
                refine lv_if_lt (tgt := 955) S.1 S.2.1 dL_law_510 (by decide) (fun c163 => ?_) (fun c163 => ?_)
                · have h := h.1 c163
                  have hl := lv_sub hl (l' := [(0, .ref b), (1, .ref (ad 0 0)), (2, .int l2), (3, .int l3), (4, .int l4), (5, .int l5), (6, .int l6), (7, .ref (ad 16 0)), (8, .int l8), (17, .long (r33)), (19, .int r161)]) [3, 4, 5, 6, 7, 8, 9, 10, 11, 1, 0] rfl
                  exact bL_law_955 FX hbk30 hS hw hl (by omega) (by omega) h
                · have h := h.2 c163
                  refine lv_aload_n S.1 S.2.1 dL_law_513 rfl (lv_at hl 4 rfl) ?_
                  refine lv_bipush (v := 16) S.1 S.2.1 dL_law_514 (by decide) ?_
                  refine lv_iload S.1 S.2.1 dL_law_516 (lv_at hl 16 rfl) ?_
                  refine lv_iconst (v := 0) S.1 S.2.1 dL_law_518 (by decide) ?_
                  refine lv_iconst (v := 0) S.1 S.2.1 dL_law_519 (by decide) ?_
                  obtain ⟨a164, a165, h1, h2, h⟩ := h
                  refine r_callSW (rest := []) S hg hS (mtL_c16 (mc := a164) (ms := a165) hfl h) u216 u217 u26 u218 hdL_call hw ⟨Nat.le_of_ble_eq_true rfl, Nat.le_of_ble_eq_true rfl⟩ ⟨by show ((uc + a31) + a159) + a164 ≤ 897972; omega, by show ((us + a32) + a160) + a165 ≤ 6395332; omega⟩ hl.1 (Nat.le_of_ble_eq_true rfl) rfl dL_law_520 (fun rv H locs hq hS => ?_)
                  obtain ⟨r166, rfl, h, hw⟩ := hq
                  show W p l e _ s m _ below meth c H locs _ _ _ (F0 m 523 ls [.int r166])
                  refine lv_if_ne (tgt := 562) S.1 S.2.1 dL_law_523 (by decide) (fun c167 => ?_) (fun c167 => ?_)
                  · have h := h.1 c167
                    have hl := lv_sub hl (l' := []) [] rfl
                    exact bL_law_562 FX hS hw hl (by omega) (by omega) h
                  · have h := h.2 c167
                    refine lv_iload S.1 S.2.1 dL_law_526 (lv_at hl 0 rfl) ?_
                    refine lv_bipush (v := 101) S.1 S.2.1 dL_law_528 (by decide) ?_
                    refine lv_icmp_ne (tgt := 537) S.1 S.2.1 dL_law_530 (by decide) (fun c168 => ?_) (fun c168 => ?_)
                    · have h := h.1 c168
                      refine lv_iconst (v := 0) S.1 S.2.1 dL_law_537 (by decide) ?_
                      have hl := lv_sub hl (l' := [(0, .ref b), (1, .ref (ad 0 0)), (2, .int l2), (3, .int l3), (4, .int l4), (5, .int l5), (6, .int l6), (7, .ref (ad 16 0)), (8, .int l8), (14, .int l14), (17, .long (r33)), (19, .int r161)]) [3, 4, 5, 6, 7, 8, 9, 10, 11, 16, 1, 0] rfl
                      exact bL_law_538 FX hbk30 hS hw hl (by omega) (by omega) h
                    · have h := h.2 c168
                      refine lv_iconst (v := 1) S.1 S.2.1 dL_law_533 (by decide) ?_
                      refine lv_goto (tgt := 538) S.1 S.2.1 dL_law_534 (by decide) ?_
                      have hl := lv_sub hl (l' := [(0, .ref b), (1, .ref (ad 0 0)), (2, .int l2), (3, .int l3), (4, .int l4), (5, .int l5), (6, .int l6), (7, .ref (ad 16 0)), (8, .int l8), (14, .int l14), (17, .long (r33)), (19, .int r161)]) [3, 4, 5, 6, 7, 8, 9, 10, 11, 16, 1, 0] rfl
                      exact bL_law_538 FX hbk30 hS hw hl (by omega) (by omega) h
            · have h := h.2 c39
              refine lv_aload_n S.1 S.2.1 dL_law_418 rfl (lv_at hl 4 rfl) ?_
              refine lv_bipush (v := 15) S.1 S.2.1 dL_law_419 (by decide) ?_
              refine lv_iload S.1 S.2.1 dL_law_421 (lv_at hl 16 rfl) ?_
              refine lv_iconst (v := 0) S.1 S.2.1 dL_law_423 (by decide) ?_
              refine lv_iconst (v := 0) S.1 S.2.1 dL_law_424 (by decide) ?_
              obtain ⟨a174, a175, h1, h2, h⟩ := h
              refine r_callSW (rest := []) S hg hS (mtL_c15 (mc := a174) (ms := a175) hfl h) u216 u217 u26 u218 hdL_call hw ⟨Nat.le_of_ble_eq_true rfl, Nat.le_of_ble_eq_true rfl⟩ ⟨by show (uc + a31) + a174 ≤ 897972; omega, by show (us + a32) + a175 ≤ 6395332; omega⟩ hl.1 (Nat.le_of_ble_eq_true rfl) rfl dL_law_425 (fun rv H locs hq hS => ?_)
              obtain ⟨r176, rfl, h, hw⟩ := hq
              show W p l e _ s m _ below meth c H locs _ _ _ (F0 m 428 ls [.int r176])
              refine lv_istore (lv' := [(20, .int r176), (19, .int 0), (17, .long (r33)), (16, .int t0), (0, .ref b), (1, .ref (ad 0 0)), (2, .int l2), (3, .int l3), (4, .int l4), (5, .int l5), (6, .int l6), (7, .ref (ad 16 0)), (8, .int l8), (10, .int l10), (11, .int l11), (12, .int l12), (13, .int l13), (14, .int l14), (15, .int l15)]) S.1 S.2.1 dL_law_428 hl (by decide) rfl (fun ls hl => ?_)
              refine lv_aload_n S.1 S.2.1 dL_law_430 rfl (lv_at hl 5 rfl) ?_
              refine lv_bipush (v := 16) S.1 S.2.1 dL_law_431 (by decide) ?_
              refine lv_iload S.1 S.2.1 dL_law_433 (lv_at hl 17 rfl) ?_
              refine lv_iconst (v := 0) S.1 S.2.1 dL_law_435 (by decide) ?_
              refine lv_iconst (v := 0) S.1 S.2.1 dL_law_436 (by decide) ?_
              obtain ⟨a177, a178, h1, h2, h⟩ := h
              refine r_callSW (rest := []) S hg hS (mtL_c16 (mc := a177) (ms := a178) hfl h) u216 u217 u26 u218 hdL_call hw ⟨Nat.le_of_ble_eq_true rfl, Nat.le_of_ble_eq_true rfl⟩ ⟨by show ((uc + a31) + a174) + a177 ≤ 897972; omega, by show ((us + a32) + a175) + a178 ≤ 6395332; omega⟩ hl.1 (Nat.le_of_ble_eq_true rfl) rfl dL_law_437 (fun rv H locs hq hS => ?_)
              obtain ⟨r179, rfl, h, hw⟩ := hq
              show W p l e _ s m _ below meth c H locs _ _ _ (F0 m 440 ls [.int r179])
              refine lv_istore (lv' := [(21, .int r179), (20, .int r176), (19, .int 0), (17, .long (r33)), (16, .int t0), (0, .ref b), (1, .ref (ad 0 0)), (2, .int l2), (3, .int l3), (4, .int l4), (5, .int l5), (6, .int l6), (7, .ref (ad 16 0)), (8, .int l8), (10, .int l10), (11, .int l11), (12, .int l12), (13, .int l13), (14, .int l14), (15, .int l15)]) S.1 S.2.1 dL_law_440 hl (by decide) rfl (fun ls hl => ?_)
              refine lv_aload_n S.1 S.2.1 dL_law_442 rfl (lv_at hl 6 rfl) ?_
              refine lv_bipush (v := 11) S.1 S.2.1 dL_law_443 (by decide) ?_
              refine lv_iload S.1 S.2.1 dL_law_445 (lv_at hl 18 rfl) ?_
              refine lv_iload S.1 S.2.1 dL_law_447 (lv_at hl 17 rfl) ?_
              refine lv_iconst (v := 0) S.1 S.2.1 dL_law_449 (by decide) ?_
              obtain ⟨a180, a181, h1, h2, h⟩ := h
              refine r_callSW (rest := []) S hg hS (mtL_c11 (mc := a180) (ms := a181) hfl h) u216 u217 u26 u218 hdL_call hw ⟨Nat.le_of_ble_eq_true rfl, Nat.le_of_ble_eq_true rfl⟩ ⟨by show (((uc + a31) + a174) + a177) + a180 ≤ 897972; omega, by show (((us + a32) + a175) + a178) + a181 ≤ 6395332; omega⟩ hl.1 (Nat.le_of_ble_eq_true rfl) rfl dL_law_450 (fun rv H locs hq hS => ?_)
              obtain ⟨r182, K183, ad1, rfl, h, hA, hw⟩ := hq
              rw [hA.1] at hl
              rw [hA.2] at hl
              clear hA
              revert hl
              revert hw
              generalize ad1 = ad
              intro hw hl
              show W p l e _ s m _ below meth c H locs _ _ _ (F0 m 453 ls [.int r182])
              refine lv_istore (lv' := [(19, .int r182), (21, .int r179), (20, .int r176), (17, .long (r33)), (16, .int t0), (0, .ref b), (1, .ref (ad 0 0)), (2, .int l2), (3, .int l3), (4, .int l4), (5, .int l5), (6, .int l6), (7, .ref (ad 16 0)), (8, .int l8), (10, .int l10), (11, .int l11), (12, .int l12), (13, .int l13), (14, .int l14), (15, .int l15)]) S.1 S.2.1 dL_law_453 hl (by decide) rfl (fun ls hl => ?_)
              refine lv_iload S.1 S.2.1 dL_law_455 (lv_at hl 0 rfl) ?_
              refine lv_if_lt (tgt := 486) S.1 S.2.1 dL_law_457 (by decide) (fun c184 => ?_) (fun c184 => ?_)
              · have h := h.1 c184
                have hl := lv_sub hl (l' := [(0, .ref b), (1, .ref (ad 0 0)), (2, .int l2), (3, .int l3), (4, .int l4), (5, .int l5), (6, .int l6), (7, .ref (ad 16 0)), (8, .int l8), (17, .long (r33)), (19, .int r182)]) [5, 6, 7, 8, 9, 10, 11, 12, 13, 3, 0] rfl
                exact bL_law_486 FX hbk30 hS hw hl (by omega) (by omega) h
              · have h := h.2 c184
                refine lv_iload S.1 S.2.1 dL_law_460 (lv_at hl 0 rfl) ?_
                refine lv_iload S.1 S.2.1 dL_law_462 (lv_at hl 2 rfl) ?_
                refine lv_icmp_gt (tgt := 484) S.1 S.2.1 dL_law_464 (by decide) (fun c185 => ?_) (fun c185 => ?_)
                · have h := h.1 c185
                  have hl := lv_sub hl (l' := []) [] rfl
                  exact bL_law_484 FX hS hw hl (by omega) (by omega) h
                · have h := h.2 c185
                  refine lv_aload_n S.1 S.2.1 dL_law_467 rfl (lv_at hl 6 rfl) ?_
                  refine lv_bipush (v := 16) S.1 S.2.1 dL_law_468 (by decide) ?_
                  refine lv_iload S.1 S.2.1 dL_law_470 (lv_at hl 18 rfl) ?_
                  refine lv_iconst (v := 0) S.1 S.2.1 dL_law_472 (by decide) ?_
                  refine lv_iconst (v := 0) S.1 S.2.1 dL_law_473 (by decide) ?_
                  obtain ⟨a186, a187, h1, h2, h⟩ := h
                  refine r_callSW (rest := []) S hg hS (mtL_c16 (mc := a186) (ms := a187) hfl h) u216 u217 u26 u218 hdL_call hw ⟨Nat.le_of_ble_eq_true rfl, Nat.le_of_ble_eq_true rfl⟩ ⟨by show ((((uc + a31) + a174) + a177) + a180) + a186 ≤ 897972; omega, by show ((((us + a32) + a175) + a178) + a181) + a187 ≤ 6395332; omega⟩ hl.1 (Nat.le_of_ble_eq_true rfl) rfl dL_law_474 (fun rv H locs hq hS => ?_)
                  obtain ⟨r188, rfl, h, hw⟩ := hq
                  show W p l e _ s m _ below meth c H locs _ _ _ (F0 m 477 ls [.int r188])
                  refine lv_iload S.1 S.2.1 dL_law_477 (lv_at hl 1 rfl) ?_
                  refine lv_iconst (v := 1) S.1 S.2.1 dL_law_479 (by decide) ?_
                  refine lv_iadd S.1 S.2.1 dL_law_480 ?_
                  refine lv_icmp_eq (tgt := 486) S.1 S.2.1 dL_law_481 (by decide) (fun c189 => ?_) (fun c189 => ?_)
                  · have h := h.1 c189
                    have hl := lv_sub hl (l' := [(0, .ref b), (1, .ref (ad 0 0)), (2, .int l2), (3, .int l3), (4, .int l4), (5, .int l5), (6, .int l6), (7, .ref (ad 16 0)), (8, .int l8), (17, .long (r33)), (19, .int r182)]) [5, 6, 7, 8, 9, 10, 11, 12, 13, 3, 0] rfl
                    exact bL_law_486 FX hbk30 hS hw hl (by omega) (by omega) h
                  · have h := h.2 c189
                    have hl := lv_sub hl (l' := []) [] rfl
                    exact bL_law_484 FX hS hw hl (by omega) (by omega) h
          · have h := h.2 c38
            refine lv_aload_n S.1 S.2.1 dL_law_396 rfl (lv_at hl 4 rfl) ?_
            refine lv_bipush (v := 10) S.1 S.2.1 dL_law_397 (by decide) ?_
            refine lv_iload S.1 S.2.1 dL_law_399 (lv_at hl 16 rfl) ?_
            refine lv_iconst (v := 0) S.1 S.2.1 dL_law_401 (by decide) ?_
            refine lv_iconst (v := 0) S.1 S.2.1 dL_law_402 (by decide) ?_
            obtain ⟨a190, a191, h1, h2, h⟩ := h
            refine r_callSW (rest := []) S hg hS (mtL_c10 (mc := a190) (ms := a191) hfl h) u216 u217 u26 u218 hdL_call hw ⟨Nat.le_of_ble_eq_true rfl, Nat.le_of_ble_eq_true rfl⟩ ⟨by show (uc + a31) + a190 ≤ 897972; omega, by show (us + a32) + a191 ≤ 6395332; omega⟩ hl.1 (Nat.le_of_ble_eq_true rfl) rfl dL_law_403 (fun rv H locs hq hS => ?_)
            obtain ⟨r192, K193, ad1, rfl, h, hA, hw⟩ := hq
            rw [hA.1] at hl
            rw [hA.2] at hl
            clear hA
            revert hl
            revert hw
            generalize ad1 = ad
            intro hw hl
            show W p l e _ s m _ below meth c H locs _ _ _ (F0 m 406 ls [.int r192])
            refine lv_istore (lv' := [(19, .int r192), (17, .long (r33)), (16, .int t0), (0, .ref b), (1, .ref (ad 0 0)), (2, .int l2), (3, .int l3), (4, .int l4), (5, .int l5), (6, .int l6), (7, .ref (ad 16 0)), (8, .int l8), (10, .int l10), (11, .int l11), (12, .int l12), (13, .int l13), (14, .int l14), (15, .int l15)]) S.1 S.2.1 dL_law_406 hl (by decide) rfl (fun ls hl => ?_)
            refine lv_goto (tgt := 955) S.1 S.2.1 dL_law_408 (by decide) ?_
            have hl := lv_sub hl (l' := [(0, .ref b), (1, .ref (ad 0 0)), (2, .int l2), (3, .int l3), (4, .int l4), (5, .int l5), (6, .int l6), (7, .ref (ad 16 0)), (8, .int l8), (17, .long (r33)), (19, .int r192)]) [3, 4, 5, 6, 7, 8, 9, 10, 11, 1, 0] rfl
            exact bL_law_955 FX hbk30 hS hw hl (by omega) (by omega) h
        · have h := h.2 c37
          refine lv_aload_n S.1 S.2.1 dL_law_355 rfl (lv_at hl 4 rfl) ?_
          refine lv_bipush (v := 9) S.1 S.2.1 dL_law_356 (by decide) ?_
          refine lv_iload S.1 S.2.1 dL_law_358 (lv_at hl 16 rfl) ?_
          refine lv_iload S.1 S.2.1 dL_law_360 (lv_at hl 15 rfl) ?_
          refine lv_iconst (v := 0) S.1 S.2.1 dL_law_362 (by decide) ?_
          obtain ⟨a194, a195, h1, h2, h⟩ := h
          refine r_callSW (rest := []) S hg hS (mtL_c9 (mc := a194) (ms := a195) hfl h) u216 u217 u26 u218 hdL_call hw ⟨Nat.le_of_ble_eq_true rfl, Nat.le_of_ble_eq_true rfl⟩ ⟨by show (uc + a31) + a194 ≤ 897972; omega, by show (us + a32) + a195 ≤ 6395332; omega⟩ hl.1 (Nat.le_of_ble_eq_true rfl) rfl dL_law_363 (fun rv H locs hq hS => ?_)
          obtain ⟨r196, K197, ad1, rfl, h, hA, hw⟩ := hq
          rw [hA.1] at hl
          rw [hA.2] at hl
          clear hA
          revert hl
          revert hw
          generalize ad1 = ad
          intro hw hl
          show W p l e _ s m _ below meth c H locs _ _ _ (F0 m 366 ls [.int r196])
          refine lv_istore (lv' := [(19, .int r196), (17, .long (r33)), (16, .int t0), (0, .ref b), (1, .ref (ad 0 0)), (2, .int l2), (3, .int l3), (4, .int l4), (5, .int l5), (6, .int l6), (7, .ref (ad 16 0)), (8, .int l8), (10, .int l10), (11, .int l11), (12, .int l12), (13, .int l13), (14, .int l14), (15, .int l15)]) S.1 S.2.1 dL_law_366 hl (by decide) rfl (fun ls hl => ?_)
          refine lv_iload S.1 S.2.1 dL_law_368 (lv_at hl 0 rfl) ?_
          refine lv_if_lt (tgt := 955) S.1 S.2.1 dL_law_370 (by decide) (fun c198 => ?_) (fun c198 => ?_)
          · have h := h.1 c198
            have hl := lv_sub hl (l' := [(0, .ref b), (1, .ref (ad 0 0)), (2, .int l2), (3, .int l3), (4, .int l4), (5, .int l5), (6, .int l6), (7, .ref (ad 16 0)), (8, .int l8), (17, .long (r33)), (19, .int r196)]) [3, 4, 5, 6, 7, 8, 9, 10, 11, 1, 0] rfl
            exact bL_law_955 FX hbk30 hS hw hl (by omega) (by omega) h
          · have h := h.2 c198
            refine lv_aload_n S.1 S.2.1 dL_law_373 rfl (lv_at hl 4 rfl) ?_
            refine lv_iconst (v := 4) S.1 S.2.1 dL_law_374 (by decide) ?_
            refine lv_iload S.1 S.2.1 dL_law_375 (lv_at hl 15 rfl) ?_
            refine lv_iconst (v := 0) S.1 S.2.1 dL_law_377 (by decide) ?_
            refine lv_iconst (v := 0) S.1 S.2.1 dL_law_378 (by decide) ?_
            obtain ⟨a199, a200, h1, h2, h⟩ := h
            refine r_callSW (rest := []) S hg hS (mtL_c4 (mc := a199) (ms := a200) hfl h) u216 u217 u26 u218 hdL_call hw ⟨Nat.le_of_ble_eq_true rfl, Nat.le_of_ble_eq_true rfl⟩ ⟨by show ((uc + a31) + a194) + a199 ≤ 897972; omega, by show ((us + a32) + a195) + a200 ≤ 6395332; omega⟩ hl.1 (Nat.le_of_ble_eq_true rfl) rfl dL_law_379 (fun rv H locs hq hS => ?_)
            obtain ⟨r201, rfl, h, hw⟩ := hq
            show W p l e _ s m _ below meth c H locs _ _ _ (F0 m 382 ls [.int r201])
            refine lv_bipush (v := 115) S.1 S.2.1 dL_law_382 (by decide) ?_
            refine lv_icmp_eq (tgt := 955) S.1 S.2.1 dL_law_384 (by decide) (fun c202 => ?_) (fun c202 => ?_)
            · have h := h.1 c202
              have hl := lv_sub hl (l' := [(0, .ref b), (1, .ref (ad 0 0)), (2, .int l2), (3, .int l3), (4, .int l4), (5, .int l5), (6, .int l6), (7, .ref (ad 16 0)), (8, .int l8), (17, .long (r33)), (19, .int r196)]) [3, 4, 5, 6, 7, 8, 9, 10, 11, 1, 0] rfl
              exact bL_law_955 FX hbk30 hS hw hl (by omega) (by omega) h
            · have h := h.2 c202
              refine lv_iconst (v := 0) S.1 S.2.1 dL_law_387 (by decide) ?_
              exact lw_end FX hS (by omega) (by omega) h dL_law_388
      · have h := h.2 c36
        refine lv_aload_n S.1 S.2.1 dL_law_317 rfl (lv_at hl 4 rfl) ?_
        refine lv_bipush (v := 8) S.1 S.2.1 dL_law_318 (by decide) ?_
        refine lv_iload S.1 S.2.1 dL_law_320 (lv_at hl 13 rfl) ?_
        refine lv_iload S.1 S.2.1 dL_law_322 (lv_at hl 14 rfl) ?_
        refine lv_iconst (v := 0) S.1 S.2.1 dL_law_324 (by decide) ?_
        obtain ⟨a203, a204, h1, h2, h⟩ := h
        refine r_callSW (rest := []) S hg hS (mtL_c8 (mc := a203) (ms := a204) hfl h) u216 u217 u26 u218 hdL_call hw ⟨Nat.le_of_ble_eq_true rfl, Nat.le_of_ble_eq_true rfl⟩ ⟨by show (uc + a31) + a203 ≤ 897972; omega, by show (us + a32) + a204 ≤ 6395332; omega⟩ hl.1 (Nat.le_of_ble_eq_true rfl) rfl dL_law_325 (fun rv H locs hq hS => ?_)
        obtain ⟨r205, K206, ad1, rfl, h, hA, hw⟩ := hq
        rw [hA.1] at hl
        rw [hA.2] at hl
        clear hA
        revert hl
        revert hw
        generalize ad1 = ad
        intro hw hl
        show W p l e _ s m _ below meth c H locs _ _ _ (F0 m 328 ls [.int r205])
        refine lv_istore (lv' := [(19, .int r205), (17, .long (r33)), (16, .int t0), (0, .ref b), (1, .ref (ad 0 0)), (2, .int l2), (3, .int l3), (4, .int l4), (5, .int l5), (6, .int l6), (7, .ref (ad 16 0)), (8, .int l8), (10, .int l10), (11, .int l11), (12, .int l12), (13, .int l13), (14, .int l14), (15, .int l15)]) S.1 S.2.1 dL_law_328 hl (by decide) rfl (fun ls hl => ?_)
        refine lv_iload S.1 S.2.1 dL_law_330 (lv_at hl 7 rfl) ?_
        refine lv_iload S.1 S.2.1 dL_law_332 (lv_at hl 0 rfl) ?_
        refine lv_if_lt (tgt := 341) S.1 S.2.1 dL_law_334 (by decide) (fun c207 => ?_) (fun c207 => ?_)
        · have h := h.1 c207
          refine lv_iconst (v := 0) S.1 S.2.1 dL_law_341 (by decide) ?_
          have hl := lv_sub hl (l' := [(0, .ref b), (1, .ref (ad 0 0)), (2, .int l2), (3, .int l3), (5, .int l5), (6, .int l6), (7, .ref (ad 16 0)), (8, .int l8), (17, .long (r33)), (19, .int r205)]) [3, 4, 5, 6, 8, 9, 10, 11, 1, 0] rfl
          exact bL_law_342 FX hbk30 hS hw hl (by omega) (by omega) h
        · have h := h.2 c207
          refine lv_iconst (v := 1) S.1 S.2.1 dL_law_337 (by decide) ?_
          refine lv_goto (tgt := 342) S.1 S.2.1 dL_law_338 (by decide) ?_
          have hl := lv_sub hl (l' := [(0, .ref b), (1, .ref (ad 0 0)), (2, .int l2), (3, .int l3), (5, .int l5), (6, .int l6), (7, .ref (ad 16 0)), (8, .int l8), (17, .long (r33)), (19, .int r205)]) [3, 4, 5, 6, 8, 9, 10, 11, 1, 0] rfl
          exact bL_law_342 FX hbk30 hS hw hl (by omega) (by omega) h
    · have h := h.2 c35
      refine lv_aload_n S.1 S.2.1 dL_law_264 rfl (lv_at hl 4 rfl) ?_
      refine lv_iconst (v := 1) S.1 S.2.1 dL_law_265 (by decide) ?_
      refine lv_iload S.1 S.2.1 dL_law_266 (lv_at hl 11 rfl) ?_
      refine lv_bipush (v := 12) S.1 S.2.1 dL_law_268 (by decide) ?_
      refine lv_icmp_ge (tgt := 280) S.1 S.2.1 dL_law_270 (by decide) (fun c208 => ?_) (fun c208 => ?_)
      · have h := h.1 c208
        refine lv_iload S.1 S.2.1 dL_law_280 (lv_at hl 13 rfl) ?_
        have hl := lv_sub hl (l' := [(0, .ref b), (1, .ref (ad 0 0)), (2, .int l2), (3, .int l3), (4, .int l4), (5, .int l5), (6, .int l6), (7, .ref (ad 16 0)), (8, .int l8), (10, .int l10), (17, .long (r33))]) [3, 4, 5, 6, 7, 8, 9, 10, 11, 12, 1] rfl
        exact bL_law_282 FX hbk30 hS hw hl (by omega) (by omega) h
      · have h := h.2 c208
        refine lv_iload S.1 S.2.1 dL_law_273 (lv_at hl 11 rfl) ?_
        refine lv_iconst (v := 3) S.1 S.2.1 dL_law_275 (by decide) ?_
        refine lv_irem S.1 S.2.1 dL_law_276 (by decide) ?_
        refine lv_goto (tgt := 282) S.1 S.2.1 dL_law_277 (by decide) ?_
        have hl := lv_sub hl (l' := [(0, .ref b), (1, .ref (ad 0 0)), (2, .int l2), (3, .int l3), (4, .int l4), (5, .int l5), (6, .int l6), (7, .ref (ad 16 0)), (8, .int l8), (10, .int l10), (17, .long (r33))]) [3, 4, 5, 6, 7, 8, 9, 10, 11, 12, 1] rfl
        exact bL_law_282 FX hbk30 hS hw hl (by omega) (by omega) h
  · have h := h.2 c34
    refine lv_aload_n S.1 S.2.1 dL_law_203 rfl (lv_at hl 4 rfl) ?_
    refine lv_iconst (v := 0) S.1 S.2.1 dL_law_204 (by decide) ?_
    refine lv_iload S.1 S.2.1 dL_law_205 (lv_at hl 12 rfl) ?_
    refine lv_sipush (v := 300) S.1 S.2.1 dL_law_207 (by decide) ?_
    refine r_callS (rest := [.int 0, .ref (ad 0 0)]) S hg hS (mtL_low (mc := 0) (ms := 0) h) u212 u213 u26 u214 hdL_low hw ⟨Nat.le_of_ble_eq_true rfl, Nat.le_of_ble_eq_true rfl⟩ ⟨by show (uc + a31) + 0 ≤ 897972; omega, by show (us + a32) + 0 ≤ 6395332; omega⟩ hl.1 (Nat.le_of_ble_eq_true rfl) rfl dL_law_210 (fun E ce q H1 locs1 hx hS1 hc1 hc2 hc3 => hx.elim) (fun rv H locs hq hS => ?_)
    obtain ⟨r215, rfl, h, hw⟩ := hq
    show W p l e _ s m _ below meth c H locs _ _ _ (F0 m 213 ls [.int r215, .int 0, .ref (ad 0 0)])
    show W p l e _ s m _ below meth c H locs (uc + a31) (us + a32) _ _
    refine lv_iconst (v := 0) S.1 S.2.1 dL_law_213 (by decide) ?_
    refine lv_iconst (v := 0) S.1 S.2.1 dL_law_214 (by decide) ?_
    obtain ⟨a216, a217, h1, h2, h⟩ := h
    refine r_callSW (rest := []) S hg hS (mtL_c0 (mc := a216) (ms := a217) hfl h) u216 u217 u26 u218 hdL_call hw ⟨Nat.le_of_ble_eq_true rfl, Nat.le_of_ble_eq_true rfl⟩ ⟨by show (uc + a31) + a216 ≤ 897972; omega, by show (us + a32) + a217 ≤ 6395332; omega⟩ hl.1 (Nat.le_of_ble_eq_true rfl) rfl dL_law_215 (fun rv H locs hq hS => ?_)
    obtain ⟨r218, K219, ad1, rfl, h, hA, hw⟩ := hq
    rw [hA.1] at hl
    rw [hA.2] at hl
    clear hA
    revert hl
    revert hw
    generalize ad1 = ad
    intro hw hl
    show W p l e _ s m _ below meth c H locs _ _ _ (F0 m 218 ls [.int r218])
    refine lv_istore (lv' := [(19, .int r218), (17, .long (r33)), (16, .int t0), (0, .ref b), (1, .ref (ad 0 0)), (2, .int l2), (3, .int l3), (4, .int l4), (5, .int l5), (6, .int l6), (7, .ref (ad 16 0)), (8, .int l8), (10, .int l10), (11, .int l11), (12, .int l12), (13, .int l13), (14, .int l14), (15, .int l15)]) S.1 S.2.1 dL_law_218 hl (by decide) rfl (fun ls hl => ?_)
    refine lv_iload S.1 S.2.1 dL_law_220 (lv_at hl 9 rfl) ?_
    refine lv_iload S.1 S.2.1 dL_law_222 (lv_at hl 0 rfl) ?_
    refine lv_if_lt (tgt := 238) S.1 S.2.1 dL_law_224 (by decide) (fun c220 => ?_) (fun c220 => ?_)
    · have h := h.1 c220
      refine lv_iconst (v := 0) S.1 S.2.1 dL_law_238 (by decide) ?_
      have hl := lv_sub hl (l' := [(0, .ref b), (1, .ref (ad 0 0)), (2, .int l2), (3, .int l3), (4, .int l4), (5, .int l5), (7, .ref (ad 16 0)), (8, .int l8), (17, .long (r33)), (19, .int r218)]) [3, 4, 5, 6, 7, 8, 10, 11, 1, 0] rfl
      exact bL_law_239 FX hbk30 hS hw hl (by omega) (by omega) h
    · have h := h.2 c220
      refine lv_iload S.1 S.2.1 dL_law_227 (lv_at hl 12 rfl) ?_
      refine lv_sipush (v := 300) S.1 S.2.1 dL_law_229 (by decide) ?_
      refine r_callS (rest := [.int l6]) S hg hS (mtL_low (mc := 0) (ms := 0) h) u212 u213 u26 u214 hdL_low hw ⟨Nat.le_of_ble_eq_true rfl, Nat.le_of_ble_eq_true rfl⟩ ⟨by show ((uc + a31) + a216) + 0 ≤ 897972; omega, by show ((us + a32) + a217) + 0 ≤ 6395332; omega⟩ hl.1 (Nat.le_of_ble_eq_true rfl) rfl dL_law_232 (fun E ce q H1 locs1 hx hS1 hc1 hc2 hc3 => hx.elim) (fun rv H locs hq hS => ?_)
      obtain ⟨r222, rfl, h, hw⟩ := hq
      show W p l e _ s m _ below meth c H locs _ _ _ (F0 m 235 ls [.int r222, .int l6])
      show W p l e _ s m _ below meth c H locs ((uc + a31) + a216) ((us + a32) + a217) _ _
      refine lv_goto (tgt := 239) S.1 S.2.1 dL_law_235 (by decide) ?_
      have hl := lv_sub hl (l' := [(0, .ref b), (1, .ref (ad 0 0)), (2, .int l2), (3, .int l3), (4, .int l4), (5, .int l5), (7, .ref (ad 16 0)), (8, .int l8), (17, .long (r33)), (19, .int r218)]) [3, 4, 5, 6, 7, 8, 10, 11, 1, 0] rfl
      exact bL_law_239 FX hbk30 hS hw hl (by omega) (by omega) h
