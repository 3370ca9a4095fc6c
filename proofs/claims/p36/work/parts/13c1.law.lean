def wL_law_123 (bk30 : Nat → Nat → Int32 → Int32 → Int32 → Int32 → Int32 → Int32 → KS → KS → Prop) (uc us : Nat) (l2 : Int32) (l3 : Int32) (l4 : Int32) (l5 : Int32) (l6 : Int32) (l8 : Int32) (l9 : Int32) (l10 : Int32) (l11 : Int32) (l12 : Int32) (l13 : Int32) (t0 : Int32) (t1 : Int32) (K M : KS) : Prop := (wpL_low (fun r25 => (wpL_low (fun r26 => ((3 ≤ l8 → (((12 ≤ l8 → (((¬ l8 = 12 → ((wpL_low (fun r30 => wL_law_181 bk30 uc us l2 l3 l4 l5 l6 l8 l10 l11 l12 l13 r25 r26 r30 K M) K l9 28))) ∧ (l8 = 12 → (wL_law_181 bk30 uc us l2 l3 l4 l5 l6 l8 l10 l11 l12 l13 r25 r26 3 K M))))) ∧ (¬ 12 ≤ l8 → (wL_law_181 bk30 uc us l2 l3 l4 l5 l6 l8 l10 l11 l12 l13 r25 r26 1 K M))))) ∧ (¬ 3 ≤ l8 → (wL_law_181 bk30 uc us l2 l3 l4 l5 l6 l8 l10 l11 l12 l13 r25 r26 0 K M)))) K (l10 >>> (8 &&& 31)) (l5 + 1))) K t1 t0)
set_option maxHeartbeats 4000000 in
set_option maxRecDepth 100000 in
theorem bL_law_123 {p : Program} {l : Launch} {e : Env} {s : State} {m : MethodId} {below : List Frame} {meth : Method} {c : Code} {D : va_G} {cI : Nat → ClassId} {e0 : Nat} {A : Nat → Prop} {b L : Nat} {xs : Nat → Int32} {ap o : Int64} {od : UInt64} {bk30 : Nat → Nat → Int32 → Int32 → Int32 → Int32 → Int32 → Int32 → KS → KS → Prop} (FX : LX p l s m meth c D cI e0 A b L xs) (hbk30 : ∀ {ad : Nat → Nat → Nat} {H : Heap} {locs : List Loc} {ls : Array Slot} {uc us : Nat} {l2 : Int32} {l3 : Int32} {l4 : Int32} {l5 : Int32} {l6 : Int32} {l8 : Int32} {K M : KS}, va_S A s.heap H locs → HT D cI e0 A ad K M ap o od H → lv_has ls 24 [(0, .ref b), (1, .ref (ad 0 0)), (2, .int l2), (3, .int l3), (4, .int l4), (5, .int l5), (6, .int l6), (7, .ref (ad 16 0)), (8, .int l8)] → uc ≤ 897972 → us ≤ 6395332 → bk30 uc us l2 l3 l4 l5 l6 l8 K M → W p l e room_1 s m #[Value.ref b] below meth c H locs uc us (lw_Z below #[Value.ref b] s) (F0 m 30 ls [])) : ∀ {ad : Nat → Nat → Nat} {H : Heap} {locs : List Loc} {ls : Array Slot} {uc us : Nat} {l2 : Int32} {l3 : Int32} {l4 : Int32} {l5 : Int32} {l6 : Int32} {l8 : Int32} {l9 : Int32} {l10 : Int32} {l11 : Int32} {l12 : Int32} {l13 : Int32} {t0 : Int32} {t1 : Int32} {K M : KS}, va_S A s.heap H locs → HT D cI e0 A ad K M ap o od H → lv_has ls 24 [(0, .ref b), (1, .ref (ad 0 0)), (2, .int l2), (3, .int l3), (4, .int l4), (5, .int l5), (6, .int l6), (7, .ref (ad 16 0)), (8, .int l8), (9, .int l9), (10, .int l10), (11, .int l11), (12, .int l12), (13, .int l13)] → uc ≤ 897972 → us ≤ 6395332 → wL_law_123 bk30 uc us l2 l3 l4 l5 l6 l8 l9 l10 l11 l12 l13 t0 t1 K M → W p l e room_1 s m #[Value.ref b] below meth c H locs uc us (lw_Z below #[Value.ref b] s) (F0 m 123 ls [.int t0, .int t1]) := by
  obtain ⟨hfl, S, hg, hX, hbl, hbA, hL⟩ := FX.facts
  intro ad H locs ls uc us l2 l3 l4 l5 l6 l8 l9 l10 l11 l12 l13 t0 t1 K M hS hw hl huc hus h
  unfold wL_law_123 at h
  refine r_callS (rest := []) S hg hS (mtL_low (mc := 0) (ms := 0) h) u212 u213 u26 u214 hdL_low hw ⟨Nat.le_of_ble_eq_true rfl, Nat.le_of_ble_eq_true rfl⟩ ⟨by show uc + 0 ≤ 897972; omega, by show us + 0 ≤ 6395332; omega⟩ hl.1 (Nat.le_of_ble_eq_true rfl) rfl dL_law_123 (fun E ce q H1 locs1 hx hS1 hc1 hc2 hc3 => hx.elim) (fun rv H locs hq hS => ?_)
  obtain ⟨r25, rfl, h, hw⟩ := hq
  show W p l e _ s m _ below meth c H locs _ _ _ (F0 m 126 ls [.int r25])
  show W p l e _ s m _ below meth c H locs uc us _ _
  refine lv_istore (lv' := [(14, .int r25), (0, .ref b), (1, .ref (ad 0 0)), (2, .int l2), (3, .int l3), (4, .int l4), (5, .int l5), (6, .int l6), (7, .ref (ad 16 0)), (8, .int l8), (9, .int l9), (10, .int l10), (11, .int l11), (12, .int l12), (13, .int l13)]) S.1 S.2.1 dL_law_126 hl (by decide) rfl (fun ls hl => ?_)
  refine lv_iload S.1 S.2.1 dL_law_128 (lv_at hl 11 rfl) ?_
  refine lv_bipush (v := 8) S.1 S.2.1 dL_law_130 (by decide) ?_
  refine lv_ishr S.1 S.2.1 dL_law_132 ?_
  refine lv_iload S.1 S.2.1 dL_law_133 (lv_at hl 6 rfl) ?_
  refine lv_iconst (v := 1) S.1 S.2.1 dL_law_135 (by decide) ?_
  refine lv_iadd S.1 S.2.1 dL_law_136 ?_
  refine r_callS (rest := []) S hg hS (mtL_low (mc := 0) (ms := 0) h) u212 u213 u26 u214 hdL_low hw ⟨Nat.le_of_ble_eq_true rfl, Nat.le_of_ble_eq_true rfl⟩ ⟨by show uc + 0 ≤ 897972; omega, by show us + 0 ≤ 6395332; omega⟩ hl.1 (Nat.le_of_ble_eq_true rfl) rfl dL_law_137 (fun E ce q H1 locs1 hx hS1 hc1 hc2 hc3 => hx.elim) (fun rv H locs hq hS => ?_)
  obtain ⟨r26, rfl, h, hw⟩ := hq
  show W p l e _ s m _ below meth c H locs _ _ _ (F0 m 140 ls [.int r26])
  show W p l e _ s m _ below meth c H locs uc us _ _
  refine lv_istore (lv' := [(15, .int r26), (14, .int r25), (0, .ref b), (1, .ref (ad 0 0)), (2, .int l2), (3, .int l3), (4, .int l4), (5, .int l5), (6, .int l6), (7, .ref (ad 16 0)), (8, .int l8), (9, .int l9), (10, .int l10), (11, .int l11), (12, .int l12), (13, .int l13)]) S.1 S.2.1 dL_law_140 hl (by decide) rfl (fun ls hl => ?_)
  refine lv_iload S.1 S.2.1 dL_law_142 (lv_at hl 10 rfl) ?_
  refine lv_iconst (v := 3) S.1 S.2.1 dL_law_144 (by decide) ?_
  refine lv_icmp_ge (tgt := 152) S.1 S.2.1 dL_law_145 (by decide) (fun c27 => ?_) (fun c27 => ?_)
  · have h := h.1 c27
    refine lv_iload S.1 S.2.1 dL_law_152 (lv_at hl 10 rfl) ?_
    refine lv_bipush (v := 12) S.1 S.2.1 dL_law_154 (by decide) ?_
    refine lv_icmp_ge (tgt := 163) S.1 S.2.1 dL_law_156 (by decide) (fun c28 => ?_) (fun c28 => ?_)
    · have h := h.1 c28
      refine lv_iload S.1 S.2.1 dL_law_163 (lv_at hl 10 rfl) ?_
      refine lv_bipush (v := 12) S.1 S.2.1 dL_law_165 (by decide) ?_
      refine lv_icmp_ne (tgt := 174) S.1 S.2.1 dL_law_167 (by decide) (fun c29 => ?_) (fun c29 => ?_)
      · have h := h.1 c29
        refine lv_iload S.1 S.2.1 dL_law_174 (lv_at hl 11 rfl) ?_
        refine lv_bipush (v := 28) S.1 S.2.1 dL_law_176 (by decide) ?_
        refine r_callS (rest := []) S hg hS (mtL_low (mc := 0) (ms := 0) h) u212 u213 u26 u214 hdL_low hw ⟨Nat.le_of_ble_eq_true rfl, Nat.le_of_ble_eq_true rfl⟩ ⟨by show uc + 0 ≤ 897972; omega, by show us + 0 ≤ 6395332; omega⟩ hl.1 (Nat.le_of_ble_eq_true rfl) rfl dL_law_178 (fun E ce q H1 locs1 hx hS1 hc1 hc2 hc3 => hx.elim) (fun rv H locs hq hS => ?_)
        obtain ⟨r30, rfl, h, hw⟩ := hq
        show W p l e _ s m _ below meth c H locs _ _ _ (F0 m 181 ls [.int r30])
        show W p l e _ s m _ below meth c H locs uc us _ _
        have hl := lv_sub hl (l' := [(0, .ref b), (1, .ref (ad 0 0)), (2, .int l2), (3, .int l3), (4, .int l4), (5, .int l5), (6, .int l6), (7, .ref (ad 16 0)), (8, .int l8), (10, .int l10), (11, .int l11), (12, .int l12), (13, .int l13), (14, .int r25), (15, .int r26)]) [2, 3, 4, 5, 6, 7, 8, 9, 10, 12, 13, 14, 15, 1, 0] rfl
        exact bL_law_181 FX hbk30 hS hw hl (by omega) (by omega) h
      · have h := h.2 c29
        refine lv_iconst (v := 3) S.1 S.2.1 dL_law_170 (by decide) ?_
        refine lv_goto (tgt := 181) S.1 S.2.1 dL_law_171 (by decide) ?_
        have hl := lv_sub hl (l' := [(0, .ref b), (1, .ref (ad 0 0)), (2, .int l2), (3, .int l3), (4, .int l4), (5, .int l5), (6, .int l6), (7, .ref (ad 16 0)), (8, .int l8), (10, .int l10), (11, .int l11), (12, .int l12), (13, .int l13), (14, .int r25), (15, .int r26)]) [2, 3, 4, 5, 6, 7, 8, 9, 10, 12, 13, 14, 15, 1, 0] rfl
        exact bL_law_181 FX hbk30 hS hw hl (by omega) (by omega) h
    · have h := h.2 c28
      refine lv_iconst (v := 1) S.1 S.2.1 dL_law_159 (by decide) ?_
      refine lv_goto (tgt := 181) S.1 S.2.1 dL_law_160 (by decide) ?_
      have hl := lv_sub hl (l' := [(0, .ref b), (1, .ref (ad 0 0)), (2, .int l2), (3, .int l3), (4, .int l4), (5, .int l5), (6, .int l6), (7, .ref (ad 16 0)), (8, .int l8), (10, .int l10), (11, .int l11), (12, .int l12), (13, .int l13), (14, .int r25), (15, .int r26)]) [2, 3, 4, 5, 6, 7, 8, 9, 10, 12, 13, 14, 15, 1, 0] rfl
      exact bL_law_181 FX hbk30 hS hw hl (by omega) (by omega) h
  · have h := h.2 c27
    refine lv_iconst (v := 0) S.1 S.2.1 dL_law_148 (by decide) ?_
    refine lv_goto (tgt := 181) S.1 S.2.1 dL_law_149 (by decide) ?_
    have hl := lv_sub hl (l' := [(0, .ref b), (1, .ref (ad 0 0)), (2, .int l2), (3, .int l3), (4, .int l4), (5, .int l5), (6, .int l6), (7, .ref (ad 16 0)), (8, .int l8), (10, .int l10), (11, .int l11), (12, .int l12), (13, .int l13), (14, .int r25), (15, .int r26)]) [2, 3, 4, 5, 6, 7, 8, 9, 10, 12, 13, 14, 15, 1, 0] rfl
    exact bL_law_181 FX hbk30 hS hw hl (by omega) (by omega) h
def wL_law_30 : Nat → Nat → Nat → Int32 → Int32 → Int32 → Int32 → Int32 → Int32 → KS → KS → Prop
  | 0 => fun _ _ _ _ _ _ _ _ _ _ => False
  | n + 1 => fun uc us l2 l3 l4 l5 l6 l8 K M => ((76 ≤ l8 → ((∃ a2 a3 : Nat, uc + a2 ≤ 897972 ∧ us + a3 ≤ 6395332 ∧ wpL_c2 (fun r4 => ((¬ r4 = (-1001) → (wL_law_1178 (uc + a2) (us + a3) K M)) ∧ (r4 = (-1001) → ((∃ a6 a7 : Nat, (uc + a2) + a6 ≤ 897972 ∧ (us + a3) + a7 ≤ 6395332 ∧ wpL_c13 (fun r8 => ((¬ r8 = (-1001) → (wL_law_1178 ((uc + a2) + a6) ((us + a3) + a7) K M)) ∧ (r8 = (-1001) → ((∃ a10 a11 : Nat, ((uc + a2) + a6) + a10 ≤ 897972 ∧ ((us + a3) + a7) + a11 ≤ 6395332 ∧ wpL_c25 (fun r12 => ((¬ r12 = (-1001) → (wL_law_1178 (((uc + a2) + a6) + a10) (((us + a3) + a7) + a11) K M)) ∧ (r12 = (-1001) → (wL_law_1179 (((uc + a2) + a6) + a10) (((us + a3) + a7) + a11) 1 K M)))) a10 a11 K l5 0 0))))) a6 a7 K l4 0 0))))) a2 a3 K l3 0 0))) ∧ (¬ 76 ≤ l8 → ((∃ j14 : Nat, (2 * l8 = nI j14 ∧ j14 < 2 ^ 30) ∧ ∀ v16 : Int32, ((∃ j17 : Nat, ((2 * l8) + 1 = nI j17 ∧ j17 < 2 ^ 30) ∧ ∀ v19 : Int32, ((wpL_low (fun r20 => (wpL_low (fun r21 => (wpL_low (fun r22 => (wpL_low (fun r23 => ((¬ r23 = 0 → (wL_law_123 (wL_law_30 n) uc us l2 l3 l4 l5 l6 l8 v16 v19 r20 r21 r22 (if 1 < l4 then l4 else 1) (v16 >>> (12 &&& 31)) K M)) ∧ (r23 = 0 → (wL_law_123 (wL_law_30 n) uc us l2 l3 l4 l5 l6 l8 v16 v19 r20 r21 r22 (l4 + 1) (v16 >>> (12 &&& 31)) K M)))) K v16 19)) K v19 (l3 + 1))) K (v16 >>> (9 &&& 31)) (l2 + 1))) K (v16 >>> (6 &&& 31)) (l2 + 1)))))))))
set_option maxHeartbeats 4000000 in
set_option maxRecDepth 100000 in
theorem bL_law_30 {p : Program} {l : Launch} {e : Env} {s : State} {m : MethodId} {below : List Frame} {meth : Method} {c : Code} {D : va_G} {cI : Nat → ClassId} {e0 : Nat} {A : Nat → Prop} {b L : Nat} {xs : Nat → Int32} {ap o : Int64} {od : UInt64} (FX : LX p l s m meth c D cI e0 A b L xs) : ∀ n : Nat, ∀ {ad : Nat → Nat → Nat} {H : Heap} {locs : List Loc} {ls : Array Slot} {uc us : Nat} {l2 : Int32} {l3 : Int32} {l4 : Int32} {l5 : Int32} {l6 : Int32} {l8 : Int32} {K M : KS}, va_S A s.heap H locs → HT D cI e0 A ad K M ap o od H → lv_has ls 24 [(0, .ref b), (1, .ref (ad 0 0)), (2, .int l2), (3, .int l3), (4, .int l4), (5, .int l5), (6, .int l6), (7, .ref (ad 16 0)), (8, .int l8)] → uc ≤ 897972 → us ≤ 6395332 → wL_law_30 n uc us l2 l3 l4 l5 l6 l8 K M → W p l e room_1 s m #[Value.ref b] below meth c H locs uc us (lw_Z below #[Value.ref b] s) (F0 m 30 ls []) := by
  obtain ⟨hfl, S, hg, hX, hbl, hbA, hL⟩ := FX.facts
  intro n
  induction n with
  | zero => intros; exact False.elim (by assumption)
  | succ n ih =>
    intro ad H locs ls uc us l2 l3 l4 l5 l6 l8 K M hS hw hl huc hus h
    unfold wL_law_30 at h
    refine lv_iload S.1 S.2.1 dL_law_30 (lv_at hl 8 rfl) ?_
    refine lv_bipush (v := 76) S.1 S.2.1 dL_law_32 (by decide) ?_
    refine lv_icmp_ge (tgt := 1128) S.1 S.2.1 dL_law_34 (by decide) (fun c1 => ?_) (fun c1 => ?_)
    · have h := h.1 c1
      refine lv_aload_n S.1 S.2.1 dL_law_1128 rfl (lv_at hl 1 rfl) ?_
      refine lv_iconst (v := 2) S.1 S.2.1 dL_law_1129 (by decide) ?_
      refine lv_iload_n S.1 S.2.1 dL_law_1130 rfl (lv_at hl 3 rfl) ?_
      refine lv_iconst (v := 0) S.1 S.2.1 dL_law_1131 (by decide) ?_
      refine lv_iconst (v := 0) S.1 S.2.1 dL_law_1132 (by decide) ?_
      obtain ⟨a2, a3, h1, h2, h⟩ := h
      refine r_callSW (rest := []) S hg hS (mtL_c2 (mc := a2) (ms := a3) hfl h) u216 u217 u26 u218 hdL_call hw ⟨Nat.le_of_ble_eq_true rfl, Nat.le_of_ble_eq_true rfl⟩ ⟨by show uc + a2 ≤ 897972; omega, by show us + a3 ≤ 6395332; omega⟩ hl.1 (Nat.le_of_ble_eq_true rfl) rfl dL_law_1133 (fun rv H locs hq hS => ?_)
      obtain ⟨r4, rfl, h, hw⟩ := hq
      show W p l e _ s m _ below meth c H locs _ _ _ (F0 m 1136 ls [.int r4])
      refine lv_sipush (v := (-1001)) S.1 S.2.1 dL_law_1136 (by decide) ?_
      refine lv_icmp_ne (tgt := 1178) S.1 S.2.1 dL_law_1139 (by decide) (fun c5 => ?_) (fun c5 => ?_)
      · have h := h.1 c5
        have hl := lv_sub hl (l' := []) [] rfl
        exact bL_law_1178 FX hS hw hl (by omega) (by omega) h
      · have h := h.2 c5
        refine lv_aload_n S.1 S.2.1 dL_law_1142 rfl (lv_at hl 1 rfl) ?_
        refine lv_bipush (v := 13) S.1 S.2.1 dL_law_1143 (by decide) ?_
        refine lv_iload S.1 S.2.1 dL_law_1145 (lv_at hl 4 rfl) ?_
        refine lv_iconst (v := 0) S.1 S.2.1 dL_law_1147 (by decide) ?_
        refine lv_iconst (v := 0) S.1 S.2.1 dL_law_1148 (by decide) ?_
        obtain ⟨a6, a7, h1, h2, h⟩ := h
        refine r_callSW (rest := []) S hg hS (mtL_c13 (mc := a6) (ms := a7) hfl h) u216 u217 u26 u218 hdL_call hw ⟨Nat.le_of_ble_eq_true rfl, Nat.le_of_ble_eq_true rfl⟩ ⟨by show (uc + a2) + a6 ≤ 897972; omega, by show (us + a3) + a7 ≤ 6395332; omega⟩ hl.1 (Nat.le_of_ble_eq_true rfl) rfl dL_law_1149 (fun rv H locs hq hS => ?_)
        obtain ⟨r8, rfl, h, hw⟩ := hq
        show W p l e _ s m _ below meth c H locs _ _ _ (F0 m 1152 ls [.int r8])
        refine lv_sipush (v := (-1001)) S.1 S.2.1 dL_law_1152 (by decide) ?_
        refine lv_icmp_ne (tgt := 1178) S.1 S.2.1 dL_law_1155 (by decide) (fun c9 => ?_) (fun c9 => ?_)
        · have h := h.1 c9
          have hl := lv_sub hl (l' := []) [] rfl
          exact bL_law_1178 FX hS hw hl (by omega) (by omega) h
        · have h := h.2 c9
          refine lv_aload_n S.1 S.2.1 dL_law_1158 rfl (lv_at hl 1 rfl) ?_
          refine lv_bipush (v := 25) S.1 S.2.1 dL_law_1159 (by decide) ?_
          refine lv_iload S.1 S.2.1 dL_law_1161 (lv_at hl 5 rfl) ?_
          refine lv_iconst (v := 0) S.1 S.2.1 dL_law_1163 (by decide) ?_
          refine lv_iconst (v := 0) S.1 S.2.1 dL_law_1164 (by decide) ?_
          obtain ⟨a10, a11, h1, h2, h⟩ := h
          refine r_callSW (rest := []) S hg hS (mtL_c25 (mc := a10) (ms := a11) hfl h) u216 u217 u26 u218 hdL_call hw ⟨Nat.le_of_ble_eq_true rfl, Nat.le_of_ble_eq_true rfl⟩ ⟨by show ((uc + a2) + a6) + a10 ≤ 897972; omega, by show ((us + a3) + a7) + a11 ≤ 6395332; omega⟩ hl.1 (Nat.le_of_ble_eq_true rfl) rfl dL_law_1165 (fun rv H locs hq hS => ?_)
          obtain ⟨r12, rfl, h, hw⟩ := hq
          show W p l e _ s m _ below meth c H locs _ _ _ (F0 m 1168 ls [.int r12])
          refine lv_sipush (v := (-1001)) S.1 S.2.1 dL_law_1168 (by decide) ?_
          refine lv_icmp_ne (tgt := 1178) S.1 S.2.1 dL_law_1171 (by decide) (fun c13 => ?_) (fun c13 => ?_)
          · have h := h.1 c13
            have hl := lv_sub hl (l' := []) [] rfl
            exact bL_law_1178 FX hS hw hl (by omega) (by omega) h
          · have h := h.2 c13
            refine lv_iconst (v := 1) S.1 S.2.1 dL_law_1174 (by decide) ?_
            refine lv_goto (tgt := 1179) S.1 S.2.1 dL_law_1175 (by decide) ?_
            have hl := lv_sub hl (l' := []) [] rfl
            exact bL_law_1179 FX hS hw hl (by omega) (by omega) h
    · have h := h.2 c1
      refine lv_aload_n S.1 S.2.1 dL_law_37 rfl (lv_at hl 0 rfl) ?_
      refine lv_iconst (v := 2) S.1 S.2.1 dL_law_38 (by decide) ?_
      refine lv_iload S.1 S.2.1 dL_law_39 (lv_at hl 8 rfl) ?_
      refine lv_imul S.1 S.2.1 dL_law_41 ?_
      obtain ⟨j14, g15, h⟩ := h
      refine r_cell (rest := []) S hg hS hX hbl hbA g15 (by omega) u208 hw ⟨Nat.le_of_ble_eq_true rfl, Nat.le_of_ble_eq_true rfl⟩ ⟨by show uc ≤ 897972; omega, by show us ≤ 6395332; omega⟩ hl.1 (Nat.le_of_ble_eq_true rfl) dL_law_42 (fun v16 H locs hw hS => ?_)
      have h := h v16
      refine lv_istore (lv' := [(9, .int v16), (0, .ref b), (1, .ref (ad 0 0)), (2, .int l2), (3, .int l3), (4, .int l4), (5, .int l5), (6, .int l6), (7, .ref (ad 16 0)), (8, .int l8)]) S.1 S.2.1 dL_law_45 hl (by decide) rfl (fun ls hl => ?_)
      refine lv_aload_n S.1 S.2.1 dL_law_47 rfl (lv_at hl 1 rfl) ?_
      refine lv_iconst (v := 2) S.1 S.2.1 dL_law_48 (by decide) ?_
      refine lv_iload S.1 S.2.1 dL_law_49 (lv_at hl 9 rfl) ?_
      refine lv_imul S.1 S.2.1 dL_law_51 ?_
      refine lv_iconst (v := 1) S.1 S.2.1 dL_law_52 (by decide) ?_
      refine lv_iadd S.1 S.2.1 dL_law_53 ?_
      obtain ⟨j17, g18, h⟩ := h
      refine r_cell (rest := []) S hg hS hX hbl hbA g18 (by omega) u208 hw ⟨Nat.le_of_ble_eq_true rfl, Nat.le_of_ble_eq_true rfl⟩ ⟨by show uc ≤ 897972; omega, by show us ≤ 6395332; omega⟩ hl.1 (Nat.le_of_ble_eq_true rfl) dL_law_54 (fun v19 H locs hw hS => ?_)
      have h := h v19
      refine lv_istore (lv' := [(10, .int v19), (9, .int v16), (0, .ref b), (1, .ref (ad 0 0)), (2, .int l2), (3, .int l3), (4, .int l4), (5, .int l5), (6, .int l6), (7, .ref (ad 16 0)), (8, .int l8)]) S.1 S.2.1 dL_law_57 hl (by decide) rfl (fun ls hl => ?_)
      refine lv_iload S.1 S.2.1 dL_law_59 (lv_at hl 1 rfl) ?_
      refine lv_bipush (v := 6) S.1 S.2.1 dL_law_61 (by decide) ?_
      refine lv_ishr S.1 S.2.1 dL_law_63 ?_
      refine lv_iload_n S.1 S.2.1 dL_law_64 rfl (lv_at hl 4 rfl) ?_
      refine lv_iconst (v := 1) S.1 S.2.1 dL_law_65 (by decide) ?_
      refine lv_iadd S.1 S.2.1 dL_law_66 ?_
      refine r_callS (rest := []) S hg hS (mtL_low (mc := 0) (ms := 0) h) u212 u213 u26 u214 hdL_low hw ⟨Nat.le_of_ble_eq_true rfl, Nat.le_of_ble_eq_true rfl⟩ ⟨by show uc + 0 ≤ 897972; omega, by show us + 0 ≤ 6395332; omega⟩ hl.1 (Nat.le_of_ble_eq_true rfl) rfl dL_law_67 (fun E ce q H1 locs1 hx hS1 hc1 hc2 hc3 => hx.elim) (fun rv H locs hq hS => ?_)
      obtain ⟨r20, rfl, h, hw⟩ := hq
      show W p l e _ s m _ below meth c H locs _ _ _ (F0 m 70 ls [.int r20])
      show W p l e _ s m _ below meth c H locs uc us _ _
      refine lv_istore (lv' := [(11, .int r20), (10, .int v19), (9, .int v16), (0, .ref b), (1, .ref (ad 0 0)), (2, .int l2), (3, .int l3), (4, .int l4), (5, .int l5), (6, .int l6), (7, .ref (ad 16 0)), (8, .int l8)]) S.1 S.2.1 dL_law_70 hl (by decide) rfl (fun ls hl => ?_)
      refine lv_iload S.1 S.2.1 dL_law_72 (lv_at hl 2 rfl) ?_
      refine lv_bipush (v := 9) S.1 S.2.1 dL_law_74 (by decide) ?_
      refine lv_ishr S.1 S.2.1 dL_law_76 ?_
      refine lv_iload_n S.1 S.2.1 dL_law_77 rfl (lv_at hl 5 rfl) ?_
      refine lv_iconst (v := 1) S.1 S.2.1 dL_law_78 (by decide) ?_
      refine lv_iadd S.1 S.2.1 dL_law_79 ?_
      refine r_callS (rest := []) S hg hS (mtL_low (mc := 0) (ms := 0) h) u212 u213 u26 u214 hdL_low hw ⟨Nat.le_of_ble_eq_true rfl, Nat.le_of_ble_eq_true rfl⟩ ⟨by show uc + 0 ≤ 897972; omega, by show us + 0 ≤ 6395332; omega⟩ hl.1 (Nat.le_of_ble_eq_true rfl) rfl dL_law_80 (fun E ce q H1 locs1 hx hS1 hc1 hc2 hc3 => hx.elim) (fun rv H locs hq hS => ?_)
      obtain ⟨r21, rfl, h, hw⟩ := hq
      show W p l e _ s m _ below meth c H locs _ _ _ (F0 m 83 ls [.int r21])
      show W p l e _ s m _ below meth c H locs uc us _ _
      refine lv_istore (lv' := [(12, .int r21), (11, .int r20), (10, .int v19), (9, .int v16), (0, .ref b), (1, .ref (ad 0 0)), (2, .int l2), (3, .int l3), (4, .int l4), (5, .int l5), (6, .int l6), (7, .ref (ad 16 0)), (8, .int l8)]) S.1 S.2.1 dL_law_83 hl (by decide) rfl (fun ls hl => ?_)
      refine lv_iload S.1 S.2.1 dL_law_85 (lv_at hl 2 rfl) ?_
      refine lv_iload_n S.1 S.2.1 dL_law_87 rfl (lv_at hl 7 rfl) ?_
      refine lv_iconst (v := 1) S.1 S.2.1 dL_law_88 (by decide) ?_
      refine lv_iadd S.1 S.2.1 dL_law_89 ?_
      refine r_callS (rest := []) S hg hS (mtL_low (mc := 0) (ms := 0) h) u212 u213 u26 u214 hdL_low hw ⟨Nat.le_of_ble_eq_true rfl, Nat.le_of_ble_eq_true rfl⟩ ⟨by show uc + 0 ≤ 897972; omega, by show us + 0 ≤ 6395332; omega⟩ hl.1 (Nat.le_of_ble_eq_true rfl) rfl dL_law_90 (fun E ce q H1 locs1 hx hS1 hc1 hc2 hc3 => hx.elim) (fun rv H locs hq hS => ?_)
      obtain ⟨r22, rfl, h, hw⟩ := hq
      show W p l e _ s m _ below meth c H locs _ _ _ (F0 m 93 ls [.int r22])
      show W p l e _ s m _ below meth c H locs uc us _ _
      refine lv_istore (lv' := [(13, .int r22), (12, .int r21), (11, .int r20), (10, .int v19), (9, .int v16), (0, .ref b), (1, .ref (ad 0 0)), (2, .int l2), (3, .int l3), (4, .int l4), (5, .int l5), (6, .int l6), (7, .ref (ad 16 0)), (8, .int l8)]) S.1 S.2.1 dL_law_93 hl (by decide) rfl (fun ls hl => ?_)
      refine lv_iload S.1 S.2.1 dL_law_95 (lv_at hl 4 rfl) ?_
      refine lv_bipush (v := 12) S.1 S.2.1 dL_law_97 (by decide) ?_
      refine lv_ishr S.1 S.2.1 dL_law_99 ?_
      refine lv_iload S.1 S.2.1 dL_law_100 (lv_at hl 4 rfl) ?_
      refine lv_bipush (v := 19) S.1 S.2.1 dL_law_102 (by decide) ?_
      refine r_callS (rest := [.int (v16 >>> (12 &&& 31))]) S hg hS (mtL_low (mc := 0) (ms := 0) h) u212 u213 u26 u214 hdL_low hw ⟨Nat.le_of_ble_eq_true rfl, Nat.le_of_ble_eq_true rfl⟩ ⟨by show uc + 0 ≤ 897972; omega, by show us + 0 ≤ 6395332; omega⟩ hl.1 (Nat.le_of_ble_eq_true rfl) rfl dL_law_104 (fun E ce q H1 locs1 hx hS1 hc1 hc2 hc3 => hx.elim) (fun rv H locs hq hS => ?_)
      obtain ⟨r23, rfl, h, hw⟩ := hq
      show W p l e _ s m _ below meth c H locs _ _ _ (F0 m 107 ls [.int r23, .int (v16 >>> (12 &&& 31))])
      show W p l e _ s m _ below meth c H locs uc us _ _
      refine lv_if_ne (tgt := 117) S.1 S.2.1 dL_law_107 (by decide) (fun c24 => ?_) (fun c24 => ?_)
      · have h := h.1 c24
        refine lv_iconst (v := 1) S.1 S.2.1 dL_law_117 (by decide) ?_
        refine lv_iload S.1 S.2.1 dL_law_118 (lv_at hl 9 rfl) ?_
        refine va_mmax S.1 S.2.1 (S.2.2.1.trans hl.1.symm) S.2.2.2.1 (S.2.2.2.2 _ u934) (S.2.2.2.2 _ u425) (S.2.2.2.2 _ u33) (S.2.2.2.2 _ u426) (Nat.le_of_ble_eq_true rfl) (Nat.le_of_ble_eq_true rfl) (by show uc ≤ 897972; omega) (by show us ≤ 6395332; omega) dL_law_120 ?_
        have hl := lv_sub hl (l' := [(0, .ref b), (1, .ref (ad 0 0)), (2, .int l2), (3, .int l3), (4, .int l4), (5, .int l5), (6, .int l6), (7, .ref (ad 16 0)), (8, .int l8), (9, .int v16), (10, .int v19), (11, .int r20), (12, .int r21), (13, .int r22)]) [5, 6, 7, 8, 9, 10, 11, 12, 13, 4, 3, 2, 1, 0] rfl
        exact bL_law_123 FX ih hS hw hl (by omega) (by omega) h
      · have h := h.2 c24
        refine lv_iload S.1 S.2.1 dL_law_110 (lv_at hl 9 rfl) ?_
        refine lv_iconst (v := 1) S.1 S.2.1 dL_law_112 (by decide) ?_
        refine lv_iadd S.1 S.2.1 dL_law_113 ?_
        refine lv_goto (tgt := 123) S.1 S.2.1 dL_law_114 (by decide) ?_
        have hl := lv_sub hl (l' := [(0, .ref b), (1, .ref (ad 0 0)), (2, .int l2), (3, .int l3), (4, .int l4), (5, .int l5), (6, .int l6), (7, .ref (ad 16 0)), (8, .int l8), (9, .int v16), (10, .int v19), (11, .int r20), (12, .int r21), (13, .int r22)]) [5, 6, 7, 8, 9, 10, 11, 12, 13, 4, 3, 2, 1, 0] rfl
        exact bL_law_123 FX ih hS hw hl (by omega) (by omega) h
