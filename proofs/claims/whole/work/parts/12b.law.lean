/-! The law's body, case by case. -/
def lawC (x : Int32) : Int32 := (x.toUInt32 % 65536).toInt32
def lawB (x : Int32) : Int32 := if x = 0 then 0 else 1
theorem lg_cmp_self (x : Int64) : lg_cmp x x = 0 := by
  unfold lg_cmp
  rw [if_neg (by simp)]
  simp
section LAWROWS
variable {p : Program} {l : Launch} {e : Env} {R : Room} {s : State} {m : MethodId} {args : Array Value} {below : List Frame} {meth : Method} {c : Code} {H : Heap} {locs : List Loc} {cells slots : Nat} {Q : State → Prop}
variable {cc : ByteArray} {nL pc : Nat} {ls : Array Slot} {rest : List Value} {own : String}
theorem r_bool {x : Int32} (S : CallFix p m c cc nL s args WU own) (d1 : decode cc pc = .ok (.ifCond .eq 7, 3)) (d2 : decode cc (pc + 3) = .ok (.iconst 1, 1)) (d3 : decode cc (pc + 4) = .ok (.goto 4, 3)) (d4 : decode cc (pc + 7) = .ok (.iconst 0, 1))
    (kk : W p l e R s m args below meth c H locs cells slots Q (F0 m (pc + 8) ls (.int (lawB x) :: rest))) : W p l e R s m args below meth c H locs cells slots Q (F0 m pc ls (.int x :: rest)) := by
  refine lv_if_eq (tgt := pc + 7) S.1 S.2.1 d1 (by omega) (fun c1 => ?_) (fun c1 => ?_)
  · refine lv_iconst (v := 0) S.1 S.2.1 d4 (by decide) ?_
    rw [show lawB x = 0 from if_pos c1] at kk
    exact kk
  · refine lv_iconst (v := 1) S.1 S.2.1 d2 (by decide) ?_
    refine lv_goto (tgt := pc + 8) S.1 S.2.1 d3 (by omega) ?_
    rw [show lawB x = 1 from if_neg c1] at kk
    exact kk
end LAWROWS

def st_player (I : Nat → Nat → KS → KS → Int64 → Prop) (uc us : Nat) (K M : KS) (ap o : Int64) (od : UInt64) (p1 : Int32) : Prop := ∃ mc ms : Nat, uc + mc ≤ 603072 ∧ us + ms ≤ 7190634 ∧ wpL_player (fun k K1 o1 od1 => wpX7_player (fun b1 M1 ap1 => wpX7_thrown (fun r1 => r1 = k ∧ (k = 0 → o1 = b1.toInt64) ∧ I (uc + mc) (us + ms) K1 M1 ap1) M1 ap1) M ap p1) mc ms K o od p1
set_option maxHeartbeats 4000000 in
theorem lc_player {p : Program} {l : Launch} {e : Env} {s : State} {m : MethodId} {args : Array Value} {below : List Frame} {meth : Method} {c : Code} {D : va_G} {cI : Nat → ClassId} {e0 : Nat} {A : Nat → Prop} {ad : Nat → Nat → Nat} {K M : KS} {ap o : Int64} {od : UInt64} {H : Heap} {locs : List Loc} {ls : Array Slot} {uc us b n5 : Nat} {xs : Nat → Int32} {x5 : Int32} {Q : State → Prop} {I : Nat → Nat → KS → KS → Int64 → Prop} {L : Nat} (hfl : l.stackTraces = false) (S : CallFix p m c cL_law 9 s args WU RL) (hg : GI D cI e0 A s s.heap) (hX : va_X b L xs s s.heap) (hbl : b < s.heap.size) (hbA : ¬ A b) (h1 : vp_in (x5 + 1) L) (e1 : xs (x5 + 1).toNatClampNeg = xs (n5 + 1)) (hS : va_S A s.heap H locs) (hw : HT D cI e0 A ad K M ap o od H) (hl : lv_has ls 9 [(0, .ref b), (1, .ref (ad 0 0)), (2, .ref (ad 3 0)), (3, .ref (ad 14 0)), (4, .ref (ad 15 0)), (5, .int x5)]) (h : st_player I uc us K M ap o od (xs (n5 + 1)))
    (kk : ∀ {uc1 us1 : Nat} {K1 M1 : KS} {ap1 o1 : Int64} {od1 : UInt64} {ad' : Nat → Nat → Nat} {H1 : Heap} {locs1 : List Loc} {ls1 : Array Slot}, I uc1 us1 K1 M1 ap1 → HT D cI e0 A ad' K1 M1 ap1 o1 od1 H1 → va_S A s.heap H1 locs1 → lv_has ls1 9 [(0, .ref b), (1, .ref (ad' 0 0)), (2, .ref (ad' 3 0)), (3, .ref (ad' 14 0)), (4, .ref (ad' 15 0)), (5, .int x5)] → W p l e room_1 s m args below meth c H1 locs1 uc1 us1 Q (F0 m 1973 ls1 [])) : W p l e room_1 s m args below meth c H locs uc us Q (F0 m 192 ls []) := by
  refine lv_aload_n S.1 S.2.1 dL_law_192 rfl (lv_at hl 1 rfl) ?_
  refine lv_aload_n S.1 S.2.1 dL_law_193 rfl (lv_at hl 0 rfl) ?_
  refine lv_iload S.1 S.2.1 dL_law_194 (lv_at hl 5 rfl) ?_
  refine lv_iconst (v := 1) S.1 S.2.1 dL_law_196 (by decide) ?_
  refine lv_iadd S.1 S.2.1 dL_law_197 ?_
  refine va_sld S.1 S.2.1 hX hbl hbA hS h1 dL_law_198 ?_
  rw [e1]
  refine lv_aload_n S.1 S.2.1 dL_law_199 rfl (lv_at hl 3 rfl) ?_
  obtain ⟨mc, ms, hm1, hm2, h⟩ := h
  refine r_callSW (rest := []) S hg hS (mtL_player (mc := mc) (ms := ms) hfl h) u231 u232 u42 u233 hdL_player hw ⟨Nat.le_of_ble_eq_true rfl, Nat.le_of_ble_eq_true rfl⟩ ⟨hm1, hm2⟩ hl.1 (Nat.le_of_ble_eq_true rfl) rfl dL_law_200 (fun rv H locs hq hS => ?_)
  obtain ⟨k, K1, o1, od1, ad1, rfl, h, hA, hw⟩ := hq
  show W p l e _ s m _ below meth c H locs (uc + mc) (us + ms) _ (F0 m 203 ls [.int k])
  rw [hA.1, hA.2.1, hA.2.2.1, hA.2.2.2] at hl
  refine lv_istore (lv' := [(6, .int k), (0, .ref b), (1, .ref (ad1 0 0)), (2, .ref (ad1 3 0)), (3, .ref (ad1 14 0)), (4, .ref (ad1 15 0)), (5, .int x5)]) S.1 S.2.1 dL_law_203 hl (by decide) rfl (fun ls hl => ?_)
  refine lv_aload_n S.1 S.2.1 dL_law_205 rfl (lv_at hl 3 rfl) ?_
  refine lv_aload_n S.1 S.2.1 dL_law_206 rfl (lv_at hl 1 rfl) ?_
  refine lv_iload S.1 S.2.1 dL_law_207 (lv_at hl 6 rfl) ?_
  refine lv_iconst (v := 1) S.1 S.2.1 dL_law_209 (by decide) ?_
  refine lv_iadd S.1 S.2.1 dL_law_210 ?_
  refine va_sld S.1 S.2.1 hX hbl hbA hS h1 dL_law_211 ?_
  rw [e1]
  refine r_call (rest := []) S hg hS (mtX7_player (mc := 0) (ms := 0) h) u1164 u1165 u1166 u49 u1167 hdX7_player (rv3 hg hw) hw ⟨Nat.le_of_ble_eq_true rfl, Nat.le_of_ble_eq_true rfl⟩ ⟨by show (uc + mc) + 0 ≤ 603072; omega, by show (us + ms) + 0 ≤ 7190634; omega⟩ hl.1 (Nat.le_of_ble_eq_true rfl) rfl dL_law_212 (fun E ce q H1 locs1 hx hS1 hc1 hc2 hc3 => hx.elim) (fun rv H locs hq hS => ?_)
  obtain ⟨b1, M1, ap1, rfl, h, hw⟩ := hq
  show W p l e _ s m _ below meth c H locs (uc + mc) (us + ms) _ (F0 m 215 ls [.int b1])
  refine lv_istore (lv' := [(7, .int b1), (6, .int k), (0, .ref b), (1, .ref (ad1 0 0)), (2, .ref (ad1 3 0)), (3, .ref (ad1 14 0)), (4, .ref (ad1 15 0)), (5, .int x5)]) S.1 S.2.1 dL_law_215 hl (by decide) rfl (fun ls hl => ?_)
  refine lv_aload_n S.1 S.2.1 dL_law_217 rfl (lv_at hl 4 rfl) ?_
  refine r_call (rest := []) S hg hS (mtX7_thrown (mc := 0) (ms := 0) h) u1160 u1161 u1162 u49 u1163 hdX7_thrown (rv3 hg hw) hw ⟨Nat.le_of_ble_eq_true rfl, Nat.le_of_ble_eq_true rfl⟩ ⟨by show (uc + mc) + 0 ≤ 603072; omega, by show (us + ms) + 0 ≤ 7190634; omega⟩ hl.1 (Nat.le_of_ble_eq_true rfl) rfl dL_law_218 (fun E ce q H1 locs1 hx hS1 hc1 hc2 hc3 => hx.elim) (fun rv H locs hq hS => ?_)
  obtain ⟨r1, rfl, h, hw⟩ := hq
  obtain ⟨hr1, hr2, hI⟩ := h
  show W p l e _ s m _ below meth c H locs (uc + mc) (us + ms) _ (F0 m 221 ls [.int r1])
  refine lv_iload S.1 S.2.1 dL_law_221 (lv_at hl 1 rfl) ?_
  refine lv_icmp_eq (tgt := 228) S.1 S.2.1 dL_law_223 (by decide) (fun c1 => ?_) (fun c1 => absurd hr1 c1)
  refine lv_iload S.1 S.2.1 dL_law_228 (lv_at hl 1 rfl) ?_
  refine lv_if_ne (tgt := 245) S.1 S.2.1 dL_law_230 (by decide) (fun c1 => ?_) (fun c1 => ?_)
  · refine lv_goto (tgt := 1973) S.1 S.2.1 dL_law_245 (by decide) ?_
    exact kk (ad' := ad1) (hI) hw hS (lv_sub hl (l' := [(0, .ref b), (1, .ref (ad1 0 0)), (2, .ref (ad1 3 0)), (3, .ref (ad1 14 0)), (4, .ref (ad1 15 0)), (5, .int x5)]) [2, 3, 4, 5, 6, 7] rfl)
  · refine lv_aload_n S.1 S.2.1 dL_law_233 rfl (lv_at hl 5 rfl) ?_
    refine lv_iconst (v := 0) S.1 S.2.1 dL_law_234 (by decide) ?_
    refine l14 S hg hw rfl dL_law_235 ?_
    refine lv_iload S.1 S.2.1 dL_law_236 (lv_at hl 0 rfl) ?_
    refine lv_i2l S.1 S.2.1 dL_law_238 rfl ?_
    refine W.lcmp S.1 S.2.1 dL_law_239 ?_
    rw [hr2 c1, lg_cmp_self]
    refine lv_if_eq (tgt := 245) S.1 S.2.1 dL_law_240 (by decide) (fun c1 => ?_) (fun c1 => absurd rfl c1)
    refine lv_goto (tgt := 1973) S.1 S.2.1 dL_law_245 (by decide) ?_
    exact kk (ad' := ad1) (hI) hw hS (lv_sub hl (l' := [(0, .ref b), (1, .ref (ad1 0 0)), (2, .ref (ad1 3 0)), (3, .ref (ad1 14 0)), (4, .ref (ad1 15 0)), (5, .int x5)]) [2, 3, 4, 5, 6, 7] rfl)
def st_make (I : Nat → Nat → KS → KS → Int64 → Prop) (uc us : Nat) (K M : KS) (ap o : Int64) (od : UInt64) (p1 : Int32) (p2 : Int32) : Prop := ∃ mc ms : Nat, uc + mc ≤ 603072 ∧ us + ms ≤ 7190634 ∧ wpL_make (fun k K1 o1 od1 => wpX7_make (fun b1 M1 ap1 => wpX7_thrown (fun r1 => r1 = k ∧ (k = 0 → o1 = b1.toInt64) ∧ I (uc + mc) (us + ms) K1 M1 ap1) M1 ap1) M ap p1 p2) mc ms K o od p1 p2
set_option maxHeartbeats 4000000 in
theorem lc_make {p : Program} {l : Launch} {e : Env} {s : State} {m : MethodId} {args : Array Value} {below : List Frame} {meth : Method} {c : Code} {D : va_G} {cI : Nat → ClassId} {e0 : Nat} {A : Nat → Prop} {ad : Nat → Nat → Nat} {K M : KS} {ap o : Int64} {od : UInt64} {H : Heap} {locs : List Loc} {ls : Array Slot} {uc us b n5 : Nat} {xs : Nat → Int32} {x5 : Int32} {Q : State → Prop} {I : Nat → Nat → KS → KS → Int64 → Prop} {L : Nat} (hfl : l.stackTraces = false) (S : CallFix p m c cL_law 9 s args WU RL) (hg : GI D cI e0 A s s.heap) (hX : va_X b L xs s s.heap) (hbl : b < s.heap.size) (hbA : ¬ A b) (h1 : vp_in (x5 + 1) L) (e1 : xs (x5 + 1).toNatClampNeg = xs (n5 + 1)) (h2 : vp_in (x5 + 2) L) (e2 : xs (x5 + 2).toNatClampNeg = xs (n5 + 2)) (hS : va_S A s.heap H locs) (hw : HT D cI e0 A ad K M ap o od H) (hl : lv_has ls 9 [(0, .ref b), (1, .ref (ad 0 0)), (2, .ref (ad 3 0)), (3, .ref (ad 14 0)), (4, .ref (ad 15 0)), (5, .int x5)]) (h : st_make I uc us K M ap o od (xs (n5 + 1)) (xs (n5 + 2)))
    (kk : ∀ {uc1 us1 : Nat} {K1 M1 : KS} {ap1 o1 : Int64} {od1 : UInt64} {ad' : Nat → Nat → Nat} {H1 : Heap} {locs1 : List Loc} {ls1 : Array Slot}, I uc1 us1 K1 M1 ap1 → HT D cI e0 A ad' K1 M1 ap1 o1 od1 H1 → va_S A s.heap H1 locs1 → lv_has ls1 9 [(0, .ref b), (1, .ref (ad' 0 0)), (2, .ref (ad' 3 0)), (3, .ref (ad' 14 0)), (4, .ref (ad' 15 0)), (5, .int x5)] → W p l e room_1 s m args below meth c H1 locs1 uc1 us1 Q (F0 m 1973 ls1 [])) : W p l e room_1 s m args below meth c H locs uc us Q (F0 m 248 ls []) := by
  refine lv_aload_n S.1 S.2.1 dL_law_248 rfl (lv_at hl 1 rfl) ?_
  refine lv_aload_n S.1 S.2.1 dL_law_249 rfl (lv_at hl 0 rfl) ?_
  refine lv_iload S.1 S.2.1 dL_law_250 (lv_at hl 5 rfl) ?_
  refine lv_iconst (v := 1) S.1 S.2.1 dL_law_252 (by decide) ?_
  refine lv_iadd S.1 S.2.1 dL_law_253 ?_
  refine va_sld S.1 S.2.1 hX hbl hbA hS h1 dL_law_254 ?_
  rw [e1]
  refine lv_aload_n S.1 S.2.1 dL_law_255 rfl (lv_at hl 0 rfl) ?_
  refine lv_iload S.1 S.2.1 dL_law_256 (lv_at hl 5 rfl) ?_
  refine lv_iconst (v := 2) S.1 S.2.1 dL_law_258 (by decide) ?_
  refine lv_iadd S.1 S.2.1 dL_law_259 ?_
  refine va_sld S.1 S.2.1 hX hbl hbA hS h2 dL_law_260 ?_
  rw [e2]
  refine lv_aload_n S.1 S.2.1 dL_law_261 rfl (lv_at hl 3 rfl) ?_
  obtain ⟨mc, ms, hm1, hm2, h⟩ := h
  refine r_callSW (rest := []) S hg hS (mtL_make (mc := mc) (ms := ms) hfl h) u328 u329 u42 u330 hdL_make hw ⟨Nat.le_of_ble_eq_true rfl, Nat.le_of_ble_eq_true rfl⟩ ⟨hm1, hm2⟩ hl.1 (Nat.le_of_ble_eq_true rfl) rfl dL_law_262 (fun rv H locs hq hS => ?_)
  obtain ⟨k, K1, o1, od1, ad1, rfl, h, hA, hw⟩ := hq
  show W p l e _ s m _ below meth c H locs (uc + mc) (us + ms) _ (F0 m 265 ls [.int k])
  rw [hA.1, hA.2.1, hA.2.2.1, hA.2.2.2] at hl
  refine lv_istore (lv' := [(6, .int k), (0, .ref b), (1, .ref (ad1 0 0)), (2, .ref (ad1 3 0)), (3, .ref (ad1 14 0)), (4, .ref (ad1 15 0)), (5, .int x5)]) S.1 S.2.1 dL_law_265 hl (by decide) rfl (fun ls hl => ?_)
  refine lv_aload_n S.1 S.2.1 dL_law_267 rfl (lv_at hl 3 rfl) ?_
  refine lv_aload_n S.1 S.2.1 dL_law_268 rfl (lv_at hl 1 rfl) ?_
  refine lv_iload S.1 S.2.1 dL_law_269 (lv_at hl 6 rfl) ?_
  refine lv_iconst (v := 1) S.1 S.2.1 dL_law_271 (by decide) ?_
  refine lv_iadd S.1 S.2.1 dL_law_272 ?_
  refine va_sld S.1 S.2.1 hX hbl hbA hS h1 dL_law_273 ?_
  rw [e1]
  refine lv_aload_n S.1 S.2.1 dL_law_274 rfl (lv_at hl 1 rfl) ?_
  refine lv_iload S.1 S.2.1 dL_law_275 (lv_at hl 6 rfl) ?_
  refine lv_iconst (v := 2) S.1 S.2.1 dL_law_277 (by decide) ?_
  refine lv_iadd S.1 S.2.1 dL_law_278 ?_
  refine va_sld S.1 S.2.1 hX hbl hbA hS h2 dL_law_279 ?_
  rw [e2]
  refine r_call (rest := []) S hg hS (mtX7_make (mc := 0) (ms := 0) h) u1175 u1176 u1177 u49 u1178 hdX7_make (rv3 hg hw) hw ⟨Nat.le_of_ble_eq_true rfl, Nat.le_of_ble_eq_true rfl⟩ ⟨by show (uc + mc) + 0 ≤ 603072; omega, by show (us + ms) + 0 ≤ 7190634; omega⟩ hl.1 (Nat.le_of_ble_eq_true rfl) rfl dL_law_280 (fun E ce q H1 locs1 hx hS1 hc1 hc2 hc3 => hx.elim) (fun rv H locs hq hS => ?_)
  obtain ⟨b1, M1, ap1, rfl, h, hw⟩ := hq
  show W p l e _ s m _ below meth c H locs (uc + mc) (us + ms) _ (F0 m 283 ls [.int b1])
  refine lv_istore (lv' := [(7, .int b1), (6, .int k), (0, .ref b), (1, .ref (ad1 0 0)), (2, .ref (ad1 3 0)), (3, .ref (ad1 14 0)), (4, .ref (ad1 15 0)), (5, .int x5)]) S.1 S.2.1 dL_law_283 hl (by decide) rfl (fun ls hl => ?_)
  refine lv_aload_n S.1 S.2.1 dL_law_285 rfl (lv_at hl 4 rfl) ?_
  refine r_call (rest := []) S hg hS (mtX7_thrown (mc := 0) (ms := 0) h) u1160 u1161 u1162 u49 u1163 hdX7_thrown (rv3 hg hw) hw ⟨Nat.le_of_ble_eq_true rfl, Nat.le_of_ble_eq_true rfl⟩ ⟨by show (uc + mc) + 0 ≤ 603072; omega, by show (us + ms) + 0 ≤ 7190634; omega⟩ hl.1 (Nat.le_of_ble_eq_true rfl) rfl dL_law_286 (fun E ce q H1 locs1 hx hS1 hc1 hc2 hc3 => hx.elim) (fun rv H locs hq hS => ?_)
  obtain ⟨r1, rfl, h, hw⟩ := hq
  obtain ⟨hr1, hr2, hI⟩ := h
  show W p l e _ s m _ below meth c H locs (uc + mc) (us + ms) _ (F0 m 289 ls [.int r1])
  refine lv_iload S.1 S.2.1 dL_law_289 (lv_at hl 1 rfl) ?_
  refine lv_icmp_eq (tgt := 296) S.1 S.2.1 dL_law_291 (by decide) (fun c1 => ?_) (fun c1 => absurd hr1 c1)
  refine lv_iload S.1 S.2.1 dL_law_296 (lv_at hl 1 rfl) ?_
  refine lv_if_ne (tgt := 313) S.1 S.2.1 dL_law_298 (by decide) (fun c1 => ?_) (fun c1 => ?_)
  · refine lv_goto (tgt := 1973) S.1 S.2.1 dL_law_313 (by decide) ?_
    exact kk (ad' := ad1) (hI) hw hS (lv_sub hl (l' := [(0, .ref b), (1, .ref (ad1 0 0)), (2, .ref (ad1 3 0)), (3, .ref (ad1 14 0)), (4, .ref (ad1 15 0)), (5, .int x5)]) [2, 3, 4, 5, 6, 7] rfl)
  · refine lv_aload_n S.1 S.2.1 dL_law_301 rfl (lv_at hl 5 rfl) ?_
    refine lv_iconst (v := 0) S.1 S.2.1 dL_law_302 (by decide) ?_
    refine l14 S hg hw rfl dL_law_303 ?_
    refine lv_iload S.1 S.2.1 dL_law_304 (lv_at hl 0 rfl) ?_
    refine lv_i2l S.1 S.2.1 dL_law_306 rfl ?_
    refine W.lcmp S.1 S.2.1 dL_law_307 ?_
    rw [hr2 c1, lg_cmp_self]
    refine lv_if_eq (tgt := 313) S.1 S.2.1 dL_law_308 (by decide) (fun c1 => ?_) (fun c1 => absurd rfl c1)
    refine lv_goto (tgt := 1973) S.1 S.2.1 dL_law_313 (by decide) ?_
    exact kk (ad' := ad1) (hI) hw hS (lv_sub hl (l' := [(0, .ref b), (1, .ref (ad1 0 0)), (2, .ref (ad1 3 0)), (3, .ref (ad1 14 0)), (4, .ref (ad1 15 0)), (5, .int x5)]) [2, 3, 4, 5, 6, 7] rfl)
def st_ownerOf (I : Nat → Nat → KS → KS → Int64 → Prop) (uc us : Nat) (K M : KS) (ap o : Int64) (od : UInt64) (p1 : Int32) : Prop := ∃ mc ms : Nat, uc + mc ≤ 603072 ∧ us + ms ≤ 7190634 ∧ wpL_ownerOf (fun k K1 o1 od1 => wpX7_ownerOf (fun b1 M1 ap1 => wpX7_thrown (fun r1 => r1 = k ∧ (k = 0 → o1 = b1.toInt64) ∧ I (uc + mc) (us + ms) K1 M1 ap1) M1 ap1) M ap p1) mc ms K o od p1
set_option maxHeartbeats 4000000 in
theorem lc_ownerOf {p : Program} {l : Launch} {e : Env} {s : State} {m : MethodId} {args : Array Value} {below : List Frame} {meth : Method} {c : Code} {D : va_G} {cI : Nat → ClassId} {e0 : Nat} {A : Nat → Prop} {ad : Nat → Nat → Nat} {K M : KS} {ap o : Int64} {od : UInt64} {H : Heap} {locs : List Loc} {ls : Array Slot} {uc us b n5 : Nat} {xs : Nat → Int32} {x5 : Int32} {Q : State → Prop} {I : Nat → Nat → KS → KS → Int64 → Prop} {L : Nat} (hfl : l.stackTraces = false) (S : CallFix p m c cL_law 9 s args WU RL) (hg : GI D cI e0 A s s.heap) (hX : va_X b L xs s s.heap) (hbl : b < s.heap.size) (hbA : ¬ A b) (h1 : vp_in (x5 + 1) L) (e1 : xs (x5 + 1).toNatClampNeg = xs (n5 + 1)) (hS : va_S A s.heap H locs) (hw : HT D cI e0 A ad K M ap o od H) (hl : lv_has ls 9 [(0, .ref b), (1, .ref (ad 0 0)), (2, .ref (ad 3 0)), (3, .ref (ad 14 0)), (4, .ref (ad 15 0)), (5, .int x5)]) (h : st_ownerOf I uc us K M ap o od (xs (n5 + 1)))
    (kk : ∀ {uc1 us1 : Nat} {K1 M1 : KS} {ap1 o1 : Int64} {od1 : UInt64} {ad' : Nat → Nat → Nat} {H1 : Heap} {locs1 : List Loc} {ls1 : Array Slot}, I uc1 us1 K1 M1 ap1 → HT D cI e0 A ad' K1 M1 ap1 o1 od1 H1 → va_S A s.heap H1 locs1 → lv_has ls1 9 [(0, .ref b), (1, .ref (ad' 0 0)), (2, .ref (ad' 3 0)), (3, .ref (ad' 14 0)), (4, .ref (ad' 15 0)), (5, .int x5)] → W p l e room_1 s m args below meth c H1 locs1 uc1 us1 Q (F0 m 1973 ls1 [])) : W p l e room_1 s m args below meth c H locs uc us Q (F0 m 316 ls []) := by
  refine lv_aload_n S.1 S.2.1 dL_law_316 rfl (lv_at hl 1 rfl) ?_
  refine lv_aload_n S.1 S.2.1 dL_law_317 rfl (lv_at hl 0 rfl) ?_
  refine lv_iload S.1 S.2.1 dL_law_318 (lv_at hl 5 rfl) ?_
  refine lv_iconst (v := 1) S.1 S.2.1 dL_law_320 (by decide) ?_
  refine lv_iadd S.1 S.2.1 dL_law_321 ?_
  refine va_sld S.1 S.2.1 hX hbl hbA hS h1 dL_law_322 ?_
  rw [e1]
  refine lv_aload_n S.1 S.2.1 dL_law_323 rfl (lv_at hl 3 rfl) ?_
  obtain ⟨mc, ms, hm1, hm2, h⟩ := h
  refine r_callSW (rest := []) S hg hS (mtL_ownerOf (mc := mc) (ms := ms) hfl h) u484 u485 u42 u486 hdL_ownerOf hw ⟨Nat.le_of_ble_eq_true rfl, Nat.le_of_ble_eq_true rfl⟩ ⟨hm1, hm2⟩ hl.1 (Nat.le_of_ble_eq_true rfl) rfl dL_law_324 (fun rv H locs hq hS => ?_)
  obtain ⟨k, K1, o1, od1, ad1, rfl, h, hA, hw⟩ := hq
  show W p l e _ s m _ below meth c H locs (uc + mc) (us + ms) _ (F0 m 327 ls [.int k])
  rw [hA.1, hA.2.1, hA.2.2.1, hA.2.2.2] at hl
  refine lv_istore (lv' := [(6, .int k), (0, .ref b), (1, .ref (ad1 0 0)), (2, .ref (ad1 3 0)), (3, .ref (ad1 14 0)), (4, .ref (ad1 15 0)), (5, .int x5)]) S.1 S.2.1 dL_law_327 hl (by decide) rfl (fun ls hl => ?_)
  refine lv_aload_n S.1 S.2.1 dL_law_329 rfl (lv_at hl 3 rfl) ?_
  refine lv_aload_n S.1 S.2.1 dL_law_330 rfl (lv_at hl 1 rfl) ?_
  refine lv_iload S.1 S.2.1 dL_law_331 (lv_at hl 6 rfl) ?_
  refine lv_iconst (v := 1) S.1 S.2.1 dL_law_333 (by decide) ?_
  refine lv_iadd S.1 S.2.1 dL_law_334 ?_
  refine va_sld S.1 S.2.1 hX hbl hbA hS h1 dL_law_335 ?_
  rw [e1]
  refine r_call (rest := []) S hg hS (mtX7_ownerOf (mc := 0) (ms := 0) h) u1187 u1188 u1189 u49 u1190 hdX7_ownerOf (rv3 hg hw) hw ⟨Nat.le_of_ble_eq_true rfl, Nat.le_of_ble_eq_true rfl⟩ ⟨by show (uc + mc) + 0 ≤ 603072; omega, by show (us + ms) + 0 ≤ 7190634; omega⟩ hl.1 (Nat.le_of_ble_eq_true rfl) rfl dL_law_336 (fun E ce q H1 locs1 hx hS1 hc1 hc2 hc3 => hx.elim) (fun rv H locs hq hS => ?_)
  obtain ⟨b1, M1, ap1, rfl, h, hw⟩ := hq
  show W p l e _ s m _ below meth c H locs (uc + mc) (us + ms) _ (F0 m 339 ls [.int b1])
  refine lv_istore (lv' := [(7, .int b1), (6, .int k), (0, .ref b), (1, .ref (ad1 0 0)), (2, .ref (ad1 3 0)), (3, .ref (ad1 14 0)), (4, .ref (ad1 15 0)), (5, .int x5)]) S.1 S.2.1 dL_law_339 hl (by decide) rfl (fun ls hl => ?_)
  refine lv_aload_n S.1 S.2.1 dL_law_341 rfl (lv_at hl 4 rfl) ?_
  refine r_call (rest := []) S hg hS (mtX7_thrown (mc := 0) (ms := 0) h) u1160 u1161 u1162 u49 u1163 hdX7_thrown (rv3 hg hw) hw ⟨Nat.le_of_ble_eq_true rfl, Nat.le_of_ble_eq_true rfl⟩ ⟨by show (uc + mc) + 0 ≤ 603072; omega, by show (us + ms) + 0 ≤ 7190634; omega⟩ hl.1 (Nat.le_of_ble_eq_true rfl) rfl dL_law_342 (fun E ce q H1 locs1 hx hS1 hc1 hc2 hc3 => hx.elim) (fun rv H locs hq hS => ?_)
  obtain ⟨r1, rfl, h, hw⟩ := hq
  obtain ⟨hr1, hr2, hI⟩ := h
  show W p l e _ s m _ below meth c H locs (uc + mc) (us + ms) _ (F0 m 345 ls [.int r1])
  refine lv_iload S.1 S.2.1 dL_law_345 (lv_at hl 1 rfl) ?_
  refine lv_icmp_eq (tgt := 352) S.1 S.2.1 dL_law_347 (by decide) (fun c1 => ?_) (fun c1 => absurd hr1 c1)
  refine lv_iload S.1 S.2.1 dL_law_352 (lv_at hl 1 rfl) ?_
  refine lv_if_ne (tgt := 369) S.1 S.2.1 dL_law_354 (by decide) (fun c1 => ?_) (fun c1 => ?_)
  · refine lv_goto (tgt := 1973) S.1 S.2.1 dL_law_369 (by decide) ?_
    exact kk (ad' := ad1) (hI) hw hS (lv_sub hl (l' := [(0, .ref b), (1, .ref (ad1 0 0)), (2, .ref (ad1 3 0)), (3, .ref (ad1 14 0)), (4, .ref (ad1 15 0)), (5, .int x5)]) [2, 3, 4, 5, 6, 7] rfl)
  · refine lv_aload_n S.1 S.2.1 dL_law_357 rfl (lv_at hl 5 rfl) ?_
    refine lv_iconst (v := 0) S.1 S.2.1 dL_law_358 (by decide) ?_
    refine l14 S hg hw rfl dL_law_359 ?_
    refine lv_iload S.1 S.2.1 dL_law_360 (lv_at hl 0 rfl) ?_
    refine lv_i2l S.1 S.2.1 dL_law_362 rfl ?_
    refine W.lcmp S.1 S.2.1 dL_law_363 ?_
    rw [hr2 c1, lg_cmp_self]
    refine lv_if_eq (tgt := 369) S.1 S.2.1 dL_law_364 (by decide) (fun c1 => ?_) (fun c1 => absurd rfl c1)
    refine lv_goto (tgt := 1973) S.1 S.2.1 dL_law_369 (by decide) ?_
    exact kk (ad' := ad1) (hI) hw hS (lv_sub hl (l' := [(0, .ref b), (1, .ref (ad1 0 0)), (2, .ref (ad1 3 0)), (3, .ref (ad1 14 0)), (4, .ref (ad1 15 0)), (5, .int x5)]) [2, 3, 4, 5, 6, 7] rfl)
def st_ownerByPostings (I : Nat → Nat → KS → KS → Int64 → Prop) (uc us : Nat) (K M : KS) (ap o : Int64) (od : UInt64) (p1 : Int32) : Prop := ∃ mc ms : Nat, uc + mc ≤ 603072 ∧ us + ms ≤ 7190634 ∧ wpL_ownerByPostings (fun k K1 o1 od1 => wpX7_ownerByPostings (fun b1 M1 ap1 => wpX7_thrown (fun r1 => r1 = k ∧ (k = 0 → o1 = b1.toInt64) ∧ I (uc + mc) (us + ms) K1 M1 ap1) M1 ap1) M ap p1) mc ms K o od p1
set_option maxHeartbeats 4000000 in
theorem lc_ownerByPostings {p : Program} {l : Launch} {e : Env} {s : State} {m : MethodId} {args : Array Value} {below : List Frame} {meth : Method} {c : Code} {D : va_G} {cI : Nat → ClassId} {e0 : Nat} {A : Nat → Prop} {ad : Nat → Nat → Nat} {K M : KS} {ap o : Int64} {od : UInt64} {H : Heap} {locs : List Loc} {ls : Array Slot} {uc us b n5 : Nat} {xs : Nat → Int32} {x5 : Int32} {Q : State → Prop} {I : Nat → Nat → KS → KS → Int64 → Prop} {L : Nat} (hfl : l.stackTraces = false) (S : CallFix p m c cL_law 9 s args WU RL) (hg : GI D cI e0 A s s.heap) (hX : va_X b L xs s s.heap) (hbl : b < s.heap.size) (hbA : ¬ A b) (h1 : vp_in (x5 + 1) L) (e1 : xs (x5 + 1).toNatClampNeg = xs (n5 + 1)) (hS : va_S A s.heap H locs) (hw : HT D cI e0 A ad K M ap o od H) (hl : lv_has ls 9 [(0, .ref b), (1, .ref (ad 0 0)), (2, .ref (ad 3 0)), (3, .ref (ad 14 0)), (4, .ref (ad 15 0)), (5, .int x5)]) (h : st_ownerByPostings I uc us K M ap o od (xs (n5 + 1)))
    (kk : ∀ {uc1 us1 : Nat} {K1 M1 : KS} {ap1 o1 : Int64} {od1 : UInt64} {ad' : Nat → Nat → Nat} {H1 : Heap} {locs1 : List Loc} {ls1 : Array Slot}, I uc1 us1 K1 M1 ap1 → HT D cI e0 A ad' K1 M1 ap1 o1 od1 H1 → va_S A s.heap H1 locs1 → lv_has ls1 9 [(0, .ref b), (1, .ref (ad' 0 0)), (2, .ref (ad' 3 0)), (3, .ref (ad' 14 0)), (4, .ref (ad' 15 0)), (5, .int x5)] → W p l e room_1 s m args below meth c H1 locs1 uc1 us1 Q (F0 m 1973 ls1 [])) : W p l e room_1 s m args below meth c H locs uc us Q (F0 m 372 ls []) := by
  refine lv_aload_n S.1 S.2.1 dL_law_372 rfl (lv_at hl 1 rfl) ?_
  refine lv_aload_n S.1 S.2.1 dL_law_373 rfl (lv_at hl 0 rfl) ?_
  refine lv_iload S.1 S.2.1 dL_law_374 (lv_at hl 5 rfl) ?_
  refine lv_iconst (v := 1) S.1 S.2.1 dL_law_376 (by decide) ?_
  refine lv_iadd S.1 S.2.1 dL_law_377 ?_
  refine va_sld S.1 S.2.1 hX hbl hbA hS h1 dL_law_378 ?_
  rw [e1]
  refine lv_aload_n S.1 S.2.1 dL_law_379 rfl (lv_at hl 3 rfl) ?_
  obtain ⟨mc, ms, hm1, hm2, h⟩ := h
  refine r_callSW (rest := []) S hg hS (mtL_ownerByPostings (mc := mc) (ms := ms) hfl h) u496 u497 u42 u498 hdL_ownerByPostings hw ⟨Nat.le_of_ble_eq_true rfl, Nat.le_of_ble_eq_true rfl⟩ ⟨hm1, hm2⟩ hl.1 (Nat.le_of_ble_eq_true rfl) rfl dL_law_380 (fun rv H locs hq hS => ?_)
  obtain ⟨k, K1, o1, od1, ad1, rfl, h, hA, hw⟩ := hq
  show W p l e _ s m _ below meth c H locs (uc + mc) (us + ms) _ (F0 m 383 ls [.int k])
  rw [hA.1, hA.2.1, hA.2.2.1, hA.2.2.2] at hl
  refine lv_istore (lv' := [(6, .int k), (0, .ref b), (1, .ref (ad1 0 0)), (2, .ref (ad1 3 0)), (3, .ref (ad1 14 0)), (4, .ref (ad1 15 0)), (5, .int x5)]) S.1 S.2.1 dL_law_383 hl (by decide) rfl (fun ls hl => ?_)
  refine lv_aload_n S.1 S.2.1 dL_law_385 rfl (lv_at hl 3 rfl) ?_
  refine lv_aload_n S.1 S.2.1 dL_law_386 rfl (lv_at hl 1 rfl) ?_
  refine lv_iload S.1 S.2.1 dL_law_387 (lv_at hl 6 rfl) ?_
  refine lv_iconst (v := 1) S.1 S.2.1 dL_law_389 (by decide) ?_
  refine lv_iadd S.1 S.2.1 dL_law_390 ?_
  refine va_sld S.1 S.2.1 hX hbl hbA hS h1 dL_law_391 ?_
  rw [e1]
  refine r_call (rest := []) S hg hS (mtX7_ownerByPostings (mc := 0) (ms := 0) h) u1195 u1196 u1197 u49 u1198 hdX7_ownerByPostings (rv3 hg hw) hw ⟨Nat.le_of_ble_eq_true rfl, Nat.le_of_ble_eq_true rfl⟩ ⟨by show (uc + mc) + 0 ≤ 603072; omega, by show (us + ms) + 0 ≤ 7190634; omega⟩ hl.1 (Nat.le_of_ble_eq_true rfl) rfl dL_law_392 (fun E ce q H1 locs1 hx hS1 hc1 hc2 hc3 => hx.elim) (fun rv H locs hq hS => ?_)
  obtain ⟨b1, M1, ap1, rfl, h, hw⟩ := hq
  show W p l e _ s m _ below meth c H locs (uc + mc) (us + ms) _ (F0 m 395 ls [.int b1])
  refine lv_istore (lv' := [(7, .int b1), (6, .int k), (0, .ref b), (1, .ref (ad1 0 0)), (2, .ref (ad1 3 0)), (3, .ref (ad1 14 0)), (4, .ref (ad1 15 0)), (5, .int x5)]) S.1 S.2.1 dL_law_395 hl (by decide) rfl (fun ls hl => ?_)
  refine lv_aload_n S.1 S.2.1 dL_law_397 rfl (lv_at hl 4 rfl) ?_
  refine r_call (rest := []) S hg hS (mtX7_thrown (mc := 0) (ms := 0) h) u1160 u1161 u1162 u49 u1163 hdX7_thrown (rv3 hg hw) hw ⟨Nat.le_of_ble_eq_true rfl, Nat.le_of_ble_eq_true rfl⟩ ⟨by show (uc + mc) + 0 ≤ 603072; omega, by show (us + ms) + 0 ≤ 7190634; omega⟩ hl.1 (Nat.le_of_ble_eq_true rfl) rfl dL_law_398 (fun E ce q H1 locs1 hx hS1 hc1 hc2 hc3 => hx.elim) (fun rv H locs hq hS => ?_)
  obtain ⟨r1, rfl, h, hw⟩ := hq
  obtain ⟨hr1, hr2, hI⟩ := h
  show W p l e _ s m _ below meth c H locs (uc + mc) (us + ms) _ (F0 m 401 ls [.int r1])
  refine lv_iload S.1 S.2.1 dL_law_401 (lv_at hl 1 rfl) ?_
  refine lv_icmp_eq (tgt := 408) S.1 S.2.1 dL_law_403 (by decide) (fun c1 => ?_) (fun c1 => absurd hr1 c1)
  refine lv_iload S.1 S.2.1 dL_law_408 (lv_at hl 1 rfl) ?_
  refine lv_if_ne (tgt := 425) S.1 S.2.1 dL_law_410 (by decide) (fun c1 => ?_) (fun c1 => ?_)
  · refine lv_goto (tgt := 1973) S.1 S.2.1 dL_law_425 (by decide) ?_
    exact kk (ad' := ad1) (hI) hw hS (lv_sub hl (l' := [(0, .ref b), (1, .ref (ad1 0 0)), (2, .ref (ad1 3 0)), (3, .ref (ad1 14 0)), (4, .ref (ad1 15 0)), (5, .int x5)]) [2, 3, 4, 5, 6, 7] rfl)
  · refine lv_aload_n S.1 S.2.1 dL_law_413 rfl (lv_at hl 5 rfl) ?_
    refine lv_iconst (v := 0) S.1 S.2.1 dL_law_414 (by decide) ?_
    refine l14 S hg hw rfl dL_law_415 ?_
    refine lv_iload S.1 S.2.1 dL_law_416 (lv_at hl 0 rfl) ?_
    refine lv_i2l S.1 S.2.1 dL_law_418 rfl ?_
    refine W.lcmp S.1 S.2.1 dL_law_419 ?_
    rw [hr2 c1, lg_cmp_self]
    refine lv_if_eq (tgt := 425) S.1 S.2.1 dL_law_420 (by decide) (fun c1 => ?_) (fun c1 => absurd rfl c1)
    refine lv_goto (tgt := 1973) S.1 S.2.1 dL_law_425 (by decide) ?_
    exact kk (ad' := ad1) (hI) hw hS (lv_sub hl (l' := [(0, .ref b), (1, .ref (ad1 0 0)), (2, .ref (ad1 3 0)), (3, .ref (ad1 14 0)), (4, .ref (ad1 15 0)), (5, .int x5)]) [2, 3, 4, 5, 6, 7] rfl)
def st_stateOf (I : Nat → Nat → KS → KS → Int64 → Prop) (uc us : Nat) (K M : KS) (ap o : Int64) (od : UInt64) (p1 : Int32) : Prop := ∃ mc ms : Nat, uc + mc ≤ 603072 ∧ us + ms ≤ 7190634 ∧ wpL_stateOf (fun k K1 o1 od1 => wpX7_stateOf (fun b1 M1 ap1 => wpX7_thrown (fun r1 => r1 = k ∧ (k = 0 → o1 = b1.toInt64) ∧ I (uc + mc) (us + ms) K1 M1 ap1) M1 ap1) M ap p1) mc ms K o od p1
set_option maxHeartbeats 4000000 in
theorem lc_stateOf {p : Program} {l : Launch} {e : Env} {s : State} {m : MethodId} {args : Array Value} {below : List Frame} {meth : Method} {c : Code} {D : va_G} {cI : Nat → ClassId} {e0 : Nat} {A : Nat → Prop} {ad : Nat → Nat → Nat} {K M : KS} {ap o : Int64} {od : UInt64} {H : Heap} {locs : List Loc} {ls : Array Slot} {uc us b n5 : Nat} {xs : Nat → Int32} {x5 : Int32} {Q : State → Prop} {I : Nat → Nat → KS → KS → Int64 → Prop} {L : Nat} (hfl : l.stackTraces = false) (S : CallFix p m c cL_law 9 s args WU RL) (hg : GI D cI e0 A s s.heap) (hX : va_X b L xs s s.heap) (hbl : b < s.heap.size) (hbA : ¬ A b) (h1 : vp_in (x5 + 1) L) (e1 : xs (x5 + 1).toNatClampNeg = xs (n5 + 1)) (hS : va_S A s.heap H locs) (hw : HT D cI e0 A ad K M ap o od H) (hl : lv_has ls 9 [(0, .ref b), (1, .ref (ad 0 0)), (2, .ref (ad 3 0)), (3, .ref (ad 14 0)), (4, .ref (ad 15 0)), (5, .int x5)]) (h : st_stateOf I uc us K M ap o od (xs (n5 + 1)))
    (kk : ∀ {uc1 us1 : Nat} {K1 M1 : KS} {ap1 o1 : Int64} {od1 : UInt64} {ad' : Nat → Nat → Nat} {H1 : Heap} {locs1 : List Loc} {ls1 : Array Slot}, I uc1 us1 K1 M1 ap1 → HT D cI e0 A ad' K1 M1 ap1 o1 od1 H1 → va_S A s.heap H1 locs1 → lv_has ls1 9 [(0, .ref b), (1, .ref (ad' 0 0)), (2, .ref (ad' 3 0)), (3, .ref (ad' 14 0)), (4, .ref (ad' 15 0)), (5, .int x5)] → W p l e room_1 s m args below meth c H1 locs1 uc1 us1 Q (F0 m 1973 ls1 [])) : W p l e room_1 s m args below meth c H locs uc us Q (F0 m 428 ls []) := by
  refine lv_aload_n S.1 S.2.1 dL_law_428 rfl (lv_at hl 1 rfl) ?_
  refine lv_aload_n S.1 S.2.1 dL_law_429 rfl (lv_at hl 0 rfl) ?_
  refine lv_iload S.1 S.2.1 dL_law_430 (lv_at hl 5 rfl) ?_
  refine lv_iconst (v := 1) S.1 S.2.1 dL_law_432 (by decide) ?_
  refine lv_iadd S.1 S.2.1 dL_law_433 ?_
  refine va_sld S.1 S.2.1 hX hbl hbA hS h1 dL_law_434 ?_
  rw [e1]
  refine lv_aload_n S.1 S.2.1 dL_law_435 rfl (lv_at hl 3 rfl) ?_
  obtain ⟨mc, ms, hm1, hm2, h⟩ := h
  refine r_callSW (rest := []) S hg hS (mtL_stateOf (mc := mc) (ms := ms) hfl h) u503 u504 u42 u505 hdL_stateOf hw ⟨Nat.le_of_ble_eq_true rfl, Nat.le_of_ble_eq_true rfl⟩ ⟨hm1, hm2⟩ hl.1 (Nat.le_of_ble_eq_true rfl) rfl dL_law_436 (fun rv H locs hq hS => ?_)
  obtain ⟨k, K1, o1, od1, ad1, rfl, h, hA, hw⟩ := hq
  show W p l e _ s m _ below meth c H locs (uc + mc) (us + ms) _ (F0 m 439 ls [.int k])
  rw [hA.1, hA.2.1, hA.2.2.1, hA.2.2.2] at hl
  refine lv_istore (lv' := [(6, .int k), (0, .ref b), (1, .ref (ad1 0 0)), (2, .ref (ad1 3 0)), (3, .ref (ad1 14 0)), (4, .ref (ad1 15 0)), (5, .int x5)]) S.1 S.2.1 dL_law_439 hl (by decide) rfl (fun ls hl => ?_)
  refine lv_aload_n S.1 S.2.1 dL_law_441 rfl (lv_at hl 3 rfl) ?_
  refine lv_aload_n S.1 S.2.1 dL_law_442 rfl (lv_at hl 1 rfl) ?_
  refine lv_iload S.1 S.2.1 dL_law_443 (lv_at hl 6 rfl) ?_
  refine lv_iconst (v := 1) S.1 S.2.1 dL_law_445 (by decide) ?_
  refine lv_iadd S.1 S.2.1 dL_law_446 ?_
  refine va_sld S.1 S.2.1 hX hbl hbA hS h1 dL_law_447 ?_
  rw [e1]
  refine r_call (rest := []) S hg hS (mtX7_stateOf (mc := 0) (ms := 0) h) u1199 u1200 u1201 u49 u1202 hdX7_stateOf (rv3 hg hw) hw ⟨Nat.le_of_ble_eq_true rfl, Nat.le_of_ble_eq_true rfl⟩ ⟨by show (uc + mc) + 0 ≤ 603072; omega, by show (us + ms) + 0 ≤ 7190634; omega⟩ hl.1 (Nat.le_of_ble_eq_true rfl) rfl dL_law_448 (fun E ce q H1 locs1 hx hS1 hc1 hc2 hc3 => hx.elim) (fun rv H locs hq hS => ?_)
  obtain ⟨b1, M1, ap1, rfl, h, hw⟩ := hq
  show W p l e _ s m _ below meth c H locs (uc + mc) (us + ms) _ (F0 m 451 ls [.int b1])
  refine lv_istore (lv' := [(7, .int b1), (6, .int k), (0, .ref b), (1, .ref (ad1 0 0)), (2, .ref (ad1 3 0)), (3, .ref (ad1 14 0)), (4, .ref (ad1 15 0)), (5, .int x5)]) S.1 S.2.1 dL_law_451 hl (by decide) rfl (fun ls hl => ?_)
  refine lv_aload_n S.1 S.2.1 dL_law_453 rfl (lv_at hl 4 rfl) ?_
  refine r_call (rest := []) S hg hS (mtX7_thrown (mc := 0) (ms := 0) h) u1160 u1161 u1162 u49 u1163 hdX7_thrown (rv3 hg hw) hw ⟨Nat.le_of_ble_eq_true rfl, Nat.le_of_ble_eq_true rfl⟩ ⟨by show (uc + mc) + 0 ≤ 603072; omega, by show (us + ms) + 0 ≤ 7190634; omega⟩ hl.1 (Nat.le_of_ble_eq_true rfl) rfl dL_law_454 (fun E ce q H1 locs1 hx hS1 hc1 hc2 hc3 => hx.elim) (fun rv H locs hq hS => ?_)
  obtain ⟨r1, rfl, h, hw⟩ := hq
  obtain ⟨hr1, hr2, hI⟩ := h
  show W p l e _ s m _ below meth c H locs (uc + mc) (us + ms) _ (F0 m 457 ls [.int r1])
  refine lv_iload S.1 S.2.1 dL_law_457 (lv_at hl 1 rfl) ?_
  refine lv_icmp_eq (tgt := 464) S.1 S.2.1 dL_law_459 (by decide) (fun c1 => ?_) (fun c1 => absurd hr1 c1)
  refine lv_iload S.1 S.2.1 dL_law_464 (lv_at hl 1 rfl) ?_
  refine lv_if_ne (tgt := 481) S.1 S.2.1 dL_law_466 (by decide) (fun c1 => ?_) (fun c1 => ?_)
  · refine lv_goto (tgt := 1973) S.1 S.2.1 dL_law_481 (by decide) ?_
    exact kk (ad' := ad1) (hI) hw hS (lv_sub hl (l' := [(0, .ref b), (1, .ref (ad1 0 0)), (2, .ref (ad1 3 0)), (3, .ref (ad1 14 0)), (4, .ref (ad1 15 0)), (5, .int x5)]) [2, 3, 4, 5, 6, 7] rfl)
  · refine lv_aload_n S.1 S.2.1 dL_law_469 rfl (lv_at hl 5 rfl) ?_
    refine lv_iconst (v := 0) S.1 S.2.1 dL_law_470 (by decide) ?_
    refine l14 S hg hw rfl dL_law_471 ?_
    refine lv_iload S.1 S.2.1 dL_law_472 (lv_at hl 0 rfl) ?_
    refine lv_i2l S.1 S.2.1 dL_law_474 rfl ?_
    refine W.lcmp S.1 S.2.1 dL_law_475 ?_
    rw [hr2 c1, lg_cmp_self]
    refine lv_if_eq (tgt := 481) S.1 S.2.1 dL_law_476 (by decide) (fun c1 => ?_) (fun c1 => absurd rfl c1)
    refine lv_goto (tgt := 1973) S.1 S.2.1 dL_law_481 (by decide) ?_
    exact kk (ad' := ad1) (hI) hw hS (lv_sub hl (l' := [(0, .ref b), (1, .ref (ad1 0 0)), (2, .ref (ad1 3 0)), (3, .ref (ad1 14 0)), (4, .ref (ad1 15 0)), (5, .int x5)]) [2, 3, 4, 5, 6, 7] rfl)
def st_cardsOf (I : Nat → Nat → KS → KS → Int64 → Prop) (uc us : Nat) (K M : KS) (ap o : Int64) (od : UInt64) (p1 : Int32) : Prop := ∃ mc ms : Nat, uc + mc ≤ 603072 ∧ us + ms ≤ 7190634 ∧ wpL_cardsOf (fun k K1 o1 od1 => wpX7_cardsOf (fun b1 M1 ap1 => wpX7_thrown (fun r1 => r1 = k ∧ (k = 0 → o1 = b1.toInt64) ∧ I (uc + mc) (us + ms) K1 M1 ap1) M1 ap1) M ap p1) mc ms K o od p1
set_option maxHeartbeats 4000000 in
theorem lc_cardsOf {p : Program} {l : Launch} {e : Env} {s : State} {m : MethodId} {args : Array Value} {below : List Frame} {meth : Method} {c : Code} {D : va_G} {cI : Nat → ClassId} {e0 : Nat} {A : Nat → Prop} {ad : Nat → Nat → Nat} {K M : KS} {ap o : Int64} {od : UInt64} {H : Heap} {locs : List Loc} {ls : Array Slot} {uc us b n5 : Nat} {xs : Nat → Int32} {x5 : Int32} {Q : State → Prop} {I : Nat → Nat → KS → KS → Int64 → Prop} {L : Nat} (hfl : l.stackTraces = false) (S : CallFix p m c cL_law 9 s args WU RL) (hg : GI D cI e0 A s s.heap) (hX : va_X b L xs s s.heap) (hbl : b < s.heap.size) (hbA : ¬ A b) (h1 : vp_in (x5 + 1) L) (e1 : xs (x5 + 1).toNatClampNeg = xs (n5 + 1)) (hS : va_S A s.heap H locs) (hw : HT D cI e0 A ad K M ap o od H) (hl : lv_has ls 9 [(0, .ref b), (1, .ref (ad 0 0)), (2, .ref (ad 3 0)), (3, .ref (ad 14 0)), (4, .ref (ad 15 0)), (5, .int x5)]) (h : st_cardsOf I uc us K M ap o od (xs (n5 + 1)))
    (kk : ∀ {uc1 us1 : Nat} {K1 M1 : KS} {ap1 o1 : Int64} {od1 : UInt64} {ad' : Nat → Nat → Nat} {H1 : Heap} {locs1 : List Loc} {ls1 : Array Slot}, I uc1 us1 K1 M1 ap1 → HT D cI e0 A ad' K1 M1 ap1 o1 od1 H1 → va_S A s.heap H1 locs1 → lv_has ls1 9 [(0, .ref b), (1, .ref (ad' 0 0)), (2, .ref (ad' 3 0)), (3, .ref (ad' 14 0)), (4, .ref (ad' 15 0)), (5, .int x5)] → W p l e room_1 s m args below meth c H1 locs1 uc1 us1 Q (F0 m 1973 ls1 [])) : W p l e room_1 s m args below meth c H locs uc us Q (F0 m 484 ls []) := by
  refine lv_aload_n S.1 S.2.1 dL_law_484 rfl (lv_at hl 1 rfl) ?_
  refine lv_aload_n S.1 S.2.1 dL_law_485 rfl (lv_at hl 0 rfl) ?_
  refine lv_iload S.1 S.2.1 dL_law_486 (lv_at hl 5 rfl) ?_
  refine lv_iconst (v := 1) S.1 S.2.1 dL_law_488 (by decide) ?_
  refine lv_iadd S.1 S.2.1 dL_law_489 ?_
  refine va_sld S.1 S.2.1 hX hbl hbA hS h1 dL_law_490 ?_
  rw [e1]
  refine lv_aload_n S.1 S.2.1 dL_law_491 rfl (lv_at hl 3 rfl) ?_
  obtain ⟨mc, ms, hm1, hm2, h⟩ := h
  refine r_callSW (rest := []) S hg hS (mtL_cardsOf (mc := mc) (ms := ms) hfl h) u510 u511 u42 u512 hdL_cardsOf hw ⟨Nat.le_of_ble_eq_true rfl, Nat.le_of_ble_eq_true rfl⟩ ⟨hm1, hm2⟩ hl.1 (Nat.le_of_ble_eq_true rfl) rfl dL_law_492 (fun rv H locs hq hS => ?_)
  obtain ⟨k, K1, o1, od1, ad1, rfl, h, hA, hw⟩ := hq
  show W p l e _ s m _ below meth c H locs (uc + mc) (us + ms) _ (F0 m 495 ls [.int k])
  rw [hA.1, hA.2.1, hA.2.2.1, hA.2.2.2] at hl
  refine lv_istore (lv' := [(6, .int k), (0, .ref b), (1, .ref (ad1 0 0)), (2, .ref (ad1 3 0)), (3, .ref (ad1 14 0)), (4, .ref (ad1 15 0)), (5, .int x5)]) S.1 S.2.1 dL_law_495 hl (by decide) rfl (fun ls hl => ?_)
  refine lv_aload_n S.1 S.2.1 dL_law_497 rfl (lv_at hl 3 rfl) ?_
  refine lv_aload_n S.1 S.2.1 dL_law_498 rfl (lv_at hl 1 rfl) ?_
  refine lv_iload S.1 S.2.1 dL_law_499 (lv_at hl 6 rfl) ?_
  refine lv_iconst (v := 1) S.1 S.2.1 dL_law_501 (by decide) ?_
  refine lv_iadd S.1 S.2.1 dL_law_502 ?_
  refine va_sld S.1 S.2.1 hX hbl hbA hS h1 dL_law_503 ?_
  rw [e1]
  refine r_call (rest := []) S hg hS (mtX7_cardsOf (mc := 0) (ms := 0) h) u1207 u1208 u1209 u49 u1210 hdX7_cardsOf (rv3 hg hw) hw ⟨Nat.le_of_ble_eq_true rfl, Nat.le_of_ble_eq_true rfl⟩ ⟨by show (uc + mc) + 0 ≤ 603072; omega, by show (us + ms) + 0 ≤ 7190634; omega⟩ hl.1 (Nat.le_of_ble_eq_true rfl) rfl dL_law_504 (fun E ce q H1 locs1 hx hS1 hc1 hc2 hc3 => hx.elim) (fun rv H locs hq hS => ?_)
  obtain ⟨b1, M1, ap1, rfl, h, hw⟩ := hq
  show W p l e _ s m _ below meth c H locs (uc + mc) (us + ms) _ (F0 m 507 ls [.int b1])
  refine lv_istore (lv' := [(7, .int b1), (6, .int k), (0, .ref b), (1, .ref (ad1 0 0)), (2, .ref (ad1 3 0)), (3, .ref (ad1 14 0)), (4, .ref (ad1 15 0)), (5, .int x5)]) S.1 S.2.1 dL_law_507 hl (by decide) rfl (fun ls hl => ?_)
  refine lv_aload_n S.1 S.2.1 dL_law_509 rfl (lv_at hl 4 rfl) ?_
  refine r_call (rest := []) S hg hS (mtX7_thrown (mc := 0) (ms := 0) h) u1160 u1161 u1162 u49 u1163 hdX7_thrown (rv3 hg hw) hw ⟨Nat.le_of_ble_eq_true rfl, Nat.le_of_ble_eq_true rfl⟩ ⟨by show (uc + mc) + 0 ≤ 603072; omega, by show (us + ms) + 0 ≤ 7190634; omega⟩ hl.1 (Nat.le_of_ble_eq_true rfl) rfl dL_law_510 (fun E ce q H1 locs1 hx hS1 hc1 hc2 hc3 => hx.elim) (fun rv H locs hq hS => ?_)
  obtain ⟨r1, rfl, h, hw⟩ := hq
  obtain ⟨hr1, hr2, hI⟩ := h
  show W p l e _ s m _ below meth c H locs (uc + mc) (us + ms) _ (F0 m 513 ls [.int r1])
  refine lv_iload S.1 S.2.1 dL_law_513 (lv_at hl 1 rfl) ?_
  refine lv_icmp_eq (tgt := 520) S.1 S.2.1 dL_law_515 (by decide) (fun c1 => ?_) (fun c1 => absurd hr1 c1)
  refine lv_iload S.1 S.2.1 dL_law_520 (lv_at hl 1 rfl) ?_
  refine lv_if_ne (tgt := 537) S.1 S.2.1 dL_law_522 (by decide) (fun c1 => ?_) (fun c1 => ?_)
  · refine lv_goto (tgt := 1973) S.1 S.2.1 dL_law_537 (by decide) ?_
    exact kk (ad' := ad1) (hI) hw hS (lv_sub hl (l' := [(0, .ref b), (1, .ref (ad1 0 0)), (2, .ref (ad1 3 0)), (3, .ref (ad1 14 0)), (4, .ref (ad1 15 0)), (5, .int x5)]) [2, 3, 4, 5, 6, 7] rfl)
  · refine lv_aload_n S.1 S.2.1 dL_law_525 rfl (lv_at hl 5 rfl) ?_
    refine lv_iconst (v := 0) S.1 S.2.1 dL_law_526 (by decide) ?_
    refine l14 S hg hw rfl dL_law_527 ?_
    refine lv_iload S.1 S.2.1 dL_law_528 (lv_at hl 0 rfl) ?_
    refine lv_i2l S.1 S.2.1 dL_law_530 rfl ?_
    refine W.lcmp S.1 S.2.1 dL_law_531 ?_
    rw [hr2 c1, lg_cmp_self]
    refine lv_if_eq (tgt := 537) S.1 S.2.1 dL_law_532 (by decide) (fun c1 => ?_) (fun c1 => absurd rfl c1)
    refine lv_goto (tgt := 1973) S.1 S.2.1 dL_law_537 (by decide) ?_
    exact kk (ad' := ad1) (hI) hw hS (lv_sub hl (l' := [(0, .ref b), (1, .ref (ad1 0 0)), (2, .ref (ad1 3 0)), (3, .ref (ad1 14 0)), (4, .ref (ad1 15 0)), (5, .int x5)]) [2, 3, 4, 5, 6, 7] rfl)
def st_coinsOf (I : Nat → Nat → KS → KS → Int64 → Prop) (uc us : Nat) (K M : KS) (ap o : Int64) (od : UInt64) (p1 : Int32) : Prop := ∃ mc ms : Nat, uc + mc ≤ 603072 ∧ us + ms ≤ 7190634 ∧ wpL_coinsOf (fun k K1 o1 od1 => wpX7_coinsOf (fun b1 M1 ap1 => wpX7_thrown (fun r1 => r1 = k ∧ (k = 0 → o1 = b1.toInt64) ∧ I (uc + mc) (us + ms) K1 M1 ap1) M1 ap1) M ap p1) mc ms K o od p1
set_option maxHeartbeats 4000000 in
theorem lc_coinsOf {p : Program} {l : Launch} {e : Env} {s : State} {m : MethodId} {args : Array Value} {below : List Frame} {meth : Method} {c : Code} {D : va_G} {cI : Nat → ClassId} {e0 : Nat} {A : Nat → Prop} {ad : Nat → Nat → Nat} {K M : KS} {ap o : Int64} {od : UInt64} {H : Heap} {locs : List Loc} {ls : Array Slot} {uc us b n5 : Nat} {xs : Nat → Int32} {x5 : Int32} {Q : State → Prop} {I : Nat → Nat → KS → KS → Int64 → Prop} {L : Nat} (hfl : l.stackTraces = false) (S : CallFix p m c cL_law 9 s args WU RL) (hg : GI D cI e0 A s s.heap) (hX : va_X b L xs s s.heap) (hbl : b < s.heap.size) (hbA : ¬ A b) (h1 : vp_in (x5 + 1) L) (e1 : xs (x5 + 1).toNatClampNeg = xs (n5 + 1)) (hS : va_S A s.heap H locs) (hw : HT D cI e0 A ad K M ap o od H) (hl : lv_has ls 9 [(0, .ref b), (1, .ref (ad 0 0)), (2, .ref (ad 3 0)), (3, .ref (ad 14 0)), (4, .ref (ad 15 0)), (5, .int x5)]) (h : st_coinsOf I uc us K M ap o od (xs (n5 + 1)))
    (kk : ∀ {uc1 us1 : Nat} {K1 M1 : KS} {ap1 o1 : Int64} {od1 : UInt64} {ad' : Nat → Nat → Nat} {H1 : Heap} {locs1 : List Loc} {ls1 : Array Slot}, I uc1 us1 K1 M1 ap1 → HT D cI e0 A ad' K1 M1 ap1 o1 od1 H1 → va_S A s.heap H1 locs1 → lv_has ls1 9 [(0, .ref b), (1, .ref (ad' 0 0)), (2, .ref (ad' 3 0)), (3, .ref (ad' 14 0)), (4, .ref (ad' 15 0)), (5, .int x5)] → W p l e room_1 s m args below meth c H1 locs1 uc1 us1 Q (F0 m 1973 ls1 [])) : W p l e room_1 s m args below meth c H locs uc us Q (F0 m 540 ls []) := by
  refine lv_aload_n S.1 S.2.1 dL_law_540 rfl (lv_at hl 1 rfl) ?_
  refine lv_aload_n S.1 S.2.1 dL_law_541 rfl (lv_at hl 0 rfl) ?_
  refine lv_iload S.1 S.2.1 dL_law_542 (lv_at hl 5 rfl) ?_
  refine lv_iconst (v := 1) S.1 S.2.1 dL_law_544 (by decide) ?_
  refine lv_iadd S.1 S.2.1 dL_law_545 ?_
  refine va_sld S.1 S.2.1 hX hbl hbA hS h1 dL_law_546 ?_
  rw [e1]
  refine lv_aload_n S.1 S.2.1 dL_law_547 rfl (lv_at hl 3 rfl) ?_
  obtain ⟨mc, ms, hm1, hm2, h⟩ := h
  refine r_callSW (rest := []) S hg hS (mtL_coinsOf (mc := mc) (ms := ms) hfl h) u517 u518 u42 u519 hdL_coinsOf hw ⟨Nat.le_of_ble_eq_true rfl, Nat.le_of_ble_eq_true rfl⟩ ⟨hm1, hm2⟩ hl.1 (Nat.le_of_ble_eq_true rfl) rfl dL_law_548 (fun rv H locs hq hS => ?_)
  obtain ⟨k, K1, o1, od1, ad1, rfl, h, hA, hw⟩ := hq
  show W p l e _ s m _ below meth c H locs (uc + mc) (us + ms) _ (F0 m 551 ls [.int k])
  rw [hA.1, hA.2.1, hA.2.2.1, hA.2.2.2] at hl
  refine lv_istore (lv' := [(6, .int k), (0, .ref b), (1, .ref (ad1 0 0)), (2, .ref (ad1 3 0)), (3, .ref (ad1 14 0)), (4, .ref (ad1 15 0)), (5, .int x5)]) S.1 S.2.1 dL_law_551 hl (by decide) rfl (fun ls hl => ?_)
  refine lv_aload_n S.1 S.2.1 dL_law_553 rfl (lv_at hl 3 rfl) ?_
  refine lv_aload_n S.1 S.2.1 dL_law_554 rfl (lv_at hl 1 rfl) ?_
  refine lv_iload S.1 S.2.1 dL_law_555 (lv_at hl 6 rfl) ?_
  refine lv_iconst (v := 1) S.1 S.2.1 dL_law_557 (by decide) ?_
  refine lv_iadd S.1 S.2.1 dL_law_558 ?_
  refine va_sld S.1 S.2.1 hX hbl hbA hS h1 dL_law_559 ?_
  rw [e1]
  refine r_call (rest := []) S hg hS (mtX7_coinsOf (mc := 0) (ms := 0) h) u1211 u1212 u1213 u49 u1214 hdX7_coinsOf (rv3 hg hw) hw ⟨Nat.le_of_ble_eq_true rfl, Nat.le_of_ble_eq_true rfl⟩ ⟨by show (uc + mc) + 0 ≤ 603072; omega, by show (us + ms) + 0 ≤ 7190634; omega⟩ hl.1 (Nat.le_of_ble_eq_true rfl) rfl dL_law_560 (fun E ce q H1 locs1 hx hS1 hc1 hc2 hc3 => hx.elim) (fun rv H locs hq hS => ?_)
  obtain ⟨b1, M1, ap1, rfl, h, hw⟩ := hq
  show W p l e _ s m _ below meth c H locs (uc + mc) (us + ms) _ (F0 m 563 ls [.int b1])
  refine lv_istore (lv' := [(7, .int b1), (6, .int k), (0, .ref b), (1, .ref (ad1 0 0)), (2, .ref (ad1 3 0)), (3, .ref (ad1 14 0)), (4, .ref (ad1 15 0)), (5, .int x5)]) S.1 S.2.1 dL_law_563 hl (by decide) rfl (fun ls hl => ?_)
  refine lv_aload_n S.1 S.2.1 dL_law_565 rfl (lv_at hl 4 rfl) ?_
  refine r_call (rest := []) S hg hS (mtX7_thrown (mc := 0) (ms := 0) h) u1160 u1161 u1162 u49 u1163 hdX7_thrown (rv3 hg hw) hw ⟨Nat.le_of_ble_eq_true rfl, Nat.le_of_ble_eq_true rfl⟩ ⟨by show (uc + mc) + 0 ≤ 603072; omega, by show (us + ms) + 0 ≤ 7190634; omega⟩ hl.1 (Nat.le_of_ble_eq_true rfl) rfl dL_law_566 (fun E ce q H1 locs1 hx hS1 hc1 hc2 hc3 => hx.elim) (fun rv H locs hq hS => ?_)
  obtain ⟨r1, rfl, h, hw⟩ := hq
  obtain ⟨hr1, hr2, hI⟩ := h
  show W p l e _ s m _ below meth c H locs (uc + mc) (us + ms) _ (F0 m 569 ls [.int r1])
  refine lv_iload S.1 S.2.1 dL_law_569 (lv_at hl 1 rfl) ?_
  refine lv_icmp_eq (tgt := 576) S.1 S.2.1 dL_law_571 (by decide) (fun c1 => ?_) (fun c1 => absurd hr1 c1)
  refine lv_iload S.1 S.2.1 dL_law_576 (lv_at hl 1 rfl) ?_
  refine lv_if_ne (tgt := 593) S.1 S.2.1 dL_law_578 (by decide) (fun c1 => ?_) (fun c1 => ?_)
  · refine lv_goto (tgt := 1973) S.1 S.2.1 dL_law_593 (by decide) ?_
    exact kk (ad' := ad1) (hI) hw hS (lv_sub hl (l' := [(0, .ref b), (1, .ref (ad1 0 0)), (2, .ref (ad1 3 0)), (3, .ref (ad1 14 0)), (4, .ref (ad1 15 0)), (5, .int x5)]) [2, 3, 4, 5, 6, 7] rfl)
  · refine lv_aload_n S.1 S.2.1 dL_law_581 rfl (lv_at hl 5 rfl) ?_
    refine lv_iconst (v := 0) S.1 S.2.1 dL_law_582 (by decide) ?_
    refine l14 S hg hw rfl dL_law_583 ?_
    refine lv_iload S.1 S.2.1 dL_law_584 (lv_at hl 0 rfl) ?_
    refine lv_i2l S.1 S.2.1 dL_law_586 rfl ?_
    refine W.lcmp S.1 S.2.1 dL_law_587 ?_
    rw [hr2 c1, lg_cmp_self]
    refine lv_if_eq (tgt := 593) S.1 S.2.1 dL_law_588 (by decide) (fun c1 => ?_) (fun c1 => absurd rfl c1)
    refine lv_goto (tgt := 1973) S.1 S.2.1 dL_law_593 (by decide) ?_
    exact kk (ad' := ad1) (hI) hw hS (lv_sub hl (l' := [(0, .ref b), (1, .ref (ad1 0 0)), (2, .ref (ad1 3 0)), (3, .ref (ad1 14 0)), (4, .ref (ad1 15 0)), (5, .int x5)]) [2, 3, 4, 5, 6, 7] rfl)
def st_postings (I : Nat → Nat → KS → KS → Int64 → Prop) (uc us : Nat) (K M : KS) (ap o : Int64) (od : UInt64) : Prop := wpX6_postings (fun a1 => wpX7_postings (fun b1 M1 ap1 => a1 = b1 ∧ I uc us K M1 ap1) M ap) K
set_option maxHeartbeats 4000000 in
theorem lc_postings {p : Program} {l : Launch} {e : Env} {s : State} {m : MethodId} {args : Array Value} {below : List Frame} {meth : Method} {c : Code} {D : va_G} {cI : Nat → ClassId} {e0 : Nat} {A : Nat → Prop} {ad : Nat → Nat → Nat} {K M : KS} {ap o : Int64} {od : UInt64} {H : Heap} {locs : List Loc} {ls : Array Slot} {uc us b n5 : Nat} {xs : Nat → Int32} {x5 : Int32} {Q : State → Prop} {I : Nat → Nat → KS → KS → Int64 → Prop} {L : Nat} (hfl : l.stackTraces = false) (S : CallFix p m c cL_law 9 s args WU RL) (hg : GI D cI e0 A s s.heap) (hX : va_X b L xs s s.heap) (hbl : b < s.heap.size) (hbA : ¬ A b) (hS : va_S A s.heap H locs) (hw : HT D cI e0 A ad K M ap o od H) (hl : lv_has ls 9 [(0, .ref b), (1, .ref (ad 0 0)), (2, .ref (ad 3 0)), (3, .ref (ad 14 0)), (4, .ref (ad 15 0)), (5, .int x5)]) (hu : uc ≤ 603072 ∧ us ≤ 7190634) (h : st_postings I uc us K M ap o od)
    (kk : ∀ {uc1 us1 : Nat} {K1 M1 : KS} {ap1 o1 : Int64} {od1 : UInt64} {ad' : Nat → Nat → Nat} {H1 : Heap} {locs1 : List Loc} {ls1 : Array Slot}, I uc1 us1 K1 M1 ap1 → HT D cI e0 A ad' K1 M1 ap1 o1 od1 H1 → va_S A s.heap H1 locs1 → lv_has ls1 9 [(0, .ref b), (1, .ref (ad' 0 0)), (2, .ref (ad' 3 0)), (3, .ref (ad' 14 0)), (4, .ref (ad' 15 0)), (5, .int x5)] → W p l e room_1 s m args below meth c H1 locs1 uc1 us1 Q (F0 m 1973 ls1 [])) : W p l e room_1 s m args below meth c H locs uc us Q (F0 m 596 ls []) := by
  obtain ⟨hu1, hu2⟩ := hu
  refine lv_aload_n S.1 S.2.1 dL_law_596 rfl (lv_at hl 1 rfl) ?_
  refine r_call (rest := []) S hg hS (mtX6_postings (mc := 0) (ms := 0) h) u172 u173 u174 u43 u175 hdX6_postings (rv0 hg hw) hw ⟨Nat.le_of_ble_eq_true rfl, Nat.le_of_ble_eq_true rfl⟩ ⟨by show uc + 0 ≤ 603072; omega, by show us + 0 ≤ 7190634; omega⟩ hl.1 (Nat.le_of_ble_eq_true rfl) rfl dL_law_597 (fun E ce q H1 locs1 hx hS1 hc1 hc2 hc3 => hx.elim) (fun rv H locs hq hS => ?_)
  obtain ⟨a1, rfl, h, hw⟩ := hq
  show W p l e _ s m _ below meth c H locs uc us _ (F0 m 600 ls [.int a1])
  refine lv_aload_n S.1 S.2.1 dL_law_600 rfl (lv_at hl 2 rfl) ?_
  refine r_call (rest := [.int a1]) S hg hS (mtX7_postings (mc := 0) (ms := 0) h) u1215 u1216 u1217 u49 u1218 hdX7_postings (rv3 hg hw) hw ⟨Nat.le_of_ble_eq_true rfl, Nat.le_of_ble_eq_true rfl⟩ ⟨by show uc + 0 ≤ 603072; omega, by show us + 0 ≤ 7190634; omega⟩ hl.1 (Nat.le_of_ble_eq_true rfl) rfl dL_law_601 (fun E ce q H1 locs1 hx hS1 hc1 hc2 hc3 => hx.elim) (fun rv H locs hq hS => ?_)
  obtain ⟨b1, M1, ap1, rfl, h, hw⟩ := hq
  obtain ⟨hr1, hI⟩ := h
  show W p l e _ s m _ below meth c H locs uc us _ (F0 m 604 ls [.int b1, .int a1])
  refine lv_icmp_eq (tgt := 1973) S.1 S.2.1 dL_law_604 (by decide) (fun c1 => ?_) (fun c1 => absurd hr1 c1)
  exact kk (ad' := ad) (hI) hw hS (lv_sub hl (l' := [(0, .ref b), (1, .ref (ad 0 0)), (2, .ref (ad 3 0)), (3, .ref (ad 14 0)), (4, .ref (ad 15 0)), (5, .int x5)]) [0, 1, 2, 3, 4, 5] rfl)
def st_posting (I : Nat → Nat → KS → KS → Int64 → Prop) (uc us : Nat) (K M : KS) (ap o : Int64) (od : UInt64) (p1 : Int32) (p2 : Int32) : Prop := ∃ mc ms : Nat, uc + mc ≤ 603072 ∧ us + ms ≤ 7190634 ∧ wpL_posting (fun k K1 o1 od1 => wpX7_posting (fun b1 M1 ap1 => wpX7_thrown (fun r1 => r1 = k ∧ (k = 0 → o1 = b1.toInt64) ∧ I (uc + mc) (us + ms) K1 M1 ap1) M1 ap1) M ap p1 p2) mc ms K o od p1 p2
set_option maxHeartbeats 4000000 in
theorem lc_posting {p : Program} {l : Launch} {e : Env} {s : State} {m : MethodId} {args : Array Value} {below : List Frame} {meth : Method} {c : Code} {D : va_G} {cI : Nat → ClassId} {e0 : Nat} {A : Nat → Prop} {ad : Nat → Nat → Nat} {K M : KS} {ap o : Int64} {od : UInt64} {H : Heap} {locs : List Loc} {ls : Array Slot} {uc us b n5 : Nat} {xs : Nat → Int32} {x5 : Int32} {Q : State → Prop} {I : Nat → Nat → KS → KS → Int64 → Prop} {L : Nat} (hfl : l.stackTraces = false) (S : CallFix p m c cL_law 9 s args WU RL) (hg : GI D cI e0 A s s.heap) (hX : va_X b L xs s s.heap) (hbl : b < s.heap.size) (hbA : ¬ A b) (h1 : vp_in (x5 + 1) L) (e1 : xs (x5 + 1).toNatClampNeg = xs (n5 + 1)) (h2 : vp_in (x5 + 2) L) (e2 : xs (x5 + 2).toNatClampNeg = xs (n5 + 2)) (hS : va_S A s.heap H locs) (hw : HT D cI e0 A ad K M ap o od H) (hl : lv_has ls 9 [(0, .ref b), (1, .ref (ad 0 0)), (2, .ref (ad 3 0)), (3, .ref (ad 14 0)), (4, .ref (ad 15 0)), (5, .int x5)]) (h : st_posting I uc us K M ap o od (xs (n5 + 1)) (lawC (xs (n5 + 2))))
    (kk : ∀ {uc1 us1 : Nat} {K1 M1 : KS} {ap1 o1 : Int64} {od1 : UInt64} {ad' : Nat → Nat → Nat} {H1 : Heap} {locs1 : List Loc} {ls1 : Array Slot}, I uc1 us1 K1 M1 ap1 → HT D cI e0 A ad' K1 M1 ap1 o1 od1 H1 → va_S A s.heap H1 locs1 → lv_has ls1 9 [(0, .ref b), (1, .ref (ad' 0 0)), (2, .ref (ad' 3 0)), (3, .ref (ad' 14 0)), (4, .ref (ad' 15 0)), (5, .int x5)] → W p l e room_1 s m args below meth c H1 locs1 uc1 us1 Q (F0 m 1973 ls1 [])) : W p l e room_1 s m args below meth c H locs uc us Q (F0 m 609 ls []) := by
  refine lv_aload_n S.1 S.2.1 dL_law_609 rfl (lv_at hl 1 rfl) ?_
  refine lv_aload_n S.1 S.2.1 dL_law_610 rfl (lv_at hl 0 rfl) ?_
  refine lv_iload S.1 S.2.1 dL_law_611 (lv_at hl 5 rfl) ?_
  refine lv_iconst (v := 1) S.1 S.2.1 dL_law_613 (by decide) ?_
  refine lv_iadd S.1 S.2.1 dL_law_614 ?_
  refine va_sld S.1 S.2.1 hX hbl hbA hS h1 dL_law_615 ?_
  rw [e1]
  refine lv_aload_n S.1 S.2.1 dL_law_616 rfl (lv_at hl 0 rfl) ?_
  refine lv_iload S.1 S.2.1 dL_law_617 (lv_at hl 5 rfl) ?_
  refine lv_iconst (v := 2) S.1 S.2.1 dL_law_619 (by decide) ?_
  refine lv_iadd S.1 S.2.1 dL_law_620 ?_
  refine va_sld S.1 S.2.1 hX hbl hbA hS h2 dL_law_621 ?_
  rw [e2]
  refine lv_i2c (v := lawC (xs (n5 + 2))) S.1 S.2.1 dL_law_622 rfl ?_
  refine lv_aload_n S.1 S.2.1 dL_law_623 rfl (lv_at hl 3 rfl) ?_
  obtain ⟨mc, ms, hm1, hm2, h⟩ := h
  refine r_callSW (rest := []) S hg hS (mtL_posting (mc := mc) (ms := ms) hfl h) u524 u525 u42 u526 hdL_posting hw ⟨Nat.le_of_ble_eq_true rfl, Nat.le_of_ble_eq_true rfl⟩ ⟨hm1, hm2⟩ hl.1 (Nat.le_of_ble_eq_true rfl) rfl dL_law_624 (fun rv H locs hq hS => ?_)
  obtain ⟨k, K1, o1, od1, ad1, rfl, h, hA, hw⟩ := hq
  show W p l e _ s m _ below meth c H locs (uc + mc) (us + ms) _ (F0 m 627 ls [.int k])
  rw [hA.1, hA.2.1, hA.2.2.1, hA.2.2.2] at hl
  refine lv_istore (lv' := [(6, .int k), (0, .ref b), (1, .ref (ad1 0 0)), (2, .ref (ad1 3 0)), (3, .ref (ad1 14 0)), (4, .ref (ad1 15 0)), (5, .int x5)]) S.1 S.2.1 dL_law_627 hl (by decide) rfl (fun ls hl => ?_)
  refine lv_aload_n S.1 S.2.1 dL_law_629 rfl (lv_at hl 3 rfl) ?_
  refine lv_aload_n S.1 S.2.1 dL_law_630 rfl (lv_at hl 1 rfl) ?_
  refine lv_iload S.1 S.2.1 dL_law_631 (lv_at hl 6 rfl) ?_
  refine lv_iconst (v := 1) S.1 S.2.1 dL_law_633 (by decide) ?_
  refine lv_iadd S.1 S.2.1 dL_law_634 ?_
  refine va_sld S.1 S.2.1 hX hbl hbA hS h1 dL_law_635 ?_
  rw [e1]
  refine lv_aload_n S.1 S.2.1 dL_law_636 rfl (lv_at hl 1 rfl) ?_
  refine lv_iload S.1 S.2.1 dL_law_637 (lv_at hl 6 rfl) ?_
  refine lv_iconst (v := 2) S.1 S.2.1 dL_law_639 (by decide) ?_
  refine lv_iadd S.1 S.2.1 dL_law_640 ?_
  refine va_sld S.1 S.2.1 hX hbl hbA hS h2 dL_law_641 ?_
  rw [e2]
  refine lv_i2c (v := lawC (xs (n5 + 2))) S.1 S.2.1 dL_law_642 rfl ?_
  refine r_call (rest := []) S hg hS (mtX7_posting (mc := 0) (ms := 0) h) u1219 u1220 u1221 u49 u1222 hdX7_posting (rv3 hg hw) hw ⟨Nat.le_of_ble_eq_true rfl, Nat.le_of_ble_eq_true rfl⟩ ⟨by show (uc + mc) + 0 ≤ 603072; omega, by show (us + ms) + 0 ≤ 7190634; omega⟩ hl.1 (Nat.le_of_ble_eq_true rfl) rfl dL_law_643 (fun E ce q H1 locs1 hx hS1 hc1 hc2 hc3 => hx.elim) (fun rv H locs hq hS => ?_)
  obtain ⟨b1, M1, ap1, rfl, h, hw⟩ := hq
  show W p l e _ s m _ below meth c H locs (uc + mc) (us + ms) _ (F0 m 646 ls [.int b1])
  refine lv_istore (lv' := [(7, .int b1), (6, .int k), (0, .ref b), (1, .ref (ad1 0 0)), (2, .ref (ad1 3 0)), (3, .ref (ad1 14 0)), (4, .ref (ad1 15 0)), (5, .int x5)]) S.1 S.2.1 dL_law_646 hl (by decide) rfl (fun ls hl => ?_)
  refine lv_aload_n S.1 S.2.1 dL_law_648 rfl (lv_at hl 4 rfl) ?_
  refine r_call (rest := []) S hg hS (mtX7_thrown (mc := 0) (ms := 0) h) u1160 u1161 u1162 u49 u1163 hdX7_thrown (rv3 hg hw) hw ⟨Nat.le_of_ble_eq_true rfl, Nat.le_of_ble_eq_true rfl⟩ ⟨by show (uc + mc) + 0 ≤ 603072; omega, by show (us + ms) + 0 ≤ 7190634; omega⟩ hl.1 (Nat.le_of_ble_eq_true rfl) rfl dL_law_649 (fun E ce q H1 locs1 hx hS1 hc1 hc2 hc3 => hx.elim) (fun rv H locs hq hS => ?_)
  obtain ⟨r1, rfl, h, hw⟩ := hq
  obtain ⟨hr1, hr2, hI⟩ := h
  show W p l e _ s m _ below meth c H locs (uc + mc) (us + ms) _ (F0 m 652 ls [.int r1])
  refine lv_iload S.1 S.2.1 dL_law_652 (lv_at hl 1 rfl) ?_
  refine lv_icmp_eq (tgt := 659) S.1 S.2.1 dL_law_654 (by decide) (fun c1 => ?_) (fun c1 => absurd hr1 c1)
  refine lv_iload S.1 S.2.1 dL_law_659 (lv_at hl 1 rfl) ?_
  refine lv_if_ne (tgt := 676) S.1 S.2.1 dL_law_661 (by decide) (fun c1 => ?_) (fun c1 => ?_)
  · refine lv_goto (tgt := 1973) S.1 S.2.1 dL_law_676 (by decide) ?_
    exact kk (ad' := ad1) (hI) hw hS (lv_sub hl (l' := [(0, .ref b), (1, .ref (ad1 0 0)), (2, .ref (ad1 3 0)), (3, .ref (ad1 14 0)), (4, .ref (ad1 15 0)), (5, .int x5)]) [2, 3, 4, 5, 6, 7] rfl)
  · refine lv_aload_n S.1 S.2.1 dL_law_664 rfl (lv_at hl 5 rfl) ?_
    refine lv_iconst (v := 0) S.1 S.2.1 dL_law_665 (by decide) ?_
    refine l14 S hg hw rfl dL_law_666 ?_
    refine lv_iload S.1 S.2.1 dL_law_667 (lv_at hl 0 rfl) ?_
    refine lv_i2l S.1 S.2.1 dL_law_669 rfl ?_
    refine W.lcmp S.1 S.2.1 dL_law_670 ?_
    rw [hr2 c1, lg_cmp_self]
    refine lv_if_eq (tgt := 676) S.1 S.2.1 dL_law_671 (by decide) (fun c1 => ?_) (fun c1 => absurd rfl c1)
    refine lv_goto (tgt := 1973) S.1 S.2.1 dL_law_676 (by decide) ?_
    exact kk (ad' := ad1) (hI) hw hS (lv_sub hl (l' := [(0, .ref b), (1, .ref (ad1 0 0)), (2, .ref (ad1 3 0)), (3, .ref (ad1 14 0)), (4, .ref (ad1 15 0)), (5, .int x5)]) [2, 3, 4, 5, 6, 7] rfl)
def st_duel (I : Nat → Nat → KS → KS → Int64 → Prop) (uc us : Nat) (K M : KS) (ap o : Int64) (od : UInt64) (p1 : Int32) (p2 : Int32) : Prop := ∃ mc ms : Nat, uc + mc ≤ 603072 ∧ us + ms ≤ 7190634 ∧ wpL_duel (fun k K1 o1 od1 => wpX7_duel (fun b1 M1 ap1 => wpX7_thrown (fun r1 => r1 = k ∧ (k = 0 → o1 = b1.toInt64) ∧ I (uc + mc) (us + ms) K1 M1 ap1) M1 ap1) M ap p1 p2) mc ms K o od p1 p2
set_option maxHeartbeats 4000000 in
theorem lc_duel {p : Program} {l : Launch} {e : Env} {s : State} {m : MethodId} {args : Array Value} {below : List Frame} {meth : Method} {c : Code} {D : va_G} {cI : Nat → ClassId} {e0 : Nat} {A : Nat → Prop} {ad : Nat → Nat → Nat} {K M : KS} {ap o : Int64} {od : UInt64} {H : Heap} {locs : List Loc} {ls : Array Slot} {uc us b n5 : Nat} {xs : Nat → Int32} {x5 : Int32} {Q : State → Prop} {I : Nat → Nat → KS → KS → Int64 → Prop} {L : Nat} (hfl : l.stackTraces = false) (S : CallFix p m c cL_law 9 s args WU RL) (hg : GI D cI e0 A s s.heap) (hX : va_X b L xs s s.heap) (hbl : b < s.heap.size) (hbA : ¬ A b) (h1 : vp_in (x5 + 1) L) (e1 : xs (x5 + 1).toNatClampNeg = xs (n5 + 1)) (h2 : vp_in (x5 + 2) L) (e2 : xs (x5 + 2).toNatClampNeg = xs (n5 + 2)) (hS : va_S A s.heap H locs) (hw : HT D cI e0 A ad K M ap o od H) (hl : lv_has ls 9 [(0, .ref b), (1, .ref (ad 0 0)), (2, .ref (ad 3 0)), (3, .ref (ad 14 0)), (4, .ref (ad 15 0)), (5, .int x5)]) (h : st_duel I uc us K M ap o od (xs (n5 + 1)) (xs (n5 + 2)))
    (kk : ∀ {uc1 us1 : Nat} {K1 M1 : KS} {ap1 o1 : Int64} {od1 : UInt64} {ad' : Nat → Nat → Nat} {H1 : Heap} {locs1 : List Loc} {ls1 : Array Slot}, I uc1 us1 K1 M1 ap1 → HT D cI e0 A ad' K1 M1 ap1 o1 od1 H1 → va_S A s.heap H1 locs1 → lv_has ls1 9 [(0, .ref b), (1, .ref (ad' 0 0)), (2, .ref (ad' 3 0)), (3, .ref (ad' 14 0)), (4, .ref (ad' 15 0)), (5, .int x5)] → W p l e room_1 s m args below meth c H1 locs1 uc1 us1 Q (F0 m 1973 ls1 [])) : W p l e room_1 s m args below meth c H locs uc us Q (F0 m 679 ls []) := by
  refine lv_aload_n S.1 S.2.1 dL_law_679 rfl (lv_at hl 1 rfl) ?_
  refine lv_aload_n S.1 S.2.1 dL_law_680 rfl (lv_at hl 0 rfl) ?_
  refine lv_iload S.1 S.2.1 dL_law_681 (lv_at hl 5 rfl) ?_
  refine lv_iconst (v := 1) S.1 S.2.1 dL_law_683 (by decide) ?_
  refine lv_iadd S.1 S.2.1 dL_law_684 ?_
  refine va_sld S.1 S.2.1 hX hbl hbA hS h1 dL_law_685 ?_
  rw [e1]
  refine lv_aload_n S.1 S.2.1 dL_law_686 rfl (lv_at hl 0 rfl) ?_
  refine lv_iload S.1 S.2.1 dL_law_687 (lv_at hl 5 rfl) ?_
  refine lv_iconst (v := 2) S.1 S.2.1 dL_law_689 (by decide) ?_
  refine lv_iadd S.1 S.2.1 dL_law_690 ?_
  refine va_sld S.1 S.2.1 hX hbl hbA hS h2 dL_law_691 ?_
  rw [e2]
  refine lv_aload_n S.1 S.2.1 dL_law_692 rfl (lv_at hl 3 rfl) ?_
  obtain ⟨mc, ms, hm1, hm2, h⟩ := h
  refine r_callSW (rest := []) S hg hS (mtL_duel (mc := mc) (ms := ms) hfl h) u539 u540 u42 u541 hdL_duel hw ⟨Nat.le_of_ble_eq_true rfl, Nat.le_of_ble_eq_true rfl⟩ ⟨hm1, hm2⟩ hl.1 (Nat.le_of_ble_eq_true rfl) rfl dL_law_693 (fun rv H locs hq hS => ?_)
  obtain ⟨k, K1, o1, od1, ad1, rfl, h, hA, hw⟩ := hq
  show W p l e _ s m _ below meth c H locs (uc + mc) (us + ms) _ (F0 m 696 ls [.int k])
  rw [hA.1, hA.2.1, hA.2.2.1, hA.2.2.2] at hl
  refine lv_istore (lv' := [(6, .int k), (0, .ref b), (1, .ref (ad1 0 0)), (2, .ref (ad1 3 0)), (3, .ref (ad1 14 0)), (4, .ref (ad1 15 0)), (5, .int x5)]) S.1 S.2.1 dL_law_696 hl (by decide) rfl (fun ls hl => ?_)
  refine lv_aload_n S.1 S.2.1 dL_law_698 rfl (lv_at hl 3 rfl) ?_
  refine lv_aload_n S.1 S.2.1 dL_law_699 rfl (lv_at hl 1 rfl) ?_
  refine lv_iload S.1 S.2.1 dL_law_700 (lv_at hl 6 rfl) ?_
  refine lv_iconst (v := 1) S.1 S.2.1 dL_law_702 (by decide) ?_
  refine lv_iadd S.1 S.2.1 dL_law_703 ?_
  refine va_sld S.1 S.2.1 hX hbl hbA hS h1 dL_law_704 ?_
  rw [e1]
  refine lv_aload_n S.1 S.2.1 dL_law_705 rfl (lv_at hl 1 rfl) ?_
  refine lv_iload S.1 S.2.1 dL_law_706 (lv_at hl 6 rfl) ?_
  refine lv_iconst (v := 2) S.1 S.2.1 dL_law_708 (by decide) ?_
  refine lv_iadd S.1 S.2.1 dL_law_709 ?_
  refine va_sld S.1 S.2.1 hX hbl hbA hS h2 dL_law_710 ?_
  rw [e2]
  refine r_call (rest := []) S hg hS (mtX7_duel (mc := 0) (ms := 0) h) u1223 u1224 u1225 u49 u1226 hdX7_duel (rv3 hg hw) hw ⟨Nat.le_of_ble_eq_true rfl, Nat.le_of_ble_eq_true rfl⟩ ⟨by show (uc + mc) + 0 ≤ 603072; omega, by show (us + ms) + 0 ≤ 7190634; omega⟩ hl.1 (Nat.le_of_ble_eq_true rfl) rfl dL_law_711 (fun E ce q H1 locs1 hx hS1 hc1 hc2 hc3 => hx.elim) (fun rv H locs hq hS => ?_)
  obtain ⟨b1, M1, ap1, rfl, h, hw⟩ := hq
  show W p l e _ s m _ below meth c H locs (uc + mc) (us + ms) _ (F0 m 714 ls [.int b1])
  refine lv_istore (lv' := [(7, .int b1), (6, .int k), (0, .ref b), (1, .ref (ad1 0 0)), (2, .ref (ad1 3 0)), (3, .ref (ad1 14 0)), (4, .ref (ad1 15 0)), (5, .int x5)]) S.1 S.2.1 dL_law_714 hl (by decide) rfl (fun ls hl => ?_)
  refine lv_aload_n S.1 S.2.1 dL_law_716 rfl (lv_at hl 4 rfl) ?_
  refine r_call (rest := []) S hg hS (mtX7_thrown (mc := 0) (ms := 0) h) u1160 u1161 u1162 u49 u1163 hdX7_thrown (rv3 hg hw) hw ⟨Nat.le_of_ble_eq_true rfl, Nat.le_of_ble_eq_true rfl⟩ ⟨by show (uc + mc) + 0 ≤ 603072; omega, by show (us + ms) + 0 ≤ 7190634; omega⟩ hl.1 (Nat.le_of_ble_eq_true rfl) rfl dL_law_717 (fun E ce q H1 locs1 hx hS1 hc1 hc2 hc3 => hx.elim) (fun rv H locs hq hS => ?_)
  obtain ⟨r1, rfl, h, hw⟩ := hq
  obtain ⟨hr1, hr2, hI⟩ := h
  show W p l e _ s m _ below meth c H locs (uc + mc) (us + ms) _ (F0 m 720 ls [.int r1])
  refine lv_iload S.1 S.2.1 dL_law_720 (lv_at hl 1 rfl) ?_
  refine lv_icmp_eq (tgt := 727) S.1 S.2.1 dL_law_722 (by decide) (fun c1 => ?_) (fun c1 => absurd hr1 c1)
  refine lv_iload S.1 S.2.1 dL_law_727 (lv_at hl 1 rfl) ?_
  refine lv_if_ne (tgt := 744) S.1 S.2.1 dL_law_729 (by decide) (fun c1 => ?_) (fun c1 => ?_)
  · refine lv_goto (tgt := 1973) S.1 S.2.1 dL_law_744 (by decide) ?_
    exact kk (ad' := ad1) (hI) hw hS (lv_sub hl (l' := [(0, .ref b), (1, .ref (ad1 0 0)), (2, .ref (ad1 3 0)), (3, .ref (ad1 14 0)), (4, .ref (ad1 15 0)), (5, .int x5)]) [2, 3, 4, 5, 6, 7] rfl)
  · refine lv_aload_n S.1 S.2.1 dL_law_732 rfl (lv_at hl 5 rfl) ?_
    refine lv_iconst (v := 0) S.1 S.2.1 dL_law_733 (by decide) ?_
    refine l14 S hg hw rfl dL_law_734 ?_
    refine lv_iload S.1 S.2.1 dL_law_735 (lv_at hl 0 rfl) ?_
    refine lv_i2l S.1 S.2.1 dL_law_737 rfl ?_
    refine W.lcmp S.1 S.2.1 dL_law_738 ?_
    rw [hr2 c1, lg_cmp_self]
    refine lv_if_eq (tgt := 744) S.1 S.2.1 dL_law_739 (by decide) (fun c1 => ?_) (fun c1 => absurd rfl c1)
    refine lv_goto (tgt := 1973) S.1 S.2.1 dL_law_744 (by decide) ?_
    exact kk (ad' := ad1) (hI) hw hS (lv_sub hl (l' := [(0, .ref b), (1, .ref (ad1 0 0)), (2, .ref (ad1 3 0)), (3, .ref (ad1 14 0)), (4, .ref (ad1 15 0)), (5, .int x5)]) [2, 3, 4, 5, 6, 7] rfl)
def st_stake (I : Nat → Nat → KS → KS → Int64 → Prop) (uc us : Nat) (K M : KS) (ap o : Int64) (od : UInt64) (p1 : Int32) (p2 : Int32) : Prop := ∃ mc ms : Nat, uc + mc ≤ 603072 ∧ us + ms ≤ 7190634 ∧ wpL_stake (fun k K1 o1 od1 => wpX7_stake (fun b1 M1 ap1 => wpX7_thrown (fun r1 => r1 = k ∧ (k = 0 → o1 = b1.toInt64) ∧ I (uc + mc) (us + ms) K1 M1 ap1) M1 ap1) M ap p1 p2) mc ms K o od p1 p2
set_option maxHeartbeats 4000000 in
theorem lc_stake {p : Program} {l : Launch} {e : Env} {s : State} {m : MethodId} {args : Array Value} {below : List Frame} {meth : Method} {c : Code} {D : va_G} {cI : Nat → ClassId} {e0 : Nat} {A : Nat → Prop} {ad : Nat → Nat → Nat} {K M : KS} {ap o : Int64} {od : UInt64} {H : Heap} {locs : List Loc} {ls : Array Slot} {uc us b n5 : Nat} {xs : Nat → Int32} {x5 : Int32} {Q : State → Prop} {I : Nat → Nat → KS → KS → Int64 → Prop} {L : Nat} (hfl : l.stackTraces = false) (S : CallFix p m c cL_law 9 s args WU RL) (hg : GI D cI e0 A s s.heap) (hX : va_X b L xs s s.heap) (hbl : b < s.heap.size) (hbA : ¬ A b) (h1 : vp_in (x5 + 1) L) (e1 : xs (x5 + 1).toNatClampNeg = xs (n5 + 1)) (h2 : vp_in (x5 + 2) L) (e2 : xs (x5 + 2).toNatClampNeg = xs (n5 + 2)) (hS : va_S A s.heap H locs) (hw : HT D cI e0 A ad K M ap o od H) (hl : lv_has ls 9 [(0, .ref b), (1, .ref (ad 0 0)), (2, .ref (ad 3 0)), (3, .ref (ad 14 0)), (4, .ref (ad 15 0)), (5, .int x5)]) (h : st_stake I uc us K M ap o od (xs (n5 + 1)) (xs (n5 + 2)))
    (kk : ∀ {uc1 us1 : Nat} {K1 M1 : KS} {ap1 o1 : Int64} {od1 : UInt64} {ad' : Nat → Nat → Nat} {H1 : Heap} {locs1 : List Loc} {ls1 : Array Slot}, I uc1 us1 K1 M1 ap1 → HT D cI e0 A ad' K1 M1 ap1 o1 od1 H1 → va_S A s.heap H1 locs1 → lv_has ls1 9 [(0, .ref b), (1, .ref (ad' 0 0)), (2, .ref (ad' 3 0)), (3, .ref (ad' 14 0)), (4, .ref (ad' 15 0)), (5, .int x5)] → W p l e room_1 s m args below meth c H1 locs1 uc1 us1 Q (F0 m 1973 ls1 [])) : W p l e room_1 s m args below meth c H locs uc us Q (F0 m 747 ls []) := by
  refine lv_aload_n S.1 S.2.1 dL_law_747 rfl (lv_at hl 1 rfl) ?_
  refine lv_aload_n S.1 S.2.1 dL_law_748 rfl (lv_at hl 0 rfl) ?_
  refine lv_iload S.1 S.2.1 dL_law_749 (lv_at hl 5 rfl) ?_
  refine lv_iconst (v := 1) S.1 S.2.1 dL_law_751 (by decide) ?_
  refine lv_iadd S.1 S.2.1 dL_law_752 ?_
  refine va_sld S.1 S.2.1 hX hbl hbA hS h1 dL_law_753 ?_
  rw [e1]
  refine lv_aload_n S.1 S.2.1 dL_law_754 rfl (lv_at hl 0 rfl) ?_
  refine lv_iload S.1 S.2.1 dL_law_755 (lv_at hl 5 rfl) ?_
  refine lv_iconst (v := 2) S.1 S.2.1 dL_law_757 (by decide) ?_
  refine lv_iadd S.1 S.2.1 dL_law_758 ?_
  refine va_sld S.1 S.2.1 hX hbl hbA hS h2 dL_law_759 ?_
  rw [e2]
  refine lv_aload_n S.1 S.2.1 dL_law_760 rfl (lv_at hl 3 rfl) ?_
  obtain ⟨mc, ms, hm1, hm2, h⟩ := h
  refine r_callSW (rest := []) S hg hS (mtL_stake (mc := mc) (ms := ms) hfl h) u638 u639 u42 u640 hdL_stake hw ⟨Nat.le_of_ble_eq_true rfl, Nat.le_of_ble_eq_true rfl⟩ ⟨hm1, hm2⟩ hl.1 (Nat.le_of_ble_eq_true rfl) rfl dL_law_761 (fun rv H locs hq hS => ?_)
  obtain ⟨k, K1, o1, od1, ad1, rfl, h, hA, hw⟩ := hq
  show W p l e _ s m _ below meth c H locs (uc + mc) (us + ms) _ (F0 m 764 ls [.int k])
  rw [hA.1, hA.2.1, hA.2.2.1, hA.2.2.2] at hl
  refine lv_istore (lv' := [(6, .int k), (0, .ref b), (1, .ref (ad1 0 0)), (2, .ref (ad1 3 0)), (3, .ref (ad1 14 0)), (4, .ref (ad1 15 0)), (5, .int x5)]) S.1 S.2.1 dL_law_764 hl (by decide) rfl (fun ls hl => ?_)
  refine lv_aload_n S.1 S.2.1 dL_law_766 rfl (lv_at hl 3 rfl) ?_
  refine lv_aload_n S.1 S.2.1 dL_law_767 rfl (lv_at hl 1 rfl) ?_
  refine lv_iload S.1 S.2.1 dL_law_768 (lv_at hl 6 rfl) ?_
  refine lv_iconst (v := 1) S.1 S.2.1 dL_law_770 (by decide) ?_
  refine lv_iadd S.1 S.2.1 dL_law_771 ?_
  refine va_sld S.1 S.2.1 hX hbl hbA hS h1 dL_law_772 ?_
  rw [e1]
  refine lv_aload_n S.1 S.2.1 dL_law_773 rfl (lv_at hl 1 rfl) ?_
  refine lv_iload S.1 S.2.1 dL_law_774 (lv_at hl 6 rfl) ?_
  refine lv_iconst (v := 2) S.1 S.2.1 dL_law_776 (by decide) ?_
  refine lv_iadd S.1 S.2.1 dL_law_777 ?_
  refine va_sld S.1 S.2.1 hX hbl hbA hS h2 dL_law_778 ?_
  rw [e2]
  refine r_call (rest := []) S hg hS (mtX7_stake (mc := 0) (ms := 0) h) u1231 u1232 u1233 u49 u1234 hdX7_stake (rv3 hg hw) hw ⟨Nat.le_of_ble_eq_true rfl, Nat.le_of_ble_eq_true rfl⟩ ⟨by show (uc + mc) + 0 ≤ 603072; omega, by show (us + ms) + 0 ≤ 7190634; omega⟩ hl.1 (Nat.le_of_ble_eq_true rfl) rfl dL_law_779 (fun E ce q H1 locs1 hx hS1 hc1 hc2 hc3 => hx.elim) (fun rv H locs hq hS => ?_)
  obtain ⟨b1, M1, ap1, rfl, h, hw⟩ := hq
  show W p l e _ s m _ below meth c H locs (uc + mc) (us + ms) _ (F0 m 782 ls [.int b1])
  refine lv_istore (lv' := [(7, .int b1), (6, .int k), (0, .ref b), (1, .ref (ad1 0 0)), (2, .ref (ad1 3 0)), (3, .ref (ad1 14 0)), (4, .ref (ad1 15 0)), (5, .int x5)]) S.1 S.2.1 dL_law_782 hl (by decide) rfl (fun ls hl => ?_)
  refine lv_aload_n S.1 S.2.1 dL_law_784 rfl (lv_at hl 4 rfl) ?_
  refine r_call (rest := []) S hg hS (mtX7_thrown (mc := 0) (ms := 0) h) u1160 u1161 u1162 u49 u1163 hdX7_thrown (rv3 hg hw) hw ⟨Nat.le_of_ble_eq_true rfl, Nat.le_of_ble_eq_true rfl⟩ ⟨by show (uc + mc) + 0 ≤ 603072; omega, by show (us + ms) + 0 ≤ 7190634; omega⟩ hl.1 (Nat.le_of_ble_eq_true rfl) rfl dL_law_785 (fun E ce q H1 locs1 hx hS1 hc1 hc2 hc3 => hx.elim) (fun rv H locs hq hS => ?_)
  obtain ⟨r1, rfl, h, hw⟩ := hq
  obtain ⟨hr1, hr2, hI⟩ := h
  show W p l e _ s m _ below meth c H locs (uc + mc) (us + ms) _ (F0 m 788 ls [.int r1])
  refine lv_iload S.1 S.2.1 dL_law_788 (lv_at hl 1 rfl) ?_
  refine lv_icmp_eq (tgt := 795) S.1 S.2.1 dL_law_790 (by decide) (fun c1 => ?_) (fun c1 => absurd hr1 c1)
  refine lv_iload S.1 S.2.1 dL_law_795 (lv_at hl 1 rfl) ?_
  refine lv_if_ne (tgt := 812) S.1 S.2.1 dL_law_797 (by decide) (fun c1 => ?_) (fun c1 => ?_)
  · refine lv_goto (tgt := 1973) S.1 S.2.1 dL_law_812 (by decide) ?_
    exact kk (ad' := ad1) (hI) hw hS (lv_sub hl (l' := [(0, .ref b), (1, .ref (ad1 0 0)), (2, .ref (ad1 3 0)), (3, .ref (ad1 14 0)), (4, .ref (ad1 15 0)), (5, .int x5)]) [2, 3, 4, 5, 6, 7] rfl)
  · refine lv_aload_n S.1 S.2.1 dL_law_800 rfl (lv_at hl 5 rfl) ?_
    refine lv_iconst (v := 0) S.1 S.2.1 dL_law_801 (by decide) ?_
    refine l14 S hg hw rfl dL_law_802 ?_
    refine lv_iload S.1 S.2.1 dL_law_803 (lv_at hl 0 rfl) ?_
    refine lv_i2l S.1 S.2.1 dL_law_805 rfl ?_
    refine W.lcmp S.1 S.2.1 dL_law_806 ?_
    rw [hr2 c1, lg_cmp_self]
    refine lv_if_eq (tgt := 812) S.1 S.2.1 dL_law_807 (by decide) (fun c1 => ?_) (fun c1 => absurd rfl c1)
    refine lv_goto (tgt := 1973) S.1 S.2.1 dL_law_812 (by decide) ?_
    exact kk (ad' := ad1) (hI) hw hS (lv_sub hl (l' := [(0, .ref b), (1, .ref (ad1 0 0)), (2, .ref (ad1 3 0)), (3, .ref (ad1 14 0)), (4, .ref (ad1 15 0)), (5, .int x5)]) [2, 3, 4, 5, 6, 7] rfl)
def st_start (I : Nat → Nat → KS → KS → Int64 → Prop) (uc us : Nat) (K M : KS) (ap o : Int64) (od : UInt64) (p1 : Int32) : Prop := ∃ mc ms : Nat, uc + mc ≤ 603072 ∧ us + ms ≤ 7190634 ∧ wpL_start (fun k K1 o1 od1 => wpX7_start (fun b1 M1 ap1 => wpX7_thrown (fun r1 => r1 = k ∧ (k = 0 → o1 = b1.toInt64) ∧ I (uc + mc) (us + ms) K1 M1 ap1) M1 ap1) M ap p1) mc ms K o od p1
set_option maxHeartbeats 4000000 in
theorem lc_start {p : Program} {l : Launch} {e : Env} {s : State} {m : MethodId} {args : Array Value} {below : List Frame} {meth : Method} {c : Code} {D : va_G} {cI : Nat → ClassId} {e0 : Nat} {A : Nat → Prop} {ad : Nat → Nat → Nat} {K M : KS} {ap o : Int64} {od : UInt64} {H : Heap} {locs : List Loc} {ls : Array Slot} {uc us b n5 : Nat} {xs : Nat → Int32} {x5 : Int32} {Q : State → Prop} {I : Nat → Nat → KS → KS → Int64 → Prop} {L : Nat} (hfl : l.stackTraces = false) (S : CallFix p m c cL_law 9 s args WU RL) (hg : GI D cI e0 A s s.heap) (hX : va_X b L xs s s.heap) (hbl : b < s.heap.size) (hbA : ¬ A b) (h1 : vp_in (x5 + 1) L) (e1 : xs (x5 + 1).toNatClampNeg = xs (n5 + 1)) (hS : va_S A s.heap H locs) (hw : HT D cI e0 A ad K M ap o od H) (hl : lv_has ls 9 [(0, .ref b), (1, .ref (ad 0 0)), (2, .ref (ad 3 0)), (3, .ref (ad 14 0)), (4, .ref (ad 15 0)), (5, .int x5)]) (h : st_start I uc us K M ap o od (xs (n5 + 1)))
    (kk : ∀ {uc1 us1 : Nat} {K1 M1 : KS} {ap1 o1 : Int64} {od1 : UInt64} {ad' : Nat → Nat → Nat} {H1 : Heap} {locs1 : List Loc} {ls1 : Array Slot}, I uc1 us1 K1 M1 ap1 → HT D cI e0 A ad' K1 M1 ap1 o1 od1 H1 → va_S A s.heap H1 locs1 → lv_has ls1 9 [(0, .ref b), (1, .ref (ad' 0 0)), (2, .ref (ad' 3 0)), (3, .ref (ad' 14 0)), (4, .ref (ad' 15 0)), (5, .int x5)] → W p l e room_1 s m args below meth c H1 locs1 uc1 us1 Q (F0 m 1973 ls1 [])) : W p l e room_1 s m args below meth c H locs uc us Q (F0 m 815 ls []) := by
  refine lv_aload_n S.1 S.2.1 dL_law_815 rfl (lv_at hl 1 rfl) ?_
  refine lv_aload_n S.1 S.2.1 dL_law_816 rfl (lv_at hl 0 rfl) ?_
  refine lv_iload S.1 S.2.1 dL_law_817 (lv_at hl 5 rfl) ?_
  refine lv_iconst (v := 1) S.1 S.2.1 dL_law_819 (by decide) ?_
  refine lv_iadd S.1 S.2.1 dL_law_820 ?_
  refine va_sld S.1 S.2.1 hX hbl hbA hS h1 dL_law_821 ?_
  rw [e1]
  refine lv_aload_n S.1 S.2.1 dL_law_822 rfl (lv_at hl 3 rfl) ?_
  obtain ⟨mc, ms, hm1, hm2, h⟩ := h
  refine r_callSW (rest := []) S hg hS (mtL_start (mc := mc) (ms := ms) hfl h) u672 u673 u42 u674 hdL_start hw ⟨Nat.le_of_ble_eq_true rfl, Nat.le_of_ble_eq_true rfl⟩ ⟨hm1, hm2⟩ hl.1 (Nat.le_of_ble_eq_true rfl) rfl dL_law_823 (fun rv H locs hq hS => ?_)
  obtain ⟨k, K1, o1, od1, ad1, rfl, h, hA, hw⟩ := hq
  show W p l e _ s m _ below meth c H locs (uc + mc) (us + ms) _ (F0 m 826 ls [.int k])
  rw [hA.1, hA.2.1, hA.2.2.1, hA.2.2.2] at hl
  refine lv_istore (lv' := [(6, .int k), (0, .ref b), (1, .ref (ad1 0 0)), (2, .ref (ad1 3 0)), (3, .ref (ad1 14 0)), (4, .ref (ad1 15 0)), (5, .int x5)]) S.1 S.2.1 dL_law_826 hl (by decide) rfl (fun ls hl => ?_)
  refine lv_aload_n S.1 S.2.1 dL_law_828 rfl (lv_at hl 3 rfl) ?_
  refine lv_aload_n S.1 S.2.1 dL_law_829 rfl (lv_at hl 1 rfl) ?_
  refine lv_iload S.1 S.2.1 dL_law_830 (lv_at hl 6 rfl) ?_
  refine lv_iconst (v := 1) S.1 S.2.1 dL_law_832 (by decide) ?_
  refine lv_iadd S.1 S.2.1 dL_law_833 ?_
  refine va_sld S.1 S.2.1 hX hbl hbA hS h1 dL_law_834 ?_
  rw [e1]
  refine r_call (rest := []) S hg hS (mtX7_start (mc := 0) (ms := 0) h) u1239 u1240 u1241 u49 u1242 hdX7_start (rv3 hg hw) hw ⟨Nat.le_of_ble_eq_true rfl, Nat.le_of_ble_eq_true rfl⟩ ⟨by show (uc + mc) + 0 ≤ 603072; omega, by show (us + ms) + 0 ≤ 7190634; omega⟩ hl.1 (Nat.le_of_ble_eq_true rfl) rfl dL_law_835 (fun E ce q H1 locs1 hx hS1 hc1 hc2 hc3 => hx.elim) (fun rv H locs hq hS => ?_)
  obtain ⟨b1, M1, ap1, rfl, h, hw⟩ := hq
  show W p l e _ s m _ below meth c H locs (uc + mc) (us + ms) _ (F0 m 838 ls [.int b1])
  refine lv_istore (lv' := [(7, .int b1), (6, .int k), (0, .ref b), (1, .ref (ad1 0 0)), (2, .ref (ad1 3 0)), (3, .ref (ad1 14 0)), (4, .ref (ad1 15 0)), (5, .int x5)]) S.1 S.2.1 dL_law_838 hl (by decide) rfl (fun ls hl => ?_)
  refine lv_aload_n S.1 S.2.1 dL_law_840 rfl (lv_at hl 4 rfl) ?_
  refine r_call (rest := []) S hg hS (mtX7_thrown (mc := 0) (ms := 0) h) u1160 u1161 u1162 u49 u1163 hdX7_thrown (rv3 hg hw) hw ⟨Nat.le_of_ble_eq_true rfl, Nat.le_of_ble_eq_true rfl⟩ ⟨by show (uc + mc) + 0 ≤ 603072; omega, by show (us + ms) + 0 ≤ 7190634; omega⟩ hl.1 (Nat.le_of_ble_eq_true rfl) rfl dL_law_841 (fun E ce q H1 locs1 hx hS1 hc1 hc2 hc3 => hx.elim) (fun rv H locs hq hS => ?_)
  obtain ⟨r1, rfl, h, hw⟩ := hq
  obtain ⟨hr1, hr2, hI⟩ := h
  show W p l e _ s m _ below meth c H locs (uc + mc) (us + ms) _ (F0 m 844 ls [.int r1])
  refine lv_iload S.1 S.2.1 dL_law_844 (lv_at hl 1 rfl) ?_
  refine lv_icmp_eq (tgt := 851) S.1 S.2.1 dL_law_846 (by decide) (fun c1 => ?_) (fun c1 => absurd hr1 c1)
  refine lv_iload S.1 S.2.1 dL_law_851 (lv_at hl 1 rfl) ?_
  refine lv_if_ne (tgt := 868) S.1 S.2.1 dL_law_853 (by decide) (fun c1 => ?_) (fun c1 => ?_)
  · refine lv_goto (tgt := 1973) S.1 S.2.1 dL_law_868 (by decide) ?_
    exact kk (ad' := ad1) (hI) hw hS (lv_sub hl (l' := [(0, .ref b), (1, .ref (ad1 0 0)), (2, .ref (ad1 3 0)), (3, .ref (ad1 14 0)), (4, .ref (ad1 15 0)), (5, .int x5)]) [2, 3, 4, 5, 6, 7] rfl)
  · refine lv_aload_n S.1 S.2.1 dL_law_856 rfl (lv_at hl 5 rfl) ?_
    refine lv_iconst (v := 0) S.1 S.2.1 dL_law_857 (by decide) ?_
    refine l14 S hg hw rfl dL_law_858 ?_
    refine lv_iload S.1 S.2.1 dL_law_859 (lv_at hl 0 rfl) ?_
    refine lv_i2l S.1 S.2.1 dL_law_861 rfl ?_
    refine W.lcmp S.1 S.2.1 dL_law_862 ?_
    rw [hr2 c1, lg_cmp_self]
    refine lv_if_eq (tgt := 868) S.1 S.2.1 dL_law_863 (by decide) (fun c1 => ?_) (fun c1 => absurd rfl c1)
    refine lv_goto (tgt := 1973) S.1 S.2.1 dL_law_868 (by decide) ?_
    exact kk (ad' := ad1) (hI) hw hS (lv_sub hl (l' := [(0, .ref b), (1, .ref (ad1 0 0)), (2, .ref (ad1 3 0)), (3, .ref (ad1 14 0)), (4, .ref (ad1 15 0)), (5, .int x5)]) [2, 3, 4, 5, 6, 7] rfl)
def st_play (I : Nat → Nat → KS → KS → Int64 → Prop) (uc us : Nat) (K M : KS) (ap o : Int64) (od : UInt64) (p1 : Int32) (p2 : Int32) : Prop := ∃ mc ms : Nat, uc + mc ≤ 603072 ∧ us + ms ≤ 7190634 ∧ wpL_play (fun k K1 o1 od1 => wpX7_play (fun b1 M1 ap1 => wpX7_thrown (fun r1 => r1 = k ∧ (k = 0 → o1 = b1.toInt64) ∧ I (uc + mc) (us + ms) K1 M1 ap1) M1 ap1) M ap p1 p2) mc ms K o od p1 p2
set_option maxHeartbeats 4000000 in
theorem lc_play {p : Program} {l : Launch} {e : Env} {s : State} {m : MethodId} {args : Array Value} {below : List Frame} {meth : Method} {c : Code} {D : va_G} {cI : Nat → ClassId} {e0 : Nat} {A : Nat → Prop} {ad : Nat → Nat → Nat} {K M : KS} {ap o : Int64} {od : UInt64} {H : Heap} {locs : List Loc} {ls : Array Slot} {uc us b n5 : Nat} {xs : Nat → Int32} {x5 : Int32} {Q : State → Prop} {I : Nat → Nat → KS → KS → Int64 → Prop} {L : Nat} (hfl : l.stackTraces = false) (S : CallFix p m c cL_law 9 s args WU RL) (hg : GI D cI e0 A s s.heap) (hX : va_X b L xs s s.heap) (hbl : b < s.heap.size) (hbA : ¬ A b) (h1 : vp_in (x5 + 1) L) (e1 : xs (x5 + 1).toNatClampNeg = xs (n5 + 1)) (h2 : vp_in (x5 + 2) L) (e2 : xs (x5 + 2).toNatClampNeg = xs (n5 + 2)) (hS : va_S A s.heap H locs) (hw : HT D cI e0 A ad K M ap o od H) (hl : lv_has ls 9 [(0, .ref b), (1, .ref (ad 0 0)), (2, .ref (ad 3 0)), (3, .ref (ad 14 0)), (4, .ref (ad 15 0)), (5, .int x5)]) (h : st_play I uc us K M ap o od (xs (n5 + 1)) (xs (n5 + 2)))
    (kk : ∀ {uc1 us1 : Nat} {K1 M1 : KS} {ap1 o1 : Int64} {od1 : UInt64} {ad' : Nat → Nat → Nat} {H1 : Heap} {locs1 : List Loc} {ls1 : Array Slot}, I uc1 us1 K1 M1 ap1 → HT D cI e0 A ad' K1 M1 ap1 o1 od1 H1 → va_S A s.heap H1 locs1 → lv_has ls1 9 [(0, .ref b), (1, .ref (ad' 0 0)), (2, .ref (ad' 3 0)), (3, .ref (ad' 14 0)), (4, .ref (ad' 15 0)), (5, .int x5)] → W p l e room_1 s m args below meth c H1 locs1 uc1 us1 Q (F0 m 1973 ls1 [])) : W p l e room_1 s m args below meth c H locs uc us Q (F0 m 871 ls []) := by
  refine lv_aload_n S.1 S.2.1 dL_law_871 rfl (lv_at hl 1 rfl) ?_
  refine lv_aload_n S.1 S.2.1 dL_law_872 rfl (lv_at hl 0 rfl) ?_
  refine lv_iload S.1 S.2.1 dL_law_873 (lv_at hl 5 rfl) ?_
  refine lv_iconst (v := 1) S.1 S.2.1 dL_law_875 (by decide) ?_
  refine lv_iadd S.1 S.2.1 dL_law_876 ?_
  refine va_sld S.1 S.2.1 hX hbl hbA hS h1 dL_law_877 ?_
  rw [e1]
  refine lv_aload_n S.1 S.2.1 dL_law_878 rfl (lv_at hl 0 rfl) ?_
  refine lv_iload S.1 S.2.1 dL_law_879 (lv_at hl 5 rfl) ?_
  refine lv_iconst (v := 2) S.1 S.2.1 dL_law_881 (by decide) ?_
  refine lv_iadd S.1 S.2.1 dL_law_882 ?_
  refine va_sld S.1 S.2.1 hX hbl hbA hS h2 dL_law_883 ?_
  rw [e2]
  refine lv_aload_n S.1 S.2.1 dL_law_884 rfl (lv_at hl 3 rfl) ?_
  obtain ⟨mc, ms, hm1, hm2, h⟩ := h
  refine r_callSW (rest := []) S hg hS (mtL_play (mc := mc) (ms := ms) hfl h) u690 u691 u42 u692 hdL_play hw ⟨Nat.le_of_ble_eq_true rfl, Nat.le_of_ble_eq_true rfl⟩ ⟨hm1, hm2⟩ hl.1 (Nat.le_of_ble_eq_true rfl) rfl dL_law_885 (fun rv H locs hq hS => ?_)
  obtain ⟨k, K1, o1, od1, ad1, rfl, h, hA, hw⟩ := hq
  show W p l e _ s m _ below meth c H locs (uc + mc) (us + ms) _ (F0 m 888 ls [.int k])
  rw [hA.1, hA.2.1, hA.2.2.1, hA.2.2.2] at hl
  refine lv_istore (lv' := [(6, .int k), (0, .ref b), (1, .ref (ad1 0 0)), (2, .ref (ad1 3 0)), (3, .ref (ad1 14 0)), (4, .ref (ad1 15 0)), (5, .int x5)]) S.1 S.2.1 dL_law_888 hl (by decide) rfl (fun ls hl => ?_)
  refine lv_aload_n S.1 S.2.1 dL_law_890 rfl (lv_at hl 3 rfl) ?_
  refine lv_aload_n S.1 S.2.1 dL_law_891 rfl (lv_at hl 1 rfl) ?_
  refine lv_iload S.1 S.2.1 dL_law_892 (lv_at hl 6 rfl) ?_
  refine lv_iconst (v := 1) S.1 S.2.1 dL_law_894 (by decide) ?_
  refine lv_iadd S.1 S.2.1 dL_law_895 ?_
  refine va_sld S.1 S.2.1 hX hbl hbA hS h1 dL_law_896 ?_
  rw [e1]
  refine lv_aload_n S.1 S.2.1 dL_law_897 rfl (lv_at hl 1 rfl) ?_
  refine lv_iload S.1 S.2.1 dL_law_898 (lv_at hl 6 rfl) ?_
  refine lv_iconst (v := 2) S.1 S.2.1 dL_law_900 (by decide) ?_
  refine lv_iadd S.1 S.2.1 dL_law_901 ?_
  refine va_sld S.1 S.2.1 hX hbl hbA hS h2 dL_law_902 ?_
  rw [e2]
  refine r_call (rest := []) S hg hS (mtX7_play (mc := 0) (ms := 0) h) u1243 u1244 u1245 u49 u1246 hdX7_play (rv3 hg hw) hw ⟨Nat.le_of_ble_eq_true rfl, Nat.le_of_ble_eq_true rfl⟩ ⟨by show (uc + mc) + 0 ≤ 603072; omega, by show (us + ms) + 0 ≤ 7190634; omega⟩ hl.1 (Nat.le_of_ble_eq_true rfl) rfl dL_law_903 (fun E ce q H1 locs1 hx hS1 hc1 hc2 hc3 => hx.elim) (fun rv H locs hq hS => ?_)
  obtain ⟨b1, M1, ap1, rfl, h, hw⟩ := hq
  show W p l e _ s m _ below meth c H locs (uc + mc) (us + ms) _ (F0 m 906 ls [.int b1])
  refine lv_istore (lv' := [(7, .int b1), (6, .int k), (0, .ref b), (1, .ref (ad1 0 0)), (2, .ref (ad1 3 0)), (3, .ref (ad1 14 0)), (4, .ref (ad1 15 0)), (5, .int x5)]) S.1 S.2.1 dL_law_906 hl (by decide) rfl (fun ls hl => ?_)
  refine lv_aload_n S.1 S.2.1 dL_law_908 rfl (lv_at hl 4 rfl) ?_
  refine r_call (rest := []) S hg hS (mtX7_thrown (mc := 0) (ms := 0) h) u1160 u1161 u1162 u49 u1163 hdX7_thrown (rv3 hg hw) hw ⟨Nat.le_of_ble_eq_true rfl, Nat.le_of_ble_eq_true rfl⟩ ⟨by show (uc + mc) + 0 ≤ 603072; omega, by show (us + ms) + 0 ≤ 7190634; omega⟩ hl.1 (Nat.le_of_ble_eq_true rfl) rfl dL_law_909 (fun E ce q H1 locs1 hx hS1 hc1 hc2 hc3 => hx.elim) (fun rv H locs hq hS => ?_)
  obtain ⟨r1, rfl, h, hw⟩ := hq
  obtain ⟨hr1, hr2, hI⟩ := h
  show W p l e _ s m _ below meth c H locs (uc + mc) (us + ms) _ (F0 m 912 ls [.int r1])
  refine lv_iload S.1 S.2.1 dL_law_912 (lv_at hl 1 rfl) ?_
  refine lv_icmp_eq (tgt := 919) S.1 S.2.1 dL_law_914 (by decide) (fun c1 => ?_) (fun c1 => absurd hr1 c1)
  refine lv_iload S.1 S.2.1 dL_law_919 (lv_at hl 1 rfl) ?_
  refine lv_if_ne (tgt := 936) S.1 S.2.1 dL_law_921 (by decide) (fun c1 => ?_) (fun c1 => ?_)
  · refine lv_goto (tgt := 1973) S.1 S.2.1 dL_law_936 (by decide) ?_
    exact kk (ad' := ad1) (hI) hw hS (lv_sub hl (l' := [(0, .ref b), (1, .ref (ad1 0 0)), (2, .ref (ad1 3 0)), (3, .ref (ad1 14 0)), (4, .ref (ad1 15 0)), (5, .int x5)]) [2, 3, 4, 5, 6, 7] rfl)
  · refine lv_aload_n S.1 S.2.1 dL_law_924 rfl (lv_at hl 5 rfl) ?_
    refine lv_iconst (v := 0) S.1 S.2.1 dL_law_925 (by decide) ?_
    refine l14 S hg hw rfl dL_law_926 ?_
    refine lv_iload S.1 S.2.1 dL_law_927 (lv_at hl 0 rfl) ?_
    refine lv_i2l S.1 S.2.1 dL_law_929 rfl ?_
    refine W.lcmp S.1 S.2.1 dL_law_930 ?_
    rw [hr2 c1, lg_cmp_self]
    refine lv_if_eq (tgt := 936) S.1 S.2.1 dL_law_931 (by decide) (fun c1 => ?_) (fun c1 => absurd rfl c1)
    refine lv_goto (tgt := 1973) S.1 S.2.1 dL_law_936 (by decide) ?_
    exact kk (ad' := ad1) (hI) hw hS (lv_sub hl (l' := [(0, .ref b), (1, .ref (ad1 0 0)), (2, .ref (ad1 3 0)), (3, .ref (ad1 14 0)), (4, .ref (ad1 15 0)), (5, .int x5)]) [2, 3, 4, 5, 6, 7] rfl)
def st_endTurn (I : Nat → Nat → KS → KS → Int64 → Prop) (uc us : Nat) (K M : KS) (ap o : Int64) (od : UInt64) (p1 : Int32) : Prop := ∃ mc ms : Nat, uc + mc ≤ 603072 ∧ us + ms ≤ 7190634 ∧ wpL_endTurn (fun k K1 o1 od1 => wpX7_endTurn (fun b1 M1 ap1 => wpX7_thrown (fun r1 => r1 = k ∧ (k = 0 → o1 = b1.toInt64) ∧ I (uc + mc) (us + ms) K1 M1 ap1) M1 ap1) M ap p1) mc ms K o od p1
set_option maxHeartbeats 4000000 in
theorem lc_endTurn {p : Program} {l : Launch} {e : Env} {s : State} {m : MethodId} {args : Array Value} {below : List Frame} {meth : Method} {c : Code} {D : va_G} {cI : Nat → ClassId} {e0 : Nat} {A : Nat → Prop} {ad : Nat → Nat → Nat} {K M : KS} {ap o : Int64} {od : UInt64} {H : Heap} {locs : List Loc} {ls : Array Slot} {uc us b n5 : Nat} {xs : Nat → Int32} {x5 : Int32} {Q : State → Prop} {I : Nat → Nat → KS → KS → Int64 → Prop} {L : Nat} (hfl : l.stackTraces = false) (S : CallFix p m c cL_law 9 s args WU RL) (hg : GI D cI e0 A s s.heap) (hX : va_X b L xs s s.heap) (hbl : b < s.heap.size) (hbA : ¬ A b) (h1 : vp_in (x5 + 1) L) (e1 : xs (x5 + 1).toNatClampNeg = xs (n5 + 1)) (hS : va_S A s.heap H locs) (hw : HT D cI e0 A ad K M ap o od H) (hl : lv_has ls 9 [(0, .ref b), (1, .ref (ad 0 0)), (2, .ref (ad 3 0)), (3, .ref (ad 14 0)), (4, .ref (ad 15 0)), (5, .int x5)]) (h : st_endTurn I uc us K M ap o od (xs (n5 + 1)))
    (kk : ∀ {uc1 us1 : Nat} {K1 M1 : KS} {ap1 o1 : Int64} {od1 : UInt64} {ad' : Nat → Nat → Nat} {H1 : Heap} {locs1 : List Loc} {ls1 : Array Slot}, I uc1 us1 K1 M1 ap1 → HT D cI e0 A ad' K1 M1 ap1 o1 od1 H1 → va_S A s.heap H1 locs1 → lv_has ls1 9 [(0, .ref b), (1, .ref (ad' 0 0)), (2, .ref (ad' 3 0)), (3, .ref (ad' 14 0)), (4, .ref (ad' 15 0)), (5, .int x5)] → W p l e room_1 s m args below meth c H1 locs1 uc1 us1 Q (F0 m 1973 ls1 [])) : W p l e room_1 s m args below meth c H locs uc us Q (F0 m 939 ls []) := by
  refine lv_aload_n S.1 S.2.1 dL_law_939 rfl (lv_at hl 1 rfl) ?_
  refine lv_aload_n S.1 S.2.1 dL_law_940 rfl (lv_at hl 0 rfl) ?_
  refine lv_iload S.1 S.2.1 dL_law_941 (lv_at hl 5 rfl) ?_
  refine lv_iconst (v := 1) S.1 S.2.1 dL_law_943 (by decide) ?_
  refine lv_iadd S.1 S.2.1 dL_law_944 ?_
  refine va_sld S.1 S.2.1 hX hbl hbA hS h1 dL_law_945 ?_
  rw [e1]
  refine lv_aload_n S.1 S.2.1 dL_law_946 rfl (lv_at hl 3 rfl) ?_
  obtain ⟨mc, ms, hm1, hm2, h⟩ := h
  refine r_callSW (rest := []) S hg hS (mtL_endTurn (mc := mc) (ms := ms) hfl h) u732 u733 u42 u734 hdL_endTurn hw ⟨Nat.le_of_ble_eq_true rfl, Nat.le_of_ble_eq_true rfl⟩ ⟨hm1, hm2⟩ hl.1 (Nat.le_of_ble_eq_true rfl) rfl dL_law_947 (fun rv H locs hq hS => ?_)
  obtain ⟨k, K1, o1, od1, ad1, rfl, h, hA, hw⟩ := hq
  show W p l e _ s m _ below meth c H locs (uc + mc) (us + ms) _ (F0 m 950 ls [.int k])
  rw [hA.1, hA.2.1, hA.2.2.1, hA.2.2.2] at hl
  refine lv_istore (lv' := [(6, .int k), (0, .ref b), (1, .ref (ad1 0 0)), (2, .ref (ad1 3 0)), (3, .ref (ad1 14 0)), (4, .ref (ad1 15 0)), (5, .int x5)]) S.1 S.2.1 dL_law_950 hl (by decide) rfl (fun ls hl => ?_)
  refine lv_aload_n S.1 S.2.1 dL_law_952 rfl (lv_at hl 3 rfl) ?_
  refine lv_aload_n S.1 S.2.1 dL_law_953 rfl (lv_at hl 1 rfl) ?_
  refine lv_iload S.1 S.2.1 dL_law_954 (lv_at hl 6 rfl) ?_
  refine lv_iconst (v := 1) S.1 S.2.1 dL_law_956 (by decide) ?_
  refine lv_iadd S.1 S.2.1 dL_law_957 ?_
  refine va_sld S.1 S.2.1 hX hbl hbA hS h1 dL_law_958 ?_
  rw [e1]
  refine r_call (rest := []) S hg hS (mtX7_endTurn (mc := 0) (ms := 0) h) u1247 u1248 u1249 u49 u1250 hdX7_endTurn (rv3 hg hw) hw ⟨Nat.le_of_ble_eq_true rfl, Nat.le_of_ble_eq_true rfl⟩ ⟨by show (uc + mc) + 0 ≤ 603072; omega, by show (us + ms) + 0 ≤ 7190634; omega⟩ hl.1 (Nat.le_of_ble_eq_true rfl) rfl dL_law_959 (fun E ce q H1 locs1 hx hS1 hc1 hc2 hc3 => hx.elim) (fun rv H locs hq hS => ?_)
  obtain ⟨b1, M1, ap1, rfl, h, hw⟩ := hq
  show W p l e _ s m _ below meth c H locs (uc + mc) (us + ms) _ (F0 m 962 ls [.int b1])
  refine lv_istore (lv' := [(7, .int b1), (6, .int k), (0, .ref b), (1, .ref (ad1 0 0)), (2, .ref (ad1 3 0)), (3, .ref (ad1 14 0)), (4, .ref (ad1 15 0)), (5, .int x5)]) S.1 S.2.1 dL_law_962 hl (by decide) rfl (fun ls hl => ?_)
  refine lv_aload_n S.1 S.2.1 dL_law_964 rfl (lv_at hl 4 rfl) ?_
  refine r_call (rest := []) S hg hS (mtX7_thrown (mc := 0) (ms := 0) h) u1160 u1161 u1162 u49 u1163 hdX7_thrown (rv3 hg hw) hw ⟨Nat.le_of_ble_eq_true rfl, Nat.le_of_ble_eq_true rfl⟩ ⟨by show (uc + mc) + 0 ≤ 603072; omega, by show (us + ms) + 0 ≤ 7190634; omega⟩ hl.1 (Nat.le_of_ble_eq_true rfl) rfl dL_law_965 (fun E ce q H1 locs1 hx hS1 hc1 hc2 hc3 => hx.elim) (fun rv H locs hq hS => ?_)
  obtain ⟨r1, rfl, h, hw⟩ := hq
  obtain ⟨hr1, hr2, hI⟩ := h
  show W p l e _ s m _ below meth c H locs (uc + mc) (us + ms) _ (F0 m 968 ls [.int r1])
  refine lv_iload S.1 S.2.1 dL_law_968 (lv_at hl 1 rfl) ?_
  refine lv_icmp_eq (tgt := 975) S.1 S.2.1 dL_law_970 (by decide) (fun c1 => ?_) (fun c1 => absurd hr1 c1)
  refine lv_iload S.1 S.2.1 dL_law_975 (lv_at hl 1 rfl) ?_
  refine lv_if_ne (tgt := 992) S.1 S.2.1 dL_law_977 (by decide) (fun c1 => ?_) (fun c1 => ?_)
  · refine lv_goto (tgt := 1973) S.1 S.2.1 dL_law_992 (by decide) ?_
    exact kk (ad' := ad1) (hI) hw hS (lv_sub hl (l' := [(0, .ref b), (1, .ref (ad1 0 0)), (2, .ref (ad1 3 0)), (3, .ref (ad1 14 0)), (4, .ref (ad1 15 0)), (5, .int x5)]) [2, 3, 4, 5, 6, 7] rfl)
  · refine lv_aload_n S.1 S.2.1 dL_law_980 rfl (lv_at hl 5 rfl) ?_
    refine lv_iconst (v := 0) S.1 S.2.1 dL_law_981 (by decide) ?_
    refine l14 S hg hw rfl dL_law_982 ?_
    refine lv_iload S.1 S.2.1 dL_law_983 (lv_at hl 0 rfl) ?_
    refine lv_i2l S.1 S.2.1 dL_law_985 rfl ?_
    refine W.lcmp S.1 S.2.1 dL_law_986 ?_
    rw [hr2 c1, lg_cmp_self]
    refine lv_if_eq (tgt := 992) S.1 S.2.1 dL_law_987 (by decide) (fun c1 => ?_) (fun c1 => absurd rfl c1)
    refine lv_goto (tgt := 1973) S.1 S.2.1 dL_law_992 (by decide) ?_
    exact kk (ad' := ad1) (hI) hw hS (lv_sub hl (l' := [(0, .ref b), (1, .ref (ad1 0 0)), (2, .ref (ad1 3 0)), (3, .ref (ad1 14 0)), (4, .ref (ad1 15 0)), (5, .int x5)]) [2, 3, 4, 5, 6, 7] rfl)
def st_duelState (I : Nat → Nat → KS → KS → Int64 → Prop) (uc us : Nat) (K M : KS) (ap o : Int64) (od : UInt64) (p1 : Int32) : Prop := ∃ mc ms : Nat, uc + mc ≤ 603072 ∧ us + ms ≤ 7190634 ∧ wpL_duelState (fun k K1 o1 od1 => wpX7_duelState (fun b1 M1 ap1 => wpX7_thrown (fun r1 => r1 = k ∧ (k = 0 → o1 = b1.toInt64) ∧ I (uc + mc) (us + ms) K1 M1 ap1) M1 ap1) M ap p1) mc ms K o od p1
set_option maxHeartbeats 4000000 in
theorem lc_duelState {p : Program} {l : Launch} {e : Env} {s : State} {m : MethodId} {args : Array Value} {below : List Frame} {meth : Method} {c : Code} {D : va_G} {cI : Nat → ClassId} {e0 : Nat} {A : Nat → Prop} {ad : Nat → Nat → Nat} {K M : KS} {ap o : Int64} {od : UInt64} {H : Heap} {locs : List Loc} {ls : Array Slot} {uc us b n5 : Nat} {xs : Nat → Int32} {x5 : Int32} {Q : State → Prop} {I : Nat → Nat → KS → KS → Int64 → Prop} {L : Nat} (hfl : l.stackTraces = false) (S : CallFix p m c cL_law 9 s args WU RL) (hg : GI D cI e0 A s s.heap) (hX : va_X b L xs s s.heap) (hbl : b < s.heap.size) (hbA : ¬ A b) (h1 : vp_in (x5 + 1) L) (e1 : xs (x5 + 1).toNatClampNeg = xs (n5 + 1)) (hS : va_S A s.heap H locs) (hw : HT D cI e0 A ad K M ap o od H) (hl : lv_has ls 9 [(0, .ref b), (1, .ref (ad 0 0)), (2, .ref (ad 3 0)), (3, .ref (ad 14 0)), (4, .ref (ad 15 0)), (5, .int x5)]) (h : st_duelState I uc us K M ap o od (xs (n5 + 1)))
    (kk : ∀ {uc1 us1 : Nat} {K1 M1 : KS} {ap1 o1 : Int64} {od1 : UInt64} {ad' : Nat → Nat → Nat} {H1 : Heap} {locs1 : List Loc} {ls1 : Array Slot}, I uc1 us1 K1 M1 ap1 → HT D cI e0 A ad' K1 M1 ap1 o1 od1 H1 → va_S A s.heap H1 locs1 → lv_has ls1 9 [(0, .ref b), (1, .ref (ad' 0 0)), (2, .ref (ad' 3 0)), (3, .ref (ad' 14 0)), (4, .ref (ad' 15 0)), (5, .int x5)] → W p l e room_1 s m args below meth c H1 locs1 uc1 us1 Q (F0 m 1973 ls1 [])) : W p l e room_1 s m args below meth c H locs uc us Q (F0 m 995 ls []) := by
  refine lv_aload_n S.1 S.2.1 dL_law_995 rfl (lv_at hl 1 rfl) ?_
  refine lv_aload_n S.1 S.2.1 dL_law_996 rfl (lv_at hl 0 rfl) ?_
  refine lv_iload S.1 S.2.1 dL_law_997 (lv_at hl 5 rfl) ?_
  refine lv_iconst (v := 1) S.1 S.2.1 dL_law_999 (by decide) ?_
  refine lv_iadd S.1 S.2.1 dL_law_1000 ?_
  refine va_sld S.1 S.2.1 hX hbl hbA hS h1 dL_law_1001 ?_
  rw [e1]
  refine lv_aload_n S.1 S.2.1 dL_law_1002 rfl (lv_at hl 3 rfl) ?_
  obtain ⟨mc, ms, hm1, hm2, h⟩ := h
  refine r_callSW (rest := []) S hg hS (mtL_duelState (mc := mc) (ms := ms) hfl h) u777 u778 u42 u779 hdL_duelState hw ⟨Nat.le_of_ble_eq_true rfl, Nat.le_of_ble_eq_true rfl⟩ ⟨hm1, hm2⟩ hl.1 (Nat.le_of_ble_eq_true rfl) rfl dL_law_1003 (fun rv H locs hq hS => ?_)
  obtain ⟨k, K1, o1, od1, ad1, rfl, h, hA, hw⟩ := hq
  show W p l e _ s m _ below meth c H locs (uc + mc) (us + ms) _ (F0 m 1006 ls [.int k])
  rw [hA.1, hA.2.1, hA.2.2.1, hA.2.2.2] at hl
  refine lv_istore (lv' := [(6, .int k), (0, .ref b), (1, .ref (ad1 0 0)), (2, .ref (ad1 3 0)), (3, .ref (ad1 14 0)), (4, .ref (ad1 15 0)), (5, .int x5)]) S.1 S.2.1 dL_law_1006 hl (by decide) rfl (fun ls hl => ?_)
  refine lv_aload_n S.1 S.2.1 dL_law_1008 rfl (lv_at hl 3 rfl) ?_
  refine lv_aload_n S.1 S.2.1 dL_law_1009 rfl (lv_at hl 1 rfl) ?_
  refine lv_iload S.1 S.2.1 dL_law_1010 (lv_at hl 6 rfl) ?_
  refine lv_iconst (v := 1) S.1 S.2.1 dL_law_1012 (by decide) ?_
  refine lv_iadd S.1 S.2.1 dL_law_1013 ?_
  refine va_sld S.1 S.2.1 hX hbl hbA hS h1 dL_law_1014 ?_
  rw [e1]
  refine r_call (rest := []) S hg hS (mtX7_duelState (mc := 0) (ms := 0) h) u1263 u1264 u1265 u49 u1266 hdX7_duelState (rv3 hg hw) hw ⟨Nat.le_of_ble_eq_true rfl, Nat.le_of_ble_eq_true rfl⟩ ⟨by show (uc + mc) + 0 ≤ 603072; omega, by show (us + ms) + 0 ≤ 7190634; omega⟩ hl.1 (Nat.le_of_ble_eq_true rfl) rfl dL_law_1015 (fun E ce q H1 locs1 hx hS1 hc1 hc2 hc3 => hx.elim) (fun rv H locs hq hS => ?_)
  obtain ⟨b1, M1, ap1, rfl, h, hw⟩ := hq
  show W p l e _ s m _ below meth c H locs (uc + mc) (us + ms) _ (F0 m 1018 ls [.int b1])
  refine lv_istore (lv' := [(7, .int b1), (6, .int k), (0, .ref b), (1, .ref (ad1 0 0)), (2, .ref (ad1 3 0)), (3, .ref (ad1 14 0)), (4, .ref (ad1 15 0)), (5, .int x5)]) S.1 S.2.1 dL_law_1018 hl (by decide) rfl (fun ls hl => ?_)
  refine lv_aload_n S.1 S.2.1 dL_law_1020 rfl (lv_at hl 4 rfl) ?_
  refine r_call (rest := []) S hg hS (mtX7_thrown (mc := 0) (ms := 0) h) u1160 u1161 u1162 u49 u1163 hdX7_thrown (rv3 hg hw) hw ⟨Nat.le_of_ble_eq_true rfl, Nat.le_of_ble_eq_true rfl⟩ ⟨by show (uc + mc) + 0 ≤ 603072; omega, by show (us + ms) + 0 ≤ 7190634; omega⟩ hl.1 (Nat.le_of_ble_eq_true rfl) rfl dL_law_1021 (fun E ce q H1 locs1 hx hS1 hc1 hc2 hc3 => hx.elim) (fun rv H locs hq hS => ?_)
  obtain ⟨r1, rfl, h, hw⟩ := hq
  obtain ⟨hr1, hr2, hI⟩ := h
  show W p l e _ s m _ below meth c H locs (uc + mc) (us + ms) _ (F0 m 1024 ls [.int r1])
  refine lv_iload S.1 S.2.1 dL_law_1024 (lv_at hl 1 rfl) ?_
  refine lv_icmp_eq (tgt := 1031) S.1 S.2.1 dL_law_1026 (by decide) (fun c1 => ?_) (fun c1 => absurd hr1 c1)
  refine lv_iload S.1 S.2.1 dL_law_1031 (lv_at hl 1 rfl) ?_
  refine lv_if_ne (tgt := 1048) S.1 S.2.1 dL_law_1033 (by decide) (fun c1 => ?_) (fun c1 => ?_)
  · refine lv_goto (tgt := 1973) S.1 S.2.1 dL_law_1048 (by decide) ?_
    exact kk (ad' := ad1) (hI) hw hS (lv_sub hl (l' := [(0, .ref b), (1, .ref (ad1 0 0)), (2, .ref (ad1 3 0)), (3, .ref (ad1 14 0)), (4, .ref (ad1 15 0)), (5, .int x5)]) [2, 3, 4, 5, 6, 7] rfl)
  · refine lv_aload_n S.1 S.2.1 dL_law_1036 rfl (lv_at hl 5 rfl) ?_
    refine lv_iconst (v := 0) S.1 S.2.1 dL_law_1037 (by decide) ?_
    refine l14 S hg hw rfl dL_law_1038 ?_
    refine lv_iload S.1 S.2.1 dL_law_1039 (lv_at hl 0 rfl) ?_
    refine lv_i2l S.1 S.2.1 dL_law_1041 rfl ?_
    refine W.lcmp S.1 S.2.1 dL_law_1042 ?_
    rw [hr2 c1, lg_cmp_self]
    refine lv_if_eq (tgt := 1048) S.1 S.2.1 dL_law_1043 (by decide) (fun c1 => ?_) (fun c1 => absurd rfl c1)
    refine lv_goto (tgt := 1973) S.1 S.2.1 dL_law_1048 (by decide) ?_
    exact kk (ad' := ad1) (hI) hw hS (lv_sub hl (l' := [(0, .ref b), (1, .ref (ad1 0 0)), (2, .ref (ad1 3 0)), (3, .ref (ad1 14 0)), (4, .ref (ad1 15 0)), (5, .int x5)]) [2, 3, 4, 5, 6, 7] rfl)
def st_life (I : Nat → Nat → KS → KS → Int64 → Prop) (uc us : Nat) (K M : KS) (ap o : Int64) (od : UInt64) (p1 : Int32) (p2 : Int32) : Prop := ∃ mc ms : Nat, uc + mc ≤ 603072 ∧ us + ms ≤ 7190634 ∧ wpL_life (fun k K1 o1 od1 => wpX7_life (fun b1 M1 ap1 => wpX7_thrown (fun r1 => r1 = k ∧ (k = 0 → o1 = b1.toInt64) ∧ I (uc + mc) (us + ms) K1 M1 ap1) M1 ap1) M ap p1 p2) mc ms K o od p1 p2
set_option maxHeartbeats 4000000 in
theorem lc_life {p : Program} {l : Launch} {e : Env} {s : State} {m : MethodId} {args : Array Value} {below : List Frame} {meth : Method} {c : Code} {D : va_G} {cI : Nat → ClassId} {e0 : Nat} {A : Nat → Prop} {ad : Nat → Nat → Nat} {K M : KS} {ap o : Int64} {od : UInt64} {H : Heap} {locs : List Loc} {ls : Array Slot} {uc us b n5 : Nat} {xs : Nat → Int32} {x5 : Int32} {Q : State → Prop} {I : Nat → Nat → KS → KS → Int64 → Prop} {L : Nat} (hfl : l.stackTraces = false) (S : CallFix p m c cL_law 9 s args WU RL) (hg : GI D cI e0 A s s.heap) (hX : va_X b L xs s s.heap) (hbl : b < s.heap.size) (hbA : ¬ A b) (h1 : vp_in (x5 + 1) L) (e1 : xs (x5 + 1).toNatClampNeg = xs (n5 + 1)) (h2 : vp_in (x5 + 2) L) (e2 : xs (x5 + 2).toNatClampNeg = xs (n5 + 2)) (hS : va_S A s.heap H locs) (hw : HT D cI e0 A ad K M ap o od H) (hl : lv_has ls 9 [(0, .ref b), (1, .ref (ad 0 0)), (2, .ref (ad 3 0)), (3, .ref (ad 14 0)), (4, .ref (ad 15 0)), (5, .int x5)]) (h : st_life I uc us K M ap o od (xs (n5 + 1)) (lawB (xs (n5 + 2))))
    (kk : ∀ {uc1 us1 : Nat} {K1 M1 : KS} {ap1 o1 : Int64} {od1 : UInt64} {ad' : Nat → Nat → Nat} {H1 : Heap} {locs1 : List Loc} {ls1 : Array Slot}, I uc1 us1 K1 M1 ap1 → HT D cI e0 A ad' K1 M1 ap1 o1 od1 H1 → va_S A s.heap H1 locs1 → lv_has ls1 9 [(0, .ref b), (1, .ref (ad' 0 0)), (2, .ref (ad' 3 0)), (3, .ref (ad' 14 0)), (4, .ref (ad' 15 0)), (5, .int x5)] → W p l e room_1 s m args below meth c H1 locs1 uc1 us1 Q (F0 m 1973 ls1 [])) : W p l e room_1 s m args below meth c H locs uc us Q (F0 m 1051 ls []) := by
  refine lv_aload_n S.1 S.2.1 dL_law_1051 rfl (lv_at hl 1 rfl) ?_
  refine lv_aload_n S.1 S.2.1 dL_law_1052 rfl (lv_at hl 0 rfl) ?_
  refine lv_iload S.1 S.2.1 dL_law_1053 (lv_at hl 5 rfl) ?_
  refine lv_iconst (v := 1) S.1 S.2.1 dL_law_1055 (by decide) ?_
  refine lv_iadd S.1 S.2.1 dL_law_1056 ?_
  refine va_sld S.1 S.2.1 hX hbl hbA hS h1 dL_law_1057 ?_
  rw [e1]
  refine lv_aload_n S.1 S.2.1 dL_law_1058 rfl (lv_at hl 0 rfl) ?_
  refine lv_iload S.1 S.2.1 dL_law_1059 (lv_at hl 5 rfl) ?_
  refine lv_iconst (v := 2) S.1 S.2.1 dL_law_1061 (by decide) ?_
  refine lv_iadd S.1 S.2.1 dL_law_1062 ?_
  refine va_sld S.1 S.2.1 hX hbl hbA hS h2 dL_law_1063 ?_
  rw [e2]
  refine r_bool S dL_law_1064 dL_law_1067 dL_law_1068 dL_law_1071 ?_
  refine lv_aload_n S.1 S.2.1 dL_law_1072 rfl (lv_at hl 3 rfl) ?_
  obtain ⟨mc, ms, hm1, hm2, h⟩ := h
  refine r_callSW (rest := []) S hg hS (mtL_life (mc := mc) (ms := ms) hfl h) u784 u785 u42 u786 hdL_life hw ⟨Nat.le_of_ble_eq_true rfl, Nat.le_of_ble_eq_true rfl⟩ ⟨hm1, hm2⟩ hl.1 (Nat.le_of_ble_eq_true rfl) rfl dL_law_1073 (fun rv H locs hq hS => ?_)
  obtain ⟨k, K1, o1, od1, ad1, rfl, h, hA, hw⟩ := hq
  show W p l e _ s m _ below meth c H locs (uc + mc) (us + ms) _ (F0 m 1076 ls [.int k])
  rw [hA.1, hA.2.1, hA.2.2.1, hA.2.2.2] at hl
  refine lv_istore (lv' := [(6, .int k), (0, .ref b), (1, .ref (ad1 0 0)), (2, .ref (ad1 3 0)), (3, .ref (ad1 14 0)), (4, .ref (ad1 15 0)), (5, .int x5)]) S.1 S.2.1 dL_law_1076 hl (by decide) rfl (fun ls hl => ?_)
  refine lv_aload_n S.1 S.2.1 dL_law_1078 rfl (lv_at hl 3 rfl) ?_
  refine lv_aload_n S.1 S.2.1 dL_law_1079 rfl (lv_at hl 1 rfl) ?_
  refine lv_iload S.1 S.2.1 dL_law_1080 (lv_at hl 6 rfl) ?_
  refine lv_iconst (v := 1) S.1 S.2.1 dL_law_1082 (by decide) ?_
  refine lv_iadd S.1 S.2.1 dL_law_1083 ?_
  refine va_sld S.1 S.2.1 hX hbl hbA hS h1 dL_law_1084 ?_
  rw [e1]
  refine lv_aload_n S.1 S.2.1 dL_law_1085 rfl (lv_at hl 1 rfl) ?_
  refine lv_iload S.1 S.2.1 dL_law_1086 (lv_at hl 6 rfl) ?_
  refine lv_iconst (v := 2) S.1 S.2.1 dL_law_1088 (by decide) ?_
  refine lv_iadd S.1 S.2.1 dL_law_1089 ?_
  refine va_sld S.1 S.2.1 hX hbl hbA hS h2 dL_law_1090 ?_
  rw [e2]
  refine r_bool S dL_law_1091 dL_law_1094 dL_law_1095 dL_law_1098 ?_
  refine r_call (rest := []) S hg hS (mtX7_life (mc := 0) (ms := 0) h) u1267 u1268 u1269 u49 u1270 hdX7_life (rv3 hg hw) hw ⟨Nat.le_of_ble_eq_true rfl, Nat.le_of_ble_eq_true rfl⟩ ⟨by show (uc + mc) + 0 ≤ 603072; omega, by show (us + ms) + 0 ≤ 7190634; omega⟩ hl.1 (Nat.le_of_ble_eq_true rfl) rfl dL_law_1099 (fun E ce q H1 locs1 hx hS1 hc1 hc2 hc3 => hx.elim) (fun rv H locs hq hS => ?_)
  obtain ⟨b1, M1, ap1, rfl, h, hw⟩ := hq
  show W p l e _ s m _ below meth c H locs (uc + mc) (us + ms) _ (F0 m 1102 ls [.int b1])
  refine lv_istore (lv' := [(7, .int b1), (6, .int k), (0, .ref b), (1, .ref (ad1 0 0)), (2, .ref (ad1 3 0)), (3, .ref (ad1 14 0)), (4, .ref (ad1 15 0)), (5, .int x5)]) S.1 S.2.1 dL_law_1102 hl (by decide) rfl (fun ls hl => ?_)
  refine lv_aload_n S.1 S.2.1 dL_law_1104 rfl (lv_at hl 4 rfl) ?_
  refine r_call (rest := []) S hg hS (mtX7_thrown (mc := 0) (ms := 0) h) u1160 u1161 u1162 u49 u1163 hdX7_thrown (rv3 hg hw) hw ⟨Nat.le_of_ble_eq_true rfl, Nat.le_of_ble_eq_true rfl⟩ ⟨by show (uc + mc) + 0 ≤ 603072; omega, by show (us + ms) + 0 ≤ 7190634; omega⟩ hl.1 (Nat.le_of_ble_eq_true rfl) rfl dL_law_1105 (fun E ce q H1 locs1 hx hS1 hc1 hc2 hc3 => hx.elim) (fun rv H locs hq hS => ?_)
  obtain ⟨r1, rfl, h, hw⟩ := hq
  obtain ⟨hr1, hr2, hI⟩ := h
  show W p l e _ s m _ below meth c H locs (uc + mc) (us + ms) _ (F0 m 1108 ls [.int r1])
  refine lv_iload S.1 S.2.1 dL_law_1108 (lv_at hl 1 rfl) ?_
  refine lv_icmp_eq (tgt := 1115) S.1 S.2.1 dL_law_1110 (by decide) (fun c1 => ?_) (fun c1 => absurd hr1 c1)
  refine lv_iload S.1 S.2.1 dL_law_1115 (lv_at hl 1 rfl) ?_
  refine lv_if_ne (tgt := 1132) S.1 S.2.1 dL_law_1117 (by decide) (fun c1 => ?_) (fun c1 => ?_)
  · refine lv_goto (tgt := 1973) S.1 S.2.1 dL_law_1132 (by decide) ?_
    exact kk (ad' := ad1) (hI) hw hS (lv_sub hl (l' := [(0, .ref b), (1, .ref (ad1 0 0)), (2, .ref (ad1 3 0)), (3, .ref (ad1 14 0)), (4, .ref (ad1 15 0)), (5, .int x5)]) [2, 3, 4, 5, 6, 7] rfl)
  · refine lv_aload_n S.1 S.2.1 dL_law_1120 rfl (lv_at hl 5 rfl) ?_
    refine lv_iconst (v := 0) S.1 S.2.1 dL_law_1121 (by decide) ?_
    refine l14 S hg hw rfl dL_law_1122 ?_
    refine lv_iload S.1 S.2.1 dL_law_1123 (lv_at hl 0 rfl) ?_
    refine lv_i2l S.1 S.2.1 dL_law_1125 rfl ?_
    refine W.lcmp S.1 S.2.1 dL_law_1126 ?_
    rw [hr2 c1, lg_cmp_self]
    refine lv_if_eq (tgt := 1132) S.1 S.2.1 dL_law_1127 (by decide) (fun c1 => ?_) (fun c1 => absurd rfl c1)
    refine lv_goto (tgt := 1973) S.1 S.2.1 dL_law_1132 (by decide) ?_
    exact kk (ad' := ad1) (hI) hw hS (lv_sub hl (l' := [(0, .ref b), (1, .ref (ad1 0 0)), (2, .ref (ad1 3 0)), (3, .ref (ad1 14 0)), (4, .ref (ad1 15 0)), (5, .int x5)]) [2, 3, 4, 5, 6, 7] rfl)
def st_mana (I : Nat → Nat → KS → KS → Int64 → Prop) (uc us : Nat) (K M : KS) (ap o : Int64) (od : UInt64) (p1 : Int32) : Prop := ∃ mc ms : Nat, uc + mc ≤ 603072 ∧ us + ms ≤ 7190634 ∧ wpL_mana (fun k K1 o1 od1 => wpX7_mana (fun b1 M1 ap1 => wpX7_thrown (fun r1 => r1 = k ∧ (k = 0 → o1 = b1.toInt64) ∧ I (uc + mc) (us + ms) K1 M1 ap1) M1 ap1) M ap p1) mc ms K o od p1
set_option maxHeartbeats 4000000 in
theorem lc_mana {p : Program} {l : Launch} {e : Env} {s : State} {m : MethodId} {args : Array Value} {below : List Frame} {meth : Method} {c : Code} {D : va_G} {cI : Nat → ClassId} {e0 : Nat} {A : Nat → Prop} {ad : Nat → Nat → Nat} {K M : KS} {ap o : Int64} {od : UInt64} {H : Heap} {locs : List Loc} {ls : Array Slot} {uc us b n5 : Nat} {xs : Nat → Int32} {x5 : Int32} {Q : State → Prop} {I : Nat → Nat → KS → KS → Int64 → Prop} {L : Nat} (hfl : l.stackTraces = false) (S : CallFix p m c cL_law 9 s args WU RL) (hg : GI D cI e0 A s s.heap) (hX : va_X b L xs s s.heap) (hbl : b < s.heap.size) (hbA : ¬ A b) (h1 : vp_in (x5 + 1) L) (e1 : xs (x5 + 1).toNatClampNeg = xs (n5 + 1)) (hS : va_S A s.heap H locs) (hw : HT D cI e0 A ad K M ap o od H) (hl : lv_has ls 9 [(0, .ref b), (1, .ref (ad 0 0)), (2, .ref (ad 3 0)), (3, .ref (ad 14 0)), (4, .ref (ad 15 0)), (5, .int x5)]) (h : st_mana I uc us K M ap o od (xs (n5 + 1)))
    (kk : ∀ {uc1 us1 : Nat} {K1 M1 : KS} {ap1 o1 : Int64} {od1 : UInt64} {ad' : Nat → Nat → Nat} {H1 : Heap} {locs1 : List Loc} {ls1 : Array Slot}, I uc1 us1 K1 M1 ap1 → HT D cI e0 A ad' K1 M1 ap1 o1 od1 H1 → va_S A s.heap H1 locs1 → lv_has ls1 9 [(0, .ref b), (1, .ref (ad' 0 0)), (2, .ref (ad' 3 0)), (3, .ref (ad' 14 0)), (4, .ref (ad' 15 0)), (5, .int x5)] → W p l e room_1 s m args below meth c H1 locs1 uc1 us1 Q (F0 m 1973 ls1 [])) : W p l e room_1 s m args below meth c H locs uc us Q (F0 m 1135 ls []) := by
  refine lv_aload_n S.1 S.2.1 dL_law_1135 rfl (lv_at hl 1 rfl) ?_
  refine lv_aload_n S.1 S.2.1 dL_law_1136 rfl (lv_at hl 0 rfl) ?_
  refine lv_iload S.1 S.2.1 dL_law_1137 (lv_at hl 5 rfl) ?_
  refine lv_iconst (v := 1) S.1 S.2.1 dL_law_1139 (by decide) ?_
  refine lv_iadd S.1 S.2.1 dL_law_1140 ?_
  refine va_sld S.1 S.2.1 hX hbl hbA hS h1 dL_law_1141 ?_
  rw [e1]
  refine lv_aload_n S.1 S.2.1 dL_law_1142 rfl (lv_at hl 3 rfl) ?_
  obtain ⟨mc, ms, hm1, hm2, h⟩ := h
  refine r_callSW (rest := []) S hg hS (mtL_mana (mc := mc) (ms := ms) hfl h) u791 u792 u42 u793 hdL_mana hw ⟨Nat.le_of_ble_eq_true rfl, Nat.le_of_ble_eq_true rfl⟩ ⟨hm1, hm2⟩ hl.1 (Nat.le_of_ble_eq_true rfl) rfl dL_law_1143 (fun rv H locs hq hS => ?_)
  obtain ⟨k, K1, o1, od1, ad1, rfl, h, hA, hw⟩ := hq
  show W p l e _ s m _ below meth c H locs (uc + mc) (us + ms) _ (F0 m 1146 ls [.int k])
  rw [hA.1, hA.2.1, hA.2.2.1, hA.2.2.2] at hl
  refine lv_istore (lv' := [(6, .int k), (0, .ref b), (1, .ref (ad1 0 0)), (2, .ref (ad1 3 0)), (3, .ref (ad1 14 0)), (4, .ref (ad1 15 0)), (5, .int x5)]) S.1 S.2.1 dL_law_1146 hl (by decide) rfl (fun ls hl => ?_)
  refine lv_aload_n S.1 S.2.1 dL_law_1148 rfl (lv_at hl 3 rfl) ?_
  refine lv_aload_n S.1 S.2.1 dL_law_1149 rfl (lv_at hl 1 rfl) ?_
  refine lv_iload S.1 S.2.1 dL_law_1150 (lv_at hl 6 rfl) ?_
  refine lv_iconst (v := 1) S.1 S.2.1 dL_law_1152 (by decide) ?_
  refine lv_iadd S.1 S.2.1 dL_law_1153 ?_
  refine va_sld S.1 S.2.1 hX hbl hbA hS h1 dL_law_1154 ?_
  rw [e1]
  refine r_call (rest := []) S hg hS (mtX7_mana (mc := 0) (ms := 0) h) u1271 u1272 u1273 u49 u1274 hdX7_mana (rv3 hg hw) hw ⟨Nat.le_of_ble_eq_true rfl, Nat.le_of_ble_eq_true rfl⟩ ⟨by show (uc + mc) + 0 ≤ 603072; omega, by show (us + ms) + 0 ≤ 7190634; omega⟩ hl.1 (Nat.le_of_ble_eq_true rfl) rfl dL_law_1155 (fun E ce q H1 locs1 hx hS1 hc1 hc2 hc3 => hx.elim) (fun rv H locs hq hS => ?_)
  obtain ⟨b1, M1, ap1, rfl, h, hw⟩ := hq
  show W p l e _ s m _ below meth c H locs (uc + mc) (us + ms) _ (F0 m 1158 ls [.int b1])
  refine lv_istore (lv' := [(7, .int b1), (6, .int k), (0, .ref b), (1, .ref (ad1 0 0)), (2, .ref (ad1 3 0)), (3, .ref (ad1 14 0)), (4, .ref (ad1 15 0)), (5, .int x5)]) S.1 S.2.1 dL_law_1158 hl (by decide) rfl (fun ls hl => ?_)
  refine lv_aload_n S.1 S.2.1 dL_law_1160 rfl (lv_at hl 4 rfl) ?_
  refine r_call (rest := []) S hg hS (mtX7_thrown (mc := 0) (ms := 0) h) u1160 u1161 u1162 u49 u1163 hdX7_thrown (rv3 hg hw) hw ⟨Nat.le_of_ble_eq_true rfl, Nat.le_of_ble_eq_true rfl⟩ ⟨by show (uc + mc) + 0 ≤ 603072; omega, by show (us + ms) + 0 ≤ 7190634; omega⟩ hl.1 (Nat.le_of_ble_eq_true rfl) rfl dL_law_1161 (fun E ce q H1 locs1 hx hS1 hc1 hc2 hc3 => hx.elim) (fun rv H locs hq hS => ?_)
  obtain ⟨r1, rfl, h, hw⟩ := hq
  obtain ⟨hr1, hr2, hI⟩ := h
  show W p l e _ s m _ below meth c H locs (uc + mc) (us + ms) _ (F0 m 1164 ls [.int r1])
  refine lv_iload S.1 S.2.1 dL_law_1164 (lv_at hl 1 rfl) ?_
  refine lv_icmp_eq (tgt := 1171) S.1 S.2.1 dL_law_1166 (by decide) (fun c1 => ?_) (fun c1 => absurd hr1 c1)
  refine lv_iload S.1 S.2.1 dL_law_1171 (lv_at hl 1 rfl) ?_
  refine lv_if_ne (tgt := 1188) S.1 S.2.1 dL_law_1173 (by decide) (fun c1 => ?_) (fun c1 => ?_)
  · refine lv_goto (tgt := 1973) S.1 S.2.1 dL_law_1188 (by decide) ?_
    exact kk (ad' := ad1) (hI) hw hS (lv_sub hl (l' := [(0, .ref b), (1, .ref (ad1 0 0)), (2, .ref (ad1 3 0)), (3, .ref (ad1 14 0)), (4, .ref (ad1 15 0)), (5, .int x5)]) [2, 3, 4, 5, 6, 7] rfl)
  · refine lv_aload_n S.1 S.2.1 dL_law_1176 rfl (lv_at hl 5 rfl) ?_
    refine lv_iconst (v := 0) S.1 S.2.1 dL_law_1177 (by decide) ?_
    refine l14 S hg hw rfl dL_law_1178 ?_
    refine lv_iload S.1 S.2.1 dL_law_1179 (lv_at hl 0 rfl) ?_
    refine lv_i2l S.1 S.2.1 dL_law_1181 rfl ?_
    refine W.lcmp S.1 S.2.1 dL_law_1182 ?_
    rw [hr2 c1, lg_cmp_self]
    refine lv_if_eq (tgt := 1188) S.1 S.2.1 dL_law_1183 (by decide) (fun c1 => ?_) (fun c1 => absurd rfl c1)
    refine lv_goto (tgt := 1973) S.1 S.2.1 dL_law_1188 (by decide) ?_
    exact kk (ad' := ad1) (hI) hw hS (lv_sub hl (l' := [(0, .ref b), (1, .ref (ad1 0 0)), (2, .ref (ad1 3 0)), (3, .ref (ad1 14 0)), (4, .ref (ad1 15 0)), (5, .int x5)]) [2, 3, 4, 5, 6, 7] rfl)
def st_depth (I : Nat → Nat → KS → KS → Int64 → Prop) (uc us : Nat) (K M : KS) (ap o : Int64) (od : UInt64) (p1 : Int32) : Prop := ∃ mc ms : Nat, uc + mc ≤ 603072 ∧ us + ms ≤ 7190634 ∧ wpL_depth (fun k K1 o1 od1 => wpX7_depth (fun b1 M1 ap1 => wpX7_thrown (fun r1 => r1 = k ∧ (k = 0 → o1 = b1.toInt64) ∧ I (uc + mc) (us + ms) K1 M1 ap1) M1 ap1) M ap p1) mc ms K o od p1
set_option maxHeartbeats 4000000 in
theorem lc_depth {p : Program} {l : Launch} {e : Env} {s : State} {m : MethodId} {args : Array Value} {below : List Frame} {meth : Method} {c : Code} {D : va_G} {cI : Nat → ClassId} {e0 : Nat} {A : Nat → Prop} {ad : Nat → Nat → Nat} {K M : KS} {ap o : Int64} {od : UInt64} {H : Heap} {locs : List Loc} {ls : Array Slot} {uc us b n5 : Nat} {xs : Nat → Int32} {x5 : Int32} {Q : State → Prop} {I : Nat → Nat → KS → KS → Int64 → Prop} {L : Nat} (hfl : l.stackTraces = false) (S : CallFix p m c cL_law 9 s args WU RL) (hg : GI D cI e0 A s s.heap) (hX : va_X b L xs s s.heap) (hbl : b < s.heap.size) (hbA : ¬ A b) (h1 : vp_in (x5 + 1) L) (e1 : xs (x5 + 1).toNatClampNeg = xs (n5 + 1)) (hS : va_S A s.heap H locs) (hw : HT D cI e0 A ad K M ap o od H) (hl : lv_has ls 9 [(0, .ref b), (1, .ref (ad 0 0)), (2, .ref (ad 3 0)), (3, .ref (ad 14 0)), (4, .ref (ad 15 0)), (5, .int x5)]) (h : st_depth I uc us K M ap o od (xs (n5 + 1)))
    (kk : ∀ {uc1 us1 : Nat} {K1 M1 : KS} {ap1 o1 : Int64} {od1 : UInt64} {ad' : Nat → Nat → Nat} {H1 : Heap} {locs1 : List Loc} {ls1 : Array Slot}, I uc1 us1 K1 M1 ap1 → HT D cI e0 A ad' K1 M1 ap1 o1 od1 H1 → va_S A s.heap H1 locs1 → lv_has ls1 9 [(0, .ref b), (1, .ref (ad' 0 0)), (2, .ref (ad' 3 0)), (3, .ref (ad' 14 0)), (4, .ref (ad' 15 0)), (5, .int x5)] → W p l e room_1 s m args below meth c H1 locs1 uc1 us1 Q (F0 m 1973 ls1 [])) : W p l e room_1 s m args below meth c H locs uc us Q (F0 m 1191 ls []) := by
  refine lv_aload_n S.1 S.2.1 dL_law_1191 rfl (lv_at hl 1 rfl) ?_
  refine lv_aload_n S.1 S.2.1 dL_law_1192 rfl (lv_at hl 0 rfl) ?_
  refine lv_iload S.1 S.2.1 dL_law_1193 (lv_at hl 5 rfl) ?_
  refine lv_iconst (v := 1) S.1 S.2.1 dL_law_1195 (by decide) ?_
  refine lv_iadd S.1 S.2.1 dL_law_1196 ?_
  refine va_sld S.1 S.2.1 hX hbl hbA hS h1 dL_law_1197 ?_
  rw [e1]
  refine lv_aload_n S.1 S.2.1 dL_law_1198 rfl (lv_at hl 3 rfl) ?_
  obtain ⟨mc, ms, hm1, hm2, h⟩ := h
  refine r_callSW (rest := []) S hg hS (mtL_depth (mc := mc) (ms := ms) hfl h) u798 u799 u42 u800 hdL_depth hw ⟨Nat.le_of_ble_eq_true rfl, Nat.le_of_ble_eq_true rfl⟩ ⟨hm1, hm2⟩ hl.1 (Nat.le_of_ble_eq_true rfl) rfl dL_law_1199 (fun rv H locs hq hS => ?_)
  obtain ⟨k, K1, o1, od1, ad1, rfl, h, hA, hw⟩ := hq
  show W p l e _ s m _ below meth c H locs (uc + mc) (us + ms) _ (F0 m 1202 ls [.int k])
  rw [hA.1, hA.2.1, hA.2.2.1, hA.2.2.2] at hl
  refine lv_istore (lv' := [(6, .int k), (0, .ref b), (1, .ref (ad1 0 0)), (2, .ref (ad1 3 0)), (3, .ref (ad1 14 0)), (4, .ref (ad1 15 0)), (5, .int x5)]) S.1 S.2.1 dL_law_1202 hl (by decide) rfl (fun ls hl => ?_)
  refine lv_aload_n S.1 S.2.1 dL_law_1204 rfl (lv_at hl 3 rfl) ?_
  refine lv_aload_n S.1 S.2.1 dL_law_1205 rfl (lv_at hl 1 rfl) ?_
  refine lv_iload S.1 S.2.1 dL_law_1206 (lv_at hl 6 rfl) ?_
  refine lv_iconst (v := 1) S.1 S.2.1 dL_law_1208 (by decide) ?_
  refine lv_iadd S.1 S.2.1 dL_law_1209 ?_
  refine va_sld S.1 S.2.1 hX hbl hbA hS h1 dL_law_1210 ?_
  rw [e1]
  refine r_call (rest := []) S hg hS (mtX7_depth (mc := 0) (ms := 0) h) u1275 u1276 u1277 u49 u1278 hdX7_depth (rv3 hg hw) hw ⟨Nat.le_of_ble_eq_true rfl, Nat.le_of_ble_eq_true rfl⟩ ⟨by show (uc + mc) + 0 ≤ 603072; omega, by show (us + ms) + 0 ≤ 7190634; omega⟩ hl.1 (Nat.le_of_ble_eq_true rfl) rfl dL_law_1211 (fun E ce q H1 locs1 hx hS1 hc1 hc2 hc3 => hx.elim) (fun rv H locs hq hS => ?_)
  obtain ⟨b1, M1, ap1, rfl, h, hw⟩ := hq
  show W p l e _ s m _ below meth c H locs (uc + mc) (us + ms) _ (F0 m 1214 ls [.int b1])
  refine lv_istore (lv' := [(7, .int b1), (6, .int k), (0, .ref b), (1, .ref (ad1 0 0)), (2, .ref (ad1 3 0)), (3, .ref (ad1 14 0)), (4, .ref (ad1 15 0)), (5, .int x5)]) S.1 S.2.1 dL_law_1214 hl (by decide) rfl (fun ls hl => ?_)
  refine lv_aload_n S.1 S.2.1 dL_law_1216 rfl (lv_at hl 4 rfl) ?_
  refine r_call (rest := []) S hg hS (mtX7_thrown (mc := 0) (ms := 0) h) u1160 u1161 u1162 u49 u1163 hdX7_thrown (rv3 hg hw) hw ⟨Nat.le_of_ble_eq_true rfl, Nat.le_of_ble_eq_true rfl⟩ ⟨by show (uc + mc) + 0 ≤ 603072; omega, by show (us + ms) + 0 ≤ 7190634; omega⟩ hl.1 (Nat.le_of_ble_eq_true rfl) rfl dL_law_1217 (fun E ce q H1 locs1 hx hS1 hc1 hc2 hc3 => hx.elim) (fun rv H locs hq hS => ?_)
  obtain ⟨r1, rfl, h, hw⟩ := hq
  obtain ⟨hr1, hr2, hI⟩ := h
  show W p l e _ s m _ below meth c H locs (uc + mc) (us + ms) _ (F0 m 1220 ls [.int r1])
  refine lv_iload S.1 S.2.1 dL_law_1220 (lv_at hl 1 rfl) ?_
  refine lv_icmp_eq (tgt := 1227) S.1 S.2.1 dL_law_1222 (by decide) (fun c1 => ?_) (fun c1 => absurd hr1 c1)
  refine lv_iload S.1 S.2.1 dL_law_1227 (lv_at hl 1 rfl) ?_
  refine lv_if_ne (tgt := 1244) S.1 S.2.1 dL_law_1229 (by decide) (fun c1 => ?_) (fun c1 => ?_)
  · refine lv_goto (tgt := 1973) S.1 S.2.1 dL_law_1244 (by decide) ?_
    exact kk (ad' := ad1) (hI) hw hS (lv_sub hl (l' := [(0, .ref b), (1, .ref (ad1 0 0)), (2, .ref (ad1 3 0)), (3, .ref (ad1 14 0)), (4, .ref (ad1 15 0)), (5, .int x5)]) [2, 3, 4, 5, 6, 7] rfl)
  · refine lv_aload_n S.1 S.2.1 dL_law_1232 rfl (lv_at hl 5 rfl) ?_
    refine lv_iconst (v := 0) S.1 S.2.1 dL_law_1233 (by decide) ?_
    refine l14 S hg hw rfl dL_law_1234 ?_
    refine lv_iload S.1 S.2.1 dL_law_1235 (lv_at hl 0 rfl) ?_
    refine lv_i2l S.1 S.2.1 dL_law_1237 rfl ?_
    refine W.lcmp S.1 S.2.1 dL_law_1238 ?_
    rw [hr2 c1, lg_cmp_self]
    refine lv_if_eq (tgt := 1244) S.1 S.2.1 dL_law_1239 (by decide) (fun c1 => ?_) (fun c1 => absurd rfl c1)
    refine lv_goto (tgt := 1973) S.1 S.2.1 dL_law_1244 (by decide) ?_
    exact kk (ad' := ad1) (hI) hw hS (lv_sub hl (l' := [(0, .ref b), (1, .ref (ad1 0 0)), (2, .ref (ad1 3 0)), (3, .ref (ad1 14 0)), (4, .ref (ad1 15 0)), (5, .int x5)]) [2, 3, 4, 5, 6, 7] rfl)
def st_winner (I : Nat → Nat → KS → KS → Int64 → Prop) (uc us : Nat) (K M : KS) (ap o : Int64) (od : UInt64) (p1 : Int32) : Prop := ∃ mc ms : Nat, uc + mc ≤ 603072 ∧ us + ms ≤ 7190634 ∧ wpL_winner (fun k K1 o1 od1 => wpX7_winner (fun b1 M1 ap1 => wpX7_thrown (fun r1 => r1 = k ∧ (k = 0 → o1 = b1.toInt64) ∧ I (uc + mc) (us + ms) K1 M1 ap1) M1 ap1) M ap p1) mc ms K o od p1
set_option maxHeartbeats 4000000 in
theorem lc_winner {p : Program} {l : Launch} {e : Env} {s : State} {m : MethodId} {args : Array Value} {below : List Frame} {meth : Method} {c : Code} {D : va_G} {cI : Nat → ClassId} {e0 : Nat} {A : Nat → Prop} {ad : Nat → Nat → Nat} {K M : KS} {ap o : Int64} {od : UInt64} {H : Heap} {locs : List Loc} {ls : Array Slot} {uc us b n5 : Nat} {xs : Nat → Int32} {x5 : Int32} {Q : State → Prop} {I : Nat → Nat → KS → KS → Int64 → Prop} {L : Nat} (hfl : l.stackTraces = false) (S : CallFix p m c cL_law 9 s args WU RL) (hg : GI D cI e0 A s s.heap) (hX : va_X b L xs s s.heap) (hbl : b < s.heap.size) (hbA : ¬ A b) (h1 : vp_in (x5 + 1) L) (e1 : xs (x5 + 1).toNatClampNeg = xs (n5 + 1)) (hS : va_S A s.heap H locs) (hw : HT D cI e0 A ad K M ap o od H) (hl : lv_has ls 9 [(0, .ref b), (1, .ref (ad 0 0)), (2, .ref (ad 3 0)), (3, .ref (ad 14 0)), (4, .ref (ad 15 0)), (5, .int x5)]) (h : st_winner I uc us K M ap o od (xs (n5 + 1)))
    (kk : ∀ {uc1 us1 : Nat} {K1 M1 : KS} {ap1 o1 : Int64} {od1 : UInt64} {ad' : Nat → Nat → Nat} {H1 : Heap} {locs1 : List Loc} {ls1 : Array Slot}, I uc1 us1 K1 M1 ap1 → HT D cI e0 A ad' K1 M1 ap1 o1 od1 H1 → va_S A s.heap H1 locs1 → lv_has ls1 9 [(0, .ref b), (1, .ref (ad' 0 0)), (2, .ref (ad' 3 0)), (3, .ref (ad' 14 0)), (4, .ref (ad' 15 0)), (5, .int x5)] → W p l e room_1 s m args below meth c H1 locs1 uc1 us1 Q (F0 m 1973 ls1 [])) : W p l e room_1 s m args below meth c H locs uc us Q (F0 m 1247 ls []) := by
  refine lv_aload_n S.1 S.2.1 dL_law_1247 rfl (lv_at hl 1 rfl) ?_
  refine lv_aload_n S.1 S.2.1 dL_law_1248 rfl (lv_at hl 0 rfl) ?_
  refine lv_iload S.1 S.2.1 dL_law_1249 (lv_at hl 5 rfl) ?_
  refine lv_iconst (v := 1) S.1 S.2.1 dL_law_1251 (by decide) ?_
  refine lv_iadd S.1 S.2.1 dL_law_1252 ?_
  refine va_sld S.1 S.2.1 hX hbl hbA hS h1 dL_law_1253 ?_
  rw [e1]
  refine lv_aload_n S.1 S.2.1 dL_law_1254 rfl (lv_at hl 3 rfl) ?_
  obtain ⟨mc, ms, hm1, hm2, h⟩ := h
  refine r_callSW (rest := []) S hg hS (mtL_winner (mc := mc) (ms := ms) hfl h) u805 u806 u42 u807 hdL_winner hw ⟨Nat.le_of_ble_eq_true rfl, Nat.le_of_ble_eq_true rfl⟩ ⟨hm1, hm2⟩ hl.1 (Nat.le_of_ble_eq_true rfl) rfl dL_law_1255 (fun rv H locs hq hS => ?_)
  obtain ⟨k, K1, o1, od1, ad1, rfl, h, hA, hw⟩ := hq
  show W p l e _ s m _ below meth c H locs (uc + mc) (us + ms) _ (F0 m 1258 ls [.int k])
  rw [hA.1, hA.2.1, hA.2.2.1, hA.2.2.2] at hl
  refine lv_istore (lv' := [(6, .int k), (0, .ref b), (1, .ref (ad1 0 0)), (2, .ref (ad1 3 0)), (3, .ref (ad1 14 0)), (4, .ref (ad1 15 0)), (5, .int x5)]) S.1 S.2.1 dL_law_1258 hl (by decide) rfl (fun ls hl => ?_)
  refine lv_aload_n S.1 S.2.1 dL_law_1260 rfl (lv_at hl 3 rfl) ?_
  refine lv_aload_n S.1 S.2.1 dL_law_1261 rfl (lv_at hl 1 rfl) ?_
  refine lv_iload S.1 S.2.1 dL_law_1262 (lv_at hl 6 rfl) ?_
  refine lv_iconst (v := 1) S.1 S.2.1 dL_law_1264 (by decide) ?_
  refine lv_iadd S.1 S.2.1 dL_law_1265 ?_
  refine va_sld S.1 S.2.1 hX hbl hbA hS h1 dL_law_1266 ?_
  rw [e1]
  refine r_call (rest := []) S hg hS (mtX7_winner (mc := 0) (ms := 0) h) u1279 u1280 u1281 u49 u1282 hdX7_winner (rv3 hg hw) hw ⟨Nat.le_of_ble_eq_true rfl, Nat.le_of_ble_eq_true rfl⟩ ⟨by show (uc + mc) + 0 ≤ 603072; omega, by show (us + ms) + 0 ≤ 7190634; omega⟩ hl.1 (Nat.le_of_ble_eq_true rfl) rfl dL_law_1267 (fun E ce q H1 locs1 hx hS1 hc1 hc2 hc3 => hx.elim) (fun rv H locs hq hS => ?_)
  obtain ⟨b1, M1, ap1, rfl, h, hw⟩ := hq
  show W p l e _ s m _ below meth c H locs (uc + mc) (us + ms) _ (F0 m 1270 ls [.int b1])
  refine lv_istore (lv' := [(7, .int b1), (6, .int k), (0, .ref b), (1, .ref (ad1 0 0)), (2, .ref (ad1 3 0)), (3, .ref (ad1 14 0)), (4, .ref (ad1 15 0)), (5, .int x5)]) S.1 S.2.1 dL_law_1270 hl (by decide) rfl (fun ls hl => ?_)
  refine lv_aload_n S.1 S.2.1 dL_law_1272 rfl (lv_at hl 4 rfl) ?_
  refine r_call (rest := []) S hg hS (mtX7_thrown (mc := 0) (ms := 0) h) u1160 u1161 u1162 u49 u1163 hdX7_thrown (rv3 hg hw) hw ⟨Nat.le_of_ble_eq_true rfl, Nat.le_of_ble_eq_true rfl⟩ ⟨by show (uc + mc) + 0 ≤ 603072; omega, by show (us + ms) + 0 ≤ 7190634; omega⟩ hl.1 (Nat.le_of_ble_eq_true rfl) rfl dL_law_1273 (fun E ce q H1 locs1 hx hS1 hc1 hc2 hc3 => hx.elim) (fun rv H locs hq hS => ?_)
  obtain ⟨r1, rfl, h, hw⟩ := hq
  obtain ⟨hr1, hr2, hI⟩ := h
  show W p l e _ s m _ below meth c H locs (uc + mc) (us + ms) _ (F0 m 1276 ls [.int r1])
  refine lv_iload S.1 S.2.1 dL_law_1276 (lv_at hl 1 rfl) ?_
  refine lv_icmp_eq (tgt := 1283) S.1 S.2.1 dL_law_1278 (by decide) (fun c1 => ?_) (fun c1 => absurd hr1 c1)
  refine lv_iload S.1 S.2.1 dL_law_1283 (lv_at hl 1 rfl) ?_
  refine lv_if_ne (tgt := 1300) S.1 S.2.1 dL_law_1285 (by decide) (fun c1 => ?_) (fun c1 => ?_)
  · refine lv_goto (tgt := 1973) S.1 S.2.1 dL_law_1300 (by decide) ?_
    exact kk (ad' := ad1) (hI) hw hS (lv_sub hl (l' := [(0, .ref b), (1, .ref (ad1 0 0)), (2, .ref (ad1 3 0)), (3, .ref (ad1 14 0)), (4, .ref (ad1 15 0)), (5, .int x5)]) [2, 3, 4, 5, 6, 7] rfl)
  · refine lv_aload_n S.1 S.2.1 dL_law_1288 rfl (lv_at hl 5 rfl) ?_
    refine lv_iconst (v := 0) S.1 S.2.1 dL_law_1289 (by decide) ?_
    refine l14 S hg hw rfl dL_law_1290 ?_
    refine lv_iload S.1 S.2.1 dL_law_1291 (lv_at hl 0 rfl) ?_
    refine lv_i2l S.1 S.2.1 dL_law_1293 rfl ?_
    refine W.lcmp S.1 S.2.1 dL_law_1294 ?_
    rw [hr2 c1, lg_cmp_self]
    refine lv_if_eq (tgt := 1300) S.1 S.2.1 dL_law_1295 (by decide) (fun c1 => ?_) (fun c1 => absurd rfl c1)
    refine lv_goto (tgt := 1973) S.1 S.2.1 dL_law_1300 (by decide) ?_
    exact kk (ad' := ad1) (hI) hw hS (lv_sub hl (l' := [(0, .ref b), (1, .ref (ad1 0 0)), (2, .ref (ad1 3 0)), (3, .ref (ad1 14 0)), (4, .ref (ad1 15 0)), (5, .int x5)]) [2, 3, 4, 5, 6, 7] rfl)
def st_close (I : Nat → Nat → KS → KS → Int64 → Prop) (uc us : Nat) (K M : KS) (ap o : Int64) (od : UInt64) (p1 : Int32) : Prop := ∃ mc ms : Nat, uc + mc ≤ 603072 ∧ us + ms ≤ 7190634 ∧ wpL_close (fun k K1 o1 od1 => wpX7_close (fun b1 M1 ap1 => wpX7_thrown (fun r1 => r1 = k ∧ (k = 0 → o1 = b1.toInt64) ∧ I (uc + mc) (us + ms) K1 M1 ap1) M1 ap1) M ap p1) mc ms K o od p1
set_option maxHeartbeats 4000000 in
theorem lc_close {p : Program} {l : Launch} {e : Env} {s : State} {m : MethodId} {args : Array Value} {below : List Frame} {meth : Method} {c : Code} {D : va_G} {cI : Nat → ClassId} {e0 : Nat} {A : Nat → Prop} {ad : Nat → Nat → Nat} {K M : KS} {ap o : Int64} {od : UInt64} {H : Heap} {locs : List Loc} {ls : Array Slot} {uc us b n5 : Nat} {xs : Nat → Int32} {x5 : Int32} {Q : State → Prop} {I : Nat → Nat → KS → KS → Int64 → Prop} {L : Nat} (hfl : l.stackTraces = false) (S : CallFix p m c cL_law 9 s args WU RL) (hg : GI D cI e0 A s s.heap) (hX : va_X b L xs s s.heap) (hbl : b < s.heap.size) (hbA : ¬ A b) (h1 : vp_in (x5 + 1) L) (e1 : xs (x5 + 1).toNatClampNeg = xs (n5 + 1)) (hS : va_S A s.heap H locs) (hw : HT D cI e0 A ad K M ap o od H) (hl : lv_has ls 9 [(0, .ref b), (1, .ref (ad 0 0)), (2, .ref (ad 3 0)), (3, .ref (ad 14 0)), (4, .ref (ad 15 0)), (5, .int x5)]) (h : st_close I uc us K M ap o od (xs (n5 + 1)))
    (kk : ∀ {uc1 us1 : Nat} {K1 M1 : KS} {ap1 o1 : Int64} {od1 : UInt64} {ad' : Nat → Nat → Nat} {H1 : Heap} {locs1 : List Loc} {ls1 : Array Slot}, I uc1 us1 K1 M1 ap1 → HT D cI e0 A ad' K1 M1 ap1 o1 od1 H1 → va_S A s.heap H1 locs1 → lv_has ls1 9 [(0, .ref b), (1, .ref (ad' 0 0)), (2, .ref (ad' 3 0)), (3, .ref (ad' 14 0)), (4, .ref (ad' 15 0)), (5, .int x5)] → W p l e room_1 s m args below meth c H1 locs1 uc1 us1 Q (F0 m 1973 ls1 [])) : W p l e room_1 s m args below meth c H locs uc us Q (F0 m 1303 ls []) := by
  refine lv_aload_n S.1 S.2.1 dL_law_1303 rfl (lv_at hl 1 rfl) ?_
  refine lv_aload_n S.1 S.2.1 dL_law_1304 rfl (lv_at hl 0 rfl) ?_
  refine lv_iload S.1 S.2.1 dL_law_1305 (lv_at hl 5 rfl) ?_
  refine lv_iconst (v := 1) S.1 S.2.1 dL_law_1307 (by decide) ?_
  refine lv_iadd S.1 S.2.1 dL_law_1308 ?_
  refine va_sld S.1 S.2.1 hX hbl hbA hS h1 dL_law_1309 ?_
  rw [e1]
  refine lv_aload_n S.1 S.2.1 dL_law_1310 rfl (lv_at hl 3 rfl) ?_
  obtain ⟨mc, ms, hm1, hm2, h⟩ := h
  refine r_callSW (rest := []) S hg hS (mtL_close (mc := mc) (ms := ms) hfl h) u829 u830 u42 u831 hdL_close hw ⟨Nat.le_of_ble_eq_true rfl, Nat.le_of_ble_eq_true rfl⟩ ⟨hm1, hm2⟩ hl.1 (Nat.le_of_ble_eq_true rfl) rfl dL_law_1311 (fun rv H locs hq hS => ?_)
  obtain ⟨k, K1, o1, od1, ad1, rfl, h, hA, hw⟩ := hq
  show W p l e _ s m _ below meth c H locs (uc + mc) (us + ms) _ (F0 m 1314 ls [.int k])
  rw [hA.1, hA.2.1, hA.2.2.1, hA.2.2.2] at hl
  refine lv_istore (lv' := [(6, .int k), (0, .ref b), (1, .ref (ad1 0 0)), (2, .ref (ad1 3 0)), (3, .ref (ad1 14 0)), (4, .ref (ad1 15 0)), (5, .int x5)]) S.1 S.2.1 dL_law_1314 hl (by decide) rfl (fun ls hl => ?_)
  refine lv_aload_n S.1 S.2.1 dL_law_1316 rfl (lv_at hl 3 rfl) ?_
  refine lv_aload_n S.1 S.2.1 dL_law_1317 rfl (lv_at hl 1 rfl) ?_
  refine lv_iload S.1 S.2.1 dL_law_1318 (lv_at hl 6 rfl) ?_
  refine lv_iconst (v := 1) S.1 S.2.1 dL_law_1320 (by decide) ?_
  refine lv_iadd S.1 S.2.1 dL_law_1321 ?_
  refine va_sld S.1 S.2.1 hX hbl hbA hS h1 dL_law_1322 ?_
  rw [e1]
  refine r_call (rest := []) S hg hS (mtX7_close (mc := 0) (ms := 0) h) u1283 u1284 u1285 u49 u1286 hdX7_close (rv3 hg hw) hw ⟨Nat.le_of_ble_eq_true rfl, Nat.le_of_ble_eq_true rfl⟩ ⟨by show (uc + mc) + 0 ≤ 603072; omega, by show (us + ms) + 0 ≤ 7190634; omega⟩ hl.1 (Nat.le_of_ble_eq_true rfl) rfl dL_law_1323 (fun E ce q H1 locs1 hx hS1 hc1 hc2 hc3 => hx.elim) (fun rv H locs hq hS => ?_)
  obtain ⟨b1, M1, ap1, rfl, h, hw⟩ := hq
  show W p l e _ s m _ below meth c H locs (uc + mc) (us + ms) _ (F0 m 1326 ls [.int b1])
  refine lv_istore (lv' := [(7, .int b1), (6, .int k), (0, .ref b), (1, .ref (ad1 0 0)), (2, .ref (ad1 3 0)), (3, .ref (ad1 14 0)), (4, .ref (ad1 15 0)), (5, .int x5)]) S.1 S.2.1 dL_law_1326 hl (by decide) rfl (fun ls hl => ?_)
  refine lv_aload_n S.1 S.2.1 dL_law_1328 rfl (lv_at hl 4 rfl) ?_
  refine r_call (rest := []) S hg hS (mtX7_thrown (mc := 0) (ms := 0) h) u1160 u1161 u1162 u49 u1163 hdX7_thrown (rv3 hg hw) hw ⟨Nat.le_of_ble_eq_true rfl, Nat.le_of_ble_eq_true rfl⟩ ⟨by show (uc + mc) + 0 ≤ 603072; omega, by show (us + ms) + 0 ≤ 7190634; omega⟩ hl.1 (Nat.le_of_ble_eq_true rfl) rfl dL_law_1329 (fun E ce q H1 locs1 hx hS1 hc1 hc2 hc3 => hx.elim) (fun rv H locs hq hS => ?_)
  obtain ⟨r1, rfl, h, hw⟩ := hq
  obtain ⟨hr1, hr2, hI⟩ := h
  show W p l e _ s m _ below meth c H locs (uc + mc) (us + ms) _ (F0 m 1332 ls [.int r1])
  refine lv_iload S.1 S.2.1 dL_law_1332 (lv_at hl 1 rfl) ?_
  refine lv_icmp_eq (tgt := 1339) S.1 S.2.1 dL_law_1334 (by decide) (fun c1 => ?_) (fun c1 => absurd hr1 c1)
  refine lv_iload S.1 S.2.1 dL_law_1339 (lv_at hl 1 rfl) ?_
  refine lv_if_ne (tgt := 1356) S.1 S.2.1 dL_law_1341 (by decide) (fun c1 => ?_) (fun c1 => ?_)
  · refine lv_goto (tgt := 1973) S.1 S.2.1 dL_law_1356 (by decide) ?_
    exact kk (ad' := ad1) (hI) hw hS (lv_sub hl (l' := [(0, .ref b), (1, .ref (ad1 0 0)), (2, .ref (ad1 3 0)), (3, .ref (ad1 14 0)), (4, .ref (ad1 15 0)), (5, .int x5)]) [2, 3, 4, 5, 6, 7] rfl)
  · refine lv_aload_n S.1 S.2.1 dL_law_1344 rfl (lv_at hl 5 rfl) ?_
    refine lv_iconst (v := 0) S.1 S.2.1 dL_law_1345 (by decide) ?_
    refine l14 S hg hw rfl dL_law_1346 ?_
    refine lv_iload S.1 S.2.1 dL_law_1347 (lv_at hl 0 rfl) ?_
    refine lv_i2l S.1 S.2.1 dL_law_1349 rfl ?_
    refine W.lcmp S.1 S.2.1 dL_law_1350 ?_
    rw [hr2 c1, lg_cmp_self]
    refine lv_if_eq (tgt := 1356) S.1 S.2.1 dL_law_1351 (by decide) (fun c1 => ?_) (fun c1 => absurd rfl c1)
    refine lv_goto (tgt := 1973) S.1 S.2.1 dL_law_1356 (by decide) ?_
    exact kk (ad' := ad1) (hI) hw hS (lv_sub hl (l' := [(0, .ref b), (1, .ref (ad1 0 0)), (2, .ref (ad1 3 0)), (3, .ref (ad1 14 0)), (4, .ref (ad1 15 0)), (5, .int x5)]) [2, 3, 4, 5, 6, 7] rfl)
def st_snapshot (I : Nat → Nat → KS → KS → Int64 → Prop) (uc us : Nat) (K M : KS) (ap o : Int64) (od : UInt64) (p1 : Int32) : Prop := ∃ mc ms : Nat, uc + mc ≤ 603072 ∧ us + ms ≤ 7190634 ∧ wpL_snapshot (fun k K1 o1 od1 => wpX7_snapshot (fun b1 M1 ap1 => wpX7_thrown (fun r1 => r1 = k ∧ (k = 0 → o1 = b1.toInt64) ∧ I (uc + mc) (us + ms) K1 M1 ap1) M1 ap1) M ap p1) mc ms K o od p1
set_option maxHeartbeats 4000000 in
theorem lc_snapshot {p : Program} {l : Launch} {e : Env} {s : State} {m : MethodId} {args : Array Value} {below : List Frame} {meth : Method} {c : Code} {D : va_G} {cI : Nat → ClassId} {e0 : Nat} {A : Nat → Prop} {ad : Nat → Nat → Nat} {K M : KS} {ap o : Int64} {od : UInt64} {H : Heap} {locs : List Loc} {ls : Array Slot} {uc us b n5 : Nat} {xs : Nat → Int32} {x5 : Int32} {Q : State → Prop} {I : Nat → Nat → KS → KS → Int64 → Prop} {L : Nat} (hfl : l.stackTraces = false) (S : CallFix p m c cL_law 9 s args WU RL) (hg : GI D cI e0 A s s.heap) (hX : va_X b L xs s s.heap) (hbl : b < s.heap.size) (hbA : ¬ A b) (h1 : vp_in (x5 + 1) L) (e1 : xs (x5 + 1).toNatClampNeg = xs (n5 + 1)) (hS : va_S A s.heap H locs) (hw : HT D cI e0 A ad K M ap o od H) (hl : lv_has ls 9 [(0, .ref b), (1, .ref (ad 0 0)), (2, .ref (ad 3 0)), (3, .ref (ad 14 0)), (4, .ref (ad 15 0)), (5, .int x5)]) (h : st_snapshot I uc us K M ap o od (xs (n5 + 1)))
    (kk : ∀ {uc1 us1 : Nat} {K1 M1 : KS} {ap1 o1 : Int64} {od1 : UInt64} {ad' : Nat → Nat → Nat} {H1 : Heap} {locs1 : List Loc} {ls1 : Array Slot}, I uc1 us1 K1 M1 ap1 → HT D cI e0 A ad' K1 M1 ap1 o1 od1 H1 → va_S A s.heap H1 locs1 → lv_has ls1 9 [(0, .ref b), (1, .ref (ad' 0 0)), (2, .ref (ad' 3 0)), (3, .ref (ad' 14 0)), (4, .ref (ad' 15 0)), (5, .int x5)] → W p l e room_1 s m args below meth c H1 locs1 uc1 us1 Q (F0 m 1973 ls1 [])) : W p l e room_1 s m args below meth c H locs uc us Q (F0 m 1359 ls []) := by
  refine lv_aload_n S.1 S.2.1 dL_law_1359 rfl (lv_at hl 1 rfl) ?_
  refine lv_aload_n S.1 S.2.1 dL_law_1360 rfl (lv_at hl 0 rfl) ?_
  refine lv_iload S.1 S.2.1 dL_law_1361 (lv_at hl 5 rfl) ?_
  refine lv_iconst (v := 1) S.1 S.2.1 dL_law_1363 (by decide) ?_
  refine lv_iadd S.1 S.2.1 dL_law_1364 ?_
  refine va_sld S.1 S.2.1 hX hbl hbA hS h1 dL_law_1365 ?_
  rw [e1]
  refine lv_aload_n S.1 S.2.1 dL_law_1366 rfl (lv_at hl 3 rfl) ?_
  obtain ⟨mc, ms, hm1, hm2, h⟩ := h
  refine r_callSW (rest := []) S hg hS (mtL_snapshot (mc := mc) (ms := ms) hfl h) u854 u855 u42 u856 hdL_snapshot hw ⟨Nat.le_of_ble_eq_true rfl, Nat.le_of_ble_eq_true rfl⟩ ⟨hm1, hm2⟩ hl.1 (Nat.le_of_ble_eq_true rfl) rfl dL_law_1367 (fun rv H locs hq hS => ?_)
  obtain ⟨k, K1, o1, od1, ad1, rfl, h, hA, hw⟩ := hq
  show W p l e _ s m _ below meth c H locs (uc + mc) (us + ms) _ (F0 m 1370 ls [.int k])
  rw [hA.1, hA.2.1, hA.2.2.1, hA.2.2.2] at hl
  refine lv_istore (lv' := [(6, .int k), (0, .ref b), (1, .ref (ad1 0 0)), (2, .ref (ad1 3 0)), (3, .ref (ad1 14 0)), (4, .ref (ad1 15 0)), (5, .int x5)]) S.1 S.2.1 dL_law_1370 hl (by decide) rfl (fun ls hl => ?_)
  refine lv_aload_n S.1 S.2.1 dL_law_1372 rfl (lv_at hl 3 rfl) ?_
  refine lv_aload_n S.1 S.2.1 dL_law_1373 rfl (lv_at hl 1 rfl) ?_
  refine lv_iload S.1 S.2.1 dL_law_1374 (lv_at hl 6 rfl) ?_
  refine lv_iconst (v := 1) S.1 S.2.1 dL_law_1376 (by decide) ?_
  refine lv_iadd S.1 S.2.1 dL_law_1377 ?_
  refine va_sld S.1 S.2.1 hX hbl hbA hS h1 dL_law_1378 ?_
  rw [e1]
  refine r_call (rest := []) S hg hS (mtX7_snapshot (mc := 0) (ms := 0) h) u1291 u1292 u1293 u49 u1294 hdX7_snapshot (rv3 hg hw) hw ⟨Nat.le_of_ble_eq_true rfl, Nat.le_of_ble_eq_true rfl⟩ ⟨by show (uc + mc) + 0 ≤ 603072; omega, by show (us + ms) + 0 ≤ 7190634; omega⟩ hl.1 (Nat.le_of_ble_eq_true rfl) rfl dL_law_1379 (fun E ce q H1 locs1 hx hS1 hc1 hc2 hc3 => hx.elim) (fun rv H locs hq hS => ?_)
  obtain ⟨b1, M1, ap1, rfl, h, hw⟩ := hq
  show W p l e _ s m _ below meth c H locs (uc + mc) (us + ms) _ (F0 m 1382 ls [.int b1])
  refine lv_istore (lv' := [(7, .int b1), (6, .int k), (0, .ref b), (1, .ref (ad1 0 0)), (2, .ref (ad1 3 0)), (3, .ref (ad1 14 0)), (4, .ref (ad1 15 0)), (5, .int x5)]) S.1 S.2.1 dL_law_1382 hl (by decide) rfl (fun ls hl => ?_)
  refine lv_aload_n S.1 S.2.1 dL_law_1384 rfl (lv_at hl 4 rfl) ?_
  refine r_call (rest := []) S hg hS (mtX7_thrown (mc := 0) (ms := 0) h) u1160 u1161 u1162 u49 u1163 hdX7_thrown (rv3 hg hw) hw ⟨Nat.le_of_ble_eq_true rfl, Nat.le_of_ble_eq_true rfl⟩ ⟨by show (uc + mc) + 0 ≤ 603072; omega, by show (us + ms) + 0 ≤ 7190634; omega⟩ hl.1 (Nat.le_of_ble_eq_true rfl) rfl dL_law_1385 (fun E ce q H1 locs1 hx hS1 hc1 hc2 hc3 => hx.elim) (fun rv H locs hq hS => ?_)
  obtain ⟨r1, rfl, h, hw⟩ := hq
  obtain ⟨hr1, hr2, hI⟩ := h
  show W p l e _ s m _ below meth c H locs (uc + mc) (us + ms) _ (F0 m 1388 ls [.int r1])
  refine lv_iload S.1 S.2.1 dL_law_1388 (lv_at hl 1 rfl) ?_
  refine lv_icmp_eq (tgt := 1395) S.1 S.2.1 dL_law_1390 (by decide) (fun c1 => ?_) (fun c1 => absurd hr1 c1)
  refine lv_iload S.1 S.2.1 dL_law_1395 (lv_at hl 1 rfl) ?_
  refine lv_if_ne (tgt := 1412) S.1 S.2.1 dL_law_1397 (by decide) (fun c1 => ?_) (fun c1 => ?_)
  · refine lv_goto (tgt := 1973) S.1 S.2.1 dL_law_1412 (by decide) ?_
    exact kk (ad' := ad1) (hI) hw hS (lv_sub hl (l' := [(0, .ref b), (1, .ref (ad1 0 0)), (2, .ref (ad1 3 0)), (3, .ref (ad1 14 0)), (4, .ref (ad1 15 0)), (5, .int x5)]) [2, 3, 4, 5, 6, 7] rfl)
  · refine lv_aload_n S.1 S.2.1 dL_law_1400 rfl (lv_at hl 5 rfl) ?_
    refine lv_iconst (v := 0) S.1 S.2.1 dL_law_1401 (by decide) ?_
    refine l14 S hg hw rfl dL_law_1402 ?_
    refine lv_iload S.1 S.2.1 dL_law_1403 (lv_at hl 0 rfl) ?_
    refine lv_i2l S.1 S.2.1 dL_law_1405 rfl ?_
    refine W.lcmp S.1 S.2.1 dL_law_1406 ?_
    rw [hr2 c1, lg_cmp_self]
    refine lv_if_eq (tgt := 1412) S.1 S.2.1 dL_law_1407 (by decide) (fun c1 => ?_) (fun c1 => absurd rfl c1)
    refine lv_goto (tgt := 1973) S.1 S.2.1 dL_law_1412 (by decide) ?_
    exact kk (ad' := ad1) (hI) hw hS (lv_sub hl (l' := [(0, .ref b), (1, .ref (ad1 0 0)), (2, .ref (ad1 3 0)), (3, .ref (ad1 14 0)), (4, .ref (ad1 15 0)), (5, .int x5)]) [2, 3, 4, 5, 6, 7] rfl)
def st_inSnapshot (I : Nat → Nat → KS → KS → Int64 → Prop) (uc us : Nat) (K M : KS) (ap o : Int64) (od : UInt64) (p1 : Int32) (p2 : Int32) (p3 : Int32) : Prop := ∃ mc ms : Nat, uc + mc ≤ 603072 ∧ us + ms ≤ 7190634 ∧ wpL_inSnapshot (fun k K1 o1 od1 => wpX7_inSnapshot (fun b1 M1 ap1 => wpX7_thrown (fun r1 => r1 = k ∧ (k = 0 → o1 = b1.toInt64) ∧ I (uc + mc) (us + ms) K1 M1 ap1) M1 ap1) M ap p1 p2 p3) mc ms K o od p1 p2 p3
set_option maxHeartbeats 4000000 in
theorem lc_inSnapshot {p : Program} {l : Launch} {e : Env} {s : State} {m : MethodId} {args : Array Value} {below : List Frame} {meth : Method} {c : Code} {D : va_G} {cI : Nat → ClassId} {e0 : Nat} {A : Nat → Prop} {ad : Nat → Nat → Nat} {K M : KS} {ap o : Int64} {od : UInt64} {H : Heap} {locs : List Loc} {ls : Array Slot} {uc us b n5 : Nat} {xs : Nat → Int32} {x5 : Int32} {Q : State → Prop} {I : Nat → Nat → KS → KS → Int64 → Prop} {L : Nat} (hfl : l.stackTraces = false) (S : CallFix p m c cL_law 9 s args WU RL) (hg : GI D cI e0 A s s.heap) (hX : va_X b L xs s s.heap) (hbl : b < s.heap.size) (hbA : ¬ A b) (h1 : vp_in (x5 + 1) L) (e1 : xs (x5 + 1).toNatClampNeg = xs (n5 + 1)) (h2 : vp_in (x5 + 2) L) (e2 : xs (x5 + 2).toNatClampNeg = xs (n5 + 2)) (h3 : vp_in (x5 + 3) L) (e3 : xs (x5 + 3).toNatClampNeg = xs (n5 + 3)) (hS : va_S A s.heap H locs) (hw : HT D cI e0 A ad K M ap o od H) (hl : lv_has ls 9 [(0, .ref b), (1, .ref (ad 0 0)), (2, .ref (ad 3 0)), (3, .ref (ad 14 0)), (4, .ref (ad 15 0)), (5, .int x5)]) (h : st_inSnapshot I uc us K M ap o od (xs (n5 + 1)) (xs (n5 + 2)) (xs (n5 + 3)))
    (kk : ∀ {uc1 us1 : Nat} {K1 M1 : KS} {ap1 o1 : Int64} {od1 : UInt64} {ad' : Nat → Nat → Nat} {H1 : Heap} {locs1 : List Loc} {ls1 : Array Slot}, I uc1 us1 K1 M1 ap1 → HT D cI e0 A ad' K1 M1 ap1 o1 od1 H1 → va_S A s.heap H1 locs1 → lv_has ls1 9 [(0, .ref b), (1, .ref (ad' 0 0)), (2, .ref (ad' 3 0)), (3, .ref (ad' 14 0)), (4, .ref (ad' 15 0)), (5, .int x5)] → W p l e room_1 s m args below meth c H1 locs1 uc1 us1 Q (F0 m 1973 ls1 [])) : W p l e room_1 s m args below meth c H locs uc us Q (F0 m 1415 ls []) := by
  refine lv_aload_n S.1 S.2.1 dL_law_1415 rfl (lv_at hl 1 rfl) ?_
  refine lv_aload_n S.1 S.2.1 dL_law_1416 rfl (lv_at hl 0 rfl) ?_
  refine lv_iload S.1 S.2.1 dL_law_1417 (lv_at hl 5 rfl) ?_
  refine lv_iconst (v := 1) S.1 S.2.1 dL_law_1419 (by decide) ?_
  refine lv_iadd S.1 S.2.1 dL_law_1420 ?_
  refine va_sld S.1 S.2.1 hX hbl hbA hS h1 dL_law_1421 ?_
  rw [e1]
  refine lv_aload_n S.1 S.2.1 dL_law_1422 rfl (lv_at hl 0 rfl) ?_
  refine lv_iload S.1 S.2.1 dL_law_1423 (lv_at hl 5 rfl) ?_
  refine lv_iconst (v := 2) S.1 S.2.1 dL_law_1425 (by decide) ?_
  refine lv_iadd S.1 S.2.1 dL_law_1426 ?_
  refine va_sld S.1 S.2.1 hX hbl hbA hS h2 dL_law_1427 ?_
  rw [e2]
  refine lv_aload_n S.1 S.2.1 dL_law_1428 rfl (lv_at hl 0 rfl) ?_
  refine lv_iload S.1 S.2.1 dL_law_1429 (lv_at hl 5 rfl) ?_
  refine lv_iconst (v := 3) S.1 S.2.1 dL_law_1431 (by decide) ?_
  refine lv_iadd S.1 S.2.1 dL_law_1432 ?_
  refine va_sld S.1 S.2.1 hX hbl hbA hS h3 dL_law_1433 ?_
  rw [e3]
  refine lv_aload_n S.1 S.2.1 dL_law_1434 rfl (lv_at hl 3 rfl) ?_
  obtain ⟨mc, ms, hm1, hm2, h⟩ := h
  refine r_callSW (rest := []) S hg hS (mtL_inSnapshot (mc := mc) (ms := ms) hfl h) u880 u881 u42 u882 hdL_inSnapshot hw ⟨Nat.le_of_ble_eq_true rfl, Nat.le_of_ble_eq_true rfl⟩ ⟨hm1, hm2⟩ hl.1 (Nat.le_of_ble_eq_true rfl) rfl dL_law_1435 (fun rv H locs hq hS => ?_)
  obtain ⟨k, K1, o1, od1, ad1, rfl, h, hA, hw⟩ := hq
  show W p l e _ s m _ below meth c H locs (uc + mc) (us + ms) _ (F0 m 1438 ls [.int k])
  rw [hA.1, hA.2.1, hA.2.2.1, hA.2.2.2] at hl
  refine lv_istore (lv' := [(6, .int k), (0, .ref b), (1, .ref (ad1 0 0)), (2, .ref (ad1 3 0)), (3, .ref (ad1 14 0)), (4, .ref (ad1 15 0)), (5, .int x5)]) S.1 S.2.1 dL_law_1438 hl (by decide) rfl (fun ls hl => ?_)
  refine lv_aload_n S.1 S.2.1 dL_law_1440 rfl (lv_at hl 3 rfl) ?_
  refine lv_aload_n S.1 S.2.1 dL_law_1441 rfl (lv_at hl 1 rfl) ?_
  refine lv_iload S.1 S.2.1 dL_law_1442 (lv_at hl 6 rfl) ?_
  refine lv_iconst (v := 1) S.1 S.2.1 dL_law_1444 (by decide) ?_
  refine lv_iadd S.1 S.2.1 dL_law_1445 ?_
  refine va_sld S.1 S.2.1 hX hbl hbA hS h1 dL_law_1446 ?_
  rw [e1]
  refine lv_aload_n S.1 S.2.1 dL_law_1447 rfl (lv_at hl 1 rfl) ?_
  refine lv_iload S.1 S.2.1 dL_law_1448 (lv_at hl 6 rfl) ?_
  refine lv_iconst (v := 2) S.1 S.2.1 dL_law_1450 (by decide) ?_
  refine lv_iadd S.1 S.2.1 dL_law_1451 ?_
  refine va_sld S.1 S.2.1 hX hbl hbA hS h2 dL_law_1452 ?_
  rw [e2]
  refine lv_aload_n S.1 S.2.1 dL_law_1453 rfl (lv_at hl 1 rfl) ?_
  refine lv_iload S.1 S.2.1 dL_law_1454 (lv_at hl 6 rfl) ?_
  refine lv_iconst (v := 3) S.1 S.2.1 dL_law_1456 (by decide) ?_
  refine lv_iadd S.1 S.2.1 dL_law_1457 ?_
  refine va_sld S.1 S.2.1 hX hbl hbA hS h3 dL_law_1458 ?_
  rw [e3]
  refine r_call (rest := []) S hg hS (mtX7_inSnapshot (mc := 0) (ms := 0) h) u1295 u1296 u1297 u49 u1298 hdX7_inSnapshot (rv3 hg hw) hw ⟨Nat.le_of_ble_eq_true rfl, Nat.le_of_ble_eq_true rfl⟩ ⟨by show (uc + mc) + 0 ≤ 603072; omega, by show (us + ms) + 0 ≤ 7190634; omega⟩ hl.1 (Nat.le_of_ble_eq_true rfl) rfl dL_law_1459 (fun E ce q H1 locs1 hx hS1 hc1 hc2 hc3 => hx.elim) (fun rv H locs hq hS => ?_)
  obtain ⟨b1, M1, ap1, rfl, h, hw⟩ := hq
  show W p l e _ s m _ below meth c H locs (uc + mc) (us + ms) _ (F0 m 1462 ls [.int b1])
  refine lv_istore (lv' := [(7, .int b1), (6, .int k), (0, .ref b), (1, .ref (ad1 0 0)), (2, .ref (ad1 3 0)), (3, .ref (ad1 14 0)), (4, .ref (ad1 15 0)), (5, .int x5)]) S.1 S.2.1 dL_law_1462 hl (by decide) rfl (fun ls hl => ?_)
  refine lv_aload_n S.1 S.2.1 dL_law_1464 rfl (lv_at hl 4 rfl) ?_
  refine r_call (rest := []) S hg hS (mtX7_thrown (mc := 0) (ms := 0) h) u1160 u1161 u1162 u49 u1163 hdX7_thrown (rv3 hg hw) hw ⟨Nat.le_of_ble_eq_true rfl, Nat.le_of_ble_eq_true rfl⟩ ⟨by show (uc + mc) + 0 ≤ 603072; omega, by show (us + ms) + 0 ≤ 7190634; omega⟩ hl.1 (Nat.le_of_ble_eq_true rfl) rfl dL_law_1465 (fun E ce q H1 locs1 hx hS1 hc1 hc2 hc3 => hx.elim) (fun rv H locs hq hS => ?_)
  obtain ⟨r1, rfl, h, hw⟩ := hq
  obtain ⟨hr1, hr2, hI⟩ := h
  show W p l e _ s m _ below meth c H locs (uc + mc) (us + ms) _ (F0 m 1468 ls [.int r1])
  refine lv_iload S.1 S.2.1 dL_law_1468 (lv_at hl 1 rfl) ?_
  refine lv_icmp_eq (tgt := 1475) S.1 S.2.1 dL_law_1470 (by decide) (fun c1 => ?_) (fun c1 => absurd hr1 c1)
  refine lv_iload S.1 S.2.1 dL_law_1475 (lv_at hl 1 rfl) ?_
  refine lv_if_ne (tgt := 1492) S.1 S.2.1 dL_law_1477 (by decide) (fun c1 => ?_) (fun c1 => ?_)
  · refine lv_goto (tgt := 1973) S.1 S.2.1 dL_law_1492 (by decide) ?_
    exact kk (ad' := ad1) (hI) hw hS (lv_sub hl (l' := [(0, .ref b), (1, .ref (ad1 0 0)), (2, .ref (ad1 3 0)), (3, .ref (ad1 14 0)), (4, .ref (ad1 15 0)), (5, .int x5)]) [2, 3, 4, 5, 6, 7] rfl)
  · refine lv_aload_n S.1 S.2.1 dL_law_1480 rfl (lv_at hl 5 rfl) ?_
    refine lv_iconst (v := 0) S.1 S.2.1 dL_law_1481 (by decide) ?_
    refine l14 S hg hw rfl dL_law_1482 ?_
    refine lv_iload S.1 S.2.1 dL_law_1483 (lv_at hl 0 rfl) ?_
    refine lv_i2l S.1 S.2.1 dL_law_1485 rfl ?_
    refine W.lcmp S.1 S.2.1 dL_law_1486 ?_
    rw [hr2 c1, lg_cmp_self]
    refine lv_if_eq (tgt := 1492) S.1 S.2.1 dL_law_1487 (by decide) (fun c1 => ?_) (fun c1 => absurd rfl c1)
    refine lv_goto (tgt := 1973) S.1 S.2.1 dL_law_1492 (by decide) ?_
    exact kk (ad' := ad1) (hI) hw hS (lv_sub hl (l' := [(0, .ref b), (1, .ref (ad1 0 0)), (2, .ref (ad1 3 0)), (3, .ref (ad1 14 0)), (4, .ref (ad1 15 0)), (5, .int x5)]) [2, 3, 4, 5, 6, 7] rfl)
def st_blocks (I : Nat → Nat → KS → KS → Int64 → Prop) (uc us : Nat) (K M : KS) (ap o : Int64) (od : UInt64) : Prop := wpX6_blocks (fun a1 => wpX7_blocks (fun b1 M1 ap1 => a1 = b1 ∧ I uc us K M1 ap1) M ap) K
set_option maxHeartbeats 4000000 in
theorem lc_blocks {p : Program} {l : Launch} {e : Env} {s : State} {m : MethodId} {args : Array Value} {below : List Frame} {meth : Method} {c : Code} {D : va_G} {cI : Nat → ClassId} {e0 : Nat} {A : Nat → Prop} {ad : Nat → Nat → Nat} {K M : KS} {ap o : Int64} {od : UInt64} {H : Heap} {locs : List Loc} {ls : Array Slot} {uc us b n5 : Nat} {xs : Nat → Int32} {x5 : Int32} {Q : State → Prop} {I : Nat → Nat → KS → KS → Int64 → Prop} {L : Nat} (hfl : l.stackTraces = false) (S : CallFix p m c cL_law 9 s args WU RL) (hg : GI D cI e0 A s s.heap) (hX : va_X b L xs s s.heap) (hbl : b < s.heap.size) (hbA : ¬ A b) (hS : va_S A s.heap H locs) (hw : HT D cI e0 A ad K M ap o od H) (hl : lv_has ls 9 [(0, .ref b), (1, .ref (ad 0 0)), (2, .ref (ad 3 0)), (3, .ref (ad 14 0)), (4, .ref (ad 15 0)), (5, .int x5)]) (hu : uc ≤ 603072 ∧ us ≤ 7190634) (h : st_blocks I uc us K M ap o od)
    (kk : ∀ {uc1 us1 : Nat} {K1 M1 : KS} {ap1 o1 : Int64} {od1 : UInt64} {ad' : Nat → Nat → Nat} {H1 : Heap} {locs1 : List Loc} {ls1 : Array Slot}, I uc1 us1 K1 M1 ap1 → HT D cI e0 A ad' K1 M1 ap1 o1 od1 H1 → va_S A s.heap H1 locs1 → lv_has ls1 9 [(0, .ref b), (1, .ref (ad' 0 0)), (2, .ref (ad' 3 0)), (3, .ref (ad' 14 0)), (4, .ref (ad' 15 0)), (5, .int x5)] → W p l e room_1 s m args below meth c H1 locs1 uc1 us1 Q (F0 m 1973 ls1 [])) : W p l e room_1 s m args below meth c H locs uc us Q (F0 m 1495 ls []) := by
  obtain ⟨hu1, hu2⟩ := hu
  refine lv_aload_n S.1 S.2.1 dL_law_1495 rfl (lv_at hl 1 rfl) ?_
  refine r_call (rest := []) S hg hS (mtX6_blocks (mc := 0) (ms := 0) h) u176 u177 u178 u43 u179 hdX6_blocks (rv0 hg hw) hw ⟨Nat.le_of_ble_eq_true rfl, Nat.le_of_ble_eq_true rfl⟩ ⟨by show uc + 0 ≤ 603072; omega, by show us + 0 ≤ 7190634; omega⟩ hl.1 (Nat.le_of_ble_eq_true rfl) rfl dL_law_1496 (fun E ce q H1 locs1 hx hS1 hc1 hc2 hc3 => hx.elim) (fun rv H locs hq hS => ?_)
  obtain ⟨a1, rfl, h, hw⟩ := hq
  show W p l e _ s m _ below meth c H locs uc us _ (F0 m 1499 ls [.int a1])
  refine lv_aload_n S.1 S.2.1 dL_law_1499 rfl (lv_at hl 2 rfl) ?_
  refine r_call (rest := [.int a1]) S hg hS (mtX7_blocks (mc := 0) (ms := 0) h) u1303 u1304 u1305 u49 u1306 hdX7_blocks (rv3 hg hw) hw ⟨Nat.le_of_ble_eq_true rfl, Nat.le_of_ble_eq_true rfl⟩ ⟨by show uc + 0 ≤ 603072; omega, by show us + 0 ≤ 7190634; omega⟩ hl.1 (Nat.le_of_ble_eq_true rfl) rfl dL_law_1500 (fun E ce q H1 locs1 hx hS1 hc1 hc2 hc3 => hx.elim) (fun rv H locs hq hS => ?_)
  obtain ⟨b1, M1, ap1, rfl, h, hw⟩ := hq
  obtain ⟨hr1, hI⟩ := h
  show W p l e _ s m _ below meth c H locs uc us _ (F0 m 1503 ls [.int b1, .int a1])
  refine lv_icmp_eq (tgt := 1973) S.1 S.2.1 dL_law_1503 (by decide) (fun c1 => ?_) (fun c1 => absurd hr1 c1)
  exact kk (ad' := ad) (hI) hw hS (lv_sub hl (l' := [(0, .ref b), (1, .ref (ad 0 0)), (2, .ref (ad 3 0)), (3, .ref (ad 14 0)), (4, .ref (ad 15 0)), (5, .int x5)]) [0, 1, 2, 3, 4, 5] rfl)
def st_rollBack (I : Nat → Nat → KS → KS → Int64 → Prop) (uc us : Nat) (K M : KS) (ap o : Int64) (od : UInt64) (p1 : Int32) (p2 : Int32) : Prop := ∃ mc ms : Nat, uc + mc ≤ 603072 ∧ us + ms ≤ 7190634 ∧ wpL_rollBack (fun k K1 o1 od1 => wpX7_rollBack (fun b1 M1 ap1 => wpX7_thrown (fun r1 => r1 = k ∧ (k = 0 → o1 = b1.toInt64) ∧ I (uc + mc) (us + ms) K1 M1 ap1) M1 ap1) M ap p1 p2) mc ms K o od p1 p2
set_option maxHeartbeats 4000000 in
theorem lc_rollBack {p : Program} {l : Launch} {e : Env} {s : State} {m : MethodId} {args : Array Value} {below : List Frame} {meth : Method} {c : Code} {D : va_G} {cI : Nat → ClassId} {e0 : Nat} {A : Nat → Prop} {ad : Nat → Nat → Nat} {K M : KS} {ap o : Int64} {od : UInt64} {H : Heap} {locs : List Loc} {ls : Array Slot} {uc us b n5 : Nat} {xs : Nat → Int32} {x5 : Int32} {Q : State → Prop} {I : Nat → Nat → KS → KS → Int64 → Prop} {L : Nat} (hfl : l.stackTraces = false) (S : CallFix p m c cL_law 9 s args WU RL) (hg : GI D cI e0 A s s.heap) (hX : va_X b L xs s s.heap) (hbl : b < s.heap.size) (hbA : ¬ A b) (h1 : vp_in (x5 + 1) L) (e1 : xs (x5 + 1).toNatClampNeg = xs (n5 + 1)) (h2 : vp_in (x5 + 2) L) (e2 : xs (x5 + 2).toNatClampNeg = xs (n5 + 2)) (hS : va_S A s.heap H locs) (hw : HT D cI e0 A ad K M ap o od H) (hl : lv_has ls 9 [(0, .ref b), (1, .ref (ad 0 0)), (2, .ref (ad 3 0)), (3, .ref (ad 14 0)), (4, .ref (ad 15 0)), (5, .int x5)]) (h : st_rollBack I uc us K M ap o od (xs (n5 + 1)) (xs (n5 + 2)))
    (kk : ∀ {uc1 us1 : Nat} {K1 M1 : KS} {ap1 o1 : Int64} {od1 : UInt64} {ad' : Nat → Nat → Nat} {H1 : Heap} {locs1 : List Loc} {ls1 : Array Slot}, I uc1 us1 K1 M1 ap1 → HT D cI e0 A ad' K1 M1 ap1 o1 od1 H1 → va_S A s.heap H1 locs1 → lv_has ls1 9 [(0, .ref b), (1, .ref (ad' 0 0)), (2, .ref (ad' 3 0)), (3, .ref (ad' 14 0)), (4, .ref (ad' 15 0)), (5, .int x5)] → W p l e room_1 s m args below meth c H1 locs1 uc1 us1 Q (F0 m 1973 ls1 [])) : W p l e room_1 s m args below meth c H locs uc us Q (F0 m 1508 ls []) := by
  refine lv_aload_n S.1 S.2.1 dL_law_1508 rfl (lv_at hl 1 rfl) ?_
  refine lv_aload_n S.1 S.2.1 dL_law_1509 rfl (lv_at hl 0 rfl) ?_
  refine lv_iload S.1 S.2.1 dL_law_1510 (lv_at hl 5 rfl) ?_
  refine lv_iconst (v := 1) S.1 S.2.1 dL_law_1512 (by decide) ?_
  refine lv_iadd S.1 S.2.1 dL_law_1513 ?_
  refine va_sld S.1 S.2.1 hX hbl hbA hS h1 dL_law_1514 ?_
  rw [e1]
  refine lv_aload_n S.1 S.2.1 dL_law_1515 rfl (lv_at hl 0 rfl) ?_
  refine lv_iload S.1 S.2.1 dL_law_1516 (lv_at hl 5 rfl) ?_
  refine lv_iconst (v := 2) S.1 S.2.1 dL_law_1518 (by decide) ?_
  refine lv_iadd S.1 S.2.1 dL_law_1519 ?_
  refine va_sld S.1 S.2.1 hX hbl hbA hS h2 dL_law_1520 ?_
  rw [e2]
  refine lv_aload_n S.1 S.2.1 dL_law_1521 rfl (lv_at hl 3 rfl) ?_
  obtain ⟨mc, ms, hm1, hm2, h⟩ := h
  refine r_callSW (rest := []) S hg hS (mtL_rollBack (mc := mc) (ms := ms) hfl h) u896 u897 u42 u898 hdL_rollBack hw ⟨Nat.le_of_ble_eq_true rfl, Nat.le_of_ble_eq_true rfl⟩ ⟨hm1, hm2⟩ hl.1 (Nat.le_of_ble_eq_true rfl) rfl dL_law_1522 (fun rv H locs hq hS => ?_)
  obtain ⟨k, K1, o1, od1, ad1, rfl, h, hA, hw⟩ := hq
  show W p l e _ s m _ below meth c H locs (uc + mc) (us + ms) _ (F0 m 1525 ls [.int k])
  rw [hA.1, hA.2.1, hA.2.2.1, hA.2.2.2] at hl
  refine lv_istore (lv' := [(6, .int k), (0, .ref b), (1, .ref (ad1 0 0)), (2, .ref (ad1 3 0)), (3, .ref (ad1 14 0)), (4, .ref (ad1 15 0)), (5, .int x5)]) S.1 S.2.1 dL_law_1525 hl (by decide) rfl (fun ls hl => ?_)
  refine lv_aload_n S.1 S.2.1 dL_law_1527 rfl (lv_at hl 3 rfl) ?_
  refine lv_aload_n S.1 S.2.1 dL_law_1528 rfl (lv_at hl 1 rfl) ?_
  refine lv_iload S.1 S.2.1 dL_law_1529 (lv_at hl 6 rfl) ?_
  refine lv_iconst (v := 1) S.1 S.2.1 dL_law_1531 (by decide) ?_
  refine lv_iadd S.1 S.2.1 dL_law_1532 ?_
  refine va_sld S.1 S.2.1 hX hbl hbA hS h1 dL_law_1533 ?_
  rw [e1]
  refine lv_aload_n S.1 S.2.1 dL_law_1534 rfl (lv_at hl 1 rfl) ?_
  refine lv_iload S.1 S.2.1 dL_law_1535 (lv_at hl 6 rfl) ?_
  refine lv_iconst (v := 2) S.1 S.2.1 dL_law_1537 (by decide) ?_
  refine lv_iadd S.1 S.2.1 dL_law_1538 ?_
  refine va_sld S.1 S.2.1 hX hbl hbA hS h2 dL_law_1539 ?_
  rw [e2]
  refine r_call (rest := []) S hg hS (mtX7_rollBack (mc := 0) (ms := 0) h) u1311 u1312 u1313 u49 u1314 hdX7_rollBack (rv3 hg hw) hw ⟨Nat.le_of_ble_eq_true rfl, Nat.le_of_ble_eq_true rfl⟩ ⟨by show (uc + mc) + 0 ≤ 603072; omega, by show (us + ms) + 0 ≤ 7190634; omega⟩ hl.1 (Nat.le_of_ble_eq_true rfl) rfl dL_law_1540 (fun E ce q H1 locs1 hx hS1 hc1 hc2 hc3 => hx.elim) (fun rv H locs hq hS => ?_)
  obtain ⟨b1, M1, ap1, rfl, h, hw⟩ := hq
  show W p l e _ s m _ below meth c H locs (uc + mc) (us + ms) _ (F0 m 1543 ls [.int b1])
  refine lv_istore (lv' := [(7, .int b1), (6, .int k), (0, .ref b), (1, .ref (ad1 0 0)), (2, .ref (ad1 3 0)), (3, .ref (ad1 14 0)), (4, .ref (ad1 15 0)), (5, .int x5)]) S.1 S.2.1 dL_law_1543 hl (by decide) rfl (fun ls hl => ?_)
  refine lv_aload_n S.1 S.2.1 dL_law_1545 rfl (lv_at hl 4 rfl) ?_
  refine r_call (rest := []) S hg hS (mtX7_thrown (mc := 0) (ms := 0) h) u1160 u1161 u1162 u49 u1163 hdX7_thrown (rv3 hg hw) hw ⟨Nat.le_of_ble_eq_true rfl, Nat.le_of_ble_eq_true rfl⟩ ⟨by show (uc + mc) + 0 ≤ 603072; omega, by show (us + ms) + 0 ≤ 7190634; omega⟩ hl.1 (Nat.le_of_ble_eq_true rfl) rfl dL_law_1546 (fun E ce q H1 locs1 hx hS1 hc1 hc2 hc3 => hx.elim) (fun rv H locs hq hS => ?_)
  obtain ⟨r1, rfl, h, hw⟩ := hq
  obtain ⟨hr1, hr2, hI⟩ := h
  show W p l e _ s m _ below meth c H locs (uc + mc) (us + ms) _ (F0 m 1549 ls [.int r1])
  refine lv_iload S.1 S.2.1 dL_law_1549 (lv_at hl 1 rfl) ?_
  refine lv_icmp_eq (tgt := 1556) S.1 S.2.1 dL_law_1551 (by decide) (fun c1 => ?_) (fun c1 => absurd hr1 c1)
  refine lv_iload S.1 S.2.1 dL_law_1556 (lv_at hl 1 rfl) ?_
  refine lv_if_ne (tgt := 1573) S.1 S.2.1 dL_law_1558 (by decide) (fun c1 => ?_) (fun c1 => ?_)
  · refine lv_goto (tgt := 1973) S.1 S.2.1 dL_law_1573 (by decide) ?_
    exact kk (ad' := ad1) (hI) hw hS (lv_sub hl (l' := [(0, .ref b), (1, .ref (ad1 0 0)), (2, .ref (ad1 3 0)), (3, .ref (ad1 14 0)), (4, .ref (ad1 15 0)), (5, .int x5)]) [2, 3, 4, 5, 6, 7] rfl)
  · refine lv_aload_n S.1 S.2.1 dL_law_1561 rfl (lv_at hl 5 rfl) ?_
    refine lv_iconst (v := 0) S.1 S.2.1 dL_law_1562 (by decide) ?_
    refine l14 S hg hw rfl dL_law_1563 ?_
    refine lv_iload S.1 S.2.1 dL_law_1564 (lv_at hl 0 rfl) ?_
    refine lv_i2l S.1 S.2.1 dL_law_1566 rfl ?_
    refine W.lcmp S.1 S.2.1 dL_law_1567 ?_
    rw [hr2 c1, lg_cmp_self]
    refine lv_if_eq (tgt := 1573) S.1 S.2.1 dL_law_1568 (by decide) (fun c1 => ?_) (fun c1 => absurd rfl c1)
    refine lv_goto (tgt := 1973) S.1 S.2.1 dL_law_1573 (by decide) ?_
    exact kk (ad' := ad1) (hI) hw hS (lv_sub hl (l' := [(0, .ref b), (1, .ref (ad1 0 0)), (2, .ref (ad1 3 0)), (3, .ref (ad1 14 0)), (4, .ref (ad1 15 0)), (5, .int x5)]) [2, 3, 4, 5, 6, 7] rfl)
def st_offer (I : Nat → Nat → KS → KS → Int64 → Prop) (uc us : Nat) (K M : KS) (ap o : Int64) (od : UInt64) (p1 : Int32) (p2 : Int32) : Prop := ∃ mc ms : Nat, uc + mc ≤ 603072 ∧ us + ms ≤ 7190634 ∧ wpL_offer (fun k K1 o1 od1 => wpX7_offer (fun b1 M1 ap1 => wpX7_thrown (fun r1 => r1 = k ∧ (k = 0 → o1 = b1.toInt64) ∧ I (uc + mc) (us + ms) K1 M1 ap1) M1 ap1) M ap p1 p2) mc ms K o od p1 p2
set_option maxHeartbeats 4000000 in
theorem lc_offer {p : Program} {l : Launch} {e : Env} {s : State} {m : MethodId} {args : Array Value} {below : List Frame} {meth : Method} {c : Code} {D : va_G} {cI : Nat → ClassId} {e0 : Nat} {A : Nat → Prop} {ad : Nat → Nat → Nat} {K M : KS} {ap o : Int64} {od : UInt64} {H : Heap} {locs : List Loc} {ls : Array Slot} {uc us b n5 : Nat} {xs : Nat → Int32} {x5 : Int32} {Q : State → Prop} {I : Nat → Nat → KS → KS → Int64 → Prop} {L : Nat} (hfl : l.stackTraces = false) (S : CallFix p m c cL_law 9 s args WU RL) (hg : GI D cI e0 A s s.heap) (hX : va_X b L xs s s.heap) (hbl : b < s.heap.size) (hbA : ¬ A b) (h1 : vp_in (x5 + 1) L) (e1 : xs (x5 + 1).toNatClampNeg = xs (n5 + 1)) (h2 : vp_in (x5 + 2) L) (e2 : xs (x5 + 2).toNatClampNeg = xs (n5 + 2)) (hS : va_S A s.heap H locs) (hw : HT D cI e0 A ad K M ap o od H) (hl : lv_has ls 9 [(0, .ref b), (1, .ref (ad 0 0)), (2, .ref (ad 3 0)), (3, .ref (ad 14 0)), (4, .ref (ad 15 0)), (5, .int x5)]) (h : st_offer I uc us K M ap o od (xs (n5 + 1)) (xs (n5 + 2)))
    (kk : ∀ {uc1 us1 : Nat} {K1 M1 : KS} {ap1 o1 : Int64} {od1 : UInt64} {ad' : Nat → Nat → Nat} {H1 : Heap} {locs1 : List Loc} {ls1 : Array Slot}, I uc1 us1 K1 M1 ap1 → HT D cI e0 A ad' K1 M1 ap1 o1 od1 H1 → va_S A s.heap H1 locs1 → lv_has ls1 9 [(0, .ref b), (1, .ref (ad' 0 0)), (2, .ref (ad' 3 0)), (3, .ref (ad' 14 0)), (4, .ref (ad' 15 0)), (5, .int x5)] → W p l e room_1 s m args below meth c H1 locs1 uc1 us1 Q (F0 m 1973 ls1 [])) : W p l e room_1 s m args below meth c H locs uc us Q (F0 m 1576 ls []) := by
  refine lv_aload_n S.1 S.2.1 dL_law_1576 rfl (lv_at hl 1 rfl) ?_
  refine lv_aload_n S.1 S.2.1 dL_law_1577 rfl (lv_at hl 0 rfl) ?_
  refine lv_iload S.1 S.2.1 dL_law_1578 (lv_at hl 5 rfl) ?_
  refine lv_iconst (v := 1) S.1 S.2.1 dL_law_1580 (by decide) ?_
  refine lv_iadd S.1 S.2.1 dL_law_1581 ?_
  refine va_sld S.1 S.2.1 hX hbl hbA hS h1 dL_law_1582 ?_
  rw [e1]
  refine lv_aload_n S.1 S.2.1 dL_law_1583 rfl (lv_at hl 0 rfl) ?_
  refine lv_iload S.1 S.2.1 dL_law_1584 (lv_at hl 5 rfl) ?_
  refine lv_iconst (v := 2) S.1 S.2.1 dL_law_1586 (by decide) ?_
  refine lv_iadd S.1 S.2.1 dL_law_1587 ?_
  refine va_sld S.1 S.2.1 hX hbl hbA hS h2 dL_law_1588 ?_
  rw [e2]
  refine lv_aload_n S.1 S.2.1 dL_law_1589 rfl (lv_at hl 3 rfl) ?_
  obtain ⟨mc, ms, hm1, hm2, h⟩ := h
  refine r_callSW (rest := []) S hg hS (mtL_offer (mc := mc) (ms := ms) hfl h) u930 u931 u42 u932 hdL_offer hw ⟨Nat.le_of_ble_eq_true rfl, Nat.le_of_ble_eq_true rfl⟩ ⟨hm1, hm2⟩ hl.1 (Nat.le_of_ble_eq_true rfl) rfl dL_law_1590 (fun rv H locs hq hS => ?_)
  obtain ⟨k, K1, o1, od1, ad1, rfl, h, hA, hw⟩ := hq
  show W p l e _ s m _ below meth c H locs (uc + mc) (us + ms) _ (F0 m 1593 ls [.int k])
  rw [hA.1, hA.2.1, hA.2.2.1, hA.2.2.2] at hl
  refine lv_istore (lv' := [(6, .int k), (0, .ref b), (1, .ref (ad1 0 0)), (2, .ref (ad1 3 0)), (3, .ref (ad1 14 0)), (4, .ref (ad1 15 0)), (5, .int x5)]) S.1 S.2.1 dL_law_1593 hl (by decide) rfl (fun ls hl => ?_)
  refine lv_aload_n S.1 S.2.1 dL_law_1595 rfl (lv_at hl 3 rfl) ?_
  refine lv_aload_n S.1 S.2.1 dL_law_1596 rfl (lv_at hl 1 rfl) ?_
  refine lv_iload S.1 S.2.1 dL_law_1597 (lv_at hl 6 rfl) ?_
  refine lv_iconst (v := 1) S.1 S.2.1 dL_law_1599 (by decide) ?_
  refine lv_iadd S.1 S.2.1 dL_law_1600 ?_
  refine va_sld S.1 S.2.1 hX hbl hbA hS h1 dL_law_1601 ?_
  rw [e1]
  refine lv_aload_n S.1 S.2.1 dL_law_1602 rfl (lv_at hl 1 rfl) ?_
  refine lv_iload S.1 S.2.1 dL_law_1603 (lv_at hl 6 rfl) ?_
  refine lv_iconst (v := 2) S.1 S.2.1 dL_law_1605 (by decide) ?_
  refine lv_iadd S.1 S.2.1 dL_law_1606 ?_
  refine va_sld S.1 S.2.1 hX hbl hbA hS h2 dL_law_1607 ?_
  rw [e2]
  refine r_call (rest := []) S hg hS (mtX7_offer (mc := 0) (ms := 0) h) u1323 u1324 u1325 u49 u1326 hdX7_offer (rv3 hg hw) hw ⟨Nat.le_of_ble_eq_true rfl, Nat.le_of_ble_eq_true rfl⟩ ⟨by show (uc + mc) + 0 ≤ 603072; omega, by show (us + ms) + 0 ≤ 7190634; omega⟩ hl.1 (Nat.le_of_ble_eq_true rfl) rfl dL_law_1608 (fun E ce q H1 locs1 hx hS1 hc1 hc2 hc3 => hx.elim) (fun rv H locs hq hS => ?_)
  obtain ⟨b1, M1, ap1, rfl, h, hw⟩ := hq
  show W p l e _ s m _ below meth c H locs (uc + mc) (us + ms) _ (F0 m 1611 ls [.int b1])
  refine lv_istore (lv' := [(7, .int b1), (6, .int k), (0, .ref b), (1, .ref (ad1 0 0)), (2, .ref (ad1 3 0)), (3, .ref (ad1 14 0)), (4, .ref (ad1 15 0)), (5, .int x5)]) S.1 S.2.1 dL_law_1611 hl (by decide) rfl (fun ls hl => ?_)
  refine lv_aload_n S.1 S.2.1 dL_law_1613 rfl (lv_at hl 4 rfl) ?_
  refine r_call (rest := []) S hg hS (mtX7_thrown (mc := 0) (ms := 0) h) u1160 u1161 u1162 u49 u1163 hdX7_thrown (rv3 hg hw) hw ⟨Nat.le_of_ble_eq_true rfl, Nat.le_of_ble_eq_true rfl⟩ ⟨by show (uc + mc) + 0 ≤ 603072; omega, by show (us + ms) + 0 ≤ 7190634; omega⟩ hl.1 (Nat.le_of_ble_eq_true rfl) rfl dL_law_1614 (fun E ce q H1 locs1 hx hS1 hc1 hc2 hc3 => hx.elim) (fun rv H locs hq hS => ?_)
  obtain ⟨r1, rfl, h, hw⟩ := hq
  obtain ⟨hr1, hr2, hI⟩ := h
  show W p l e _ s m _ below meth c H locs (uc + mc) (us + ms) _ (F0 m 1617 ls [.int r1])
  refine lv_iload S.1 S.2.1 dL_law_1617 (lv_at hl 1 rfl) ?_
  refine lv_icmp_eq (tgt := 1624) S.1 S.2.1 dL_law_1619 (by decide) (fun c1 => ?_) (fun c1 => absurd hr1 c1)
  refine lv_iload S.1 S.2.1 dL_law_1624 (lv_at hl 1 rfl) ?_
  refine lv_if_ne (tgt := 1641) S.1 S.2.1 dL_law_1626 (by decide) (fun c1 => ?_) (fun c1 => ?_)
  · refine lv_goto (tgt := 1973) S.1 S.2.1 dL_law_1641 (by decide) ?_
    exact kk (ad' := ad1) (hI) hw hS (lv_sub hl (l' := [(0, .ref b), (1, .ref (ad1 0 0)), (2, .ref (ad1 3 0)), (3, .ref (ad1 14 0)), (4, .ref (ad1 15 0)), (5, .int x5)]) [2, 3, 4, 5, 6, 7] rfl)
  · refine lv_aload_n S.1 S.2.1 dL_law_1629 rfl (lv_at hl 5 rfl) ?_
    refine lv_iconst (v := 0) S.1 S.2.1 dL_law_1630 (by decide) ?_
    refine l14 S hg hw rfl dL_law_1631 ?_
    refine lv_iload S.1 S.2.1 dL_law_1632 (lv_at hl 0 rfl) ?_
    refine lv_i2l S.1 S.2.1 dL_law_1634 rfl ?_
    refine W.lcmp S.1 S.2.1 dL_law_1635 ?_
    rw [hr2 c1, lg_cmp_self]
    refine lv_if_eq (tgt := 1641) S.1 S.2.1 dL_law_1636 (by decide) (fun c1 => ?_) (fun c1 => absurd rfl c1)
    refine lv_goto (tgt := 1973) S.1 S.2.1 dL_law_1641 (by decide) ?_
    exact kk (ad' := ad1) (hI) hw hS (lv_sub hl (l' := [(0, .ref b), (1, .ref (ad1 0 0)), (2, .ref (ad1 3 0)), (3, .ref (ad1 14 0)), (4, .ref (ad1 15 0)), (5, .int x5)]) [2, 3, 4, 5, 6, 7] rfl)
def st_withdraw (I : Nat → Nat → KS → KS → Int64 → Prop) (uc us : Nat) (K M : KS) (ap o : Int64) (od : UInt64) (p1 : Int32) : Prop := ∃ mc ms : Nat, uc + mc ≤ 603072 ∧ us + ms ≤ 7190634 ∧ wpL_withdraw (fun k K1 o1 od1 => wpX7_withdraw (fun b1 M1 ap1 => wpX7_thrown (fun r1 => r1 = k ∧ (k = 0 → o1 = b1.toInt64) ∧ I (uc + mc) (us + ms) K1 M1 ap1) M1 ap1) M ap p1) mc ms K o od p1
set_option maxHeartbeats 4000000 in
theorem lc_withdraw {p : Program} {l : Launch} {e : Env} {s : State} {m : MethodId} {args : Array Value} {below : List Frame} {meth : Method} {c : Code} {D : va_G} {cI : Nat → ClassId} {e0 : Nat} {A : Nat → Prop} {ad : Nat → Nat → Nat} {K M : KS} {ap o : Int64} {od : UInt64} {H : Heap} {locs : List Loc} {ls : Array Slot} {uc us b n5 : Nat} {xs : Nat → Int32} {x5 : Int32} {Q : State → Prop} {I : Nat → Nat → KS → KS → Int64 → Prop} {L : Nat} (hfl : l.stackTraces = false) (S : CallFix p m c cL_law 9 s args WU RL) (hg : GI D cI e0 A s s.heap) (hX : va_X b L xs s s.heap) (hbl : b < s.heap.size) (hbA : ¬ A b) (h1 : vp_in (x5 + 1) L) (e1 : xs (x5 + 1).toNatClampNeg = xs (n5 + 1)) (hS : va_S A s.heap H locs) (hw : HT D cI e0 A ad K M ap o od H) (hl : lv_has ls 9 [(0, .ref b), (1, .ref (ad 0 0)), (2, .ref (ad 3 0)), (3, .ref (ad 14 0)), (4, .ref (ad 15 0)), (5, .int x5)]) (h : st_withdraw I uc us K M ap o od (xs (n5 + 1)))
    (kk : ∀ {uc1 us1 : Nat} {K1 M1 : KS} {ap1 o1 : Int64} {od1 : UInt64} {ad' : Nat → Nat → Nat} {H1 : Heap} {locs1 : List Loc} {ls1 : Array Slot}, I uc1 us1 K1 M1 ap1 → HT D cI e0 A ad' K1 M1 ap1 o1 od1 H1 → va_S A s.heap H1 locs1 → lv_has ls1 9 [(0, .ref b), (1, .ref (ad' 0 0)), (2, .ref (ad' 3 0)), (3, .ref (ad' 14 0)), (4, .ref (ad' 15 0)), (5, .int x5)] → W p l e room_1 s m args below meth c H1 locs1 uc1 us1 Q (F0 m 1973 ls1 [])) : W p l e room_1 s m args below meth c H locs uc us Q (F0 m 1644 ls []) := by
  refine lv_aload_n S.1 S.2.1 dL_law_1644 rfl (lv_at hl 1 rfl) ?_
  refine lv_aload_n S.1 S.2.1 dL_law_1645 rfl (lv_at hl 0 rfl) ?_
  refine lv_iload S.1 S.2.1 dL_law_1646 (lv_at hl 5 rfl) ?_
  refine lv_iconst (v := 1) S.1 S.2.1 dL_law_1648 (by decide) ?_
  refine lv_iadd S.1 S.2.1 dL_law_1649 ?_
  refine va_sld S.1 S.2.1 hX hbl hbA hS h1 dL_law_1650 ?_
  rw [e1]
  refine lv_aload_n S.1 S.2.1 dL_law_1651 rfl (lv_at hl 3 rfl) ?_
  obtain ⟨mc, ms, hm1, hm2, h⟩ := h
  refine r_callSW (rest := []) S hg hS (mtL_withdraw (mc := mc) (ms := ms) hfl h) u969 u970 u42 u971 hdL_withdraw hw ⟨Nat.le_of_ble_eq_true rfl, Nat.le_of_ble_eq_true rfl⟩ ⟨hm1, hm2⟩ hl.1 (Nat.le_of_ble_eq_true rfl) rfl dL_law_1652 (fun rv H locs hq hS => ?_)
  obtain ⟨k, K1, o1, od1, ad1, rfl, h, hA, hw⟩ := hq
  show W p l e _ s m _ below meth c H locs (uc + mc) (us + ms) _ (F0 m 1655 ls [.int k])
  rw [hA.1, hA.2.1, hA.2.2.1, hA.2.2.2] at hl
  refine lv_istore (lv' := [(6, .int k), (0, .ref b), (1, .ref (ad1 0 0)), (2, .ref (ad1 3 0)), (3, .ref (ad1 14 0)), (4, .ref (ad1 15 0)), (5, .int x5)]) S.1 S.2.1 dL_law_1655 hl (by decide) rfl (fun ls hl => ?_)
  refine lv_aload_n S.1 S.2.1 dL_law_1657 rfl (lv_at hl 3 rfl) ?_
  refine lv_aload_n S.1 S.2.1 dL_law_1658 rfl (lv_at hl 1 rfl) ?_
  refine lv_iload S.1 S.2.1 dL_law_1659 (lv_at hl 6 rfl) ?_
  refine lv_iconst (v := 1) S.1 S.2.1 dL_law_1661 (by decide) ?_
  refine lv_iadd S.1 S.2.1 dL_law_1662 ?_
  refine va_sld S.1 S.2.1 hX hbl hbA hS h1 dL_law_1663 ?_
  rw [e1]
  refine r_call (rest := []) S hg hS (mtX7_withdraw (mc := 0) (ms := 0) h) u1327 u1328 u1329 u49 u1330 hdX7_withdraw (rv3 hg hw) hw ⟨Nat.le_of_ble_eq_true rfl, Nat.le_of_ble_eq_true rfl⟩ ⟨by show (uc + mc) + 0 ≤ 603072; omega, by show (us + ms) + 0 ≤ 7190634; omega⟩ hl.1 (Nat.le_of_ble_eq_true rfl) rfl dL_law_1664 (fun E ce q H1 locs1 hx hS1 hc1 hc2 hc3 => hx.elim) (fun rv H locs hq hS => ?_)
  obtain ⟨b1, M1, ap1, rfl, h, hw⟩ := hq
  show W p l e _ s m _ below meth c H locs (uc + mc) (us + ms) _ (F0 m 1667 ls [.int b1])
  refine lv_istore (lv' := [(7, .int b1), (6, .int k), (0, .ref b), (1, .ref (ad1 0 0)), (2, .ref (ad1 3 0)), (3, .ref (ad1 14 0)), (4, .ref (ad1 15 0)), (5, .int x5)]) S.1 S.2.1 dL_law_1667 hl (by decide) rfl (fun ls hl => ?_)
  refine lv_aload_n S.1 S.2.1 dL_law_1669 rfl (lv_at hl 4 rfl) ?_
  refine r_call (rest := []) S hg hS (mtX7_thrown (mc := 0) (ms := 0) h) u1160 u1161 u1162 u49 u1163 hdX7_thrown (rv3 hg hw) hw ⟨Nat.le_of_ble_eq_true rfl, Nat.le_of_ble_eq_true rfl⟩ ⟨by show (uc + mc) + 0 ≤ 603072; omega, by show (us + ms) + 0 ≤ 7190634; omega⟩ hl.1 (Nat.le_of_ble_eq_true rfl) rfl dL_law_1670 (fun E ce q H1 locs1 hx hS1 hc1 hc2 hc3 => hx.elim) (fun rv H locs hq hS => ?_)
  obtain ⟨r1, rfl, h, hw⟩ := hq
  obtain ⟨hr1, hr2, hI⟩ := h
  show W p l e _ s m _ below meth c H locs (uc + mc) (us + ms) _ (F0 m 1673 ls [.int r1])
  refine lv_iload S.1 S.2.1 dL_law_1673 (lv_at hl 1 rfl) ?_
  refine lv_icmp_eq (tgt := 1680) S.1 S.2.1 dL_law_1675 (by decide) (fun c1 => ?_) (fun c1 => absurd hr1 c1)
  refine lv_iload S.1 S.2.1 dL_law_1680 (lv_at hl 1 rfl) ?_
  refine lv_if_ne (tgt := 1697) S.1 S.2.1 dL_law_1682 (by decide) (fun c1 => ?_) (fun c1 => ?_)
  · refine lv_goto (tgt := 1973) S.1 S.2.1 dL_law_1697 (by decide) ?_
    exact kk (ad' := ad1) (hI) hw hS (lv_sub hl (l' := [(0, .ref b), (1, .ref (ad1 0 0)), (2, .ref (ad1 3 0)), (3, .ref (ad1 14 0)), (4, .ref (ad1 15 0)), (5, .int x5)]) [2, 3, 4, 5, 6, 7] rfl)
  · refine lv_aload_n S.1 S.2.1 dL_law_1685 rfl (lv_at hl 5 rfl) ?_
    refine lv_iconst (v := 0) S.1 S.2.1 dL_law_1686 (by decide) ?_
    refine l14 S hg hw rfl dL_law_1687 ?_
    refine lv_iload S.1 S.2.1 dL_law_1688 (lv_at hl 0 rfl) ?_
    refine lv_i2l S.1 S.2.1 dL_law_1690 rfl ?_
    refine W.lcmp S.1 S.2.1 dL_law_1691 ?_
    rw [hr2 c1, lg_cmp_self]
    refine lv_if_eq (tgt := 1697) S.1 S.2.1 dL_law_1692 (by decide) (fun c1 => ?_) (fun c1 => absurd rfl c1)
    refine lv_goto (tgt := 1973) S.1 S.2.1 dL_law_1697 (by decide) ?_
    exact kk (ad' := ad1) (hI) hw hS (lv_sub hl (l' := [(0, .ref b), (1, .ref (ad1 0 0)), (2, .ref (ad1 3 0)), (3, .ref (ad1 14 0)), (4, .ref (ad1 15 0)), (5, .int x5)]) [2, 3, 4, 5, 6, 7] rfl)
def st_buy (I : Nat → Nat → KS → KS → Int64 → Prop) (uc us : Nat) (K M : KS) (ap o : Int64) (od : UInt64) (p1 : Int32) (p2 : Int32) : Prop := ∃ mc ms : Nat, uc + mc ≤ 603072 ∧ us + ms ≤ 7190634 ∧ wpL_buy (fun k K1 o1 od1 => wpX7_buy (fun b1 M1 ap1 => wpX7_thrown (fun r1 => r1 = k ∧ (k = 0 → o1 = b1.toInt64) ∧ I (uc + mc) (us + ms) K1 M1 ap1) M1 ap1) M ap p1 p2) mc ms K o od p1 p2
set_option maxHeartbeats 4000000 in
theorem lc_buy {p : Program} {l : Launch} {e : Env} {s : State} {m : MethodId} {args : Array Value} {below : List Frame} {meth : Method} {c : Code} {D : va_G} {cI : Nat → ClassId} {e0 : Nat} {A : Nat → Prop} {ad : Nat → Nat → Nat} {K M : KS} {ap o : Int64} {od : UInt64} {H : Heap} {locs : List Loc} {ls : Array Slot} {uc us b n5 : Nat} {xs : Nat → Int32} {x5 : Int32} {Q : State → Prop} {I : Nat → Nat → KS → KS → Int64 → Prop} {L : Nat} (hfl : l.stackTraces = false) (S : CallFix p m c cL_law 9 s args WU RL) (hg : GI D cI e0 A s s.heap) (hX : va_X b L xs s s.heap) (hbl : b < s.heap.size) (hbA : ¬ A b) (h1 : vp_in (x5 + 1) L) (e1 : xs (x5 + 1).toNatClampNeg = xs (n5 + 1)) (h2 : vp_in (x5 + 2) L) (e2 : xs (x5 + 2).toNatClampNeg = xs (n5 + 2)) (hS : va_S A s.heap H locs) (hw : HT D cI e0 A ad K M ap o od H) (hl : lv_has ls 9 [(0, .ref b), (1, .ref (ad 0 0)), (2, .ref (ad 3 0)), (3, .ref (ad 14 0)), (4, .ref (ad 15 0)), (5, .int x5)]) (h : st_buy I uc us K M ap o od (xs (n5 + 1)) (xs (n5 + 2)))
    (kk : ∀ {uc1 us1 : Nat} {K1 M1 : KS} {ap1 o1 : Int64} {od1 : UInt64} {ad' : Nat → Nat → Nat} {H1 : Heap} {locs1 : List Loc} {ls1 : Array Slot}, I uc1 us1 K1 M1 ap1 → HT D cI e0 A ad' K1 M1 ap1 o1 od1 H1 → va_S A s.heap H1 locs1 → lv_has ls1 9 [(0, .ref b), (1, .ref (ad' 0 0)), (2, .ref (ad' 3 0)), (3, .ref (ad' 14 0)), (4, .ref (ad' 15 0)), (5, .int x5)] → W p l e room_1 s m args below meth c H1 locs1 uc1 us1 Q (F0 m 1973 ls1 [])) : W p l e room_1 s m args below meth c H locs uc us Q (F0 m 1700 ls []) := by
  refine lv_aload_n S.1 S.2.1 dL_law_1700 rfl (lv_at hl 1 rfl) ?_
  refine lv_aload_n S.1 S.2.1 dL_law_1701 rfl (lv_at hl 0 rfl) ?_
  refine lv_iload S.1 S.2.1 dL_law_1702 (lv_at hl 5 rfl) ?_
  refine lv_iconst (v := 1) S.1 S.2.1 dL_law_1704 (by decide) ?_
  refine lv_iadd S.1 S.2.1 dL_law_1705 ?_
  refine va_sld S.1 S.2.1 hX hbl hbA hS h1 dL_law_1706 ?_
  rw [e1]
  refine lv_aload_n S.1 S.2.1 dL_law_1707 rfl (lv_at hl 0 rfl) ?_
  refine lv_iload S.1 S.2.1 dL_law_1708 (lv_at hl 5 rfl) ?_
  refine lv_iconst (v := 2) S.1 S.2.1 dL_law_1710 (by decide) ?_
  refine lv_iadd S.1 S.2.1 dL_law_1711 ?_
  refine va_sld S.1 S.2.1 hX hbl hbA hS h2 dL_law_1712 ?_
  rw [e2]
  refine lv_aload_n S.1 S.2.1 dL_law_1713 rfl (lv_at hl 3 rfl) ?_
  obtain ⟨mc, ms, hm1, hm2, h⟩ := h
  refine r_callSW (rest := []) S hg hS (mtL_buy (mc := mc) (ms := ms) hfl h) u982 u983 u42 u984 hdL_buy hw ⟨Nat.le_of_ble_eq_true rfl, Nat.le_of_ble_eq_true rfl⟩ ⟨hm1, hm2⟩ hl.1 (Nat.le_of_ble_eq_true rfl) rfl dL_law_1714 (fun rv H locs hq hS => ?_)
  obtain ⟨k, K1, o1, od1, ad1, rfl, h, hA, hw⟩ := hq
  show W p l e _ s m _ below meth c H locs (uc + mc) (us + ms) _ (F0 m 1717 ls [.int k])
  rw [hA.1, hA.2.1, hA.2.2.1, hA.2.2.2] at hl
  refine lv_istore (lv' := [(6, .int k), (0, .ref b), (1, .ref (ad1 0 0)), (2, .ref (ad1 3 0)), (3, .ref (ad1 14 0)), (4, .ref (ad1 15 0)), (5, .int x5)]) S.1 S.2.1 dL_law_1717 hl (by decide) rfl (fun ls hl => ?_)
  refine lv_aload_n S.1 S.2.1 dL_law_1719 rfl (lv_at hl 3 rfl) ?_
  refine lv_aload_n S.1 S.2.1 dL_law_1720 rfl (lv_at hl 1 rfl) ?_
  refine lv_iload S.1 S.2.1 dL_law_1721 (lv_at hl 6 rfl) ?_
  refine lv_iconst (v := 1) S.1 S.2.1 dL_law_1723 (by decide) ?_
  refine lv_iadd S.1 S.2.1 dL_law_1724 ?_
  refine va_sld S.1 S.2.1 hX hbl hbA hS h1 dL_law_1725 ?_
  rw [e1]
  refine lv_aload_n S.1 S.2.1 dL_law_1726 rfl (lv_at hl 1 rfl) ?_
  refine lv_iload S.1 S.2.1 dL_law_1727 (lv_at hl 6 rfl) ?_
  refine lv_iconst (v := 2) S.1 S.2.1 dL_law_1729 (by decide) ?_
  refine lv_iadd S.1 S.2.1 dL_law_1730 ?_
  refine va_sld S.1 S.2.1 hX hbl hbA hS h2 dL_law_1731 ?_
  rw [e2]
  refine r_call (rest := []) S hg hS (mtX7_buy (mc := 0) (ms := 0) h) u1335 u1336 u1337 u49 u1338 hdX7_buy (rv3 hg hw) hw ⟨Nat.le_of_ble_eq_true rfl, Nat.le_of_ble_eq_true rfl⟩ ⟨by show (uc + mc) + 0 ≤ 603072; omega, by show (us + ms) + 0 ≤ 7190634; omega⟩ hl.1 (Nat.le_of_ble_eq_true rfl) rfl dL_law_1732 (fun E ce q H1 locs1 hx hS1 hc1 hc2 hc3 => hx.elim) (fun rv H locs hq hS => ?_)
  obtain ⟨b1, M1, ap1, rfl, h, hw⟩ := hq
  show W p l e _ s m _ below meth c H locs (uc + mc) (us + ms) _ (F0 m 1735 ls [.int b1])
  refine lv_istore (lv' := [(7, .int b1), (6, .int k), (0, .ref b), (1, .ref (ad1 0 0)), (2, .ref (ad1 3 0)), (3, .ref (ad1 14 0)), (4, .ref (ad1 15 0)), (5, .int x5)]) S.1 S.2.1 dL_law_1735 hl (by decide) rfl (fun ls hl => ?_)
  refine lv_aload_n S.1 S.2.1 dL_law_1737 rfl (lv_at hl 4 rfl) ?_
  refine r_call (rest := []) S hg hS (mtX7_thrown (mc := 0) (ms := 0) h) u1160 u1161 u1162 u49 u1163 hdX7_thrown (rv3 hg hw) hw ⟨Nat.le_of_ble_eq_true rfl, Nat.le_of_ble_eq_true rfl⟩ ⟨by show (uc + mc) + 0 ≤ 603072; omega, by show (us + ms) + 0 ≤ 7190634; omega⟩ hl.1 (Nat.le_of_ble_eq_true rfl) rfl dL_law_1738 (fun E ce q H1 locs1 hx hS1 hc1 hc2 hc3 => hx.elim) (fun rv H locs hq hS => ?_)
  obtain ⟨r1, rfl, h, hw⟩ := hq
  obtain ⟨hr1, hr2, hI⟩ := h
  show W p l e _ s m _ below meth c H locs (uc + mc) (us + ms) _ (F0 m 1741 ls [.int r1])
  refine lv_iload S.1 S.2.1 dL_law_1741 (lv_at hl 1 rfl) ?_
  refine lv_icmp_eq (tgt := 1748) S.1 S.2.1 dL_law_1743 (by decide) (fun c1 => ?_) (fun c1 => absurd hr1 c1)
  refine lv_iload S.1 S.2.1 dL_law_1748 (lv_at hl 1 rfl) ?_
  refine lv_if_ne (tgt := 1765) S.1 S.2.1 dL_law_1750 (by decide) (fun c1 => ?_) (fun c1 => ?_)
  · refine lv_goto (tgt := 1973) S.1 S.2.1 dL_law_1765 (by decide) ?_
    exact kk (ad' := ad1) (hI) hw hS (lv_sub hl (l' := [(0, .ref b), (1, .ref (ad1 0 0)), (2, .ref (ad1 3 0)), (3, .ref (ad1 14 0)), (4, .ref (ad1 15 0)), (5, .int x5)]) [2, 3, 4, 5, 6, 7] rfl)
  · refine lv_aload_n S.1 S.2.1 dL_law_1753 rfl (lv_at hl 5 rfl) ?_
    refine lv_iconst (v := 0) S.1 S.2.1 dL_law_1754 (by decide) ?_
    refine l14 S hg hw rfl dL_law_1755 ?_
    refine lv_iload S.1 S.2.1 dL_law_1756 (lv_at hl 0 rfl) ?_
    refine lv_i2l S.1 S.2.1 dL_law_1758 rfl ?_
    refine W.lcmp S.1 S.2.1 dL_law_1759 ?_
    rw [hr2 c1, lg_cmp_self]
    refine lv_if_eq (tgt := 1765) S.1 S.2.1 dL_law_1760 (by decide) (fun c1 => ?_) (fun c1 => absurd rfl c1)
    refine lv_goto (tgt := 1973) S.1 S.2.1 dL_law_1765 (by decide) ?_
    exact kk (ad' := ad1) (hI) hw hS (lv_sub hl (l' := [(0, .ref b), (1, .ref (ad1 0 0)), (2, .ref (ad1 3 0)), (3, .ref (ad1 14 0)), (4, .ref (ad1 15 0)), (5, .int x5)]) [2, 3, 4, 5, 6, 7] rfl)
def st_offerState (I : Nat → Nat → KS → KS → Int64 → Prop) (uc us : Nat) (K M : KS) (ap o : Int64) (od : UInt64) (p1 : Int32) : Prop := ∃ mc ms : Nat, uc + mc ≤ 603072 ∧ us + ms ≤ 7190634 ∧ wpL_offerState (fun k K1 o1 od1 => wpX7_offerState (fun b1 M1 ap1 => wpX7_thrown (fun r1 => r1 = k ∧ (k = 0 → o1 = b1.toInt64) ∧ I (uc + mc) (us + ms) K1 M1 ap1) M1 ap1) M ap p1) mc ms K o od p1
set_option maxHeartbeats 4000000 in
theorem lc_offerState {p : Program} {l : Launch} {e : Env} {s : State} {m : MethodId} {args : Array Value} {below : List Frame} {meth : Method} {c : Code} {D : va_G} {cI : Nat → ClassId} {e0 : Nat} {A : Nat → Prop} {ad : Nat → Nat → Nat} {K M : KS} {ap o : Int64} {od : UInt64} {H : Heap} {locs : List Loc} {ls : Array Slot} {uc us b n5 : Nat} {xs : Nat → Int32} {x5 : Int32} {Q : State → Prop} {I : Nat → Nat → KS → KS → Int64 → Prop} {L : Nat} (hfl : l.stackTraces = false) (S : CallFix p m c cL_law 9 s args WU RL) (hg : GI D cI e0 A s s.heap) (hX : va_X b L xs s s.heap) (hbl : b < s.heap.size) (hbA : ¬ A b) (h1 : vp_in (x5 + 1) L) (e1 : xs (x5 + 1).toNatClampNeg = xs (n5 + 1)) (hS : va_S A s.heap H locs) (hw : HT D cI e0 A ad K M ap o od H) (hl : lv_has ls 9 [(0, .ref b), (1, .ref (ad 0 0)), (2, .ref (ad 3 0)), (3, .ref (ad 14 0)), (4, .ref (ad 15 0)), (5, .int x5)]) (h : st_offerState I uc us K M ap o od (xs (n5 + 1)))
    (kk : ∀ {uc1 us1 : Nat} {K1 M1 : KS} {ap1 o1 : Int64} {od1 : UInt64} {ad' : Nat → Nat → Nat} {H1 : Heap} {locs1 : List Loc} {ls1 : Array Slot}, I uc1 us1 K1 M1 ap1 → HT D cI e0 A ad' K1 M1 ap1 o1 od1 H1 → va_S A s.heap H1 locs1 → lv_has ls1 9 [(0, .ref b), (1, .ref (ad' 0 0)), (2, .ref (ad' 3 0)), (3, .ref (ad' 14 0)), (4, .ref (ad' 15 0)), (5, .int x5)] → W p l e room_1 s m args below meth c H1 locs1 uc1 us1 Q (F0 m 1973 ls1 [])) : W p l e room_1 s m args below meth c H locs uc us Q (F0 m 1768 ls []) := by
  refine lv_aload_n S.1 S.2.1 dL_law_1768 rfl (lv_at hl 1 rfl) ?_
  refine lv_aload_n S.1 S.2.1 dL_law_1769 rfl (lv_at hl 0 rfl) ?_
  refine lv_iload S.1 S.2.1 dL_law_1770 (lv_at hl 5 rfl) ?_
  refine lv_iconst (v := 1) S.1 S.2.1 dL_law_1772 (by decide) ?_
  refine lv_iadd S.1 S.2.1 dL_law_1773 ?_
  refine va_sld S.1 S.2.1 hX hbl hbA hS h1 dL_law_1774 ?_
  rw [e1]
  refine lv_aload_n S.1 S.2.1 dL_law_1775 rfl (lv_at hl 3 rfl) ?_
  obtain ⟨mc, ms, hm1, hm2, h⟩ := h
  refine r_callSW (rest := []) S hg hS (mtL_offerState (mc := mc) (ms := ms) hfl h) u995 u996 u42 u997 hdL_offerState hw ⟨Nat.le_of_ble_eq_true rfl, Nat.le_of_ble_eq_true rfl⟩ ⟨hm1, hm2⟩ hl.1 (Nat.le_of_ble_eq_true rfl) rfl dL_law_1776 (fun rv H locs hq hS => ?_)
  obtain ⟨k, K1, o1, od1, ad1, rfl, h, hA, hw⟩ := hq
  show W p l e _ s m _ below meth c H locs (uc + mc) (us + ms) _ (F0 m 1779 ls [.int k])
  rw [hA.1, hA.2.1, hA.2.2.1, hA.2.2.2] at hl
  refine lv_istore (lv' := [(6, .int k), (0, .ref b), (1, .ref (ad1 0 0)), (2, .ref (ad1 3 0)), (3, .ref (ad1 14 0)), (4, .ref (ad1 15 0)), (5, .int x5)]) S.1 S.2.1 dL_law_1779 hl (by decide) rfl (fun ls hl => ?_)
  refine lv_aload_n S.1 S.2.1 dL_law_1781 rfl (lv_at hl 3 rfl) ?_
  refine lv_aload_n S.1 S.2.1 dL_law_1782 rfl (lv_at hl 1 rfl) ?_
  refine lv_iload S.1 S.2.1 dL_law_1783 (lv_at hl 6 rfl) ?_
  refine lv_iconst (v := 1) S.1 S.2.1 dL_law_1785 (by decide) ?_
  refine lv_iadd S.1 S.2.1 dL_law_1786 ?_
  refine va_sld S.1 S.2.1 hX hbl hbA hS h1 dL_law_1787 ?_
  rw [e1]
  refine r_call (rest := []) S hg hS (mtX7_offerState (mc := 0) (ms := 0) h) u1339 u1340 u1341 u49 u1342 hdX7_offerState (rv3 hg hw) hw ⟨Nat.le_of_ble_eq_true rfl, Nat.le_of_ble_eq_true rfl⟩ ⟨by show (uc + mc) + 0 ≤ 603072; omega, by show (us + ms) + 0 ≤ 7190634; omega⟩ hl.1 (Nat.le_of_ble_eq_true rfl) rfl dL_law_1788 (fun E ce q H1 locs1 hx hS1 hc1 hc2 hc3 => hx.elim) (fun rv H locs hq hS => ?_)
  obtain ⟨b1, M1, ap1, rfl, h, hw⟩ := hq
  show W p l e _ s m _ below meth c H locs (uc + mc) (us + ms) _ (F0 m 1791 ls [.int b1])
  refine lv_istore (lv' := [(7, .int b1), (6, .int k), (0, .ref b), (1, .ref (ad1 0 0)), (2, .ref (ad1 3 0)), (3, .ref (ad1 14 0)), (4, .ref (ad1 15 0)), (5, .int x5)]) S.1 S.2.1 dL_law_1791 hl (by decide) rfl (fun ls hl => ?_)
  refine lv_aload_n S.1 S.2.1 dL_law_1793 rfl (lv_at hl 4 rfl) ?_
  refine r_call (rest := []) S hg hS (mtX7_thrown (mc := 0) (ms := 0) h) u1160 u1161 u1162 u49 u1163 hdX7_thrown (rv3 hg hw) hw ⟨Nat.le_of_ble_eq_true rfl, Nat.le_of_ble_eq_true rfl⟩ ⟨by show (uc + mc) + 0 ≤ 603072; omega, by show (us + ms) + 0 ≤ 7190634; omega⟩ hl.1 (Nat.le_of_ble_eq_true rfl) rfl dL_law_1794 (fun E ce q H1 locs1 hx hS1 hc1 hc2 hc3 => hx.elim) (fun rv H locs hq hS => ?_)
  obtain ⟨r1, rfl, h, hw⟩ := hq
  obtain ⟨hr1, hr2, hI⟩ := h
  show W p l e _ s m _ below meth c H locs (uc + mc) (us + ms) _ (F0 m 1797 ls [.int r1])
  refine lv_iload S.1 S.2.1 dL_law_1797 (lv_at hl 1 rfl) ?_
  refine lv_icmp_eq (tgt := 1804) S.1 S.2.1 dL_law_1799 (by decide) (fun c1 => ?_) (fun c1 => absurd hr1 c1)
  refine lv_iload S.1 S.2.1 dL_law_1804 (lv_at hl 1 rfl) ?_
  refine lv_if_ne (tgt := 1821) S.1 S.2.1 dL_law_1806 (by decide) (fun c1 => ?_) (fun c1 => ?_)
  · refine lv_goto (tgt := 1973) S.1 S.2.1 dL_law_1821 (by decide) ?_
    exact kk (ad' := ad1) (hI) hw hS (lv_sub hl (l' := [(0, .ref b), (1, .ref (ad1 0 0)), (2, .ref (ad1 3 0)), (3, .ref (ad1 14 0)), (4, .ref (ad1 15 0)), (5, .int x5)]) [2, 3, 4, 5, 6, 7] rfl)
  · refine lv_aload_n S.1 S.2.1 dL_law_1809 rfl (lv_at hl 5 rfl) ?_
    refine lv_iconst (v := 0) S.1 S.2.1 dL_law_1810 (by decide) ?_
    refine l14 S hg hw rfl dL_law_1811 ?_
    refine lv_iload S.1 S.2.1 dL_law_1812 (lv_at hl 0 rfl) ?_
    refine lv_i2l S.1 S.2.1 dL_law_1814 rfl ?_
    refine W.lcmp S.1 S.2.1 dL_law_1815 ?_
    rw [hr2 c1, lg_cmp_self]
    refine lv_if_eq (tgt := 1821) S.1 S.2.1 dL_law_1816 (by decide) (fun c1 => ?_) (fun c1 => absurd rfl c1)
    refine lv_goto (tgt := 1973) S.1 S.2.1 dL_law_1821 (by decide) ?_
    exact kk (ad' := ad1) (hI) hw hS (lv_sub hl (l' := [(0, .ref b), (1, .ref (ad1 0 0)), (2, .ref (ad1 3 0)), (3, .ref (ad1 14 0)), (4, .ref (ad1 15 0)), (5, .int x5)]) [2, 3, 4, 5, 6, 7] rfl)
def st_house (I : Nat → Nat → KS → KS → Int64 → Prop) (uc us : Nat) (K M : KS) (ap o : Int64) (od : UInt64) : Prop := wpX6_house (fun a1 => wpX7_house (fun b1 M1 ap1 => a1 = b1 ∧ I uc us K M1 ap1) M ap) K
set_option maxHeartbeats 4000000 in
theorem lc_house {p : Program} {l : Launch} {e : Env} {s : State} {m : MethodId} {args : Array Value} {below : List Frame} {meth : Method} {c : Code} {D : va_G} {cI : Nat → ClassId} {e0 : Nat} {A : Nat → Prop} {ad : Nat → Nat → Nat} {K M : KS} {ap o : Int64} {od : UInt64} {H : Heap} {locs : List Loc} {ls : Array Slot} {uc us b n5 : Nat} {xs : Nat → Int32} {x5 : Int32} {Q : State → Prop} {I : Nat → Nat → KS → KS → Int64 → Prop} {L : Nat} (hfl : l.stackTraces = false) (S : CallFix p m c cL_law 9 s args WU RL) (hg : GI D cI e0 A s s.heap) (hX : va_X b L xs s s.heap) (hbl : b < s.heap.size) (hbA : ¬ A b) (hS : va_S A s.heap H locs) (hw : HT D cI e0 A ad K M ap o od H) (hl : lv_has ls 9 [(0, .ref b), (1, .ref (ad 0 0)), (2, .ref (ad 3 0)), (3, .ref (ad 14 0)), (4, .ref (ad 15 0)), (5, .int x5)]) (hu : uc ≤ 603072 ∧ us ≤ 7190634) (h : st_house I uc us K M ap o od)
    (kk : ∀ {uc1 us1 : Nat} {K1 M1 : KS} {ap1 o1 : Int64} {od1 : UInt64} {ad' : Nat → Nat → Nat} {H1 : Heap} {locs1 : List Loc} {ls1 : Array Slot}, I uc1 us1 K1 M1 ap1 → HT D cI e0 A ad' K1 M1 ap1 o1 od1 H1 → va_S A s.heap H1 locs1 → lv_has ls1 9 [(0, .ref b), (1, .ref (ad' 0 0)), (2, .ref (ad' 3 0)), (3, .ref (ad' 14 0)), (4, .ref (ad' 15 0)), (5, .int x5)] → W p l e room_1 s m args below meth c H1 locs1 uc1 us1 Q (F0 m 1973 ls1 [])) : W p l e room_1 s m args below meth c H locs uc us Q (F0 m 1824 ls []) := by
  obtain ⟨hu1, hu2⟩ := hu
  refine lv_aload_n S.1 S.2.1 dL_law_1824 rfl (lv_at hl 1 rfl) ?_
  refine r_call (rest := []) S hg hS (mtX6_house (mc := 0) (ms := 0) h) u184 u185 u186 u43 u187 hdX6_house (rv0 hg hw) hw ⟨Nat.le_of_ble_eq_true rfl, Nat.le_of_ble_eq_true rfl⟩ ⟨by show uc + 0 ≤ 603072; omega, by show us + 0 ≤ 7190634; omega⟩ hl.1 (Nat.le_of_ble_eq_true rfl) rfl dL_law_1825 (fun E ce q H1 locs1 hx hS1 hc1 hc2 hc3 => hx.elim) (fun rv H locs hq hS => ?_)
  obtain ⟨a1, rfl, h, hw⟩ := hq
  show W p l e _ s m _ below meth c H locs uc us _ (F0 m 1828 ls [.int a1])
  refine lv_aload_n S.1 S.2.1 dL_law_1828 rfl (lv_at hl 2 rfl) ?_
  refine r_call (rest := [.int a1]) S hg hS (mtX7_house (mc := 0) (ms := 0) h) u1343 u1344 u1345 u49 u1346 hdX7_house (rv3 hg hw) hw ⟨Nat.le_of_ble_eq_true rfl, Nat.le_of_ble_eq_true rfl⟩ ⟨by show uc + 0 ≤ 603072; omega, by show us + 0 ≤ 7190634; omega⟩ hl.1 (Nat.le_of_ble_eq_true rfl) rfl dL_law_1829 (fun E ce q H1 locs1 hx hS1 hc1 hc2 hc3 => hx.elim) (fun rv H locs hq hS => ?_)
  obtain ⟨b1, M1, ap1, rfl, h, hw⟩ := hq
  obtain ⟨hr1, hI⟩ := h
  show W p l e _ s m _ below meth c H locs uc us _ (F0 m 1832 ls [.int b1, .int a1])
  refine lv_icmp_eq (tgt := 1973) S.1 S.2.1 dL_law_1832 (by decide) (fun c1 => ?_) (fun c1 => absurd hr1 c1)
  exact kk (ad' := ad) (hI) hw hS (lv_sub hl (l' := [(0, .ref b), (1, .ref (ad 0 0)), (2, .ref (ad 3 0)), (3, .ref (ad 14 0)), (4, .ref (ad 15 0)), (5, .int x5)]) [0, 1, 2, 3, 4, 5] rfl)
def st_apart (I : Nat → Nat → KS → KS → Int64 → Prop) (uc us : Nat) (K M : KS) (ap o : Int64) (od : UInt64) : Prop := wpX6_apart (fun a1 => wpX7_apart (fun b1 M1 ap1 => a1 = b1 ∧ I uc us K M1 ap1) M ap) K
set_option maxHeartbeats 4000000 in
theorem lc_apart {p : Program} {l : Launch} {e : Env} {s : State} {m : MethodId} {args : Array Value} {below : List Frame} {meth : Method} {c : Code} {D : va_G} {cI : Nat → ClassId} {e0 : Nat} {A : Nat → Prop} {ad : Nat → Nat → Nat} {K M : KS} {ap o : Int64} {od : UInt64} {H : Heap} {locs : List Loc} {ls : Array Slot} {uc us b n5 : Nat} {xs : Nat → Int32} {x5 : Int32} {Q : State → Prop} {I : Nat → Nat → KS → KS → Int64 → Prop} {L : Nat} (hfl : l.stackTraces = false) (S : CallFix p m c cL_law 9 s args WU RL) (hg : GI D cI e0 A s s.heap) (hX : va_X b L xs s s.heap) (hbl : b < s.heap.size) (hbA : ¬ A b) (hS : va_S A s.heap H locs) (hw : HT D cI e0 A ad K M ap o od H) (hl : lv_has ls 9 [(0, .ref b), (1, .ref (ad 0 0)), (2, .ref (ad 3 0)), (3, .ref (ad 14 0)), (4, .ref (ad 15 0)), (5, .int x5)]) (hu : uc ≤ 603072 ∧ us ≤ 7190634) (h : st_apart I uc us K M ap o od)
    (kk : ∀ {uc1 us1 : Nat} {K1 M1 : KS} {ap1 o1 : Int64} {od1 : UInt64} {ad' : Nat → Nat → Nat} {H1 : Heap} {locs1 : List Loc} {ls1 : Array Slot}, I uc1 us1 K1 M1 ap1 → HT D cI e0 A ad' K1 M1 ap1 o1 od1 H1 → va_S A s.heap H1 locs1 → lv_has ls1 9 [(0, .ref b), (1, .ref (ad' 0 0)), (2, .ref (ad' 3 0)), (3, .ref (ad' 14 0)), (4, .ref (ad' 15 0)), (5, .int x5)] → W p l e room_1 s m args below meth c H1 locs1 uc1 us1 Q (F0 m 1973 ls1 [])) : W p l e room_1 s m args below meth c H locs uc us Q (F0 m 1837 ls []) := by
  obtain ⟨hu1, hu2⟩ := hu
  refine lv_aload_n S.1 S.2.1 dL_law_1837 rfl (lv_at hl 1 rfl) ?_
  refine r_call (rest := []) S hg hS (mtX6_apart (mc := 0) (ms := 0) h) u188 u189 u190 u43 u191 hdX6_apart (rv0 hg hw) hw ⟨Nat.le_of_ble_eq_true rfl, Nat.le_of_ble_eq_true rfl⟩ ⟨by show uc + 0 ≤ 603072; omega, by show us + 0 ≤ 7190634; omega⟩ hl.1 (Nat.le_of_ble_eq_true rfl) rfl dL_law_1838 (fun E ce q H1 locs1 hx hS1 hc1 hc2 hc3 => hx.elim) (fun rv H locs hq hS => ?_)
  obtain ⟨a1, rfl, h, hw⟩ := hq
  show W p l e _ s m _ below meth c H locs uc us _ (F0 m 1841 ls [.long a1])
  refine lv_aload_n S.1 S.2.1 dL_law_1841 rfl (lv_at hl 2 rfl) ?_
  refine r_call (rest := [.long a1]) S hg hS (mtX7_apart (mc := 0) (ms := 0) h) u1347 u1348 u1349 u49 u1350 hdX7_apart (rv3 hg hw) hw ⟨Nat.le_of_ble_eq_true rfl, Nat.le_of_ble_eq_true rfl⟩ ⟨by show uc + 0 ≤ 603072; omega, by show us + 0 ≤ 7190634; omega⟩ hl.1 (Nat.le_of_ble_eq_true rfl) rfl dL_law_1842 (fun E ce q H1 locs1 hx hS1 hc1 hc2 hc3 => hx.elim) (fun rv H locs hq hS => ?_)
  obtain ⟨b1, M1, ap1, rfl, h, hw⟩ := hq
  obtain ⟨hr1, hI⟩ := h
  show W p l e _ s m _ below meth c H locs uc us _ (F0 m 1845 ls [.long b1, .long a1])
  refine W.lcmp S.1 S.2.1 dL_law_1845 ?_
  rw [hr1, lg_cmp_self]
  refine lv_if_eq (tgt := 1973) S.1 S.2.1 dL_law_1846 (by decide) (fun c1 => ?_) (fun c1 => absurd rfl c1)
  exact kk (ad' := ad) (hI) hw hS (lv_sub hl (l' := [(0, .ref b), (1, .ref (ad 0 0)), (2, .ref (ad 3 0)), (3, .ref (ad 14 0)), (4, .ref (ad 15 0)), (5, .int x5)]) [0, 1, 2, 3, 4, 5] rfl)
def st_wonBits (I : Nat → Nat → KS → KS → Int64 → Prop) (uc us : Nat) (K M : KS) (ap o : Int64) (od : UInt64) : Prop := ∃ mc ms : Nat, uc + mc ≤ 603072 ∧ us + ms ≤ 7190634 ∧ wpL_wonBits (fun k K1 o1 od1 => wpX7_wonBits (fun b1 M1 ap1 => wpX7_thrown (fun r1 => r1 = k ∧ (k = 0 → o1 = b1.toInt64) ∧ I (uc + mc) (us + ms) K1 M1 ap1) M1 ap1) M ap) mc ms K o od
set_option maxHeartbeats 4000000 in
theorem lc_wonBits {p : Program} {l : Launch} {e : Env} {s : State} {m : MethodId} {args : Array Value} {below : List Frame} {meth : Method} {c : Code} {D : va_G} {cI : Nat → ClassId} {e0 : Nat} {A : Nat → Prop} {ad : Nat → Nat → Nat} {K M : KS} {ap o : Int64} {od : UInt64} {H : Heap} {locs : List Loc} {ls : Array Slot} {uc us b n5 : Nat} {xs : Nat → Int32} {x5 : Int32} {Q : State → Prop} {I : Nat → Nat → KS → KS → Int64 → Prop} {L : Nat} (hfl : l.stackTraces = false) (S : CallFix p m c cL_law 9 s args WU RL) (hg : GI D cI e0 A s s.heap) (hX : va_X b L xs s s.heap) (hbl : b < s.heap.size) (hbA : ¬ A b) (hS : va_S A s.heap H locs) (hw : HT D cI e0 A ad K M ap o od H) (hl : lv_has ls 9 [(0, .ref b), (1, .ref (ad 0 0)), (2, .ref (ad 3 0)), (3, .ref (ad 14 0)), (4, .ref (ad 15 0)), (5, .int x5)]) (h : st_wonBits I uc us K M ap o od)
    (kk : ∀ {uc1 us1 : Nat} {K1 M1 : KS} {ap1 o1 : Int64} {od1 : UInt64} {ad' : Nat → Nat → Nat} {H1 : Heap} {locs1 : List Loc} {ls1 : Array Slot}, I uc1 us1 K1 M1 ap1 → HT D cI e0 A ad' K1 M1 ap1 o1 od1 H1 → va_S A s.heap H1 locs1 → lv_has ls1 9 [(0, .ref b), (1, .ref (ad' 0 0)), (2, .ref (ad' 3 0)), (3, .ref (ad' 14 0)), (4, .ref (ad' 15 0)), (5, .int x5)] → W p l e room_1 s m args below meth c H1 locs1 uc1 us1 Q (F0 m 1973 ls1 [])) : W p l e room_1 s m args below meth c H locs uc us Q (F0 m 1851 ls []) := by
  refine lv_aload_n S.1 S.2.1 dL_law_1851 rfl (lv_at hl 1 rfl) ?_
  refine lv_aload_n S.1 S.2.1 dL_law_1852 rfl (lv_at hl 3 rfl) ?_
  obtain ⟨mc, ms, hm1, hm2, h⟩ := h
  refine r_callSW (rest := []) S hg hS (mtL_wonBits (mc := mc) (ms := ms) hfl h) u1002 u1003 u42 u1004 hdL_wonBits hw ⟨Nat.le_of_ble_eq_true rfl, Nat.le_of_ble_eq_true rfl⟩ ⟨hm1, hm2⟩ hl.1 (Nat.le_of_ble_eq_true rfl) rfl dL_law_1853 (fun rv H locs hq hS => ?_)
  obtain ⟨k, K1, o1, od1, ad1, rfl, h, hA, hw⟩ := hq
  show W p l e _ s m _ below meth c H locs (uc + mc) (us + ms) _ (F0 m 1856 ls [.int k])
  rw [hA.1, hA.2.1, hA.2.2.1, hA.2.2.2] at hl
  refine lv_istore (lv' := [(6, .int k), (0, .ref b), (1, .ref (ad1 0 0)), (2, .ref (ad1 3 0)), (3, .ref (ad1 14 0)), (4, .ref (ad1 15 0)), (5, .int x5)]) S.1 S.2.1 dL_law_1856 hl (by decide) rfl (fun ls hl => ?_)
  refine lv_aload_n S.1 S.2.1 dL_law_1858 rfl (lv_at hl 3 rfl) ?_
  refine r_call (rest := []) S hg hS (mtX7_wonBits (mc := 0) (ms := 0) h) u1351 u1352 u1353 u49 u1354 hdX7_wonBits (rv3 hg hw) hw ⟨Nat.le_of_ble_eq_true rfl, Nat.le_of_ble_eq_true rfl⟩ ⟨by show (uc + mc) + 0 ≤ 603072; omega, by show (us + ms) + 0 ≤ 7190634; omega⟩ hl.1 (Nat.le_of_ble_eq_true rfl) rfl dL_law_1859 (fun E ce q H1 locs1 hx hS1 hc1 hc2 hc3 => hx.elim) (fun rv H locs hq hS => ?_)
  obtain ⟨b1, M1, ap1, rfl, h, hw⟩ := hq
  show W p l e _ s m _ below meth c H locs (uc + mc) (us + ms) _ (F0 m 1862 ls [.int b1])
  refine lv_istore (lv' := [(7, .int b1), (6, .int k), (0, .ref b), (1, .ref (ad1 0 0)), (2, .ref (ad1 3 0)), (3, .ref (ad1 14 0)), (4, .ref (ad1 15 0)), (5, .int x5)]) S.1 S.2.1 dL_law_1862 hl (by decide) rfl (fun ls hl => ?_)
  refine lv_aload_n S.1 S.2.1 dL_law_1864 rfl (lv_at hl 4 rfl) ?_
  refine r_call (rest := []) S hg hS (mtX7_thrown (mc := 0) (ms := 0) h) u1160 u1161 u1162 u49 u1163 hdX7_thrown (rv3 hg hw) hw ⟨Nat.le_of_ble_eq_true rfl, Nat.le_of_ble_eq_true rfl⟩ ⟨by show (uc + mc) + 0 ≤ 603072; omega, by show (us + ms) + 0 ≤ 7190634; omega⟩ hl.1 (Nat.le_of_ble_eq_true rfl) rfl dL_law_1865 (fun E ce q H1 locs1 hx hS1 hc1 hc2 hc3 => hx.elim) (fun rv H locs hq hS => ?_)
  obtain ⟨r1, rfl, h, hw⟩ := hq
  obtain ⟨hr1, hr2, hI⟩ := h
  show W p l e _ s m _ below meth c H locs (uc + mc) (us + ms) _ (F0 m 1868 ls [.int r1])
  refine lv_iload S.1 S.2.1 dL_law_1868 (lv_at hl 1 rfl) ?_
  refine lv_icmp_eq (tgt := 1875) S.1 S.2.1 dL_law_1870 (by decide) (fun c1 => ?_) (fun c1 => absurd hr1 c1)
  refine lv_iload S.1 S.2.1 dL_law_1875 (lv_at hl 1 rfl) ?_
  refine lv_if_ne (tgt := 1892) S.1 S.2.1 dL_law_1877 (by decide) (fun c1 => ?_) (fun c1 => ?_)
  · refine lv_goto (tgt := 1973) S.1 S.2.1 dL_law_1892 (by decide) ?_
    exact kk (ad' := ad1) (hI) hw hS (lv_sub hl (l' := [(0, .ref b), (1, .ref (ad1 0 0)), (2, .ref (ad1 3 0)), (3, .ref (ad1 14 0)), (4, .ref (ad1 15 0)), (5, .int x5)]) [2, 3, 4, 5, 6, 7] rfl)
  · refine lv_aload_n S.1 S.2.1 dL_law_1880 rfl (lv_at hl 5 rfl) ?_
    refine lv_iconst (v := 0) S.1 S.2.1 dL_law_1881 (by decide) ?_
    refine l14 S hg hw rfl dL_law_1882 ?_
    refine lv_iload S.1 S.2.1 dL_law_1883 (lv_at hl 0 rfl) ?_
    refine lv_i2l S.1 S.2.1 dL_law_1885 rfl ?_
    refine W.lcmp S.1 S.2.1 dL_law_1886 ?_
    rw [hr2 c1, lg_cmp_self]
    refine lv_if_eq (tgt := 1892) S.1 S.2.1 dL_law_1887 (by decide) (fun c1 => ?_) (fun c1 => absurd rfl c1)
    refine lv_goto (tgt := 1973) S.1 S.2.1 dL_law_1892 (by decide) ?_
    exact kk (ad' := ad1) (hI) hw hS (lv_sub hl (l' := [(0, .ref b), (1, .ref (ad1 0 0)), (2, .ref (ad1 3 0)), (3, .ref (ad1 14 0)), (4, .ref (ad1 15 0)), (5, .int x5)]) [2, 3, 4, 5, 6, 7] rfl)
def st_meanPrice (I : Nat → Nat → KS → KS → Int64 → Prop) (uc us : Nat) (K M : KS) (ap o : Int64) (od : UInt64) : Prop := ∃ mc ms : Nat, uc + mc ≤ 603072 ∧ us + ms ≤ 7190634 ∧ wpL_meanPrice (fun k K1 o1 od1 => wpX7_meanPrice (fun b1 M1 ap1 => wpX7_thrown (fun r1 => r1 = k ∧ (k = 0 → Op.cmpValue (FP.dcmp od1 b1) .l = 0) ∧ I (uc + mc) (us + ms) K1 M1 ap1) M1 ap1) M ap) mc ms K o od
set_option maxHeartbeats 4000000 in
theorem lc_meanPrice {p : Program} {l : Launch} {e : Env} {s : State} {m : MethodId} {args : Array Value} {below : List Frame} {meth : Method} {c : Code} {D : va_G} {cI : Nat → ClassId} {e0 : Nat} {A : Nat → Prop} {ad : Nat → Nat → Nat} {K M : KS} {ap o : Int64} {od : UInt64} {H : Heap} {locs : List Loc} {ls : Array Slot} {uc us b n5 : Nat} {xs : Nat → Int32} {x5 : Int32} {Q : State → Prop} {I : Nat → Nat → KS → KS → Int64 → Prop} {L : Nat} (hfl : l.stackTraces = false) (S : CallFix p m c cL_law 9 s args WU RL) (hg : GI D cI e0 A s s.heap) (hX : va_X b L xs s s.heap) (hbl : b < s.heap.size) (hbA : ¬ A b) (hS : va_S A s.heap H locs) (hw : HT D cI e0 A ad K M ap o od H) (hl : lv_has ls 9 [(0, .ref b), (1, .ref (ad 0 0)), (2, .ref (ad 3 0)), (3, .ref (ad 14 0)), (4, .ref (ad 15 0)), (5, .int x5)]) (h : st_meanPrice I uc us K M ap o od)
    (kk : ∀ {uc1 us1 : Nat} {K1 M1 : KS} {ap1 o1 : Int64} {od1 : UInt64} {ad' : Nat → Nat → Nat} {H1 : Heap} {locs1 : List Loc} {ls1 : Array Slot}, I uc1 us1 K1 M1 ap1 → HT D cI e0 A ad' K1 M1 ap1 o1 od1 H1 → va_S A s.heap H1 locs1 → lv_has ls1 9 [(0, .ref b), (1, .ref (ad' 0 0)), (2, .ref (ad' 3 0)), (3, .ref (ad' 14 0)), (4, .ref (ad' 15 0)), (5, .int x5)] → W p l e room_1 s m args below meth c H1 locs1 uc1 us1 Q (F0 m 1973 ls1 [])) : W p l e room_1 s m args below meth c H locs uc us Q (F0 m 1895 ls []) := by
  refine lv_aload_n S.1 S.2.1 dL_law_1895 rfl (lv_at hl 1 rfl) ?_
  refine lv_aload S.1 S.2.1 dL_law_1896 (lv_at hl 4 rfl) ?_
  obtain ⟨mc, ms, hm1, hm2, h⟩ := h
  refine r_callSW (rest := []) S hg hS (mtL_meanPrice (mc := mc) (ms := ms) hfl h) u1030 u1031 u42 u1032 hdL_meanPrice hw ⟨Nat.le_of_ble_eq_true rfl, Nat.le_of_ble_eq_true rfl⟩ ⟨hm1, hm2⟩ hl.1 (Nat.le_of_ble_eq_true rfl) rfl dL_law_1898 (fun rv H locs hq hS => ?_)
  obtain ⟨k, K1, o1, od1, ad1, rfl, h, hA, hw⟩ := hq
  show W p l e _ s m _ below meth c H locs (uc + mc) (us + ms) _ (F0 m 1901 ls [.int k])
  rw [hA.1, hA.2.1, hA.2.2.1, hA.2.2.2] at hl
  refine lv_istore (lv' := [(6, .int k), (0, .ref b), (1, .ref (ad1 0 0)), (2, .ref (ad1 3 0)), (3, .ref (ad1 14 0)), (4, .ref (ad1 15 0)), (5, .int x5)]) S.1 S.2.1 dL_law_1901 hl (by decide) rfl (fun ls hl => ?_)
  refine lv_aload_n S.1 S.2.1 dL_law_1903 rfl (lv_at hl 3 rfl) ?_
  refine r_call (rest := []) S hg hS (mtX7_meanPrice (mc := 0) (ms := 0) h) u1365 u1366 u1367 u49 u1368 hdX7_meanPrice (rv3 hg hw) hw ⟨Nat.le_of_ble_eq_true rfl, Nat.le_of_ble_eq_true rfl⟩ ⟨by show (uc + mc) + 0 ≤ 603072; omega, by show (us + ms) + 0 ≤ 7190634; omega⟩ hl.1 (Nat.le_of_ble_eq_true rfl) rfl dL_law_1904 (fun E ce q H1 locs1 hx hS1 hc1 hc2 hc3 => hx.elim) (fun rv H locs hq hS => ?_)
  obtain ⟨b1, M1, ap1, rfl, h, hw⟩ := hq
  show W p l e _ s m _ below meth c H locs (uc + mc) (us + ms) _ (F0 m 1907 ls [.double b1])
  refine lv_dstore (lv' := [(7, .double b1), (6, .int k), (0, .ref b), (1, .ref (ad1 0 0)), (2, .ref (ad1 3 0)), (3, .ref (ad1 14 0)), (4, .ref (ad1 15 0)), (5, .int x5)]) S.1 S.2.1 dL_law_1907 hl (by decide) rfl (fun ls hl => ?_)
  refine lv_aload_n S.1 S.2.1 dL_law_1909 rfl (lv_at hl 4 rfl) ?_
  refine r_call (rest := []) S hg hS (mtX7_thrown (mc := 0) (ms := 0) h) u1160 u1161 u1162 u49 u1163 hdX7_thrown (rv3 hg hw) hw ⟨Nat.le_of_ble_eq_true rfl, Nat.le_of_ble_eq_true rfl⟩ ⟨by show (uc + mc) + 0 ≤ 603072; omega, by show (us + ms) + 0 ≤ 7190634; omega⟩ hl.1 (Nat.le_of_ble_eq_true rfl) rfl dL_law_1910 (fun E ce q H1 locs1 hx hS1 hc1 hc2 hc3 => hx.elim) (fun rv H locs hq hS => ?_)
  obtain ⟨r1, rfl, h, hw⟩ := hq
  obtain ⟨hr1, hr2, hI⟩ := h
  show W p l e _ s m _ below meth c H locs (uc + mc) (us + ms) _ (F0 m 1913 ls [.int r1])
  refine lv_iload S.1 S.2.1 dL_law_1913 (lv_at hl 1 rfl) ?_
  refine lv_icmp_eq (tgt := 1920) S.1 S.2.1 dL_law_1915 (by decide) (fun c1 => ?_) (fun c1 => absurd hr1 c1)
  refine lv_iload S.1 S.2.1 dL_law_1920 (lv_at hl 1 rfl) ?_
  refine lv_if_ne (tgt := 1957) S.1 S.2.1 dL_law_1922 (by decide) (fun c1 => ?_) (fun c1 => ?_)
  · refine lv_goto (tgt := 1973) S.1 S.2.1 dL_law_1957 (by decide) ?_
    exact kk (ad' := ad1) (hI) hw hS (lv_sub hl (l' := [(0, .ref b), (1, .ref (ad1 0 0)), (2, .ref (ad1 3 0)), (3, .ref (ad1 14 0)), (4, .ref (ad1 15 0)), (5, .int x5)]) [2, 3, 4, 5, 6, 7] rfl)
  · refine lv_aload S.1 S.2.1 dL_law_1925 (lv_at hl 6 rfl) ?_
    refine lv_iconst (v := 0) S.1 S.2.1 dL_law_1927 (by decide) ?_
    refine l15 S hg hw rfl dL_law_1928 ?_
    refine lv_dload S.1 S.2.1 dL_law_1929 (lv_at hl 0 rfl) ?_
    refine lv_dcmp S.1 S.2.1 dL_law_1931 ?_
    refine lv_if_eq (tgt := 1957) S.1 S.2.1 dL_law_1932 (by decide) (fun c2 => ?_) (fun c2 => absurd (hr2 c1) c2)
    refine lv_goto (tgt := 1973) S.1 S.2.1 dL_law_1957 (by decide) ?_
    exact kk (ad' := ad1) (hI) hw hS (lv_sub hl (l' := [(0, .ref b), (1, .ref (ad1 0 0)), (2, .ref (ad1 3 0)), (3, .ref (ad1 14 0)), (4, .ref (ad1 15 0)), (5, .int x5)]) [2, 3, 4, 5, 6, 7] rfl)
def st_isSound (I : Nat → Nat → KS → KS → Int64 → Prop) (uc us : Nat) (K M : KS) (ap o : Int64) (od : UInt64) : Prop := wpX6_isSound (fun a1 => wpX7_isSound (fun b1 M1 ap1 => a1 = b1 ∧ I uc us K M1 ap1) M ap) K
set_option maxHeartbeats 4000000 in
theorem lc_isSound {p : Program} {l : Launch} {e : Env} {s : State} {m : MethodId} {args : Array Value} {below : List Frame} {meth : Method} {c : Code} {D : va_G} {cI : Nat → ClassId} {e0 : Nat} {A : Nat → Prop} {ad : Nat → Nat → Nat} {K M : KS} {ap o : Int64} {od : UInt64} {H : Heap} {locs : List Loc} {ls : Array Slot} {uc us b n5 : Nat} {xs : Nat → Int32} {x5 : Int32} {Q : State → Prop} {I : Nat → Nat → KS → KS → Int64 → Prop} {L : Nat} (hfl : l.stackTraces = false) (S : CallFix p m c cL_law 9 s args WU RL) (hg : GI D cI e0 A s s.heap) (hX : va_X b L xs s s.heap) (hbl : b < s.heap.size) (hbA : ¬ A b) (hS : va_S A s.heap H locs) (hw : HT D cI e0 A ad K M ap o od H) (hl : lv_has ls 9 [(0, .ref b), (1, .ref (ad 0 0)), (2, .ref (ad 3 0)), (3, .ref (ad 14 0)), (4, .ref (ad 15 0)), (5, .int x5)]) (hu : uc ≤ 603072 ∧ us ≤ 7190634) (h : st_isSound I uc us K M ap o od)
    (kk : ∀ {uc1 us1 : Nat} {K1 M1 : KS} {ap1 o1 : Int64} {od1 : UInt64} {ad' : Nat → Nat → Nat} {H1 : Heap} {locs1 : List Loc} {ls1 : Array Slot}, I uc1 us1 K1 M1 ap1 → HT D cI e0 A ad' K1 M1 ap1 o1 od1 H1 → va_S A s.heap H1 locs1 → lv_has ls1 9 [(0, .ref b), (1, .ref (ad' 0 0)), (2, .ref (ad' 3 0)), (3, .ref (ad' 14 0)), (4, .ref (ad' 15 0)), (5, .int x5)] → W p l e room_1 s m args below meth c H1 locs1 uc1 us1 Q (F0 m 1973 ls1 [])) : W p l e room_1 s m args below meth c H locs uc us Q (F0 m 1960 ls []) := by
  obtain ⟨hu1, hu2⟩ := hu
  refine lv_aload_n S.1 S.2.1 dL_law_1960 rfl (lv_at hl 1 rfl) ?_
  refine r_call (rest := []) S hg hS (mtX6_isSound (mc := 0) (ms := 0) h) u192 u193 u194 u43 u195 hdX6_isSound (rv0 hg hw) hw ⟨Nat.le_of_ble_eq_true rfl, Nat.le_of_ble_eq_true rfl⟩ ⟨by show uc + 0 ≤ 603072; omega, by show us + 0 ≤ 7190634; omega⟩ hl.1 (Nat.le_of_ble_eq_true rfl) rfl dL_law_1961 (fun E ce q H1 locs1 hx hS1 hc1 hc2 hc3 => hx.elim) (fun rv H locs hq hS => ?_)
  obtain ⟨a1, rfl, h, hw⟩ := hq
  show W p l e _ s m _ below meth c H locs uc us _ (F0 m 1964 ls [.int a1])
  refine lv_aload_n S.1 S.2.1 dL_law_1964 rfl (lv_at hl 2 rfl) ?_
  refine r_call (rest := [.int a1]) S hg hS (mtX7_isSound (mc := 0) (ms := 0) h) u1369 u1370 u1371 u49 u1372 hdX7_isSound (rv3 hg hw) hw ⟨Nat.le_of_ble_eq_true rfl, Nat.le_of_ble_eq_true rfl⟩ ⟨by show uc + 0 ≤ 603072; omega, by show us + 0 ≤ 7190634; omega⟩ hl.1 (Nat.le_of_ble_eq_true rfl) rfl dL_law_1965 (fun E ce q H1 locs1 hx hS1 hc1 hc2 hc3 => hx.elim) (fun rv H locs hq hS => ?_)
  obtain ⟨b1, M1, ap1, rfl, h, hw⟩ := hq
  obtain ⟨hr1, hI⟩ := h
  show W p l e _ s m _ below meth c H locs uc us _ (F0 m 1968 ls [.int b1, .int a1])
  refine lv_icmp_eq (tgt := 1973) S.1 S.2.1 dL_law_1968 (by decide) (fun c1 => ?_) (fun c1 => absurd hr1 c1)
  exact kk (ad' := ad) (hI) hw hS (lv_sub hl (l' := [(0, .ref b), (1, .ref (ad 0 0)), (2, .ref (ad 3 0)), (3, .ref (ad 14 0)), (4, .ref (ad 15 0)), (5, .int x5)]) [0, 1, 2, 3, 4, 5] rfl)
