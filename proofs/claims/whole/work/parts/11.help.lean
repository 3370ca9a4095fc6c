/-! The law's helper methods: contracts of methods that have a table of handlers. -/
section HELP
variable {p : Program} {l : Launch} {e : Env} {R : Room} {s : State} {m : MethodId} {args : Array Value} {below : List Frame} {meth : Method} {c : Code} {H : Heap} {locs : List Loc} {cells slots : Nat} {Q : State → Prop}
variable {D : va_G} {cI : Nat → ClassId} {e0 : Nat} {A : Nat → Prop} {ad av : Nat → Nat → Nat} {K M : KS} {ap o : Int64} {od : UInt64} {adr : Nat → Nat → Nat} {G : Nat → Nat → va_E} {live : Nat → Nat → Prop}
variable {cc : ByteArray} {nL pc : Nat} {ls : Array Slot} {rest : List Value} {own : String} {index : Nat}
def qH (D : va_G) (cI : Nat → ClassId) (e0 : Nat) (A : Nat → Prop) (ad : Nat → Nat → Nat) (M : KS) (ap : Int64) (post : Int32 → KS → Int64 → UInt64 → Prop) (rv : Option Value) (H : Heap) : Prop := ∃ r K o od, ∃ ad' : Nat → Nat → Nat, rv = some (.int r) ∧ post r K o od ∧ (ad 0 0 = ad' 0 0 ∧ ad 3 0 = ad' 3 0 ∧ ad 14 0 = ad' 14 0 ∧ ad 15 0 = ad' 15 0) ∧ HT D cI e0 A ad' K M ap o od H
def CW (l : Launch) (D : va_G) (cI : Nat → ClassId) (e0 : Nat) (A : Nat → Prop) (y : MethodName) (bytes : ByteArray) (maxL : Nat) (ret : Option FieldType) (hh : List (Nat × Nat × Nat × Nat)) (fr lo mc ms : Nat) (av : List Value) (P : Heap → Prop) (QQ : Option Value → Heap → Prop) : Prop :=
  vx_Met l y (Cond.codeWith y bytes maxL ret hh :: WU) ({ frames := fr, cells := mc, slots := ms, locals := lo }) (va_Pc av (fun U => GI D cI e0 A U U.heap ∧ P U.heap)) (fun _ st oc t => (∃ r, oc = .returned r ∧ QQ r t.heap) ∧ va_F A st t) (fun E st t => xN E t.heap ∧ va_F A st t) mc ms A
def EW (p : Program) (l : Launch) (D : va_G) (cI : Nat → ClassId) (e0 : Nat) (A : Nat → Prop) (m : MethodId) (meth : Method) (c : Code) (s : State) (args : Array Value) (y : MethodName) (cc : ByteArray) (nL : Nat) (ret : Option FieldType) (hh : List (Nat × Nat × Nat × Nat)) : Prop :=
  CallFix p m c cc nL s args WU y.cls ∧ GI D cI e0 A s s.heap ∧ meth.sig.returnType = ret ∧ meth.locks = false ∧ meth.name = y.name ∧ c.exceptionTable.toList = hh.map (fun x => (⟨x.1, x.2.1, x.2.2.1, x.2.2.2⟩ : ExceptionTableEntry))
theorem CW.of {y : MethodName} {bytes : ByteArray} {maxL : Nat} {ret : Option FieldType} {hh : List (Nat × Nat × Nat × Nat)} {fr lo mc ms : Nat} {av : List Value} {P : Heap → Prop} {QQ : Option Value → Heap → Prop} (hy : plainName y.cls = true) (hav : (lg_sl av).length ≤ maxL)
    (body : ∀ (p : Program) (e : Env) (s : State) (m : MethodId) (below : List Frame) (meth : Method) (c : Code) (ls : Array Slot), EW p l D cI e0 A m meth c s av.toArray y bytes maxL ret hh → P s.heap → va_S A s.heap s.heap [] → lv_has ls maxL (lv_args 0 av) →
      W p l e ({ frames := fr, cells := mc, slots := ms, locals := lo }) s m av.toArray below meth c s.heap [] 0 0 (vx_MQ below (fun _ st oc t => (∃ r, oc = .returned r ∧ QQ r t.heap) ∧ va_F A st t) (fun E st t => xN E t.heap ∧ va_F A st t) av.toArray s mc ms A) (F0 m 0 ls [])) : CW l D cI e0 A y bytes maxL ret hh fr lo mc ms av P QQ := by
  refine vx_ofWH (cc := bytes) (maxL := maxL) (ret := ret) (hh := hh) hy rfl ?_
  intro p e s m args below meth c s₁ B hml hv
  obtain ⟨rfl, hg, hP⟩ := hv
  have hts := atoms_spec (ws := Cond.codeWith y bytes maxL ret hh :: WU) B.pre
  rw [lg_entry_eq]
  exact body p e s m below meth c _ ⟨⟨B.exec, B.bytes, hml, findClass_of_methodNamed B.named, fun w hw => hts w (List.mem_cons_of_mem _ hw)⟩, hg, B.returns, B.notSynchronized, (name_of_methodNamed B.named B.method).1, (vx_table (x := y) B (hts _ List.mem_cons_self)).trans rfl⟩ hP va_S.rf (lv_entry av hav)
theorem r_callSW {y : MethodName} {bytes : ByteArray} {maxL : Nat} {ret : Option FieldType} {hh : List (Nat × Nat × Nat × Nat)} {fr lo mc ms : Nat} {As : List Value} {P : Heap → Prop} {QQ : Option Value → Heap → Prop} {st0 : List Value} {index : Nat}
    (S : CallFix p m c cc nL s args WU own) (hg : GI D cI e0 A s s.heap) (hS : va_S A s.heap H locs) (hM : CW l D cI e0 A y bytes maxL ret hh fr lo mc ms As P QQ)
    (k1 : Cond.methodLink own index y ∈ WU) (k2 : Cond.static y ∈ WU) (k4 : Cond.initialized y.cls ∈ WU) (k5 : Cond.codeWith y bytes maxL ret hh ∈ WU)
    (hd : y.cls ≠ "java/lang/invoke/MethodHandle" ∧ y.cls ≠ "java/lang/invoke/VarHandle" ∧ (parseMethodDescriptor y.desc).map (fun d => d.parameters.length) = some As.length)
    (hP : P H) (hR : fr + 1 ≤ R.frames ∧ 8 + (maxL + 11) + lo ≤ R.locals) (hcs : cells + mc ≤ R.cells ∧ slots + ms ≤ R.slots)
    (hsize : ls.size = nL) (hrest : (rest.map fun v => v.category).sum ≤ 8) (hst : st0 = As.reverse ++ rest) (hdg : decode cc pc = .ok (.invokestatic index, 3))
    (kk : ∀ (r : Option Value) (H1 : Heap) (locs1 : List Loc), QQ r H1 → va_S A s.heap H1 locs1 → W p l e R s m args below meth c H1 locs1 (cells + mc) (slots + ms) Q (F0 m (pc + 3) ls (r.toList ++ rest))) : W p l e R s m args below meth c H locs cells slots Q (F0 m pc ls st0) := by
  have hcw : vx_CSW R s args own index y bytes maxL ret hh (Cond.codeWith y bytes maxL ret hh :: WU) ({ frames := fr, cells := mc, slots := ms, locals := lo }) mc ms As.length := by
    have ht := S.2.2.2.2
    have hgood : ∀ w ∈ Cond.codeWith y bytes maxL ret hh :: WU, ∀ (a' : Array Value) (U : State), s.WarmedH U.vm → w.before a' U = true := by
      intro w hw a' U hW
      have hw2 : w ∈ WU := by
        rcases List.mem_cons.mp hw with rfl | h
        · exact k5
        · exact h
      exact word_at hW (good_of_word (WU_good w hw2)) (ht w hw2)
    exact ⟨⟨rfl, rfl, hR.1, hR.2, hgood, List.mem_cons_self⟩, ht _ k5, ht _ k4, ⟨hd.1, hd.2.1⟩, (fun sig h => by have h2 := hd.2.2; rw [h] at h2; exact (Option.some.inj h2).symm), ht _ k1, ht _ k2⟩
  have hb : FrameBlind (va_Pc As (fun U => GI D cI e0 A U U.heap ∧ P U.heap)) := fun a U g mk h => ⟨h.1, h.2.1.mv (State.WarmedH.refl U) (Nat.le_refl _) (fun _ _ _ => rfl), h.2.2⟩
  have hrun := vx_runSX (e := e) (meth := meth) (below := below) (locs := locs) (cells := cells) (slots := slots) (g := F0 m pc ls st0) S hM hcw ⟨hb, fun U hU hW => ⟨rfl, hg.at hS hU hW, by rw [hU]; exact hP⟩⟩ rfl rfl hsize hst (lv_room hrest) hdg hcs
  intro T hT X
  rcases hrun T hT X with ⟨v, st₀, t, T', L, h0, X', hL, e1, e2, ⟨⟨r, hv, hq⟩, hF⟩, st⟩ | ⟨q, st₀, t, T', L, E, ce, h0, X', hL, e1, e2, ⟨hx, hF⟩, hce, hcv, hcl, st⟩
  · cases hv
    obtain ⟨q1, q2, q3⟩ := vx_keep h0 e1 hS (fun _ _ h => h) (fun _ h => h) hL hF
    obtain ⟨t2, a1, b1⟩ := kk v T'.heap (locs ++ L) (by rw [e1]; exact hq) q3 T' rfl X'
    exact ⟨t2, st t2 a1, b1⟩
  · exact hx.elim
theorem HW.cell {k i : Nat} {e1 e2 : va_E} (h : HW D A live adr (hU G k i e1) H) (he : ∀ a : Nat, va_at D vwCl (a, e1) H → va_at D vwCl (a, e2) H) : HW D A live adr (hU G k i e2) H := by
  obtain ⟨ids, h1, h2, h3⟩ := h
  have hd : (hws ids adr (hU G k i e2)).map Prod.fst = (hws ids adr (hU G k i e1)).map Prod.fst := by
    unfold hws
    rw [List.map_map, List.map_map]
    rfl
  refine ⟨ids, h1, va_P_iff.mpr (fun q hq => ?_), va_D_iff.mpr ⟨by rw [hd]; exact (va_D_iff.mp h3).1, fun q hq => ?_⟩⟩
  · obtain ⟨z, hz, rfl⟩ := List.mem_map.mp hq
    have h4 := va_P_iff.mp h2 _ (List.mem_map.mpr ⟨z, hz, rfl⟩)
    by_cases c : z.1 = k ∧ z.2 = i
    · obtain ⟨c1, c2⟩ := c
      rw [c1, c2, hU_s] at h4 ⊢
      exact he _ h4
    · rw [hU_n _ _ c] at h4 ⊢
      exact h4
  · obtain ⟨z, hz, rfl⟩ := List.mem_map.mp hq
    exact (va_D_iff.mp h3).2 (adr z.1 z.2, hU G k i e1 z.1 z.2) (List.mem_map.mpr ⟨z, hz, rfl⟩)
theorem arrV_cong (cA : ClassId) (n : Nat) {f g : Nat → Value} (h : ∀ j, j < n → f j = g j) : arrV cA n f = arrV cA n g := by
  unfold arrV
  congr 1
  apply Array.ext
  · simp
  · intro i h1 h2
    simp at h1
    simp [h i h1]
theorem l14 {a : Nat} (S : CallFix p m c cc nL s args WU own) (hg : GI D cI e0 A s s.heap) (hw : HT D cI e0 A ad K M ap o od H) (ha : a = ad 14 0) (hd : decode cc pc = .ok (.laload, 1)) (kk : W p l e R s m args below meth c H locs cells slots Q (F0 m (pc + 1) ls (.long o :: rest))) : W p l e R s m args below meth c H locs cells slots Q (F0 m pc ls (.int 0 :: .ref a :: rest)) := by
  subst ha
  obtain ⟨av, ids, h1, h2, h3⟩ := hw
  obtain ⟨q, -, hn⟩ := hws_at (adr := adK ad av) (G := ctK cI e0 ad av K M ap o od) (h1 14 0 rfl)
  exact va_lald S.1 S.2.1 hg.1 h2 q 4 (n := 1) (f := fun _ => o) hn rfl (by show ¬ ((0 : Int32) < 0 ∨ 1 ≤ (0 : Int32).toNatClampNeg); decide) hd kk
theorem l15 {a : Nat} (S : CallFix p m c cc nL s args WU own) (hg : GI D cI e0 A s s.heap) (hw : HT D cI e0 A ad K M ap o od H) (ha : a = ad 15 0) (hd : decode cc pc = .ok (.daload, 1)) (kk : W p l e R s m args below meth c H locs cells slots Q (F0 m (pc + 1) ls (.double od :: rest))) : W p l e R s m args below meth c H locs cells slots Q (F0 m pc ls (.int 0 :: .ref a :: rest)) := by
  subst ha
  obtain ⟨av, ids, h1, h2, h3⟩ := hw
  obtain ⟨q, -, hn⟩ := hws_at (adr := adK ad av) (G := ctK cI e0 ad av K M ap o od) (h1 15 0 rfl)
  exact va_dald S.1 S.2.1 hg.1 h2 q 5 (n := 1) (f := fun _ => od) hn rfl (by show ¬ ((0 : Int32) < 0 ∨ 1 ≤ (0 : Int32).toNatClampNeg); decide) hd kk
theorem s14 {x : Int64} {a : Nat} (S : CallFix p m c cc nL s args WU own) (hg : GI D cI e0 A s s.heap) (hS : va_S A s.heap H locs) (hw : HT D cI e0 A ad K M ap o od H) (ha : a = ad 14 0) (hd : decode cc pc = .ok (.lastore, 1)) (kk : ∀ (H1 : Heap) (locs1 : List Loc), HT D cI e0 A ad K M ap x od H1 → va_S A s.heap H1 locs1 → W p l e R s m args below meth c H1 locs1 cells slots Q (F0 m (pc + 1) ls rest)) : W p l e R s m args below meth c H locs cells slots Q (F0 m pc ls (.long x :: .int 0 :: .ref a :: rest)) := by
  subst ha
  obtain ⟨av, ids, h1, h2, h3⟩ := hw
  obtain ⟨q, hn1, hn⟩ := hws_at (adr := adK ad av) (G := ctK cI e0 ad av K M ap o od) (h1 14 0 rfl)
  refine va_last S.1 S.2.1 hg.1 h2 h3 hS q 4 (n := 1) (f := fun _ => o) hn rfl (by show ¬ ((0 : Int32) < 0 ∨ 1 ≤ (0 : Int32).toNatClampNeg); decide) hd (fun H1 locs1 hP hD hS => kk H1 locs1 ⟨av, ((HW.set h3 h1 hn1 hP hD).cell (e2 := .inl (cI 4, 1, .inr (.inl (fun _ => x)))) (fun a h => ?_)).same (fun _ _ h => h) (fun _ _ _ => rfl) (fun k i hl => ?_)⟩ hS)
  · refine Eq.trans (h : H1[a]? = some (vp_cell _ _)) (congrArg some ?_)
    show arrV (cI 4) 1 (fun j => .long (vp_updL (fun _ => o) (0 : Int32).toNatClampNeg x j)) = arrV (cI 4) 1 (fun j => .long x)
    exact arrV_cong _ _ (fun j hj => by
      have h0 : j = 0 := by omega
      subst h0
      rfl)
  · by_cases hc : k = 14 ∧ i = 0
    · obtain ⟨rfl, rfl⟩ := hc
      rw [hU_s]
      rfl
    · rw [hU_n _ _ hc]
      by_cases hk : k = 14
      · subst hk
        exact absurd ⟨rfl, hl⟩ hc
      · unfold ctK
        split <;> first | rfl | (exact absurd rfl hk)
theorem s15 {x : UInt64} {a : Nat} (S : CallFix p m c cc nL s args WU own) (hg : GI D cI e0 A s s.heap) (hS : va_S A s.heap H locs) (hw : HT D cI e0 A ad K M ap o od H) (ha : a = ad 15 0) (hd : decode cc pc = .ok (.dastore, 1)) (kk : ∀ (H1 : Heap) (locs1 : List Loc), HT D cI e0 A ad K M ap o x H1 → va_S A s.heap H1 locs1 → W p l e R s m args below meth c H1 locs1 cells slots Q (F0 m (pc + 1) ls rest)) : W p l e R s m args below meth c H locs cells slots Q (F0 m pc ls (.double x :: .int 0 :: .ref a :: rest)) := by
  subst ha
  obtain ⟨av, ids, h1, h2, h3⟩ := hw
  obtain ⟨q, hn1, hn⟩ := hws_at (adr := adK ad av) (G := ctK cI e0 ad av K M ap o od) (h1 15 0 rfl)
  refine va_dast S.1 S.2.1 hg.1 h2 h3 hS q 5 (n := 1) (f := fun _ => od) hn rfl (by show ¬ ((0 : Int32) < 0 ∨ 1 ≤ (0 : Int32).toNatClampNeg); decide) hd (fun H1 locs1 hP hD hS => kk H1 locs1 ⟨av, ((HW.set h3 h1 hn1 hP hD).cell (e2 := .inl (cI 5, 1, .inr (.inr (.inr (.inl (fun _ => x)))))) (fun a h => ?_)).same (fun _ _ h => h) (fun _ _ _ => rfl) (fun k i hl => ?_)⟩ hS)
  · refine Eq.trans (h : H1[a]? = some (vp_cell _ _)) (congrArg some ?_)
    show arrV (cI 5) 1 (fun j => .double (vf_upd (fun _ => od) (0 : Int32).toNatClampNeg x j)) = arrV (cI 5) 1 (fun j => .double x)
    exact arrV_cong _ _ (fun j hj => by
      have h0 : j = 0 := by omega
      subst h0
      rfl)
  · by_cases hc : k = 15 ∧ i = 0
    · obtain ⟨rfl, rfl⟩ := hc
      rw [hU_s]
      rfl
    · rw [hU_n _ _ hc]
      by_cases hk : k = 15
      · subst hk
        exact absurd ⟨rfl, hl⟩ hc
      · unfold ctK
        split <;> first | rfl | (exact absurd rfl hk)
end HELP

theorem dL_player_0 : decode cL_player 0 = .ok (.aload_n 2, 1) := by decide +kernel
theorem dL_player_1 : decode cL_player 1 = .ok (.iconst 0, 1) := by decide +kernel
theorem dL_player_2 : decode cL_player 2 = .ok (.aload_n 0, 1) := by decide +kernel
theorem dL_player_3 : decode cL_player 3 = .ok (.iload_n 1, 1) := by decide +kernel
theorem dL_player_4 : decode cL_player 4 = .ok (.invokevirtual 7, 3) := by decide +kernel
theorem dL_player_7 : decode cL_player 7 = .ok (.i2l, 1) := by decide +kernel
theorem dL_player_8 : decode cL_player 8 = .ok (.lastore, 1) := by decide +kernel
theorem dL_player_9 : decode cL_player 9 = .ok (.goto 9, 3) := by decide +kernel
theorem dL_player_12 : decode cL_player 12 = .ok (.astore_n 3, 1) := by decide +kernel
theorem dL_player_13 : decode cL_player 13 = .ok (.iconst 1, 1) := by decide +kernel
theorem dL_player_14 : decode cL_player 14 = .ok (.ireturn, 1) := by decide +kernel
theorem dL_player_15 : decode cL_player 15 = .ok (.astore_n 3, 1) := by decide +kernel
theorem dL_player_16 : decode cL_player 16 = .ok (.iconst 2, 1) := by decide +kernel
theorem dL_player_17 : decode cL_player 17 = .ok (.ireturn, 1) := by decide +kernel
theorem dL_player_18 : decode cL_player 18 = .ok (.iconst 0, 1) := by decide +kernel
theorem dL_player_19 : decode cL_player 19 = .ok (.ireturn, 1) := by decide +kernel
theorem hdL_player : yL_player.cls ≠ "java/lang/invoke/MethodHandle" ∧ yL_player.cls ≠ "java/lang/invoke/VarHandle" ∧ (parseMethodDescriptor yL_player.desc).map (fun d => d.parameters.length) = some 3 := by decide +kernel
def wpL_player (post : Int32 → KS → Int64 → UInt64 → Prop) (mc ms : Nat) (K : KS) (o : Int64) (od : UInt64) (p1 : Int32) : Prop := wpX6_player (fun v K => post 0 K (v.toInt64) od) (fun E K => (E = "java/lang/IllegalArgumentException" ∧ post 1 K o od) ∨ (E = "java/lang/IllegalStateException" ∧ post 2 K o od)) mc ms K p1
set_option maxHeartbeats 4000000 in
theorem mtL_player {l : Launch} {D : va_G} {cI : Nat → ClassId} {e0 : Nat} {A : Nat → Prop} {ad : Nat → Nat → Nat} {K M : KS} {ap o : Int64} {od : UInt64} {mc ms : Nat} {p1 : Int32} {post : Int32 → KS → Int64 → UInt64 → Prop} (hfl : l.stackTraces = false) (h : wpL_player post mc ms K o od p1) : CW l D cI e0 A yL_player cL_player 4 (some .int) [(0, 9, 12, 13), (0, 9, 15, 15)] 7 104 mc ms [.ref (ad 0 0), .int p1, .ref (ad 14 0)] (HT D cI e0 A ad K M ap o od) (qH D cI e0 A ad M ap post) := by
  refine CW.of (by decide) (Nat.le_of_ble_eq_true rfl) (fun p e s m below meth c ls FX hw hS hl => ?_)
  obtain ⟨S, hg, hr, hlk, hnm, htab⟩ := FX
  have hl : lv_has ls 4 [(0, .ref (ad 0 0)), (1, .int p1), (2, .ref (ad 14 0))] := hl
  refine lv_aload_n S.1 S.2.1 dL_player_0 rfl (lv_at hl 2 rfl) ?_
  refine lv_iconst (v := 0) S.1 S.2.1 dL_player_1 (by decide) ?_
  refine lv_aload_n S.1 S.2.1 dL_player_2 rfl (lv_at hl 0 rfl) ?_
  refine lv_iload_n S.1 S.2.1 dL_player_3 rfl (lv_at hl 1 rfl) ?_
  refine r_call (rest := [.int 0, .ref (ad 14 0)]) S hg hS (mtX6_player (mc := mc) (ms := ms) hfl h) u236 u237 u238 u43 u239 hdX6_player (rv0 hg hw) hw ⟨Nat.le_of_ble_eq_true rfl, Nat.le_of_ble_eq_true rfl⟩ ⟨by show 0 + mc ≤ mc; omega, by show 0 + ms ≤ ms; omega⟩ hl.1 (Nat.le_of_ble_eq_true rfl) rfl dL_player_4 (fun E ce q H locs hx hS hc1 hc2 hc3 => ?_) (fun rv H locs hq hS => ?_)
  · obtain ⟨K, hx1, hw⟩ := hx
    have hpass_1 : ∀ z ∈ [(⟨0, 9, 12, 13⟩ : ExceptionTableEntry)], z.catchType ≠ 0 ∧ ∃ nm : String, (Cond.classLink RL z.catchType nm).before #[.ref (ad 0 0), .int p1, .ref (ad 14 0)] s = true ∧ va_Nc "java/lang/IllegalStateException" nm s := by
      intro z hz
      rcases List.mem_cons.mp hz with rfl | hz
      · exact ⟨by decide, "java/lang/IllegalArgumentException", S.2.2.2.2 _ u234, hg.2.2.2.2.2.1 ("java/lang/IllegalStateException", "java/lang/IllegalArgumentException") (by decide +kernel)⟩
      exact nomatch hz
    rcases hx1 with ⟨rfl, h9⟩ | ⟨rfl, h9⟩
    · skip
      refine vx_catch (name := "java/lang/IllegalArgumentException") S.2.2.2.1 [] (⟨0, 9, 12, 13⟩ : ExceptionTableEntry) [(⟨0, 9, 15, 15⟩ : ExceptionTableEntry)] (htab.trans rfl) (fun z hz => nomatch hz) (by decide) (by decide) (S.2.2.2.2 _ u234) (va_Nw.use rfl (hg.2.2.2.2.1.1 ("java/lang/IllegalArgumentException", "java/lang/IllegalArgumentException") (by decide +kernel))) hc1 hc2 hc3 ?_
      refine lv_astore_n (lv' := [(3, .ref q), (0, .ref (ad 0 0)), (1, .int p1), (2, .ref (ad 14 0))]) S.1 S.2.1 dL_player_12 rfl hl (by decide) rfl (fun ls hl => ?_)
      refine lv_iconst (v := 1) S.1 S.2.1 dL_player_13 (by decide) ?_
      exact r_iret (y := yL_player) S hr rfl hlk hS (by show _ ≤ mc; omega) (by show _ ≤ ms; omega) dL_player_14 ⟨_, _, _, _, ad, rfl, h9, ⟨rfl, rfl, rfl, rfl⟩, hw⟩
    · skip
      refine vx_catch (name := "java/lang/IllegalStateException") S.2.2.2.1 [(⟨0, 9, 12, 13⟩ : ExceptionTableEntry)] (⟨0, 9, 15, 15⟩ : ExceptionTableEntry) [] (htab.trans rfl) (fun z hz => Or.inr (hpass_1 z hz)) (by decide) (by decide) (S.2.2.2.2 _ u235) (va_Nw.use rfl (hg.2.2.2.2.1.1 ("java/lang/IllegalStateException", "java/lang/IllegalStateException") (by decide +kernel))) hc1 hc2 hc3 ?_
      refine lv_astore_n (lv' := [(3, .ref q), (0, .ref (ad 0 0)), (1, .int p1), (2, .ref (ad 14 0))]) S.1 S.2.1 dL_player_15 rfl hl (by decide) rfl (fun ls hl => ?_)
      refine lv_iconst (v := 2) S.1 S.2.1 dL_player_16 (by decide) ?_
      exact r_iret (y := yL_player) S hr rfl hlk hS (by show _ ≤ mc; omega) (by show _ ≤ ms; omega) dL_player_17 ⟨_, _, _, _, ad, rfl, h9, ⟨rfl, rfl, rfl, rfl⟩, hw⟩
  · obtain ⟨r1, K1, rfl, h, hw⟩ := hq
    show W p l e _ s m _ below meth c H locs (0 + mc) (0 + ms) _ (F0 m 7 ls [.int r1, .int 0, .ref (ad 14 0)])
    refine lv_i2l S.1 S.2.1 dL_player_7 rfl ?_
    refine s14 S hg hS hw rfl dL_player_8 (fun H locs hw hS => ?_)
    refine lv_goto (tgt := 18) S.1 S.2.1 dL_player_9 (by decide) ?_
    refine lv_iconst (v := 0) S.1 S.2.1 dL_player_18 (by decide) ?_
    exact r_iret (y := yL_player) S hr rfl hlk hS (by show _ ≤ mc; omega) (by show _ ≤ ms; omega) dL_player_19 ⟨_, _, _, _, ad, rfl, h, ⟨rfl, rfl, rfl, rfl⟩, hw⟩
theorem dL_make_0 : decode cL_make 0 = .ok (.aload_n 3, 1) := by decide +kernel
theorem dL_make_1 : decode cL_make 1 = .ok (.iconst 0, 1) := by decide +kernel
theorem dL_make_2 : decode cL_make 2 = .ok (.aload_n 0, 1) := by decide +kernel
theorem dL_make_3 : decode cL_make 3 = .ok (.iload_n 1, 1) := by decide +kernel
theorem dL_make_4 : decode cL_make 4 = .ok (.iload_n 2, 1) := by decide +kernel
theorem dL_make_5 : decode cL_make 5 = .ok (.invokevirtual 17, 3) := by decide +kernel
theorem dL_make_8 : decode cL_make 8 = .ok (.i2l, 1) := by decide +kernel
theorem dL_make_9 : decode cL_make 9 = .ok (.lastore, 1) := by decide +kernel
theorem dL_make_10 : decode cL_make 10 = .ok (.goto 15, 3) := by decide +kernel
theorem dL_make_13 : decode cL_make 13 = .ok (.astore 4, 2) := by decide +kernel
theorem dL_make_15 : decode cL_make 15 = .ok (.iconst 1, 1) := by decide +kernel
theorem dL_make_16 : decode cL_make 16 = .ok (.ireturn, 1) := by decide +kernel
theorem dL_make_17 : decode cL_make 17 = .ok (.astore 4, 2) := by decide +kernel
theorem dL_make_19 : decode cL_make 19 = .ok (.iconst 2, 1) := by decide +kernel
theorem dL_make_20 : decode cL_make 20 = .ok (.ireturn, 1) := by decide +kernel
theorem dL_make_21 : decode cL_make 21 = .ok (.astore 4, 2) := by decide +kernel
theorem dL_make_23 : decode cL_make 23 = .ok (.iconst 3, 1) := by decide +kernel
theorem dL_make_24 : decode cL_make 24 = .ok (.ireturn, 1) := by decide +kernel
theorem dL_make_25 : decode cL_make 25 = .ok (.iconst 0, 1) := by decide +kernel
theorem dL_make_26 : decode cL_make 26 = .ok (.ireturn, 1) := by decide +kernel
theorem hdL_make : yL_make.cls ≠ "java/lang/invoke/MethodHandle" ∧ yL_make.cls ≠ "java/lang/invoke/VarHandle" ∧ (parseMethodDescriptor yL_make.desc).map (fun d => d.parameters.length) = some 4 := by decide +kernel
def wpL_make (post : Int32 → KS → Int64 → UInt64 → Prop) (mc ms : Nat) (K : KS) (o : Int64) (od : UInt64) (p1 : Int32) (p2 : Int32) : Prop := wpX6_make (fun v K => post 0 K (v.toInt64) od) (fun E K => (E = "java/lang/IndexOutOfBoundsException" ∧ post 1 K o od) ∨ (E = "java/lang/IllegalArgumentException" ∧ post 2 K o od) ∨ (E = "java/lang/IllegalStateException" ∧ post 3 K o od)) mc ms K p1 p2
set_option maxHeartbeats 4000000 in
theorem mtL_make {l : Launch} {D : va_G} {cI : Nat → ClassId} {e0 : Nat} {A : Nat → Prop} {ad : Nat → Nat → Nat} {K M : KS} {ap o : Int64} {od : UInt64} {mc ms : Nat} {p1 p2 : Int32} {post : Int32 → KS → Int64 → UInt64 → Prop} (hfl : l.stackTraces = false) (h : wpL_make post mc ms K o od p1 p2) : CW l D cI e0 A yL_make cL_make 5 (some .int) [(0, 10, 13, 21), (0, 10, 17, 13), (0, 10, 21, 15)] 8 344 mc ms [.ref (ad 0 0), .int p1, .int p2, .ref (ad 14 0)] (HT D cI e0 A ad K M ap o od) (qH D cI e0 A ad M ap post) := by
  refine CW.of (by decide) (Nat.le_of_ble_eq_true rfl) (fun p e s m below meth c ls FX hw hS hl => ?_)
  obtain ⟨S, hg, hr, hlk, hnm, htab⟩ := FX
  have hl : lv_has ls 5 [(0, .ref (ad 0 0)), (1, .int p1), (2, .int p2), (3, .ref (ad 14 0))] := hl
  refine lv_aload_n S.1 S.2.1 dL_make_0 rfl (lv_at hl 3 rfl) ?_
  refine lv_iconst (v := 0) S.1 S.2.1 dL_make_1 (by decide) ?_
  refine lv_aload_n S.1 S.2.1 dL_make_2 rfl (lv_at hl 0 rfl) ?_
  refine lv_iload_n S.1 S.2.1 dL_make_3 rfl (lv_at hl 1 rfl) ?_
  refine lv_iload_n S.1 S.2.1 dL_make_4 rfl (lv_at hl 2 rfl) ?_
  refine r_call (rest := [.int 0, .ref (ad 14 0)]) S hg hS (mtX6_make (mc := mc) (ms := ms) hfl h) u355 u356 u357 u43 u358 hdX6_make (rv0 hg hw) hw ⟨Nat.le_of_ble_eq_true rfl, Nat.le_of_ble_eq_true rfl⟩ ⟨by show 0 + mc ≤ mc; omega, by show 0 + ms ≤ ms; omega⟩ hl.1 (Nat.le_of_ble_eq_true rfl) rfl dL_make_5 (fun E ce q H locs hx hS hc1 hc2 hc3 => ?_) (fun rv H locs hq hS => ?_)
  · obtain ⟨K, hx1, hw⟩ := hx
    have hpass_1 : ∀ z ∈ [(⟨0, 10, 13, 21⟩ : ExceptionTableEntry)], z.catchType ≠ 0 ∧ ∃ nm : String, (Cond.classLink RL z.catchType nm).before #[.ref (ad 0 0), .int p1, .int p2, .ref (ad 14 0)] s = true ∧ va_Nc "java/lang/IllegalArgumentException" nm s := by
      intro z hz
      rcases List.mem_cons.mp hz with rfl | hz
      · exact ⟨by decide, "java/lang/IndexOutOfBoundsException", S.2.2.2.2 _ u331, hg.2.2.2.2.2.1 ("java/lang/IllegalArgumentException", "java/lang/IndexOutOfBoundsException") (by decide +kernel)⟩
      exact nomatch hz
    have hpass_2 : ∀ z ∈ [(⟨0, 10, 13, 21⟩ : ExceptionTableEntry), (⟨0, 10, 17, 13⟩ : ExceptionTableEntry)], z.catchType ≠ 0 ∧ ∃ nm : String, (Cond.classLink RL z.catchType nm).before #[.ref (ad 0 0), .int p1, .int p2, .ref (ad 14 0)] s = true ∧ va_Nc "java/lang/IllegalStateException" nm s := by
      intro z hz
      rcases List.mem_cons.mp hz with rfl | hz
      · exact ⟨by decide, "java/lang/IndexOutOfBoundsException", S.2.2.2.2 _ u331, hg.2.2.2.2.2.1 ("java/lang/IllegalStateException", "java/lang/IndexOutOfBoundsException") (by decide +kernel)⟩
      rcases List.mem_cons.mp hz with rfl | hz
      · exact ⟨by decide, "java/lang/IllegalArgumentException", S.2.2.2.2 _ u234, hg.2.2.2.2.2.1 ("java/lang/IllegalStateException", "java/lang/IllegalArgumentException") (by decide +kernel)⟩
      exact nomatch hz
    rcases hx1 with ⟨rfl, h9⟩ | ⟨rfl, h9⟩ | ⟨rfl, h9⟩
    · skip
      refine vx_catch (name := "java/lang/IndexOutOfBoundsException") S.2.2.2.1 [] (⟨0, 10, 13, 21⟩ : ExceptionTableEntry) [(⟨0, 10, 17, 13⟩ : ExceptionTableEntry), (⟨0, 10, 21, 15⟩ : ExceptionTableEntry)] (htab.trans rfl) (fun z hz => nomatch hz) (by decide) (by decide) (S.2.2.2.2 _ u331) (va_Nw.use rfl (hg.2.2.2.2.1.1 ("java/lang/IndexOutOfBoundsException", "java/lang/IndexOutOfBoundsException") (by decide +kernel))) hc1 hc2 hc3 ?_
      refine lv_astore (lv' := [(4, .ref q), (0, .ref (ad 0 0)), (1, .int p1), (2, .int p2), (3, .ref (ad 14 0))]) S.1 S.2.1 dL_make_13 hl (by decide) rfl (fun ls hl => ?_)
      refine lv_iconst (v := 1) S.1 S.2.1 dL_make_15 (by decide) ?_
      exact r_iret (y := yL_make) S hr rfl hlk hS (by show _ ≤ mc; omega) (by show _ ≤ ms; omega) dL_make_16 ⟨_, _, _, _, ad, rfl, h9, ⟨rfl, rfl, rfl, rfl⟩, hw⟩
    · skip
      refine vx_catch (name := "java/lang/IllegalArgumentException") S.2.2.2.1 [(⟨0, 10, 13, 21⟩ : ExceptionTableEntry)] (⟨0, 10, 17, 13⟩ : ExceptionTableEntry) [(⟨0, 10, 21, 15⟩ : ExceptionTableEntry)] (htab.trans rfl) (fun z hz => Or.inr (hpass_1 z hz)) (by decide) (by decide) (S.2.2.2.2 _ u234) (va_Nw.use rfl (hg.2.2.2.2.1.1 ("java/lang/IllegalArgumentException", "java/lang/IllegalArgumentException") (by decide +kernel))) hc1 hc2 hc3 ?_
      refine lv_astore (lv' := [(4, .ref q), (0, .ref (ad 0 0)), (1, .int p1), (2, .int p2), (3, .ref (ad 14 0))]) S.1 S.2.1 dL_make_17 hl (by decide) rfl (fun ls hl => ?_)
      refine lv_iconst (v := 2) S.1 S.2.1 dL_make_19 (by decide) ?_
      exact r_iret (y := yL_make) S hr rfl hlk hS (by show _ ≤ mc; omega) (by show _ ≤ ms; omega) dL_make_20 ⟨_, _, _, _, ad, rfl, h9, ⟨rfl, rfl, rfl, rfl⟩, hw⟩
    · skip
      refine vx_catch (name := "java/lang/IllegalStateException") S.2.2.2.1 [(⟨0, 10, 13, 21⟩ : ExceptionTableEntry), (⟨0, 10, 17, 13⟩ : ExceptionTableEntry)] (⟨0, 10, 21, 15⟩ : ExceptionTableEntry) [] (htab.trans rfl) (fun z hz => Or.inr (hpass_2 z hz)) (by decide) (by decide) (S.2.2.2.2 _ u235) (va_Nw.use rfl (hg.2.2.2.2.1.1 ("java/lang/IllegalStateException", "java/lang/IllegalStateException") (by decide +kernel))) hc1 hc2 hc3 ?_
      refine lv_astore (lv' := [(4, .ref q), (0, .ref (ad 0 0)), (1, .int p1), (2, .int p2), (3, .ref (ad 14 0))]) S.1 S.2.1 dL_make_21 hl (by decide) rfl (fun ls hl => ?_)
      refine lv_iconst (v := 3) S.1 S.2.1 dL_make_23 (by decide) ?_
      exact r_iret (y := yL_make) S hr rfl hlk hS (by show _ ≤ mc; omega) (by show _ ≤ ms; omega) dL_make_24 ⟨_, _, _, _, ad, rfl, h9, ⟨rfl, rfl, rfl, rfl⟩, hw⟩
  · obtain ⟨r1, K1, ad1, rfl, h, hA, hw⟩ := hq
    show W p l e _ s m _ below meth c H locs (0 + mc) (0 + ms) _ (F0 m 8 ls [.int r1, .int 0, .ref (ad 14 0)])
    refine lv_i2l S.1 S.2.1 dL_make_8 rfl ?_
    refine s14 S hg hS hw hA.2.2.1 dL_make_9 (fun H locs hw hS => ?_)
    refine lv_goto (tgt := 25) S.1 S.2.1 dL_make_10 (by decide) ?_
    refine lv_iconst (v := 0) S.1 S.2.1 dL_make_25 (by decide) ?_
    exact r_iret (y := yL_make) S hr rfl hlk hS (by show _ ≤ mc; omega) (by show _ ≤ ms; omega) dL_make_26 ⟨_, _, _, _, ad1, rfl, h, hA, hw⟩
theorem dL_ownerOf_0 : decode cL_ownerOf 0 = .ok (.aload_n 2, 1) := by decide +kernel
theorem dL_ownerOf_1 : decode cL_ownerOf 1 = .ok (.iconst 0, 1) := by decide +kernel
theorem dL_ownerOf_2 : decode cL_ownerOf 2 = .ok (.aload_n 0, 1) := by decide +kernel
theorem dL_ownerOf_3 : decode cL_ownerOf 3 = .ok (.iload_n 1, 1) := by decide +kernel
theorem dL_ownerOf_4 : decode cL_ownerOf 4 = .ok (.invokevirtual 23, 3) := by decide +kernel
theorem dL_ownerOf_7 : decode cL_ownerOf 7 = .ok (.i2l, 1) := by decide +kernel
theorem dL_ownerOf_8 : decode cL_ownerOf 8 = .ok (.lastore, 1) := by decide +kernel
theorem dL_ownerOf_9 : decode cL_ownerOf 9 = .ok (.goto 6, 3) := by decide +kernel
theorem dL_ownerOf_12 : decode cL_ownerOf 12 = .ok (.astore_n 3, 1) := by decide +kernel
theorem dL_ownerOf_13 : decode cL_ownerOf 13 = .ok (.iconst 1, 1) := by decide +kernel
theorem dL_ownerOf_14 : decode cL_ownerOf 14 = .ok (.ireturn, 1) := by decide +kernel
theorem dL_ownerOf_15 : decode cL_ownerOf 15 = .ok (.iconst 0, 1) := by decide +kernel
theorem dL_ownerOf_16 : decode cL_ownerOf 16 = .ok (.ireturn, 1) := by decide +kernel
theorem hdL_ownerOf : yL_ownerOf.cls ≠ "java/lang/invoke/MethodHandle" ∧ yL_ownerOf.cls ≠ "java/lang/invoke/VarHandle" ∧ (parseMethodDescriptor yL_ownerOf.desc).map (fun d => d.parameters.length) = some 3 := by decide +kernel
def wpL_ownerOf (post : Int32 → KS → Int64 → UInt64 → Prop) (mc ms : Nat) (K : KS) (o : Int64) (od : UInt64) (p1 : Int32) : Prop := wpX6_ownerOf (fun v => post 0 K (v.toInt64) od) (fun E => (E = "java/lang/IndexOutOfBoundsException" ∧ post 1 K o od)) mc ms K p1
set_option maxHeartbeats 4000000 in
theorem mtL_ownerOf {l : Launch} {D : va_G} {cI : Nat → ClassId} {e0 : Nat} {A : Nat → Prop} {ad : Nat → Nat → Nat} {K M : KS} {ap o : Int64} {od : UInt64} {mc ms : Nat} {p1 : Int32} {post : Int32 → KS → Int64 → UInt64 → Prop} (hfl : l.stackTraces = false) (h : wpL_ownerOf post mc ms K o od p1) : CW l D cI e0 A yL_ownerOf cL_ownerOf 4 (some .int) [(0, 9, 12, 21)] 8 124 mc ms [.ref (ad 0 0), .int p1, .ref (ad 14 0)] (HT D cI e0 A ad K M ap o od) (qH D cI e0 A ad M ap post) := by
  refine CW.of (by decide) (Nat.le_of_ble_eq_true rfl) (fun p e s m below meth c ls FX hw hS hl => ?_)
  obtain ⟨S, hg, hr, hlk, hnm, htab⟩ := FX
  have hl : lv_has ls 4 [(0, .ref (ad 0 0)), (1, .int p1), (2, .ref (ad 14 0))] := hl
  refine lv_aload_n S.1 S.2.1 dL_ownerOf_0 rfl (lv_at hl 2 rfl) ?_
  refine lv_iconst (v := 0) S.1 S.2.1 dL_ownerOf_1 (by decide) ?_
  refine lv_aload_n S.1 S.2.1 dL_ownerOf_2 rfl (lv_at hl 0 rfl) ?_
  refine lv_iload_n S.1 S.2.1 dL_ownerOf_3 rfl (lv_at hl 1 rfl) ?_
  refine r_call (rest := [.int 0, .ref (ad 14 0)]) S hg hS (mtX6_ownerOf (mc := mc) (ms := ms) hfl h) u487 u488 u489 u43 u490 hdX6_ownerOf (rv0 hg hw) hw ⟨Nat.le_of_ble_eq_true rfl, Nat.le_of_ble_eq_true rfl⟩ ⟨by show 0 + mc ≤ mc; omega, by show 0 + ms ≤ ms; omega⟩ hl.1 (Nat.le_of_ble_eq_true rfl) rfl dL_ownerOf_4 (fun E ce q H locs hx hS hc1 hc2 hc3 => ?_) (fun rv H locs hq hS => ?_)
  · obtain ⟨hx1, hw⟩ := hx
    obtain ⟨rfl, h9⟩ := hx1
    refine vx_catch (name := "java/lang/IndexOutOfBoundsException") S.2.2.2.1 [] (⟨0, 9, 12, 21⟩ : ExceptionTableEntry) [] (htab.trans rfl) (fun z hz => nomatch hz) (by decide) (by decide) (S.2.2.2.2 _ u331) (va_Nw.use rfl (hg.2.2.2.2.1.1 ("java/lang/IndexOutOfBoundsException", "java/lang/IndexOutOfBoundsException") (by decide +kernel))) hc1 hc2 hc3 ?_
    refine lv_astore_n (lv' := [(3, .ref q), (0, .ref (ad 0 0)), (1, .int p1), (2, .ref (ad 14 0))]) S.1 S.2.1 dL_ownerOf_12 rfl hl (by decide) rfl (fun ls hl => ?_)
    refine lv_iconst (v := 1) S.1 S.2.1 dL_ownerOf_13 (by decide) ?_
    exact r_iret (y := yL_ownerOf) S hr rfl hlk hS (by show _ ≤ mc; omega) (by show _ ≤ ms; omega) dL_ownerOf_14 ⟨_, _, _, _, ad, rfl, h9, ⟨rfl, rfl, rfl, rfl⟩, hw⟩
  · obtain ⟨r1, rfl, h, hw⟩ := hq
    show W p l e _ s m _ below meth c H locs (0 + mc) (0 + ms) _ (F0 m 7 ls [.int r1, .int 0, .ref (ad 14 0)])
    refine lv_i2l S.1 S.2.1 dL_ownerOf_7 rfl ?_
    refine s14 S hg hS hw rfl dL_ownerOf_8 (fun H locs hw hS => ?_)
    refine lv_goto (tgt := 15) S.1 S.2.1 dL_ownerOf_9 (by decide) ?_
    refine lv_iconst (v := 0) S.1 S.2.1 dL_ownerOf_15 (by decide) ?_
    exact r_iret (y := yL_ownerOf) S hr rfl hlk hS (by show _ ≤ mc; omega) (by show _ ≤ ms; omega) dL_ownerOf_16 ⟨_, _, _, _, ad, rfl, h, ⟨rfl, rfl, rfl, rfl⟩, hw⟩
theorem dL_ownerByPostings_0 : decode cL_ownerByPostings 0 = .ok (.aload_n 2, 1) := by decide +kernel
theorem dL_ownerByPostings_1 : decode cL_ownerByPostings 1 = .ok (.iconst 0, 1) := by decide +kernel
theorem dL_ownerByPostings_2 : decode cL_ownerByPostings 2 = .ok (.aload_n 0, 1) := by decide +kernel
theorem dL_ownerByPostings_3 : decode cL_ownerByPostings 3 = .ok (.iload_n 1, 1) := by decide +kernel
theorem dL_ownerByPostings_4 : decode cL_ownerByPostings 4 = .ok (.invokevirtual 26, 3) := by decide +kernel
theorem dL_ownerByPostings_7 : decode cL_ownerByPostings 7 = .ok (.i2l, 1) := by decide +kernel
theorem dL_ownerByPostings_8 : decode cL_ownerByPostings 8 = .ok (.lastore, 1) := by decide +kernel
theorem dL_ownerByPostings_9 : decode cL_ownerByPostings 9 = .ok (.goto 6, 3) := by decide +kernel
theorem dL_ownerByPostings_12 : decode cL_ownerByPostings 12 = .ok (.astore_n 3, 1) := by decide +kernel
theorem dL_ownerByPostings_13 : decode cL_ownerByPostings 13 = .ok (.iconst 1, 1) := by decide +kernel
theorem dL_ownerByPostings_14 : decode cL_ownerByPostings 14 = .ok (.ireturn, 1) := by decide +kernel
theorem dL_ownerByPostings_15 : decode cL_ownerByPostings 15 = .ok (.iconst 0, 1) := by decide +kernel
theorem dL_ownerByPostings_16 : decode cL_ownerByPostings 16 = .ok (.ireturn, 1) := by decide +kernel
theorem hdL_ownerByPostings : yL_ownerByPostings.cls ≠ "java/lang/invoke/MethodHandle" ∧ yL_ownerByPostings.cls ≠ "java/lang/invoke/VarHandle" ∧ (parseMethodDescriptor yL_ownerByPostings.desc).map (fun d => d.parameters.length) = some 3 := by decide +kernel
def wpL_ownerByPostings (post : Int32 → KS → Int64 → UInt64 → Prop) (mc ms : Nat) (K : KS) (o : Int64) (od : UInt64) (p1 : Int32) : Prop := wpX6_ownerByPostings (fun v => post 0 K (v.toInt64) od) (fun E => (E = "java/lang/IndexOutOfBoundsException" ∧ post 1 K o od)) mc ms K p1
set_option maxHeartbeats 4000000 in
theorem mtL_ownerByPostings {l : Launch} {D : va_G} {cI : Nat → ClassId} {e0 : Nat} {A : Nat → Prop} {ad : Nat → Nat → Nat} {K M : KS} {ap o : Int64} {od : UInt64} {mc ms : Nat} {p1 : Int32} {post : Int32 → KS → Int64 → UInt64 → Prop} (hfl : l.stackTraces = false) (h : wpL_ownerByPostings post mc ms K o od p1) : CW l D cI e0 A yL_ownerByPostings cL_ownerByPostings 4 (some .int) [(0, 9, 12, 21)] 8 124 mc ms [.ref (ad 0 0), .int p1, .ref (ad 14 0)] (HT D cI e0 A ad K M ap o od) (qH D cI e0 A ad M ap post) := by
  refine CW.of (by decide) (Nat.le_of_ble_eq_true rfl) (fun p e s m below meth c ls FX hw hS hl => ?_)
  obtain ⟨S, hg, hr, hlk, hnm, htab⟩ := FX
  have hl : lv_has ls 4 [(0, .ref (ad 0 0)), (1, .int p1), (2, .ref (ad 14 0))] := hl
  refine lv_aload_n S.1 S.2.1 dL_ownerByPostings_0 rfl (lv_at hl 2 rfl) ?_
  refine lv_iconst (v := 0) S.1 S.2.1 dL_ownerByPostings_1 (by decide) ?_
  refine lv_aload_n S.1 S.2.1 dL_ownerByPostings_2 rfl (lv_at hl 0 rfl) ?_
  refine lv_iload_n S.1 S.2.1 dL_ownerByPostings_3 rfl (lv_at hl 1 rfl) ?_
  refine r_call (rest := [.int 0, .ref (ad 14 0)]) S hg hS (mtX6_ownerByPostings (mc := mc) (ms := ms) hfl h) u499 u500 u501 u43 u502 hdX6_ownerByPostings (rv0 hg hw) hw ⟨Nat.le_of_ble_eq_true rfl, Nat.le_of_ble_eq_true rfl⟩ ⟨by show 0 + mc ≤ mc; omega, by show 0 + ms ≤ ms; omega⟩ hl.1 (Nat.le_of_ble_eq_true rfl) rfl dL_ownerByPostings_4 (fun E ce q H locs hx hS hc1 hc2 hc3 => ?_) (fun rv H locs hq hS => ?_)
  · obtain ⟨hx1, hw⟩ := hx
    obtain ⟨rfl, h9⟩ := hx1
    refine vx_catch (name := "java/lang/IndexOutOfBoundsException") S.2.2.2.1 [] (⟨0, 9, 12, 21⟩ : ExceptionTableEntry) [] (htab.trans rfl) (fun z hz => nomatch hz) (by decide) (by decide) (S.2.2.2.2 _ u331) (va_Nw.use rfl (hg.2.2.2.2.1.1 ("java/lang/IndexOutOfBoundsException", "java/lang/IndexOutOfBoundsException") (by decide +kernel))) hc1 hc2 hc3 ?_
    refine lv_astore_n (lv' := [(3, .ref q), (0, .ref (ad 0 0)), (1, .int p1), (2, .ref (ad 14 0))]) S.1 S.2.1 dL_ownerByPostings_12 rfl hl (by decide) rfl (fun ls hl => ?_)
    refine lv_iconst (v := 1) S.1 S.2.1 dL_ownerByPostings_13 (by decide) ?_
    exact r_iret (y := yL_ownerByPostings) S hr rfl hlk hS (by show _ ≤ mc; omega) (by show _ ≤ ms; omega) dL_ownerByPostings_14 ⟨_, _, _, _, ad, rfl, h9, ⟨rfl, rfl, rfl, rfl⟩, hw⟩
  · obtain ⟨r1, rfl, h, hw⟩ := hq
    show W p l e _ s m _ below meth c H locs (0 + mc) (0 + ms) _ (F0 m 7 ls [.int r1, .int 0, .ref (ad 14 0)])
    refine lv_i2l S.1 S.2.1 dL_ownerByPostings_7 rfl ?_
    refine s14 S hg hS hw rfl dL_ownerByPostings_8 (fun H locs hw hS => ?_)
    refine lv_goto (tgt := 15) S.1 S.2.1 dL_ownerByPostings_9 (by decide) ?_
    refine lv_iconst (v := 0) S.1 S.2.1 dL_ownerByPostings_15 (by decide) ?_
    exact r_iret (y := yL_ownerByPostings) S hr rfl hlk hS (by show _ ≤ mc; omega) (by show _ ≤ ms; omega) dL_ownerByPostings_16 ⟨_, _, _, _, ad, rfl, h, ⟨rfl, rfl, rfl, rfl⟩, hw⟩
theorem dL_stateOf_0 : decode cL_stateOf 0 = .ok (.aload_n 2, 1) := by decide +kernel
theorem dL_stateOf_1 : decode cL_stateOf 1 = .ok (.iconst 0, 1) := by decide +kernel
theorem dL_stateOf_2 : decode cL_stateOf 2 = .ok (.aload_n 0, 1) := by decide +kernel
theorem dL_stateOf_3 : decode cL_stateOf 3 = .ok (.iload_n 1, 1) := by decide +kernel
theorem dL_stateOf_4 : decode cL_stateOf 4 = .ok (.invokevirtual 29, 3) := by decide +kernel
theorem dL_stateOf_7 : decode cL_stateOf 7 = .ok (.i2l, 1) := by decide +kernel
theorem dL_stateOf_8 : decode cL_stateOf 8 = .ok (.lastore, 1) := by decide +kernel
theorem dL_stateOf_9 : decode cL_stateOf 9 = .ok (.goto 6, 3) := by decide +kernel
theorem dL_stateOf_12 : decode cL_stateOf 12 = .ok (.astore_n 3, 1) := by decide +kernel
theorem dL_stateOf_13 : decode cL_stateOf 13 = .ok (.iconst 1, 1) := by decide +kernel
theorem dL_stateOf_14 : decode cL_stateOf 14 = .ok (.ireturn, 1) := by decide +kernel
theorem dL_stateOf_15 : decode cL_stateOf 15 = .ok (.iconst 0, 1) := by decide +kernel
theorem dL_stateOf_16 : decode cL_stateOf 16 = .ok (.ireturn, 1) := by decide +kernel
theorem hdL_stateOf : yL_stateOf.cls ≠ "java/lang/invoke/MethodHandle" ∧ yL_stateOf.cls ≠ "java/lang/invoke/VarHandle" ∧ (parseMethodDescriptor yL_stateOf.desc).map (fun d => d.parameters.length) = some 3 := by decide +kernel
def wpL_stateOf (post : Int32 → KS → Int64 → UInt64 → Prop) (mc ms : Nat) (K : KS) (o : Int64) (od : UInt64) (p1 : Int32) : Prop := wpX6_stateOf (fun v => post 0 K (v.toInt64) od) (fun E => (E = "java/lang/IndexOutOfBoundsException" ∧ post 1 K o od)) mc ms K p1
set_option maxHeartbeats 4000000 in
theorem mtL_stateOf {l : Launch} {D : va_G} {cI : Nat → ClassId} {e0 : Nat} {A : Nat → Prop} {ad : Nat → Nat → Nat} {K M : KS} {ap o : Int64} {od : UInt64} {mc ms : Nat} {p1 : Int32} {post : Int32 → KS → Int64 → UInt64 → Prop} (hfl : l.stackTraces = false) (h : wpL_stateOf post mc ms K o od p1) : CW l D cI e0 A yL_stateOf cL_stateOf 4 (some .int) [(0, 9, 12, 21)] 8 124 mc ms [.ref (ad 0 0), .int p1, .ref (ad 14 0)] (HT D cI e0 A ad K M ap o od) (qH D cI e0 A ad M ap post) := by
  refine CW.of (by decide) (Nat.le_of_ble_eq_true rfl) (fun p e s m below meth c ls FX hw hS hl => ?_)
  obtain ⟨S, hg, hr, hlk, hnm, htab⟩ := FX
  have hl : lv_has ls 4 [(0, .ref (ad 0 0)), (1, .int p1), (2, .ref (ad 14 0))] := hl
  refine lv_aload_n S.1 S.2.1 dL_stateOf_0 rfl (lv_at hl 2 rfl) ?_
  refine lv_iconst (v := 0) S.1 S.2.1 dL_stateOf_1 (by decide) ?_
  refine lv_aload_n S.1 S.2.1 dL_stateOf_2 rfl (lv_at hl 0 rfl) ?_
  refine lv_iload_n S.1 S.2.1 dL_stateOf_3 rfl (lv_at hl 1 rfl) ?_
  refine r_call (rest := [.int 0, .ref (ad 14 0)]) S hg hS (mtX6_stateOf (mc := mc) (ms := ms) hfl h) u506 u507 u508 u43 u509 hdX6_stateOf (rv0 hg hw) hw ⟨Nat.le_of_ble_eq_true rfl, Nat.le_of_ble_eq_true rfl⟩ ⟨by show 0 + mc ≤ mc; omega, by show 0 + ms ≤ ms; omega⟩ hl.1 (Nat.le_of_ble_eq_true rfl) rfl dL_stateOf_4 (fun E ce q H locs hx hS hc1 hc2 hc3 => ?_) (fun rv H locs hq hS => ?_)
  · obtain ⟨hx1, hw⟩ := hx
    obtain ⟨rfl, h9⟩ := hx1
    refine vx_catch (name := "java/lang/IndexOutOfBoundsException") S.2.2.2.1 [] (⟨0, 9, 12, 21⟩ : ExceptionTableEntry) [] (htab.trans rfl) (fun z hz => nomatch hz) (by decide) (by decide) (S.2.2.2.2 _ u331) (va_Nw.use rfl (hg.2.2.2.2.1.1 ("java/lang/IndexOutOfBoundsException", "java/lang/IndexOutOfBoundsException") (by decide +kernel))) hc1 hc2 hc3 ?_
    refine lv_astore_n (lv' := [(3, .ref q), (0, .ref (ad 0 0)), (1, .int p1), (2, .ref (ad 14 0))]) S.1 S.2.1 dL_stateOf_12 rfl hl (by decide) rfl (fun ls hl => ?_)
    refine lv_iconst (v := 1) S.1 S.2.1 dL_stateOf_13 (by decide) ?_
    exact r_iret (y := yL_stateOf) S hr rfl hlk hS (by show _ ≤ mc; omega) (by show _ ≤ ms; omega) dL_stateOf_14 ⟨_, _, _, _, ad, rfl, h9, ⟨rfl, rfl, rfl, rfl⟩, hw⟩
  · obtain ⟨r1, rfl, h, hw⟩ := hq
    show W p l e _ s m _ below meth c H locs (0 + mc) (0 + ms) _ (F0 m 7 ls [.int r1, .int 0, .ref (ad 14 0)])
    refine lv_i2l S.1 S.2.1 dL_stateOf_7 rfl ?_
    refine s14 S hg hS hw rfl dL_stateOf_8 (fun H locs hw hS => ?_)
    refine lv_goto (tgt := 15) S.1 S.2.1 dL_stateOf_9 (by decide) ?_
    refine lv_iconst (v := 0) S.1 S.2.1 dL_stateOf_15 (by decide) ?_
    exact r_iret (y := yL_stateOf) S hr rfl hlk hS (by show _ ≤ mc; omega) (by show _ ≤ ms; omega) dL_stateOf_16 ⟨_, _, _, _, ad, rfl, h, ⟨rfl, rfl, rfl, rfl⟩, hw⟩
theorem dL_cardsOf_0 : decode cL_cardsOf 0 = .ok (.aload_n 2, 1) := by decide +kernel
theorem dL_cardsOf_1 : decode cL_cardsOf 1 = .ok (.iconst 0, 1) := by decide +kernel
theorem dL_cardsOf_2 : decode cL_cardsOf 2 = .ok (.aload_n 0, 1) := by decide +kernel
theorem dL_cardsOf_3 : decode cL_cardsOf 3 = .ok (.iload_n 1, 1) := by decide +kernel
theorem dL_cardsOf_4 : decode cL_cardsOf 4 = .ok (.invokevirtual 33, 3) := by decide +kernel
theorem dL_cardsOf_7 : decode cL_cardsOf 7 = .ok (.i2l, 1) := by decide +kernel
theorem dL_cardsOf_8 : decode cL_cardsOf 8 = .ok (.lastore, 1) := by decide +kernel
theorem dL_cardsOf_9 : decode cL_cardsOf 9 = .ok (.goto 6, 3) := by decide +kernel
theorem dL_cardsOf_12 : decode cL_cardsOf 12 = .ok (.astore_n 3, 1) := by decide +kernel
theorem dL_cardsOf_13 : decode cL_cardsOf 13 = .ok (.iconst 1, 1) := by decide +kernel
theorem dL_cardsOf_14 : decode cL_cardsOf 14 = .ok (.ireturn, 1) := by decide +kernel
theorem dL_cardsOf_15 : decode cL_cardsOf 15 = .ok (.iconst 0, 1) := by decide +kernel
theorem dL_cardsOf_16 : decode cL_cardsOf 16 = .ok (.ireturn, 1) := by decide +kernel
theorem hdL_cardsOf : yL_cardsOf.cls ≠ "java/lang/invoke/MethodHandle" ∧ yL_cardsOf.cls ≠ "java/lang/invoke/VarHandle" ∧ (parseMethodDescriptor yL_cardsOf.desc).map (fun d => d.parameters.length) = some 3 := by decide +kernel
def wpL_cardsOf (post : Int32 → KS → Int64 → UInt64 → Prop) (mc ms : Nat) (K : KS) (o : Int64) (od : UInt64) (p1 : Int32) : Prop := wpX6_cardsOf (fun v => post 0 K (v.toInt64) od) (fun E => (E = "java/lang/IndexOutOfBoundsException" ∧ post 1 K o od)) mc ms K p1
set_option maxHeartbeats 4000000 in
theorem mtL_cardsOf {l : Launch} {D : va_G} {cI : Nat → ClassId} {e0 : Nat} {A : Nat → Prop} {ad : Nat → Nat → Nat} {K M : KS} {ap o : Int64} {od : UInt64} {mc ms : Nat} {p1 : Int32} {post : Int32 → KS → Int64 → UInt64 → Prop} (hfl : l.stackTraces = false) (h : wpL_cardsOf post mc ms K o od p1) : CW l D cI e0 A yL_cardsOf cL_cardsOf 4 (some .int) [(0, 9, 12, 21)] 8 126 mc ms [.ref (ad 0 0), .int p1, .ref (ad 14 0)] (HT D cI e0 A ad K M ap o od) (qH D cI e0 A ad M ap post) := by
  refine CW.of (by decide) (Nat.le_of_ble_eq_true rfl) (fun p e s m below meth c ls FX hw hS hl => ?_)
  obtain ⟨S, hg, hr, hlk, hnm, htab⟩ := FX
  have hl : lv_has ls 4 [(0, .ref (ad 0 0)), (1, .int p1), (2, .ref (ad 14 0))] := hl
  refine lv_aload_n S.1 S.2.1 dL_cardsOf_0 rfl (lv_at hl 2 rfl) ?_
  refine lv_iconst (v := 0) S.1 S.2.1 dL_cardsOf_1 (by decide) ?_
  refine lv_aload_n S.1 S.2.1 dL_cardsOf_2 rfl (lv_at hl 0 rfl) ?_
  refine lv_iload_n S.1 S.2.1 dL_cardsOf_3 rfl (lv_at hl 1 rfl) ?_
  refine r_call (rest := [.int 0, .ref (ad 14 0)]) S hg hS (mtX6_cardsOf (mc := mc) (ms := ms) hfl h) u513 u514 u515 u43 u516 hdX6_cardsOf (rv0 hg hw) hw ⟨Nat.le_of_ble_eq_true rfl, Nat.le_of_ble_eq_true rfl⟩ ⟨by show 0 + mc ≤ mc; omega, by show 0 + ms ≤ ms; omega⟩ hl.1 (Nat.le_of_ble_eq_true rfl) rfl dL_cardsOf_4 (fun E ce q H locs hx hS hc1 hc2 hc3 => ?_) (fun rv H locs hq hS => ?_)
  · obtain ⟨hx1, hw⟩ := hx
    obtain ⟨rfl, h9⟩ := hx1
    refine vx_catch (name := "java/lang/IndexOutOfBoundsException") S.2.2.2.1 [] (⟨0, 9, 12, 21⟩ : ExceptionTableEntry) [] (htab.trans rfl) (fun z hz => nomatch hz) (by decide) (by decide) (S.2.2.2.2 _ u331) (va_Nw.use rfl (hg.2.2.2.2.1.1 ("java/lang/IndexOutOfBoundsException", "java/lang/IndexOutOfBoundsException") (by decide +kernel))) hc1 hc2 hc3 ?_
    refine lv_astore_n (lv' := [(3, .ref q), (0, .ref (ad 0 0)), (1, .int p1), (2, .ref (ad 14 0))]) S.1 S.2.1 dL_cardsOf_12 rfl hl (by decide) rfl (fun ls hl => ?_)
    refine lv_iconst (v := 1) S.1 S.2.1 dL_cardsOf_13 (by decide) ?_
    exact r_iret (y := yL_cardsOf) S hr rfl hlk hS (by show _ ≤ mc; omega) (by show _ ≤ ms; omega) dL_cardsOf_14 ⟨_, _, _, _, ad, rfl, h9, ⟨rfl, rfl, rfl, rfl⟩, hw⟩
  · obtain ⟨r1, rfl, h, hw⟩ := hq
    show W p l e _ s m _ below meth c H locs (0 + mc) (0 + ms) _ (F0 m 7 ls [.int r1, .int 0, .ref (ad 14 0)])
    refine lv_i2l S.1 S.2.1 dL_cardsOf_7 rfl ?_
    refine s14 S hg hS hw rfl dL_cardsOf_8 (fun H locs hw hS => ?_)
    refine lv_goto (tgt := 15) S.1 S.2.1 dL_cardsOf_9 (by decide) ?_
    refine lv_iconst (v := 0) S.1 S.2.1 dL_cardsOf_15 (by decide) ?_
    exact r_iret (y := yL_cardsOf) S hr rfl hlk hS (by show _ ≤ mc; omega) (by show _ ≤ ms; omega) dL_cardsOf_16 ⟨_, _, _, _, ad, rfl, h, ⟨rfl, rfl, rfl, rfl⟩, hw⟩
theorem dL_coinsOf_0 : decode cL_coinsOf 0 = .ok (.aload_n 2, 1) := by decide +kernel
theorem dL_coinsOf_1 : decode cL_coinsOf 1 = .ok (.iconst 0, 1) := by decide +kernel
theorem dL_coinsOf_2 : decode cL_coinsOf 2 = .ok (.aload_n 0, 1) := by decide +kernel
theorem dL_coinsOf_3 : decode cL_coinsOf 3 = .ok (.iload_n 1, 1) := by decide +kernel
theorem dL_coinsOf_4 : decode cL_coinsOf 4 = .ok (.invokevirtual 36, 3) := by decide +kernel
theorem dL_coinsOf_7 : decode cL_coinsOf 7 = .ok (.i2l, 1) := by decide +kernel
theorem dL_coinsOf_8 : decode cL_coinsOf 8 = .ok (.lastore, 1) := by decide +kernel
theorem dL_coinsOf_9 : decode cL_coinsOf 9 = .ok (.goto 6, 3) := by decide +kernel
theorem dL_coinsOf_12 : decode cL_coinsOf 12 = .ok (.astore_n 3, 1) := by decide +kernel
theorem dL_coinsOf_13 : decode cL_coinsOf 13 = .ok (.iconst 1, 1) := by decide +kernel
theorem dL_coinsOf_14 : decode cL_coinsOf 14 = .ok (.ireturn, 1) := by decide +kernel
theorem dL_coinsOf_15 : decode cL_coinsOf 15 = .ok (.iconst 0, 1) := by decide +kernel
theorem dL_coinsOf_16 : decode cL_coinsOf 16 = .ok (.ireturn, 1) := by decide +kernel
theorem hdL_coinsOf : yL_coinsOf.cls ≠ "java/lang/invoke/MethodHandle" ∧ yL_coinsOf.cls ≠ "java/lang/invoke/VarHandle" ∧ (parseMethodDescriptor yL_coinsOf.desc).map (fun d => d.parameters.length) = some 3 := by decide +kernel
def wpL_coinsOf (post : Int32 → KS → Int64 → UInt64 → Prop) (mc ms : Nat) (K : KS) (o : Int64) (od : UInt64) (p1 : Int32) : Prop := wpX6_coinsOf (fun v => post 0 K (v.toInt64) od) (fun E => (E = "java/lang/IndexOutOfBoundsException" ∧ post 1 K o od)) mc ms K p1
set_option maxHeartbeats 4000000 in
theorem mtL_coinsOf {l : Launch} {D : va_G} {cI : Nat → ClassId} {e0 : Nat} {A : Nat → Prop} {ad : Nat → Nat → Nat} {K M : KS} {ap o : Int64} {od : UInt64} {mc ms : Nat} {p1 : Int32} {post : Int32 → KS → Int64 → UInt64 → Prop} (hfl : l.stackTraces = false) (h : wpL_coinsOf post mc ms K o od p1) : CW l D cI e0 A yL_coinsOf cL_coinsOf 4 (some .int) [(0, 9, 12, 21)] 8 124 mc ms [.ref (ad 0 0), .int p1, .ref (ad 14 0)] (HT D cI e0 A ad K M ap o od) (qH D cI e0 A ad M ap post) := by
  refine CW.of (by decide) (Nat.le_of_ble_eq_true rfl) (fun p e s m below meth c ls FX hw hS hl => ?_)
  obtain ⟨S, hg, hr, hlk, hnm, htab⟩ := FX
  have hl : lv_has ls 4 [(0, .ref (ad 0 0)), (1, .int p1), (2, .ref (ad 14 0))] := hl
  refine lv_aload_n S.1 S.2.1 dL_coinsOf_0 rfl (lv_at hl 2 rfl) ?_
  refine lv_iconst (v := 0) S.1 S.2.1 dL_coinsOf_1 (by decide) ?_
  refine lv_aload_n S.1 S.2.1 dL_coinsOf_2 rfl (lv_at hl 0 rfl) ?_
  refine lv_iload_n S.1 S.2.1 dL_coinsOf_3 rfl (lv_at hl 1 rfl) ?_
  refine r_call (rest := [.int 0, .ref (ad 14 0)]) S hg hS (mtX6_coinsOf (mc := mc) (ms := ms) hfl h) u520 u521 u522 u43 u523 hdX6_coinsOf (rv0 hg hw) hw ⟨Nat.le_of_ble_eq_true rfl, Nat.le_of_ble_eq_true rfl⟩ ⟨by show 0 + mc ≤ mc; omega, by show 0 + ms ≤ ms; omega⟩ hl.1 (Nat.le_of_ble_eq_true rfl) rfl dL_coinsOf_4 (fun E ce q H locs hx hS hc1 hc2 hc3 => ?_) (fun rv H locs hq hS => ?_)
  · obtain ⟨hx1, hw⟩ := hx
    obtain ⟨rfl, h9⟩ := hx1
    refine vx_catch (name := "java/lang/IndexOutOfBoundsException") S.2.2.2.1 [] (⟨0, 9, 12, 21⟩ : ExceptionTableEntry) [] (htab.trans rfl) (fun z hz => nomatch hz) (by decide) (by decide) (S.2.2.2.2 _ u331) (va_Nw.use rfl (hg.2.2.2.2.1.1 ("java/lang/IndexOutOfBoundsException", "java/lang/IndexOutOfBoundsException") (by decide +kernel))) hc1 hc2 hc3 ?_
    refine lv_astore_n (lv' := [(3, .ref q), (0, .ref (ad 0 0)), (1, .int p1), (2, .ref (ad 14 0))]) S.1 S.2.1 dL_coinsOf_12 rfl hl (by decide) rfl (fun ls hl => ?_)
    refine lv_iconst (v := 1) S.1 S.2.1 dL_coinsOf_13 (by decide) ?_
    exact r_iret (y := yL_coinsOf) S hr rfl hlk hS (by show _ ≤ mc; omega) (by show _ ≤ ms; omega) dL_coinsOf_14 ⟨_, _, _, _, ad, rfl, h9, ⟨rfl, rfl, rfl, rfl⟩, hw⟩
  · obtain ⟨r1, rfl, h, hw⟩ := hq
    show W p l e _ s m _ below meth c H locs (0 + mc) (0 + ms) _ (F0 m 7 ls [.int r1, .int 0, .ref (ad 14 0)])
    refine lv_i2l S.1 S.2.1 dL_coinsOf_7 rfl ?_
    refine s14 S hg hS hw rfl dL_coinsOf_8 (fun H locs hw hS => ?_)
    refine lv_goto (tgt := 15) S.1 S.2.1 dL_coinsOf_9 (by decide) ?_
    refine lv_iconst (v := 0) S.1 S.2.1 dL_coinsOf_15 (by decide) ?_
    exact r_iret (y := yL_coinsOf) S hr rfl hlk hS (by show _ ≤ mc; omega) (by show _ ≤ ms; omega) dL_coinsOf_16 ⟨_, _, _, _, ad, rfl, h, ⟨rfl, rfl, rfl, rfl⟩, hw⟩
theorem dL_posting_0 : decode cL_posting 0 = .ok (.aload_n 3, 1) := by decide +kernel
theorem dL_posting_1 : decode cL_posting 1 = .ok (.iconst 0, 1) := by decide +kernel
theorem dL_posting_2 : decode cL_posting 2 = .ok (.aload_n 0, 1) := by decide +kernel
theorem dL_posting_3 : decode cL_posting 3 = .ok (.iload_n 1, 1) := by decide +kernel
theorem dL_posting_4 : decode cL_posting 4 = .ok (.iload_n 2, 1) := by decide +kernel
theorem dL_posting_5 : decode cL_posting 5 = .ok (.invokevirtual 39, 3) := by decide +kernel
theorem dL_posting_8 : decode cL_posting 8 = .ok (.i2l, 1) := by decide +kernel
theorem dL_posting_9 : decode cL_posting 9 = .ok (.lastore, 1) := by decide +kernel
theorem dL_posting_10 : decode cL_posting 10 = .ok (.goto 11, 3) := by decide +kernel
theorem dL_posting_13 : decode cL_posting 13 = .ok (.astore 4, 2) := by decide +kernel
theorem dL_posting_15 : decode cL_posting 15 = .ok (.iconst 1, 1) := by decide +kernel
theorem dL_posting_16 : decode cL_posting 16 = .ok (.ireturn, 1) := by decide +kernel
theorem dL_posting_17 : decode cL_posting 17 = .ok (.astore 4, 2) := by decide +kernel
theorem dL_posting_19 : decode cL_posting 19 = .ok (.iconst 2, 1) := by decide +kernel
theorem dL_posting_20 : decode cL_posting 20 = .ok (.ireturn, 1) := by decide +kernel
theorem dL_posting_21 : decode cL_posting 21 = .ok (.iconst 0, 1) := by decide +kernel
theorem dL_posting_22 : decode cL_posting 22 = .ok (.ireturn, 1) := by decide +kernel
theorem hdL_posting : yL_posting.cls ≠ "java/lang/invoke/MethodHandle" ∧ yL_posting.cls ≠ "java/lang/invoke/VarHandle" ∧ (parseMethodDescriptor yL_posting.desc).map (fun d => d.parameters.length) = some 4 := by decide +kernel
def wpL_posting (post : Int32 → KS → Int64 → UInt64 → Prop) (mc ms : Nat) (K : KS) (o : Int64) (od : UInt64) (p1 : Int32) (p2 : Int32) : Prop := wpX6_posting (fun v => post 0 K (v.toInt64) od) (fun E => (E = "java/lang/IndexOutOfBoundsException" ∧ post 1 K o od) ∨ (E = "java/lang/IllegalArgumentException" ∧ post 2 K o od)) mc ms K p1 p2
set_option maxHeartbeats 4000000 in
theorem mtL_posting {l : Launch} {D : va_G} {cI : Nat → ClassId} {e0 : Nat} {A : Nat → Prop} {ad : Nat → Nat → Nat} {K M : KS} {ap o : Int64} {od : UInt64} {mc ms : Nat} {p1 p2 : Int32} {post : Int32 → KS → Int64 → UInt64 → Prop} (hfl : l.stackTraces = false) (h : wpL_posting post mc ms K o od p1 p2) : CW l D cI e0 A yL_posting cL_posting 5 (some .int) [(0, 10, 13, 21), (0, 10, 17, 13)] 7 104 mc ms [.ref (ad 0 0), .int p1, .int p2, .ref (ad 14 0)] (HT D cI e0 A ad K M ap o od) (qH D cI e0 A ad M ap post) := by
  refine CW.of (by decide) (Nat.le_of_ble_eq_true rfl) (fun p e s m below meth c ls FX hw hS hl => ?_)
  obtain ⟨S, hg, hr, hlk, hnm, htab⟩ := FX
  have hl : lv_has ls 5 [(0, .ref (ad 0 0)), (1, .int p1), (2, .int p2), (3, .ref (ad 14 0))] := hl
  refine lv_aload_n S.1 S.2.1 dL_posting_0 rfl (lv_at hl 3 rfl) ?_
  refine lv_iconst (v := 0) S.1 S.2.1 dL_posting_1 (by decide) ?_
  refine lv_aload_n S.1 S.2.1 dL_posting_2 rfl (lv_at hl 0 rfl) ?_
  refine lv_iload_n S.1 S.2.1 dL_posting_3 rfl (lv_at hl 1 rfl) ?_
  refine lv_iload_n S.1 S.2.1 dL_posting_4 rfl (lv_at hl 2 rfl) ?_
  refine r_call (rest := [.int 0, .ref (ad 14 0)]) S hg hS (mtX6_posting (mc := mc) (ms := ms) hfl h) u527 u528 u529 u43 u530 hdX6_posting (rv0 hg hw) hw ⟨Nat.le_of_ble_eq_true rfl, Nat.le_of_ble_eq_true rfl⟩ ⟨by show 0 + mc ≤ mc; omega, by show 0 + ms ≤ ms; omega⟩ hl.1 (Nat.le_of_ble_eq_true rfl) rfl dL_posting_5 (fun E ce q H locs hx hS hc1 hc2 hc3 => ?_) (fun rv H locs hq hS => ?_)
  · obtain ⟨hx1, hw⟩ := hx
    have hpass_1 : ∀ z ∈ [(⟨0, 10, 13, 21⟩ : ExceptionTableEntry)], z.catchType ≠ 0 ∧ ∃ nm : String, (Cond.classLink RL z.catchType nm).before #[.ref (ad 0 0), .int p1, .int p2, .ref (ad 14 0)] s = true ∧ va_Nc "java/lang/IllegalArgumentException" nm s := by
      intro z hz
      rcases List.mem_cons.mp hz with rfl | hz
      · exact ⟨by decide, "java/lang/IndexOutOfBoundsException", S.2.2.2.2 _ u331, hg.2.2.2.2.2.1 ("java/lang/IllegalArgumentException", "java/lang/IndexOutOfBoundsException") (by decide +kernel)⟩
      exact nomatch hz
    rcases hx1 with ⟨rfl, h9⟩ | ⟨rfl, h9⟩
    · skip
      refine vx_catch (name := "java/lang/IndexOutOfBoundsException") S.2.2.2.1 [] (⟨0, 10, 13, 21⟩ : ExceptionTableEntry) [(⟨0, 10, 17, 13⟩ : ExceptionTableEntry)] (htab.trans rfl) (fun z hz => nomatch hz) (by decide) (by decide) (S.2.2.2.2 _ u331) (va_Nw.use rfl (hg.2.2.2.2.1.1 ("java/lang/IndexOutOfBoundsException", "java/lang/IndexOutOfBoundsException") (by decide +kernel))) hc1 hc2 hc3 ?_
      refine lv_astore (lv' := [(4, .ref q), (0, .ref (ad 0 0)), (1, .int p1), (2, .int p2), (3, .ref (ad 14 0))]) S.1 S.2.1 dL_posting_13 hl (by decide) rfl (fun ls hl => ?_)
      refine lv_iconst (v := 1) S.1 S.2.1 dL_posting_15 (by decide) ?_
      exact r_iret (y := yL_posting) S hr rfl hlk hS (by show _ ≤ mc; omega) (by show _ ≤ ms; omega) dL_posting_16 ⟨_, _, _, _, ad, rfl, h9, ⟨rfl, rfl, rfl, rfl⟩, hw⟩
    · skip
      refine vx_catch (name := "java/lang/IllegalArgumentException") S.2.2.2.1 [(⟨0, 10, 13, 21⟩ : ExceptionTableEntry)] (⟨0, 10, 17, 13⟩ : ExceptionTableEntry) [] (htab.trans rfl) (fun z hz => Or.inr (hpass_1 z hz)) (by decide) (by decide) (S.2.2.2.2 _ u234) (va_Nw.use rfl (hg.2.2.2.2.1.1 ("java/lang/IllegalArgumentException", "java/lang/IllegalArgumentException") (by decide +kernel))) hc1 hc2 hc3 ?_
      refine lv_astore (lv' := [(4, .ref q), (0, .ref (ad 0 0)), (1, .int p1), (2, .int p2), (3, .ref (ad 14 0))]) S.1 S.2.1 dL_posting_17 hl (by decide) rfl (fun ls hl => ?_)
      refine lv_iconst (v := 2) S.1 S.2.1 dL_posting_19 (by decide) ?_
      exact r_iret (y := yL_posting) S hr rfl hlk hS (by show _ ≤ mc; omega) (by show _ ≤ ms; omega) dL_posting_20 ⟨_, _, _, _, ad, rfl, h9, ⟨rfl, rfl, rfl, rfl⟩, hw⟩
  · obtain ⟨r1, rfl, h, hw⟩ := hq
    show W p l e _ s m _ below meth c H locs (0 + mc) (0 + ms) _ (F0 m 8 ls [.int r1, .int 0, .ref (ad 14 0)])
    refine lv_i2l S.1 S.2.1 dL_posting_8 rfl ?_
    refine s14 S hg hS hw rfl dL_posting_9 (fun H locs hw hS => ?_)
    refine lv_goto (tgt := 21) S.1 S.2.1 dL_posting_10 (by decide) ?_
    refine lv_iconst (v := 0) S.1 S.2.1 dL_posting_21 (by decide) ?_
    exact r_iret (y := yL_posting) S hr rfl hlk hS (by show _ ≤ mc; omega) (by show _ ≤ ms; omega) dL_posting_22 ⟨_, _, _, _, ad, rfl, h, ⟨rfl, rfl, rfl, rfl⟩, hw⟩
theorem dL_duel_0 : decode cL_duel 0 = .ok (.aload_n 3, 1) := by decide +kernel
theorem dL_duel_1 : decode cL_duel 1 = .ok (.iconst 0, 1) := by decide +kernel
theorem dL_duel_2 : decode cL_duel 2 = .ok (.aload_n 0, 1) := by decide +kernel
theorem dL_duel_3 : decode cL_duel 3 = .ok (.iload_n 1, 1) := by decide +kernel
theorem dL_duel_4 : decode cL_duel 4 = .ok (.iload_n 2, 1) := by decide +kernel
theorem dL_duel_5 : decode cL_duel 5 = .ok (.invokevirtual 43, 3) := by decide +kernel
theorem dL_duel_8 : decode cL_duel 8 = .ok (.i2l, 1) := by decide +kernel
theorem dL_duel_9 : decode cL_duel 9 = .ok (.lastore, 1) := by decide +kernel
theorem dL_duel_10 : decode cL_duel 10 = .ok (.goto 15, 3) := by decide +kernel
theorem dL_duel_13 : decode cL_duel 13 = .ok (.astore 4, 2) := by decide +kernel
theorem dL_duel_15 : decode cL_duel 15 = .ok (.iconst 1, 1) := by decide +kernel
theorem dL_duel_16 : decode cL_duel 16 = .ok (.ireturn, 1) := by decide +kernel
theorem dL_duel_17 : decode cL_duel 17 = .ok (.astore 4, 2) := by decide +kernel
theorem dL_duel_19 : decode cL_duel 19 = .ok (.iconst 2, 1) := by decide +kernel
theorem dL_duel_20 : decode cL_duel 20 = .ok (.ireturn, 1) := by decide +kernel
theorem dL_duel_21 : decode cL_duel 21 = .ok (.astore 4, 2) := by decide +kernel
theorem dL_duel_23 : decode cL_duel 23 = .ok (.iconst 3, 1) := by decide +kernel
theorem dL_duel_24 : decode cL_duel 24 = .ok (.ireturn, 1) := by decide +kernel
theorem dL_duel_25 : decode cL_duel 25 = .ok (.iconst 0, 1) := by decide +kernel
theorem dL_duel_26 : decode cL_duel 26 = .ok (.ireturn, 1) := by decide +kernel
theorem hdL_duel : yL_duel.cls ≠ "java/lang/invoke/MethodHandle" ∧ yL_duel.cls ≠ "java/lang/invoke/VarHandle" ∧ (parseMethodDescriptor yL_duel.desc).map (fun d => d.parameters.length) = some 4 := by decide +kernel
def wpL_duel (post : Int32 → KS → Int64 → UInt64 → Prop) (mc ms : Nat) (K : KS) (o : Int64) (od : UInt64) (p1 : Int32) (p2 : Int32) : Prop := wpX6_duel (fun v K => post 0 K (v.toInt64) od) (fun E K => (E = "java/lang/IndexOutOfBoundsException" ∧ post 1 K o od) ∨ (E = "java/lang/IllegalArgumentException" ∧ post 2 K o od) ∨ (E = "java/lang/IllegalStateException" ∧ post 3 K o od)) mc ms K p1 p2
set_option maxHeartbeats 4000000 in
theorem mtL_duel {l : Launch} {D : va_G} {cI : Nat → ClassId} {e0 : Nat} {A : Nat → Prop} {ad : Nat → Nat → Nat} {K M : KS} {ap o : Int64} {od : UInt64} {mc ms : Nat} {p1 p2 : Int32} {post : Int32 → KS → Int64 → UInt64 → Prop} (hfl : l.stackTraces = false) (h : wpL_duel post mc ms K o od p1 p2) : CW l D cI e0 A yL_duel cL_duel 5 (some .int) [(0, 10, 13, 21), (0, 10, 17, 13), (0, 10, 21, 15)] 8 343 mc ms [.ref (ad 0 0), .int p1, .int p2, .ref (ad 14 0)] (HT D cI e0 A ad K M ap o od) (qH D cI e0 A ad M ap post) := by
  refine CW.of (by decide) (Nat.le_of_ble_eq_true rfl) (fun p e s m below meth c ls FX hw hS hl => ?_)
  obtain ⟨S, hg, hr, hlk, hnm, htab⟩ := FX
  have hl : lv_has ls 5 [(0, .ref (ad 0 0)), (1, .int p1), (2, .int p2), (3, .ref (ad 14 0))] := hl
  refine lv_aload_n S.1 S.2.1 dL_duel_0 rfl (lv_at hl 3 rfl) ?_
  refine lv_iconst (v := 0) S.1 S.2.1 dL_duel_1 (by decide) ?_
  refine lv_aload_n S.1 S.2.1 dL_duel_2 rfl (lv_at hl 0 rfl) ?_
  refine lv_iload_n S.1 S.2.1 dL_duel_3 rfl (lv_at hl 1 rfl) ?_
  refine lv_iload_n S.1 S.2.1 dL_duel_4 rfl (lv_at hl 2 rfl) ?_
  refine r_call (rest := [.int 0, .ref (ad 14 0)]) S hg hS (mtX6_duel (mc := mc) (ms := ms) hfl h) u542 u543 u544 u43 u545 hdX6_duel (rv0 hg hw) hw ⟨Nat.le_of_ble_eq_true rfl, Nat.le_of_ble_eq_true rfl⟩ ⟨by show 0 + mc ≤ mc; omega, by show 0 + ms ≤ ms; omega⟩ hl.1 (Nat.le_of_ble_eq_true rfl) rfl dL_duel_5 (fun E ce q H locs hx hS hc1 hc2 hc3 => ?_) (fun rv H locs hq hS => ?_)
  · obtain ⟨K, hx1, hw⟩ := hx
    have hpass_1 : ∀ z ∈ [(⟨0, 10, 13, 21⟩ : ExceptionTableEntry)], z.catchType ≠ 0 ∧ ∃ nm : String, (Cond.classLink RL z.catchType nm).before #[.ref (ad 0 0), .int p1, .int p2, .ref (ad 14 0)] s = true ∧ va_Nc "java/lang/IllegalArgumentException" nm s := by
      intro z hz
      rcases List.mem_cons.mp hz with rfl | hz
      · exact ⟨by decide, "java/lang/IndexOutOfBoundsException", S.2.2.2.2 _ u331, hg.2.2.2.2.2.1 ("java/lang/IllegalArgumentException", "java/lang/IndexOutOfBoundsException") (by decide +kernel)⟩
      exact nomatch hz
    have hpass_2 : ∀ z ∈ [(⟨0, 10, 13, 21⟩ : ExceptionTableEntry), (⟨0, 10, 17, 13⟩ : ExceptionTableEntry)], z.catchType ≠ 0 ∧ ∃ nm : String, (Cond.classLink RL z.catchType nm).before #[.ref (ad 0 0), .int p1, .int p2, .ref (ad 14 0)] s = true ∧ va_Nc "java/lang/IllegalStateException" nm s := by
      intro z hz
      rcases List.mem_cons.mp hz with rfl | hz
      · exact ⟨by decide, "java/lang/IndexOutOfBoundsException", S.2.2.2.2 _ u331, hg.2.2.2.2.2.1 ("java/lang/IllegalStateException", "java/lang/IndexOutOfBoundsException") (by decide +kernel)⟩
      rcases List.mem_cons.mp hz with rfl | hz
      · exact ⟨by decide, "java/lang/IllegalArgumentException", S.2.2.2.2 _ u234, hg.2.2.2.2.2.1 ("java/lang/IllegalStateException", "java/lang/IllegalArgumentException") (by decide +kernel)⟩
      exact nomatch hz
    rcases hx1 with ⟨rfl, h9⟩ | ⟨rfl, h9⟩ | ⟨rfl, h9⟩
    · skip
      refine vx_catch (name := "java/lang/IndexOutOfBoundsException") S.2.2.2.1 [] (⟨0, 10, 13, 21⟩ : ExceptionTableEntry) [(⟨0, 10, 17, 13⟩ : ExceptionTableEntry), (⟨0, 10, 21, 15⟩ : ExceptionTableEntry)] (htab.trans rfl) (fun z hz => nomatch hz) (by decide) (by decide) (S.2.2.2.2 _ u331) (va_Nw.use rfl (hg.2.2.2.2.1.1 ("java/lang/IndexOutOfBoundsException", "java/lang/IndexOutOfBoundsException") (by decide +kernel))) hc1 hc2 hc3 ?_
      refine lv_astore (lv' := [(4, .ref q), (0, .ref (ad 0 0)), (1, .int p1), (2, .int p2), (3, .ref (ad 14 0))]) S.1 S.2.1 dL_duel_13 hl (by decide) rfl (fun ls hl => ?_)
      refine lv_iconst (v := 1) S.1 S.2.1 dL_duel_15 (by decide) ?_
      exact r_iret (y := yL_duel) S hr rfl hlk hS (by show _ ≤ mc; omega) (by show _ ≤ ms; omega) dL_duel_16 ⟨_, _, _, _, ad, rfl, h9, ⟨rfl, rfl, rfl, rfl⟩, hw⟩
    · skip
      refine vx_catch (name := "java/lang/IllegalArgumentException") S.2.2.2.1 [(⟨0, 10, 13, 21⟩ : ExceptionTableEntry)] (⟨0, 10, 17, 13⟩ : ExceptionTableEntry) [(⟨0, 10, 21, 15⟩ : ExceptionTableEntry)] (htab.trans rfl) (fun z hz => Or.inr (hpass_1 z hz)) (by decide) (by decide) (S.2.2.2.2 _ u234) (va_Nw.use rfl (hg.2.2.2.2.1.1 ("java/lang/IllegalArgumentException", "java/lang/IllegalArgumentException") (by decide +kernel))) hc1 hc2 hc3 ?_
      refine lv_astore (lv' := [(4, .ref q), (0, .ref (ad 0 0)), (1, .int p1), (2, .int p2), (3, .ref (ad 14 0))]) S.1 S.2.1 dL_duel_17 hl (by decide) rfl (fun ls hl => ?_)
      refine lv_iconst (v := 2) S.1 S.2.1 dL_duel_19 (by decide) ?_
      exact r_iret (y := yL_duel) S hr rfl hlk hS (by show _ ≤ mc; omega) (by show _ ≤ ms; omega) dL_duel_20 ⟨_, _, _, _, ad, rfl, h9, ⟨rfl, rfl, rfl, rfl⟩, hw⟩
    · skip
      refine vx_catch (name := "java/lang/IllegalStateException") S.2.2.2.1 [(⟨0, 10, 13, 21⟩ : ExceptionTableEntry), (⟨0, 10, 17, 13⟩ : ExceptionTableEntry)] (⟨0, 10, 21, 15⟩ : ExceptionTableEntry) [] (htab.trans rfl) (fun z hz => Or.inr (hpass_2 z hz)) (by decide) (by decide) (S.2.2.2.2 _ u235) (va_Nw.use rfl (hg.2.2.2.2.1.1 ("java/lang/IllegalStateException", "java/lang/IllegalStateException") (by decide +kernel))) hc1 hc2 hc3 ?_
      refine lv_astore (lv' := [(4, .ref q), (0, .ref (ad 0 0)), (1, .int p1), (2, .int p2), (3, .ref (ad 14 0))]) S.1 S.2.1 dL_duel_21 hl (by decide) rfl (fun ls hl => ?_)
      refine lv_iconst (v := 3) S.1 S.2.1 dL_duel_23 (by decide) ?_
      exact r_iret (y := yL_duel) S hr rfl hlk hS (by show _ ≤ mc; omega) (by show _ ≤ ms; omega) dL_duel_24 ⟨_, _, _, _, ad, rfl, h9, ⟨rfl, rfl, rfl, rfl⟩, hw⟩
  · obtain ⟨r1, K1, ad1, rfl, h, hA, hw⟩ := hq
    show W p l e _ s m _ below meth c H locs (0 + mc) (0 + ms) _ (F0 m 8 ls [.int r1, .int 0, .ref (ad 14 0)])
    refine lv_i2l S.1 S.2.1 dL_duel_8 rfl ?_
    refine s14 S hg hS hw hA.2.2.1 dL_duel_9 (fun H locs hw hS => ?_)
    refine lv_goto (tgt := 25) S.1 S.2.1 dL_duel_10 (by decide) ?_
    refine lv_iconst (v := 0) S.1 S.2.1 dL_duel_25 (by decide) ?_
    exact r_iret (y := yL_duel) S hr rfl hlk hS (by show _ ≤ mc; omega) (by show _ ≤ ms; omega) dL_duel_26 ⟨_, _, _, _, ad1, rfl, h, hA, hw⟩
theorem dL_stake_0 : decode cL_stake 0 = .ok (.aload_n 3, 1) := by decide +kernel
theorem dL_stake_1 : decode cL_stake 1 = .ok (.iconst 0, 1) := by decide +kernel
theorem dL_stake_2 : decode cL_stake 2 = .ok (.aload_n 0, 1) := by decide +kernel
theorem dL_stake_3 : decode cL_stake 3 = .ok (.iload_n 1, 1) := by decide +kernel
theorem dL_stake_4 : decode cL_stake 4 = .ok (.iload_n 2, 1) := by decide +kernel
theorem dL_stake_5 : decode cL_stake 5 = .ok (.invokevirtual 46, 3) := by decide +kernel
theorem dL_stake_8 : decode cL_stake 8 = .ok (.i2l, 1) := by decide +kernel
theorem dL_stake_9 : decode cL_stake 9 = .ok (.lastore, 1) := by decide +kernel
theorem dL_stake_10 : decode cL_stake 10 = .ok (.goto 15, 3) := by decide +kernel
theorem dL_stake_13 : decode cL_stake 13 = .ok (.astore 4, 2) := by decide +kernel
theorem dL_stake_15 : decode cL_stake 15 = .ok (.iconst 1, 1) := by decide +kernel
theorem dL_stake_16 : decode cL_stake 16 = .ok (.ireturn, 1) := by decide +kernel
theorem dL_stake_17 : decode cL_stake 17 = .ok (.astore 4, 2) := by decide +kernel
theorem dL_stake_19 : decode cL_stake 19 = .ok (.iconst 2, 1) := by decide +kernel
theorem dL_stake_20 : decode cL_stake 20 = .ok (.ireturn, 1) := by decide +kernel
theorem dL_stake_21 : decode cL_stake 21 = .ok (.astore 4, 2) := by decide +kernel
theorem dL_stake_23 : decode cL_stake 23 = .ok (.iconst 3, 1) := by decide +kernel
theorem dL_stake_24 : decode cL_stake 24 = .ok (.ireturn, 1) := by decide +kernel
theorem dL_stake_25 : decode cL_stake 25 = .ok (.iconst 0, 1) := by decide +kernel
theorem dL_stake_26 : decode cL_stake 26 = .ok (.ireturn, 1) := by decide +kernel
theorem hdL_stake : yL_stake.cls ≠ "java/lang/invoke/MethodHandle" ∧ yL_stake.cls ≠ "java/lang/invoke/VarHandle" ∧ (parseMethodDescriptor yL_stake.desc).map (fun d => d.parameters.length) = some 4 := by decide +kernel
def wpL_stake (post : Int32 → KS → Int64 → UInt64 → Prop) (mc ms : Nat) (K : KS) (o : Int64) (od : UInt64) (p1 : Int32) (p2 : Int32) : Prop := wpX6_stake (fun v K => post 0 K (v.toInt64) od) (fun E K => (E = "java/lang/IndexOutOfBoundsException" ∧ post 1 K o od) ∨ (E = "java/lang/UnsupportedOperationException" ∧ post 2 K o od) ∨ (E = "java/lang/IllegalStateException" ∧ post 3 K o od)) mc ms K p1 p2
set_option maxHeartbeats 4000000 in
theorem mtL_stake {l : Launch} {D : va_G} {cI : Nat → ClassId} {e0 : Nat} {A : Nat → Prop} {ad : Nat → Nat → Nat} {K M : KS} {ap o : Int64} {od : UInt64} {mc ms : Nat} {p1 p2 : Int32} {post : Int32 → KS → Int64 → UInt64 → Prop} (hfl : l.stackTraces = false) (h : wpL_stake post mc ms K o od p1 p2) : CW l D cI e0 A yL_stake cL_stake 5 (some .int) [(0, 10, 13, 21), (0, 10, 17, 49), (0, 10, 21, 15)] 8 346 mc ms [.ref (ad 0 0), .int p1, .int p2, .ref (ad 14 0)] (HT D cI e0 A ad K M ap o od) (qH D cI e0 A ad M ap post) := by
  refine CW.of (by decide) (Nat.le_of_ble_eq_true rfl) (fun p e s m below meth c ls FX hw hS hl => ?_)
  obtain ⟨S, hg, hr, hlk, hnm, htab⟩ := FX
  have hl : lv_has ls 5 [(0, .ref (ad 0 0)), (1, .int p1), (2, .int p2), (3, .ref (ad 14 0))] := hl
  refine lv_aload_n S.1 S.2.1 dL_stake_0 rfl (lv_at hl 3 rfl) ?_
  refine lv_iconst (v := 0) S.1 S.2.1 dL_stake_1 (by decide) ?_
  refine lv_aload_n S.1 S.2.1 dL_stake_2 rfl (lv_at hl 0 rfl) ?_
  refine lv_iload_n S.1 S.2.1 dL_stake_3 rfl (lv_at hl 1 rfl) ?_
  refine lv_iload_n S.1 S.2.1 dL_stake_4 rfl (lv_at hl 2 rfl) ?_
  refine r_call (rest := [.int 0, .ref (ad 14 0)]) S hg hS (mtX6_stake (mc := mc) (ms := ms) hfl h) u642 u643 u644 u43 u645 hdX6_stake (rv0 hg hw) hw ⟨Nat.le_of_ble_eq_true rfl, Nat.le_of_ble_eq_true rfl⟩ ⟨by show 0 + mc ≤ mc; omega, by show 0 + ms ≤ ms; omega⟩ hl.1 (Nat.le_of_ble_eq_true rfl) rfl dL_stake_5 (fun E ce q H locs hx hS hc1 hc2 hc3 => ?_) (fun rv H locs hq hS => ?_)
  · obtain ⟨K, hx1, hw⟩ := hx
    have hpass_1 : ∀ z ∈ [(⟨0, 10, 13, 21⟩ : ExceptionTableEntry)], z.catchType ≠ 0 ∧ ∃ nm : String, (Cond.classLink RL z.catchType nm).before #[.ref (ad 0 0), .int p1, .int p2, .ref (ad 14 0)] s = true ∧ va_Nc "java/lang/UnsupportedOperationException" nm s := by
      intro z hz
      rcases List.mem_cons.mp hz with rfl | hz
      · exact ⟨by decide, "java/lang/IndexOutOfBoundsException", S.2.2.2.2 _ u331, hg.2.2.2.2.2.1 ("java/lang/UnsupportedOperationException", "java/lang/IndexOutOfBoundsException") (by decide +kernel)⟩
      exact nomatch hz
    have hpass_2 : ∀ z ∈ [(⟨0, 10, 13, 21⟩ : ExceptionTableEntry), (⟨0, 10, 17, 49⟩ : ExceptionTableEntry)], z.catchType ≠ 0 ∧ ∃ nm : String, (Cond.classLink RL z.catchType nm).before #[.ref (ad 0 0), .int p1, .int p2, .ref (ad 14 0)] s = true ∧ va_Nc "java/lang/IllegalStateException" nm s := by
      intro z hz
      rcases List.mem_cons.mp hz with rfl | hz
      · exact ⟨by decide, "java/lang/IndexOutOfBoundsException", S.2.2.2.2 _ u331, hg.2.2.2.2.2.1 ("java/lang/IllegalStateException", "java/lang/IndexOutOfBoundsException") (by decide +kernel)⟩
      rcases List.mem_cons.mp hz with rfl | hz
      · exact ⟨by decide, "java/lang/UnsupportedOperationException", S.2.2.2.2 _ u641, hg.2.2.2.2.2.1 ("java/lang/IllegalStateException", "java/lang/UnsupportedOperationException") (by decide +kernel)⟩
      exact nomatch hz
    rcases hx1 with ⟨rfl, h9⟩ | ⟨rfl, h9⟩ | ⟨rfl, h9⟩
    · skip
      refine vx_catch (name := "java/lang/IndexOutOfBoundsException") S.2.2.2.1 [] (⟨0, 10, 13, 21⟩ : ExceptionTableEntry) [(⟨0, 10, 17, 49⟩ : ExceptionTableEntry), (⟨0, 10, 21, 15⟩ : ExceptionTableEntry)] (htab.trans rfl) (fun z hz => nomatch hz) (by decide) (by decide) (S.2.2.2.2 _ u331) (va_Nw.use rfl (hg.2.2.2.2.1.1 ("java/lang/IndexOutOfBoundsException", "java/lang/IndexOutOfBoundsException") (by decide +kernel))) hc1 hc2 hc3 ?_
      refine lv_astore (lv' := [(4, .ref q), (0, .ref (ad 0 0)), (1, .int p1), (2, .int p2), (3, .ref (ad 14 0))]) S.1 S.2.1 dL_stake_13 hl (by decide) rfl (fun ls hl => ?_)
      refine lv_iconst (v := 1) S.1 S.2.1 dL_stake_15 (by decide) ?_
      exact r_iret (y := yL_stake) S hr rfl hlk hS (by show _ ≤ mc; omega) (by show _ ≤ ms; omega) dL_stake_16 ⟨_, _, _, _, ad, rfl, h9, ⟨rfl, rfl, rfl, rfl⟩, hw⟩
    · skip
      refine vx_catch (name := "java/lang/UnsupportedOperationException") S.2.2.2.1 [(⟨0, 10, 13, 21⟩ : ExceptionTableEntry)] (⟨0, 10, 17, 49⟩ : ExceptionTableEntry) [(⟨0, 10, 21, 15⟩ : ExceptionTableEntry)] (htab.trans rfl) (fun z hz => Or.inr (hpass_1 z hz)) (by decide) (by decide) (S.2.2.2.2 _ u641) (va_Nw.use rfl (hg.2.2.2.2.1.1 ("java/lang/UnsupportedOperationException", "java/lang/UnsupportedOperationException") (by decide +kernel))) hc1 hc2 hc3 ?_
      refine lv_astore (lv' := [(4, .ref q), (0, .ref (ad 0 0)), (1, .int p1), (2, .int p2), (3, .ref (ad 14 0))]) S.1 S.2.1 dL_stake_17 hl (by decide) rfl (fun ls hl => ?_)
      refine lv_iconst (v := 2) S.1 S.2.1 dL_stake_19 (by decide) ?_
      exact r_iret (y := yL_stake) S hr rfl hlk hS (by show _ ≤ mc; omega) (by show _ ≤ ms; omega) dL_stake_20 ⟨_, _, _, _, ad, rfl, h9, ⟨rfl, rfl, rfl, rfl⟩, hw⟩
    · skip
      refine vx_catch (name := "java/lang/IllegalStateException") S.2.2.2.1 [(⟨0, 10, 13, 21⟩ : ExceptionTableEntry), (⟨0, 10, 17, 49⟩ : ExceptionTableEntry)] (⟨0, 10, 21, 15⟩ : ExceptionTableEntry) [] (htab.trans rfl) (fun z hz => Or.inr (hpass_2 z hz)) (by decide) (by decide) (S.2.2.2.2 _ u235) (va_Nw.use rfl (hg.2.2.2.2.1.1 ("java/lang/IllegalStateException", "java/lang/IllegalStateException") (by decide +kernel))) hc1 hc2 hc3 ?_
      refine lv_astore (lv' := [(4, .ref q), (0, .ref (ad 0 0)), (1, .int p1), (2, .int p2), (3, .ref (ad 14 0))]) S.1 S.2.1 dL_stake_21 hl (by decide) rfl (fun ls hl => ?_)
      refine lv_iconst (v := 3) S.1 S.2.1 dL_stake_23 (by decide) ?_
      exact r_iret (y := yL_stake) S hr rfl hlk hS (by show _ ≤ mc; omega) (by show _ ≤ ms; omega) dL_stake_24 ⟨_, _, _, _, ad, rfl, h9, ⟨rfl, rfl, rfl, rfl⟩, hw⟩
  · obtain ⟨r1, K1, rfl, h, hw⟩ := hq
    show W p l e _ s m _ below meth c H locs (0 + mc) (0 + ms) _ (F0 m 8 ls [.int r1, .int 0, .ref (ad 14 0)])
    refine lv_i2l S.1 S.2.1 dL_stake_8 rfl ?_
    refine s14 S hg hS hw rfl dL_stake_9 (fun H locs hw hS => ?_)
    refine lv_goto (tgt := 25) S.1 S.2.1 dL_stake_10 (by decide) ?_
    refine lv_iconst (v := 0) S.1 S.2.1 dL_stake_25 (by decide) ?_
    exact r_iret (y := yL_stake) S hr rfl hlk hS (by show _ ≤ mc; omega) (by show _ ≤ ms; omega) dL_stake_26 ⟨_, _, _, _, ad, rfl, h, ⟨rfl, rfl, rfl, rfl⟩, hw⟩
theorem dL_start_0 : decode cL_start 0 = .ok (.aload_n 2, 1) := by decide +kernel
theorem dL_start_1 : decode cL_start 1 = .ok (.iconst 0, 1) := by decide +kernel
theorem dL_start_2 : decode cL_start 2 = .ok (.aload_n 0, 1) := by decide +kernel
theorem dL_start_3 : decode cL_start 3 = .ok (.iload_n 1, 1) := by decide +kernel
theorem dL_start_4 : decode cL_start 4 = .ok (.invokevirtual 51, 3) := by decide +kernel
theorem dL_start_7 : decode cL_start 7 = .ok (.i2l, 1) := by decide +kernel
theorem dL_start_8 : decode cL_start 8 = .ok (.lastore, 1) := by decide +kernel
theorem dL_start_9 : decode cL_start 9 = .ok (.goto 12, 3) := by decide +kernel
theorem dL_start_12 : decode cL_start 12 = .ok (.astore_n 3, 1) := by decide +kernel
theorem dL_start_13 : decode cL_start 13 = .ok (.iconst 1, 1) := by decide +kernel
theorem dL_start_14 : decode cL_start 14 = .ok (.ireturn, 1) := by decide +kernel
theorem dL_start_15 : decode cL_start 15 = .ok (.astore_n 3, 1) := by decide +kernel
theorem dL_start_16 : decode cL_start 16 = .ok (.iconst 2, 1) := by decide +kernel
theorem dL_start_17 : decode cL_start 17 = .ok (.ireturn, 1) := by decide +kernel
theorem dL_start_18 : decode cL_start 18 = .ok (.astore_n 3, 1) := by decide +kernel
theorem dL_start_19 : decode cL_start 19 = .ok (.iconst 3, 1) := by decide +kernel
theorem dL_start_20 : decode cL_start 20 = .ok (.ireturn, 1) := by decide +kernel
theorem dL_start_21 : decode cL_start 21 = .ok (.iconst 0, 1) := by decide +kernel
theorem dL_start_22 : decode cL_start 22 = .ok (.ireturn, 1) := by decide +kernel
theorem hdL_start : yL_start.cls ≠ "java/lang/invoke/MethodHandle" ∧ yL_start.cls ≠ "java/lang/invoke/VarHandle" ∧ (parseMethodDescriptor yL_start.desc).map (fun d => d.parameters.length) = some 3 := by decide +kernel
def wpL_start (post : Int32 → KS → Int64 → UInt64 → Prop) (mc ms : Nat) (K : KS) (o : Int64) (od : UInt64) (p1 : Int32) : Prop := wpX6_start (fun v K => post 0 K (v.toInt64) od) (fun E K => (E = "java/lang/IndexOutOfBoundsException" ∧ post 1 K o od) ∨ (E = "java/lang/UnsupportedOperationException" ∧ post 2 K o od) ∨ (E = "java/lang/IllegalStateException" ∧ post 3 K o od)) mc ms K p1
set_option maxHeartbeats 4000000 in
theorem mtL_start {l : Launch} {D : va_G} {cI : Nat → ClassId} {e0 : Nat} {A : Nat → Prop} {ad : Nat → Nat → Nat} {K M : KS} {ap o : Int64} {od : UInt64} {mc ms : Nat} {p1 : Int32} {post : Int32 → KS → Int64 → UInt64 → Prop} (hfl : l.stackTraces = false) (h : wpL_start post mc ms K o od p1) : CW l D cI e0 A yL_start cL_start 4 (some .int) [(0, 9, 12, 21), (0, 9, 15, 49), (0, 9, 18, 15)] 8 125 mc ms [.ref (ad 0 0), .int p1, .ref (ad 14 0)] (HT D cI e0 A ad K M ap o od) (qH D cI e0 A ad M ap post) := by
  refine CW.of (by decide) (Nat.le_of_ble_eq_true rfl) (fun p e s m below meth c ls FX hw hS hl => ?_)
  obtain ⟨S, hg, hr, hlk, hnm, htab⟩ := FX
  have hl : lv_has ls 4 [(0, .ref (ad 0 0)), (1, .int p1), (2, .ref (ad 14 0))] := hl
  refine lv_aload_n S.1 S.2.1 dL_start_0 rfl (lv_at hl 2 rfl) ?_
  refine lv_iconst (v := 0) S.1 S.2.1 dL_start_1 (by decide) ?_
  refine lv_aload_n S.1 S.2.1 dL_start_2 rfl (lv_at hl 0 rfl) ?_
  refine lv_iload_n S.1 S.2.1 dL_start_3 rfl (lv_at hl 1 rfl) ?_
  refine r_call (rest := [.int 0, .ref (ad 14 0)]) S hg hS (mtX6_start (mc := mc) (ms := ms) hfl h) u675 u676 u677 u43 u678 hdX6_start (rv0 hg hw) hw ⟨Nat.le_of_ble_eq_true rfl, Nat.le_of_ble_eq_true rfl⟩ ⟨by show 0 + mc ≤ mc; omega, by show 0 + ms ≤ ms; omega⟩ hl.1 (Nat.le_of_ble_eq_true rfl) rfl dL_start_4 (fun E ce q H locs hx hS hc1 hc2 hc3 => ?_) (fun rv H locs hq hS => ?_)
  · obtain ⟨K, hx1, hw⟩ := hx
    have hpass_1 : ∀ z ∈ [(⟨0, 9, 12, 21⟩ : ExceptionTableEntry)], z.catchType ≠ 0 ∧ ∃ nm : String, (Cond.classLink RL z.catchType nm).before #[.ref (ad 0 0), .int p1, .ref (ad 14 0)] s = true ∧ va_Nc "java/lang/UnsupportedOperationException" nm s := by
      intro z hz
      rcases List.mem_cons.mp hz with rfl | hz
      · exact ⟨by decide, "java/lang/IndexOutOfBoundsException", S.2.2.2.2 _ u331, hg.2.2.2.2.2.1 ("java/lang/UnsupportedOperationException", "java/lang/IndexOutOfBoundsException") (by decide +kernel)⟩
      exact nomatch hz
    have hpass_2 : ∀ z ∈ [(⟨0, 9, 12, 21⟩ : ExceptionTableEntry), (⟨0, 9, 15, 49⟩ : ExceptionTableEntry)], z.catchType ≠ 0 ∧ ∃ nm : String, (Cond.classLink RL z.catchType nm).before #[.ref (ad 0 0), .int p1, .ref (ad 14 0)] s = true ∧ va_Nc "java/lang/IllegalStateException" nm s := by
      intro z hz
      rcases List.mem_cons.mp hz with rfl | hz
      · exact ⟨by decide, "java/lang/IndexOutOfBoundsException", S.2.2.2.2 _ u331, hg.2.2.2.2.2.1 ("java/lang/IllegalStateException", "java/lang/IndexOutOfBoundsException") (by decide +kernel)⟩
      rcases List.mem_cons.mp hz with rfl | hz
      · exact ⟨by decide, "java/lang/UnsupportedOperationException", S.2.2.2.2 _ u641, hg.2.2.2.2.2.1 ("java/lang/IllegalStateException", "java/lang/UnsupportedOperationException") (by decide +kernel)⟩
      exact nomatch hz
    rcases hx1 with ⟨rfl, h9⟩ | ⟨rfl, h9⟩ | ⟨rfl, h9⟩
    · skip
      refine vx_catch (name := "java/lang/IndexOutOfBoundsException") S.2.2.2.1 [] (⟨0, 9, 12, 21⟩ : ExceptionTableEntry) [(⟨0, 9, 15, 49⟩ : ExceptionTableEntry), (⟨0, 9, 18, 15⟩ : ExceptionTableEntry)] (htab.trans rfl) (fun z hz => nomatch hz) (by decide) (by decide) (S.2.2.2.2 _ u331) (va_Nw.use rfl (hg.2.2.2.2.1.1 ("java/lang/IndexOutOfBoundsException", "java/lang/IndexOutOfBoundsException") (by decide +kernel))) hc1 hc2 hc3 ?_
      refine lv_astore_n (lv' := [(3, .ref q), (0, .ref (ad 0 0)), (1, .int p1), (2, .ref (ad 14 0))]) S.1 S.2.1 dL_start_12 rfl hl (by decide) rfl (fun ls hl => ?_)
      refine lv_iconst (v := 1) S.1 S.2.1 dL_start_13 (by decide) ?_
      exact r_iret (y := yL_start) S hr rfl hlk hS (by show _ ≤ mc; omega) (by show _ ≤ ms; omega) dL_start_14 ⟨_, _, _, _, ad, rfl, h9, ⟨rfl, rfl, rfl, rfl⟩, hw⟩
    · skip
      refine vx_catch (name := "java/lang/UnsupportedOperationException") S.2.2.2.1 [(⟨0, 9, 12, 21⟩ : ExceptionTableEntry)] (⟨0, 9, 15, 49⟩ : ExceptionTableEntry) [(⟨0, 9, 18, 15⟩ : ExceptionTableEntry)] (htab.trans rfl) (fun z hz => Or.inr (hpass_1 z hz)) (by decide) (by decide) (S.2.2.2.2 _ u641) (va_Nw.use rfl (hg.2.2.2.2.1.1 ("java/lang/UnsupportedOperationException", "java/lang/UnsupportedOperationException") (by decide +kernel))) hc1 hc2 hc3 ?_
      refine lv_astore_n (lv' := [(3, .ref q), (0, .ref (ad 0 0)), (1, .int p1), (2, .ref (ad 14 0))]) S.1 S.2.1 dL_start_15 rfl hl (by decide) rfl (fun ls hl => ?_)
      refine lv_iconst (v := 2) S.1 S.2.1 dL_start_16 (by decide) ?_
      exact r_iret (y := yL_start) S hr rfl hlk hS (by show _ ≤ mc; omega) (by show _ ≤ ms; omega) dL_start_17 ⟨_, _, _, _, ad, rfl, h9, ⟨rfl, rfl, rfl, rfl⟩, hw⟩
    · skip
      refine vx_catch (name := "java/lang/IllegalStateException") S.2.2.2.1 [(⟨0, 9, 12, 21⟩ : ExceptionTableEntry), (⟨0, 9, 15, 49⟩ : ExceptionTableEntry)] (⟨0, 9, 18, 15⟩ : ExceptionTableEntry) [] (htab.trans rfl) (fun z hz => Or.inr (hpass_2 z hz)) (by decide) (by decide) (S.2.2.2.2 _ u235) (va_Nw.use rfl (hg.2.2.2.2.1.1 ("java/lang/IllegalStateException", "java/lang/IllegalStateException") (by decide +kernel))) hc1 hc2 hc3 ?_
      refine lv_astore_n (lv' := [(3, .ref q), (0, .ref (ad 0 0)), (1, .int p1), (2, .ref (ad 14 0))]) S.1 S.2.1 dL_start_18 rfl hl (by decide) rfl (fun ls hl => ?_)
      refine lv_iconst (v := 3) S.1 S.2.1 dL_start_19 (by decide) ?_
      exact r_iret (y := yL_start) S hr rfl hlk hS (by show _ ≤ mc; omega) (by show _ ≤ ms; omega) dL_start_20 ⟨_, _, _, _, ad, rfl, h9, ⟨rfl, rfl, rfl, rfl⟩, hw⟩
  · obtain ⟨r1, K1, rfl, h, hw⟩ := hq
    show W p l e _ s m _ below meth c H locs (0 + mc) (0 + ms) _ (F0 m 7 ls [.int r1, .int 0, .ref (ad 14 0)])
    refine lv_i2l S.1 S.2.1 dL_start_7 rfl ?_
    refine s14 S hg hS hw rfl dL_start_8 (fun H locs hw hS => ?_)
    refine lv_goto (tgt := 21) S.1 S.2.1 dL_start_9 (by decide) ?_
    refine lv_iconst (v := 0) S.1 S.2.1 dL_start_21 (by decide) ?_
    exact r_iret (y := yL_start) S hr rfl hlk hS (by show _ ≤ mc; omega) (by show _ ≤ ms; omega) dL_start_22 ⟨_, _, _, _, ad, rfl, h, ⟨rfl, rfl, rfl, rfl⟩, hw⟩
theorem dL_play_0 : decode cL_play 0 = .ok (.aload_n 3, 1) := by decide +kernel
theorem dL_play_1 : decode cL_play 1 = .ok (.iconst 0, 1) := by decide +kernel
theorem dL_play_2 : decode cL_play 2 = .ok (.aload_n 0, 1) := by decide +kernel
theorem dL_play_3 : decode cL_play 3 = .ok (.iload_n 1, 1) := by decide +kernel
theorem dL_play_4 : decode cL_play 4 = .ok (.iload_n 2, 1) := by decide +kernel
theorem dL_play_5 : decode cL_play 5 = .ok (.invokevirtual 54, 3) := by decide +kernel
theorem dL_play_8 : decode cL_play 8 = .ok (.i2l, 1) := by decide +kernel
theorem dL_play_9 : decode cL_play 9 = .ok (.lastore, 1) := by decide +kernel
theorem dL_play_10 : decode cL_play 10 = .ok (.goto 15, 3) := by decide +kernel
theorem dL_play_13 : decode cL_play 13 = .ok (.astore 4, 2) := by decide +kernel
theorem dL_play_15 : decode cL_play 15 = .ok (.iconst 1, 1) := by decide +kernel
theorem dL_play_16 : decode cL_play 16 = .ok (.ireturn, 1) := by decide +kernel
theorem dL_play_17 : decode cL_play 17 = .ok (.astore 4, 2) := by decide +kernel
theorem dL_play_19 : decode cL_play 19 = .ok (.iconst 2, 1) := by decide +kernel
theorem dL_play_20 : decode cL_play 20 = .ok (.ireturn, 1) := by decide +kernel
theorem dL_play_21 : decode cL_play 21 = .ok (.astore 4, 2) := by decide +kernel
theorem dL_play_23 : decode cL_play 23 = .ok (.iconst 3, 1) := by decide +kernel
theorem dL_play_24 : decode cL_play 24 = .ok (.ireturn, 1) := by decide +kernel
theorem dL_play_25 : decode cL_play 25 = .ok (.iconst 0, 1) := by decide +kernel
theorem dL_play_26 : decode cL_play 26 = .ok (.ireturn, 1) := by decide +kernel
theorem hdL_play : yL_play.cls ≠ "java/lang/invoke/MethodHandle" ∧ yL_play.cls ≠ "java/lang/invoke/VarHandle" ∧ (parseMethodDescriptor yL_play.desc).map (fun d => d.parameters.length) = some 4 := by decide +kernel
def wpL_play (post : Int32 → KS → Int64 → UInt64 → Prop) (mc ms : Nat) (K : KS) (o : Int64) (od : UInt64) (p1 : Int32) (p2 : Int32) : Prop := wpX6_play (fun v K => post 0 K (v.toInt64) od) (fun E K => (E = "java/lang/IndexOutOfBoundsException" ∧ post 1 K o od) ∨ (E = "java/lang/UnsupportedOperationException" ∧ post 2 K o od) ∨ (E = "java/lang/IllegalStateException" ∧ post 3 K o od)) mc ms K p1 p2
set_option maxHeartbeats 4000000 in
theorem mtL_play {l : Launch} {D : va_G} {cI : Nat → ClassId} {e0 : Nat} {A : Nat → Prop} {ad : Nat → Nat → Nat} {K M : KS} {ap o : Int64} {od : UInt64} {mc ms : Nat} {p1 p2 : Int32} {post : Int32 → KS → Int64 → UInt64 → Prop} (hfl : l.stackTraces = false) (h : wpL_play post mc ms K o od p1 p2) : CW l D cI e0 A yL_play cL_play 5 (some .int) [(0, 10, 13, 21), (0, 10, 17, 49), (0, 10, 21, 15)] 8 128 mc ms [.ref (ad 0 0), .int p1, .int p2, .ref (ad 14 0)] (HT D cI e0 A ad K M ap o od) (qH D cI e0 A ad M ap post) := by
  refine CW.of (by decide) (Nat.le_of_ble_eq_true rfl) (fun p e s m below meth c ls FX hw hS hl => ?_)
  obtain ⟨S, hg, hr, hlk, hnm, htab⟩ := FX
  have hl : lv_has ls 5 [(0, .ref (ad 0 0)), (1, .int p1), (2, .int p2), (3, .ref (ad 14 0))] := hl
  refine lv_aload_n S.1 S.2.1 dL_play_0 rfl (lv_at hl 3 rfl) ?_
  refine lv_iconst (v := 0) S.1 S.2.1 dL_play_1 (by decide) ?_
  refine lv_aload_n S.1 S.2.1 dL_play_2 rfl (lv_at hl 0 rfl) ?_
  refine lv_iload_n S.1 S.2.1 dL_play_3 rfl (lv_at hl 1 rfl) ?_
  refine lv_iload_n S.1 S.2.1 dL_play_4 rfl (lv_at hl 2 rfl) ?_
  refine r_call (rest := [.int 0, .ref (ad 14 0)]) S hg hS (mtX6_play (mc := mc) (ms := ms) hfl h) u693 u694 u695 u43 u696 hdX6_play (rv0 hg hw) hw ⟨Nat.le_of_ble_eq_true rfl, Nat.le_of_ble_eq_true rfl⟩ ⟨by show 0 + mc ≤ mc; omega, by show 0 + ms ≤ ms; omega⟩ hl.1 (Nat.le_of_ble_eq_true rfl) rfl dL_play_5 (fun E ce q H locs hx hS hc1 hc2 hc3 => ?_) (fun rv H locs hq hS => ?_)
  · obtain ⟨K, hx1, hw⟩ := hx
    have hpass_1 : ∀ z ∈ [(⟨0, 10, 13, 21⟩ : ExceptionTableEntry)], z.catchType ≠ 0 ∧ ∃ nm : String, (Cond.classLink RL z.catchType nm).before #[.ref (ad 0 0), .int p1, .int p2, .ref (ad 14 0)] s = true ∧ va_Nc "java/lang/UnsupportedOperationException" nm s := by
      intro z hz
      rcases List.mem_cons.mp hz with rfl | hz
      · exact ⟨by decide, "java/lang/IndexOutOfBoundsException", S.2.2.2.2 _ u331, hg.2.2.2.2.2.1 ("java/lang/UnsupportedOperationException", "java/lang/IndexOutOfBoundsException") (by decide +kernel)⟩
      exact nomatch hz
    have hpass_2 : ∀ z ∈ [(⟨0, 10, 13, 21⟩ : ExceptionTableEntry), (⟨0, 10, 17, 49⟩ : ExceptionTableEntry)], z.catchType ≠ 0 ∧ ∃ nm : String, (Cond.classLink RL z.catchType nm).before #[.ref (ad 0 0), .int p1, .int p2, .ref (ad 14 0)] s = true ∧ va_Nc "java/lang/IllegalStateException" nm s := by
      intro z hz
      rcases List.mem_cons.mp hz with rfl | hz
      · exact ⟨by decide, "java/lang/IndexOutOfBoundsException", S.2.2.2.2 _ u331, hg.2.2.2.2.2.1 ("java/lang/IllegalStateException", "java/lang/IndexOutOfBoundsException") (by decide +kernel)⟩
      rcases List.mem_cons.mp hz with rfl | hz
      · exact ⟨by decide, "java/lang/UnsupportedOperationException", S.2.2.2.2 _ u641, hg.2.2.2.2.2.1 ("java/lang/IllegalStateException", "java/lang/UnsupportedOperationException") (by decide +kernel)⟩
      exact nomatch hz
    rcases hx1 with ⟨rfl, h9⟩ | ⟨rfl, h9⟩ | ⟨rfl, h9⟩
    · skip
      refine vx_catch (name := "java/lang/IndexOutOfBoundsException") S.2.2.2.1 [] (⟨0, 10, 13, 21⟩ : ExceptionTableEntry) [(⟨0, 10, 17, 49⟩ : ExceptionTableEntry), (⟨0, 10, 21, 15⟩ : ExceptionTableEntry)] (htab.trans rfl) (fun z hz => nomatch hz) (by decide) (by decide) (S.2.2.2.2 _ u331) (va_Nw.use rfl (hg.2.2.2.2.1.1 ("java/lang/IndexOutOfBoundsException", "java/lang/IndexOutOfBoundsException") (by decide +kernel))) hc1 hc2 hc3 ?_
      refine lv_astore (lv' := [(4, .ref q), (0, .ref (ad 0 0)), (1, .int p1), (2, .int p2), (3, .ref (ad 14 0))]) S.1 S.2.1 dL_play_13 hl (by decide) rfl (fun ls hl => ?_)
      refine lv_iconst (v := 1) S.1 S.2.1 dL_play_15 (by decide) ?_
      exact r_iret (y := yL_play) S hr rfl hlk hS (by show _ ≤ mc; omega) (by show _ ≤ ms; omega) dL_play_16 ⟨_, _, _, _, ad, rfl, h9, ⟨rfl, rfl, rfl, rfl⟩, hw⟩
    · skip
      refine vx_catch (name := "java/lang/UnsupportedOperationException") S.2.2.2.1 [(⟨0, 10, 13, 21⟩ : ExceptionTableEntry)] (⟨0, 10, 17, 49⟩ : ExceptionTableEntry) [(⟨0, 10, 21, 15⟩ : ExceptionTableEntry)] (htab.trans rfl) (fun z hz => Or.inr (hpass_1 z hz)) (by decide) (by decide) (S.2.2.2.2 _ u641) (va_Nw.use rfl (hg.2.2.2.2.1.1 ("java/lang/UnsupportedOperationException", "java/lang/UnsupportedOperationException") (by decide +kernel))) hc1 hc2 hc3 ?_
      refine lv_astore (lv' := [(4, .ref q), (0, .ref (ad 0 0)), (1, .int p1), (2, .int p2), (3, .ref (ad 14 0))]) S.1 S.2.1 dL_play_17 hl (by decide) rfl (fun ls hl => ?_)
      refine lv_iconst (v := 2) S.1 S.2.1 dL_play_19 (by decide) ?_
      exact r_iret (y := yL_play) S hr rfl hlk hS (by show _ ≤ mc; omega) (by show _ ≤ ms; omega) dL_play_20 ⟨_, _, _, _, ad, rfl, h9, ⟨rfl, rfl, rfl, rfl⟩, hw⟩
    · skip
      refine vx_catch (name := "java/lang/IllegalStateException") S.2.2.2.1 [(⟨0, 10, 13, 21⟩ : ExceptionTableEntry), (⟨0, 10, 17, 49⟩ : ExceptionTableEntry)] (⟨0, 10, 21, 15⟩ : ExceptionTableEntry) [] (htab.trans rfl) (fun z hz => Or.inr (hpass_2 z hz)) (by decide) (by decide) (S.2.2.2.2 _ u235) (va_Nw.use rfl (hg.2.2.2.2.1.1 ("java/lang/IllegalStateException", "java/lang/IllegalStateException") (by decide +kernel))) hc1 hc2 hc3 ?_
      refine lv_astore (lv' := [(4, .ref q), (0, .ref (ad 0 0)), (1, .int p1), (2, .int p2), (3, .ref (ad 14 0))]) S.1 S.2.1 dL_play_21 hl (by decide) rfl (fun ls hl => ?_)
      refine lv_iconst (v := 3) S.1 S.2.1 dL_play_23 (by decide) ?_
      exact r_iret (y := yL_play) S hr rfl hlk hS (by show _ ≤ mc; omega) (by show _ ≤ ms; omega) dL_play_24 ⟨_, _, _, _, ad, rfl, h9, ⟨rfl, rfl, rfl, rfl⟩, hw⟩
  · obtain ⟨r1, K1, rfl, h, hw⟩ := hq
    show W p l e _ s m _ below meth c H locs (0 + mc) (0 + ms) _ (F0 m 8 ls [.int r1, .int 0, .ref (ad 14 0)])
    refine lv_i2l S.1 S.2.1 dL_play_8 rfl ?_
    refine s14 S hg hS hw rfl dL_play_9 (fun H locs hw hS => ?_)
    refine lv_goto (tgt := 25) S.1 S.2.1 dL_play_10 (by decide) ?_
    refine lv_iconst (v := 0) S.1 S.2.1 dL_play_25 (by decide) ?_
    exact r_iret (y := yL_play) S hr rfl hlk hS (by show _ ≤ mc; omega) (by show _ ≤ ms; omega) dL_play_26 ⟨_, _, _, _, ad, rfl, h, ⟨rfl, rfl, rfl, rfl⟩, hw⟩
theorem dL_endTurn_0 : decode cL_endTurn 0 = .ok (.aload_n 2, 1) := by decide +kernel
theorem dL_endTurn_1 : decode cL_endTurn 1 = .ok (.iconst 0, 1) := by decide +kernel
theorem dL_endTurn_2 : decode cL_endTurn 2 = .ok (.aload_n 0, 1) := by decide +kernel
theorem dL_endTurn_3 : decode cL_endTurn 3 = .ok (.iload_n 1, 1) := by decide +kernel
theorem dL_endTurn_4 : decode cL_endTurn 4 = .ok (.invokevirtual 57, 3) := by decide +kernel
theorem dL_endTurn_7 : decode cL_endTurn 7 = .ok (.i2l, 1) := by decide +kernel
theorem dL_endTurn_8 : decode cL_endTurn 8 = .ok (.lastore, 1) := by decide +kernel
theorem dL_endTurn_9 : decode cL_endTurn 9 = .ok (.goto 9, 3) := by decide +kernel
theorem dL_endTurn_12 : decode cL_endTurn 12 = .ok (.astore_n 3, 1) := by decide +kernel
theorem dL_endTurn_13 : decode cL_endTurn 13 = .ok (.iconst 1, 1) := by decide +kernel
theorem dL_endTurn_14 : decode cL_endTurn 14 = .ok (.ireturn, 1) := by decide +kernel
theorem dL_endTurn_15 : decode cL_endTurn 15 = .ok (.astore_n 3, 1) := by decide +kernel
theorem dL_endTurn_16 : decode cL_endTurn 16 = .ok (.iconst 2, 1) := by decide +kernel
theorem dL_endTurn_17 : decode cL_endTurn 17 = .ok (.ireturn, 1) := by decide +kernel
theorem dL_endTurn_18 : decode cL_endTurn 18 = .ok (.iconst 0, 1) := by decide +kernel
theorem dL_endTurn_19 : decode cL_endTurn 19 = .ok (.ireturn, 1) := by decide +kernel
theorem hdL_endTurn : yL_endTurn.cls ≠ "java/lang/invoke/MethodHandle" ∧ yL_endTurn.cls ≠ "java/lang/invoke/VarHandle" ∧ (parseMethodDescriptor yL_endTurn.desc).map (fun d => d.parameters.length) = some 3 := by decide +kernel
def wpL_endTurn (post : Int32 → KS → Int64 → UInt64 → Prop) (mc ms : Nat) (K : KS) (o : Int64) (od : UInt64) (p1 : Int32) : Prop := wpX6_endTurn (fun v K => post 0 K (v.toInt64) od) (fun E K => (E = "java/lang/IndexOutOfBoundsException" ∧ post 1 K o od) ∨ (E = "java/lang/UnsupportedOperationException" ∧ post 2 K o od)) mc ms K p1
set_option maxHeartbeats 4000000 in
theorem mtL_endTurn {l : Launch} {D : va_G} {cI : Nat → ClassId} {e0 : Nat} {A : Nat → Prop} {ad : Nat → Nat → Nat} {K M : KS} {ap o : Int64} {od : UInt64} {mc ms : Nat} {p1 : Int32} {post : Int32 → KS → Int64 → UInt64 → Prop} (hfl : l.stackTraces = false) (h : wpL_endTurn post mc ms K o od p1) : CW l D cI e0 A yL_endTurn cL_endTurn 4 (some .int) [(0, 9, 12, 21), (0, 9, 15, 49)] 8 173 mc ms [.ref (ad 0 0), .int p1, .ref (ad 14 0)] (HT D cI e0 A ad K M ap o od) (qH D cI e0 A ad M ap post) := by
  refine CW.of (by decide) (Nat.le_of_ble_eq_true rfl) (fun p e s m below meth c ls FX hw hS hl => ?_)
  obtain ⟨S, hg, hr, hlk, hnm, htab⟩ := FX
  have hl : lv_has ls 4 [(0, .ref (ad 0 0)), (1, .int p1), (2, .ref (ad 14 0))] := hl
  refine lv_aload_n S.1 S.2.1 dL_endTurn_0 rfl (lv_at hl 2 rfl) ?_
  refine lv_iconst (v := 0) S.1 S.2.1 dL_endTurn_1 (by decide) ?_
  refine lv_aload_n S.1 S.2.1 dL_endTurn_2 rfl (lv_at hl 0 rfl) ?_
  refine lv_iload_n S.1 S.2.1 dL_endTurn_3 rfl (lv_at hl 1 rfl) ?_
  refine r_call (rest := [.int 0, .ref (ad 14 0)]) S hg hS (mtX6_endTurn (mc := mc) (ms := ms) hfl h) u735 u736 u737 u43 u738 hdX6_endTurn (rv0 hg hw) hw ⟨Nat.le_of_ble_eq_true rfl, Nat.le_of_ble_eq_true rfl⟩ ⟨by show 0 + mc ≤ mc; omega, by show 0 + ms ≤ ms; omega⟩ hl.1 (Nat.le_of_ble_eq_true rfl) rfl dL_endTurn_4 (fun E ce q H locs hx hS hc1 hc2 hc3 => ?_) (fun rv H locs hq hS => ?_)
  · obtain ⟨K, hx1, hw⟩ := hx
    have hpass_1 : ∀ z ∈ [(⟨0, 9, 12, 21⟩ : ExceptionTableEntry)], z.catchType ≠ 0 ∧ ∃ nm : String, (Cond.classLink RL z.catchType nm).before #[.ref (ad 0 0), .int p1, .ref (ad 14 0)] s = true ∧ va_Nc "java/lang/UnsupportedOperationException" nm s := by
      intro z hz
      rcases List.mem_cons.mp hz with rfl | hz
      · exact ⟨by decide, "java/lang/IndexOutOfBoundsException", S.2.2.2.2 _ u331, hg.2.2.2.2.2.1 ("java/lang/UnsupportedOperationException", "java/lang/IndexOutOfBoundsException") (by decide +kernel)⟩
      exact nomatch hz
    rcases hx1 with ⟨rfl, h9⟩ | ⟨rfl, h9⟩
    · skip
      refine vx_catch (name := "java/lang/IndexOutOfBoundsException") S.2.2.2.1 [] (⟨0, 9, 12, 21⟩ : ExceptionTableEntry) [(⟨0, 9, 15, 49⟩ : ExceptionTableEntry)] (htab.trans rfl) (fun z hz => nomatch hz) (by decide) (by decide) (S.2.2.2.2 _ u331) (va_Nw.use rfl (hg.2.2.2.2.1.1 ("java/lang/IndexOutOfBoundsException", "java/lang/IndexOutOfBoundsException") (by decide +kernel))) hc1 hc2 hc3 ?_
      refine lv_astore_n (lv' := [(3, .ref q), (0, .ref (ad 0 0)), (1, .int p1), (2, .ref (ad 14 0))]) S.1 S.2.1 dL_endTurn_12 rfl hl (by decide) rfl (fun ls hl => ?_)
      refine lv_iconst (v := 1) S.1 S.2.1 dL_endTurn_13 (by decide) ?_
      exact r_iret (y := yL_endTurn) S hr rfl hlk hS (by show _ ≤ mc; omega) (by show _ ≤ ms; omega) dL_endTurn_14 ⟨_, _, _, _, ad, rfl, h9, ⟨rfl, rfl, rfl, rfl⟩, hw⟩
    · skip
      refine vx_catch (name := "java/lang/UnsupportedOperationException") S.2.2.2.1 [(⟨0, 9, 12, 21⟩ : ExceptionTableEntry)] (⟨0, 9, 15, 49⟩ : ExceptionTableEntry) [] (htab.trans rfl) (fun z hz => Or.inr (hpass_1 z hz)) (by decide) (by decide) (S.2.2.2.2 _ u641) (va_Nw.use rfl (hg.2.2.2.2.1.1 ("java/lang/UnsupportedOperationException", "java/lang/UnsupportedOperationException") (by decide +kernel))) hc1 hc2 hc3 ?_
      refine lv_astore_n (lv' := [(3, .ref q), (0, .ref (ad 0 0)), (1, .int p1), (2, .ref (ad 14 0))]) S.1 S.2.1 dL_endTurn_15 rfl hl (by decide) rfl (fun ls hl => ?_)
      refine lv_iconst (v := 2) S.1 S.2.1 dL_endTurn_16 (by decide) ?_
      exact r_iret (y := yL_endTurn) S hr rfl hlk hS (by show _ ≤ mc; omega) (by show _ ≤ ms; omega) dL_endTurn_17 ⟨_, _, _, _, ad, rfl, h9, ⟨rfl, rfl, rfl, rfl⟩, hw⟩
  · obtain ⟨r1, K1, rfl, h, hw⟩ := hq
    show W p l e _ s m _ below meth c H locs (0 + mc) (0 + ms) _ (F0 m 7 ls [.int r1, .int 0, .ref (ad 14 0)])
    refine lv_i2l S.1 S.2.1 dL_endTurn_7 rfl ?_
    refine s14 S hg hS hw rfl dL_endTurn_8 (fun H locs hw hS => ?_)
    refine lv_goto (tgt := 18) S.1 S.2.1 dL_endTurn_9 (by decide) ?_
    refine lv_iconst (v := 0) S.1 S.2.1 dL_endTurn_18 (by decide) ?_
    exact r_iret (y := yL_endTurn) S hr rfl hlk hS (by show _ ≤ mc; omega) (by show _ ≤ ms; omega) dL_endTurn_19 ⟨_, _, _, _, ad, rfl, h, ⟨rfl, rfl, rfl, rfl⟩, hw⟩
theorem dL_duelState_0 : decode cL_duelState 0 = .ok (.aload_n 2, 1) := by decide +kernel
theorem dL_duelState_1 : decode cL_duelState 1 = .ok (.iconst 0, 1) := by decide +kernel
theorem dL_duelState_2 : decode cL_duelState 2 = .ok (.aload_n 0, 1) := by decide +kernel
theorem dL_duelState_3 : decode cL_duelState 3 = .ok (.iload_n 1, 1) := by decide +kernel
theorem dL_duelState_4 : decode cL_duelState 4 = .ok (.invokevirtual 60, 3) := by decide +kernel
theorem dL_duelState_7 : decode cL_duelState 7 = .ok (.i2l, 1) := by decide +kernel
theorem dL_duelState_8 : decode cL_duelState 8 = .ok (.lastore, 1) := by decide +kernel
theorem dL_duelState_9 : decode cL_duelState 9 = .ok (.goto 6, 3) := by decide +kernel
theorem dL_duelState_12 : decode cL_duelState 12 = .ok (.astore_n 3, 1) := by decide +kernel
theorem dL_duelState_13 : decode cL_duelState 13 = .ok (.iconst 1, 1) := by decide +kernel
theorem dL_duelState_14 : decode cL_duelState 14 = .ok (.ireturn, 1) := by decide +kernel
theorem dL_duelState_15 : decode cL_duelState 15 = .ok (.iconst 0, 1) := by decide +kernel
theorem dL_duelState_16 : decode cL_duelState 16 = .ok (.ireturn, 1) := by decide +kernel
theorem hdL_duelState : yL_duelState.cls ≠ "java/lang/invoke/MethodHandle" ∧ yL_duelState.cls ≠ "java/lang/invoke/VarHandle" ∧ (parseMethodDescriptor yL_duelState.desc).map (fun d => d.parameters.length) = some 3 := by decide +kernel
def wpL_duelState (post : Int32 → KS → Int64 → UInt64 → Prop) (mc ms : Nat) (K : KS) (o : Int64) (od : UInt64) (p1 : Int32) : Prop := wpX6_duelState (fun v => post 0 K (v.toInt64) od) (fun E => (E = "java/lang/IndexOutOfBoundsException" ∧ post 1 K o od)) mc ms K p1
set_option maxHeartbeats 4000000 in
theorem mtL_duelState {l : Launch} {D : va_G} {cI : Nat → ClassId} {e0 : Nat} {A : Nat → Prop} {ad : Nat → Nat → Nat} {K M : KS} {ap o : Int64} {od : UInt64} {mc ms : Nat} {p1 : Int32} {post : Int32 → KS → Int64 → UInt64 → Prop} (hfl : l.stackTraces = false) (h : wpL_duelState post mc ms K o od p1) : CW l D cI e0 A yL_duelState cL_duelState 4 (some .int) [(0, 9, 12, 21)] 8 124 mc ms [.ref (ad 0 0), .int p1, .ref (ad 14 0)] (HT D cI e0 A ad K M ap o od) (qH D cI e0 A ad M ap post) := by
  refine CW.of (by decide) (Nat.le_of_ble_eq_true rfl) (fun p e s m below meth c ls FX hw hS hl => ?_)
  obtain ⟨S, hg, hr, hlk, hnm, htab⟩ := FX
  have hl : lv_has ls 4 [(0, .ref (ad 0 0)), (1, .int p1), (2, .ref (ad 14 0))] := hl
  refine lv_aload_n S.1 S.2.1 dL_duelState_0 rfl (lv_at hl 2 rfl) ?_
  refine lv_iconst (v := 0) S.1 S.2.1 dL_duelState_1 (by decide) ?_
  refine lv_aload_n S.1 S.2.1 dL_duelState_2 rfl (lv_at hl 0 rfl) ?_
  refine lv_iload_n S.1 S.2.1 dL_duelState_3 rfl (lv_at hl 1 rfl) ?_
  refine r_call (rest := [.int 0, .ref (ad 14 0)]) S hg hS (mtX6_duelState (mc := mc) (ms := ms) hfl h) u780 u781 u782 u43 u783 hdX6_duelState (rv0 hg hw) hw ⟨Nat.le_of_ble_eq_true rfl, Nat.le_of_ble_eq_true rfl⟩ ⟨by show 0 + mc ≤ mc; omega, by show 0 + ms ≤ ms; omega⟩ hl.1 (Nat.le_of_ble_eq_true rfl) rfl dL_duelState_4 (fun E ce q H locs hx hS hc1 hc2 hc3 => ?_) (fun rv H locs hq hS => ?_)
  · obtain ⟨hx1, hw⟩ := hx
    obtain ⟨rfl, h9⟩ := hx1
    refine vx_catch (name := "java/lang/IndexOutOfBoundsException") S.2.2.2.1 [] (⟨0, 9, 12, 21⟩ : ExceptionTableEntry) [] (htab.trans rfl) (fun z hz => nomatch hz) (by decide) (by decide) (S.2.2.2.2 _ u331) (va_Nw.use rfl (hg.2.2.2.2.1.1 ("java/lang/IndexOutOfBoundsException", "java/lang/IndexOutOfBoundsException") (by decide +kernel))) hc1 hc2 hc3 ?_
    refine lv_astore_n (lv' := [(3, .ref q), (0, .ref (ad 0 0)), (1, .int p1), (2, .ref (ad 14 0))]) S.1 S.2.1 dL_duelState_12 rfl hl (by decide) rfl (fun ls hl => ?_)
    refine lv_iconst (v := 1) S.1 S.2.1 dL_duelState_13 (by decide) ?_
    exact r_iret (y := yL_duelState) S hr rfl hlk hS (by show _ ≤ mc; omega) (by show _ ≤ ms; omega) dL_duelState_14 ⟨_, _, _, _, ad, rfl, h9, ⟨rfl, rfl, rfl, rfl⟩, hw⟩
  · obtain ⟨r1, rfl, h, hw⟩ := hq
    show W p l e _ s m _ below meth c H locs (0 + mc) (0 + ms) _ (F0 m 7 ls [.int r1, .int 0, .ref (ad 14 0)])
    refine lv_i2l S.1 S.2.1 dL_duelState_7 rfl ?_
    refine s14 S hg hS hw rfl dL_duelState_8 (fun H locs hw hS => ?_)
    refine lv_goto (tgt := 15) S.1 S.2.1 dL_duelState_9 (by decide) ?_
    refine lv_iconst (v := 0) S.1 S.2.1 dL_duelState_15 (by decide) ?_
    exact r_iret (y := yL_duelState) S hr rfl hlk hS (by show _ ≤ mc; omega) (by show _ ≤ ms; omega) dL_duelState_16 ⟨_, _, _, _, ad, rfl, h, ⟨rfl, rfl, rfl, rfl⟩, hw⟩
theorem dL_life_0 : decode cL_life 0 = .ok (.aload_n 3, 1) := by decide +kernel
theorem dL_life_1 : decode cL_life 1 = .ok (.iconst 0, 1) := by decide +kernel
theorem dL_life_2 : decode cL_life 2 = .ok (.aload_n 0, 1) := by decide +kernel
theorem dL_life_3 : decode cL_life 3 = .ok (.iload_n 1, 1) := by decide +kernel
theorem dL_life_4 : decode cL_life 4 = .ok (.iload_n 2, 1) := by decide +kernel
theorem dL_life_5 : decode cL_life 5 = .ok (.invokevirtual 63, 3) := by decide +kernel
theorem dL_life_8 : decode cL_life 8 = .ok (.i2l, 1) := by decide +kernel
theorem dL_life_9 : decode cL_life 9 = .ok (.lastore, 1) := by decide +kernel
theorem dL_life_10 : decode cL_life 10 = .ok (.goto 7, 3) := by decide +kernel
theorem dL_life_13 : decode cL_life 13 = .ok (.astore 4, 2) := by decide +kernel
theorem dL_life_15 : decode cL_life 15 = .ok (.iconst 1, 1) := by decide +kernel
theorem dL_life_16 : decode cL_life 16 = .ok (.ireturn, 1) := by decide +kernel
theorem dL_life_17 : decode cL_life 17 = .ok (.iconst 0, 1) := by decide +kernel
theorem dL_life_18 : decode cL_life 18 = .ok (.ireturn, 1) := by decide +kernel
theorem hdL_life : yL_life.cls ≠ "java/lang/invoke/MethodHandle" ∧ yL_life.cls ≠ "java/lang/invoke/VarHandle" ∧ (parseMethodDescriptor yL_life.desc).map (fun d => d.parameters.length) = some 4 := by decide +kernel
def wpL_life (post : Int32 → KS → Int64 → UInt64 → Prop) (mc ms : Nat) (K : KS) (o : Int64) (od : UInt64) (p1 : Int32) (p2 : Int32) : Prop := wpX6_life (fun v => post 0 K (v.toInt64) od) (fun E => (E = "java/lang/IndexOutOfBoundsException" ∧ post 1 K o od)) mc ms K p1 p2
set_option maxHeartbeats 4000000 in
theorem mtL_life {l : Launch} {D : va_G} {cI : Nat → ClassId} {e0 : Nat} {A : Nat → Prop} {ad : Nat → Nat → Nat} {K M : KS} {ap o : Int64} {od : UInt64} {mc ms : Nat} {p1 p2 : Int32} {post : Int32 → KS → Int64 → UInt64 → Prop} (hfl : l.stackTraces = false) (h : wpL_life post mc ms K o od p1 p2) : CW l D cI e0 A yL_life cL_life 5 (some .int) [(0, 10, 13, 21)] 8 126 mc ms [.ref (ad 0 0), .int p1, .int p2, .ref (ad 14 0)] (HT D cI e0 A ad K M ap o od) (qH D cI e0 A ad M ap post) := by
  refine CW.of (by decide) (Nat.le_of_ble_eq_true rfl) (fun p e s m below meth c ls FX hw hS hl => ?_)
  obtain ⟨S, hg, hr, hlk, hnm, htab⟩ := FX
  have hl : lv_has ls 5 [(0, .ref (ad 0 0)), (1, .int p1), (2, .int p2), (3, .ref (ad 14 0))] := hl
  refine lv_aload_n S.1 S.2.1 dL_life_0 rfl (lv_at hl 3 rfl) ?_
  refine lv_iconst (v := 0) S.1 S.2.1 dL_life_1 (by decide) ?_
  refine lv_aload_n S.1 S.2.1 dL_life_2 rfl (lv_at hl 0 rfl) ?_
  refine lv_iload_n S.1 S.2.1 dL_life_3 rfl (lv_at hl 1 rfl) ?_
  refine lv_iload_n S.1 S.2.1 dL_life_4 rfl (lv_at hl 2 rfl) ?_
  refine r_call (rest := [.int 0, .ref (ad 14 0)]) S hg hS (mtX6_life (mc := mc) (ms := ms) hfl h) u787 u788 u789 u43 u790 hdX6_life (rv0 hg hw) hw ⟨Nat.le_of_ble_eq_true rfl, Nat.le_of_ble_eq_true rfl⟩ ⟨by show 0 + mc ≤ mc; omega, by show 0 + ms ≤ ms; omega⟩ hl.1 (Nat.le_of_ble_eq_true rfl) rfl dL_life_5 (fun E ce q H locs hx hS hc1 hc2 hc3 => ?_) (fun rv H locs hq hS => ?_)
  · obtain ⟨hx1, hw⟩ := hx
    obtain ⟨rfl, h9⟩ := hx1
    refine vx_catch (name := "java/lang/IndexOutOfBoundsException") S.2.2.2.1 [] (⟨0, 10, 13, 21⟩ : ExceptionTableEntry) [] (htab.trans rfl) (fun z hz => nomatch hz) (by decide) (by decide) (S.2.2.2.2 _ u331) (va_Nw.use rfl (hg.2.2.2.2.1.1 ("java/lang/IndexOutOfBoundsException", "java/lang/IndexOutOfBoundsException") (by decide +kernel))) hc1 hc2 hc3 ?_
    refine lv_astore (lv' := [(4, .ref q), (0, .ref (ad 0 0)), (1, .int p1), (2, .int p2), (3, .ref (ad 14 0))]) S.1 S.2.1 dL_life_13 hl (by decide) rfl (fun ls hl => ?_)
    refine lv_iconst (v := 1) S.1 S.2.1 dL_life_15 (by decide) ?_
    exact r_iret (y := yL_life) S hr rfl hlk hS (by show _ ≤ mc; omega) (by show _ ≤ ms; omega) dL_life_16 ⟨_, _, _, _, ad, rfl, h9, ⟨rfl, rfl, rfl, rfl⟩, hw⟩
  · obtain ⟨r1, rfl, h, hw⟩ := hq
    show W p l e _ s m _ below meth c H locs (0 + mc) (0 + ms) _ (F0 m 8 ls [.int r1, .int 0, .ref (ad 14 0)])
    refine lv_i2l S.1 S.2.1 dL_life_8 rfl ?_
    refine s14 S hg hS hw rfl dL_life_9 (fun H locs hw hS => ?_)
    refine lv_goto (tgt := 17) S.1 S.2.1 dL_life_10 (by decide) ?_
    refine lv_iconst (v := 0) S.1 S.2.1 dL_life_17 (by decide) ?_
    exact r_iret (y := yL_life) S hr rfl hlk hS (by show _ ≤ mc; omega) (by show _ ≤ ms; omega) dL_life_18 ⟨_, _, _, _, ad, rfl, h, ⟨rfl, rfl, rfl, rfl⟩, hw⟩
theorem dL_mana_0 : decode cL_mana 0 = .ok (.aload_n 2, 1) := by decide +kernel
theorem dL_mana_1 : decode cL_mana 1 = .ok (.iconst 0, 1) := by decide +kernel
theorem dL_mana_2 : decode cL_mana 2 = .ok (.aload_n 0, 1) := by decide +kernel
theorem dL_mana_3 : decode cL_mana 3 = .ok (.iload_n 1, 1) := by decide +kernel
theorem dL_mana_4 : decode cL_mana 4 = .ok (.invokevirtual 67, 3) := by decide +kernel
theorem dL_mana_7 : decode cL_mana 7 = .ok (.i2l, 1) := by decide +kernel
theorem dL_mana_8 : decode cL_mana 8 = .ok (.lastore, 1) := by decide +kernel
theorem dL_mana_9 : decode cL_mana 9 = .ok (.goto 9, 3) := by decide +kernel
theorem dL_mana_12 : decode cL_mana 12 = .ok (.astore_n 3, 1) := by decide +kernel
theorem dL_mana_13 : decode cL_mana 13 = .ok (.iconst 1, 1) := by decide +kernel
theorem dL_mana_14 : decode cL_mana 14 = .ok (.ireturn, 1) := by decide +kernel
theorem dL_mana_15 : decode cL_mana 15 = .ok (.astore_n 3, 1) := by decide +kernel
theorem dL_mana_16 : decode cL_mana 16 = .ok (.iconst 2, 1) := by decide +kernel
theorem dL_mana_17 : decode cL_mana 17 = .ok (.ireturn, 1) := by decide +kernel
theorem dL_mana_18 : decode cL_mana 18 = .ok (.iconst 0, 1) := by decide +kernel
theorem dL_mana_19 : decode cL_mana 19 = .ok (.ireturn, 1) := by decide +kernel
theorem hdL_mana : yL_mana.cls ≠ "java/lang/invoke/MethodHandle" ∧ yL_mana.cls ≠ "java/lang/invoke/VarHandle" ∧ (parseMethodDescriptor yL_mana.desc).map (fun d => d.parameters.length) = some 3 := by decide +kernel
def wpL_mana (post : Int32 → KS → Int64 → UInt64 → Prop) (mc ms : Nat) (K : KS) (o : Int64) (od : UInt64) (p1 : Int32) : Prop := wpX6_mana (fun v => post 0 K (v.toInt64) od) (fun E => (E = "java/lang/IndexOutOfBoundsException" ∧ post 1 K o od) ∨ (E = "java/lang/UnsupportedOperationException" ∧ post 2 K o od)) mc ms K p1
set_option maxHeartbeats 4000000 in
theorem mtL_mana {l : Launch} {D : va_G} {cI : Nat → ClassId} {e0 : Nat} {A : Nat → Prop} {ad : Nat → Nat → Nat} {K M : KS} {ap o : Int64} {od : UInt64} {mc ms : Nat} {p1 : Int32} {post : Int32 → KS → Int64 → UInt64 → Prop} (hfl : l.stackTraces = false) (h : wpL_mana post mc ms K o od p1) : CW l D cI e0 A yL_mana cL_mana 4 (some .int) [(0, 9, 12, 21), (0, 9, 15, 49)] 8 125 mc ms [.ref (ad 0 0), .int p1, .ref (ad 14 0)] (HT D cI e0 A ad K M ap o od) (qH D cI e0 A ad M ap post) := by
  refine CW.of (by decide) (Nat.le_of_ble_eq_true rfl) (fun p e s m below meth c ls FX hw hS hl => ?_)
  obtain ⟨S, hg, hr, hlk, hnm, htab⟩ := FX
  have hl : lv_has ls 4 [(0, .ref (ad 0 0)), (1, .int p1), (2, .ref (ad 14 0))] := hl
  refine lv_aload_n S.1 S.2.1 dL_mana_0 rfl (lv_at hl 2 rfl) ?_
  refine lv_iconst (v := 0) S.1 S.2.1 dL_mana_1 (by decide) ?_
  refine lv_aload_n S.1 S.2.1 dL_mana_2 rfl (lv_at hl 0 rfl) ?_
  refine lv_iload_n S.1 S.2.1 dL_mana_3 rfl (lv_at hl 1 rfl) ?_
  refine r_call (rest := [.int 0, .ref (ad 14 0)]) S hg hS (mtX6_mana (mc := mc) (ms := ms) hfl h) u794 u795 u796 u43 u797 hdX6_mana (rv0 hg hw) hw ⟨Nat.le_of_ble_eq_true rfl, Nat.le_of_ble_eq_true rfl⟩ ⟨by show 0 + mc ≤ mc; omega, by show 0 + ms ≤ ms; omega⟩ hl.1 (Nat.le_of_ble_eq_true rfl) rfl dL_mana_4 (fun E ce q H locs hx hS hc1 hc2 hc3 => ?_) (fun rv H locs hq hS => ?_)
  · obtain ⟨hx1, hw⟩ := hx
    have hpass_1 : ∀ z ∈ [(⟨0, 9, 12, 21⟩ : ExceptionTableEntry)], z.catchType ≠ 0 ∧ ∃ nm : String, (Cond.classLink RL z.catchType nm).before #[.ref (ad 0 0), .int p1, .ref (ad 14 0)] s = true ∧ va_Nc "java/lang/UnsupportedOperationException" nm s := by
      intro z hz
      rcases List.mem_cons.mp hz with rfl | hz
      · exact ⟨by decide, "java/lang/IndexOutOfBoundsException", S.2.2.2.2 _ u331, hg.2.2.2.2.2.1 ("java/lang/UnsupportedOperationException", "java/lang/IndexOutOfBoundsException") (by decide +kernel)⟩
      exact nomatch hz
    rcases hx1 with ⟨rfl, h9⟩ | ⟨rfl, h9⟩
    · skip
      refine vx_catch (name := "java/lang/IndexOutOfBoundsException") S.2.2.2.1 [] (⟨0, 9, 12, 21⟩ : ExceptionTableEntry) [(⟨0, 9, 15, 49⟩ : ExceptionTableEntry)] (htab.trans rfl) (fun z hz => nomatch hz) (by decide) (by decide) (S.2.2.2.2 _ u331) (va_Nw.use rfl (hg.2.2.2.2.1.1 ("java/lang/IndexOutOfBoundsException", "java/lang/IndexOutOfBoundsException") (by decide +kernel))) hc1 hc2 hc3 ?_
      refine lv_astore_n (lv' := [(3, .ref q), (0, .ref (ad 0 0)), (1, .int p1), (2, .ref (ad 14 0))]) S.1 S.2.1 dL_mana_12 rfl hl (by decide) rfl (fun ls hl => ?_)
      refine lv_iconst (v := 1) S.1 S.2.1 dL_mana_13 (by decide) ?_
      exact r_iret (y := yL_mana) S hr rfl hlk hS (by show _ ≤ mc; omega) (by show _ ≤ ms; omega) dL_mana_14 ⟨_, _, _, _, ad, rfl, h9, ⟨rfl, rfl, rfl, rfl⟩, hw⟩
    · skip
      refine vx_catch (name := "java/lang/UnsupportedOperationException") S.2.2.2.1 [(⟨0, 9, 12, 21⟩ : ExceptionTableEntry)] (⟨0, 9, 15, 49⟩ : ExceptionTableEntry) [] (htab.trans rfl) (fun z hz => Or.inr (hpass_1 z hz)) (by decide) (by decide) (S.2.2.2.2 _ u641) (va_Nw.use rfl (hg.2.2.2.2.1.1 ("java/lang/UnsupportedOperationException", "java/lang/UnsupportedOperationException") (by decide +kernel))) hc1 hc2 hc3 ?_
      refine lv_astore_n (lv' := [(3, .ref q), (0, .ref (ad 0 0)), (1, .int p1), (2, .ref (ad 14 0))]) S.1 S.2.1 dL_mana_15 rfl hl (by decide) rfl (fun ls hl => ?_)
      refine lv_iconst (v := 2) S.1 S.2.1 dL_mana_16 (by decide) ?_
      exact r_iret (y := yL_mana) S hr rfl hlk hS (by show _ ≤ mc; omega) (by show _ ≤ ms; omega) dL_mana_17 ⟨_, _, _, _, ad, rfl, h9, ⟨rfl, rfl, rfl, rfl⟩, hw⟩
  · obtain ⟨r1, rfl, h, hw⟩ := hq
    show W p l e _ s m _ below meth c H locs (0 + mc) (0 + ms) _ (F0 m 7 ls [.int r1, .int 0, .ref (ad 14 0)])
    refine lv_i2l S.1 S.2.1 dL_mana_7 rfl ?_
    refine s14 S hg hS hw rfl dL_mana_8 (fun H locs hw hS => ?_)
    refine lv_goto (tgt := 18) S.1 S.2.1 dL_mana_9 (by decide) ?_
    refine lv_iconst (v := 0) S.1 S.2.1 dL_mana_18 (by decide) ?_
    exact r_iret (y := yL_mana) S hr rfl hlk hS (by show _ ≤ mc; omega) (by show _ ≤ ms; omega) dL_mana_19 ⟨_, _, _, _, ad, rfl, h, ⟨rfl, rfl, rfl, rfl⟩, hw⟩
theorem dL_depth_0 : decode cL_depth 0 = .ok (.aload_n 2, 1) := by decide +kernel
theorem dL_depth_1 : decode cL_depth 1 = .ok (.iconst 0, 1) := by decide +kernel
theorem dL_depth_2 : decode cL_depth 2 = .ok (.aload_n 0, 1) := by decide +kernel
theorem dL_depth_3 : decode cL_depth 3 = .ok (.iload_n 1, 1) := by decide +kernel
theorem dL_depth_4 : decode cL_depth 4 = .ok (.invokevirtual 70, 3) := by decide +kernel
theorem dL_depth_7 : decode cL_depth 7 = .ok (.i2l, 1) := by decide +kernel
theorem dL_depth_8 : decode cL_depth 8 = .ok (.lastore, 1) := by decide +kernel
theorem dL_depth_9 : decode cL_depth 9 = .ok (.goto 6, 3) := by decide +kernel
theorem dL_depth_12 : decode cL_depth 12 = .ok (.astore_n 3, 1) := by decide +kernel
theorem dL_depth_13 : decode cL_depth 13 = .ok (.iconst 1, 1) := by decide +kernel
theorem dL_depth_14 : decode cL_depth 14 = .ok (.ireturn, 1) := by decide +kernel
theorem dL_depth_15 : decode cL_depth 15 = .ok (.iconst 0, 1) := by decide +kernel
theorem dL_depth_16 : decode cL_depth 16 = .ok (.ireturn, 1) := by decide +kernel
theorem hdL_depth : yL_depth.cls ≠ "java/lang/invoke/MethodHandle" ∧ yL_depth.cls ≠ "java/lang/invoke/VarHandle" ∧ (parseMethodDescriptor yL_depth.desc).map (fun d => d.parameters.length) = some 3 := by decide +kernel
def wpL_depth (post : Int32 → KS → Int64 → UInt64 → Prop) (mc ms : Nat) (K : KS) (o : Int64) (od : UInt64) (p1 : Int32) : Prop := wpX6_depth (fun v => post 0 K (v.toInt64) od) (fun E => (E = "java/lang/IndexOutOfBoundsException" ∧ post 1 K o od)) mc ms K p1
set_option maxHeartbeats 4000000 in
theorem mtL_depth {l : Launch} {D : va_G} {cI : Nat → ClassId} {e0 : Nat} {A : Nat → Prop} {ad : Nat → Nat → Nat} {K M : KS} {ap o : Int64} {od : UInt64} {mc ms : Nat} {p1 : Int32} {post : Int32 → KS → Int64 → UInt64 → Prop} (hfl : l.stackTraces = false) (h : wpL_depth post mc ms K o od p1) : CW l D cI e0 A yL_depth cL_depth 4 (some .int) [(0, 9, 12, 21)] 8 124 mc ms [.ref (ad 0 0), .int p1, .ref (ad 14 0)] (HT D cI e0 A ad K M ap o od) (qH D cI e0 A ad M ap post) := by
  refine CW.of (by decide) (Nat.le_of_ble_eq_true rfl) (fun p e s m below meth c ls FX hw hS hl => ?_)
  obtain ⟨S, hg, hr, hlk, hnm, htab⟩ := FX
  have hl : lv_has ls 4 [(0, .ref (ad 0 0)), (1, .int p1), (2, .ref (ad 14 0))] := hl
  refine lv_aload_n S.1 S.2.1 dL_depth_0 rfl (lv_at hl 2 rfl) ?_
  refine lv_iconst (v := 0) S.1 S.2.1 dL_depth_1 (by decide) ?_
  refine lv_aload_n S.1 S.2.1 dL_depth_2 rfl (lv_at hl 0 rfl) ?_
  refine lv_iload_n S.1 S.2.1 dL_depth_3 rfl (lv_at hl 1 rfl) ?_
  refine r_call (rest := [.int 0, .ref (ad 14 0)]) S hg hS (mtX6_depth (mc := mc) (ms := ms) hfl h) u801 u802 u803 u43 u804 hdX6_depth (rv0 hg hw) hw ⟨Nat.le_of_ble_eq_true rfl, Nat.le_of_ble_eq_true rfl⟩ ⟨by show 0 + mc ≤ mc; omega, by show 0 + ms ≤ ms; omega⟩ hl.1 (Nat.le_of_ble_eq_true rfl) rfl dL_depth_4 (fun E ce q H locs hx hS hc1 hc2 hc3 => ?_) (fun rv H locs hq hS => ?_)
  · obtain ⟨hx1, hw⟩ := hx
    obtain ⟨rfl, h9⟩ := hx1
    refine vx_catch (name := "java/lang/IndexOutOfBoundsException") S.2.2.2.1 [] (⟨0, 9, 12, 21⟩ : ExceptionTableEntry) [] (htab.trans rfl) (fun z hz => nomatch hz) (by decide) (by decide) (S.2.2.2.2 _ u331) (va_Nw.use rfl (hg.2.2.2.2.1.1 ("java/lang/IndexOutOfBoundsException", "java/lang/IndexOutOfBoundsException") (by decide +kernel))) hc1 hc2 hc3 ?_
    refine lv_astore_n (lv' := [(3, .ref q), (0, .ref (ad 0 0)), (1, .int p1), (2, .ref (ad 14 0))]) S.1 S.2.1 dL_depth_12 rfl hl (by decide) rfl (fun ls hl => ?_)
    refine lv_iconst (v := 1) S.1 S.2.1 dL_depth_13 (by decide) ?_
    exact r_iret (y := yL_depth) S hr rfl hlk hS (by show _ ≤ mc; omega) (by show _ ≤ ms; omega) dL_depth_14 ⟨_, _, _, _, ad, rfl, h9, ⟨rfl, rfl, rfl, rfl⟩, hw⟩
  · obtain ⟨r1, rfl, h, hw⟩ := hq
    show W p l e _ s m _ below meth c H locs (0 + mc) (0 + ms) _ (F0 m 7 ls [.int r1, .int 0, .ref (ad 14 0)])
    refine lv_i2l S.1 S.2.1 dL_depth_7 rfl ?_
    refine s14 S hg hS hw rfl dL_depth_8 (fun H locs hw hS => ?_)
    refine lv_goto (tgt := 15) S.1 S.2.1 dL_depth_9 (by decide) ?_
    refine lv_iconst (v := 0) S.1 S.2.1 dL_depth_15 (by decide) ?_
    exact r_iret (y := yL_depth) S hr rfl hlk hS (by show _ ≤ mc; omega) (by show _ ≤ ms; omega) dL_depth_16 ⟨_, _, _, _, ad, rfl, h, ⟨rfl, rfl, rfl, rfl⟩, hw⟩
theorem dL_winner_0 : decode cL_winner 0 = .ok (.aload_n 2, 1) := by decide +kernel
theorem dL_winner_1 : decode cL_winner 1 = .ok (.iconst 0, 1) := by decide +kernel
theorem dL_winner_2 : decode cL_winner 2 = .ok (.aload_n 0, 1) := by decide +kernel
theorem dL_winner_3 : decode cL_winner 3 = .ok (.iload_n 1, 1) := by decide +kernel
theorem dL_winner_4 : decode cL_winner 4 = .ok (.invokevirtual 73, 3) := by decide +kernel
theorem dL_winner_7 : decode cL_winner 7 = .ok (.i2l, 1) := by decide +kernel
theorem dL_winner_8 : decode cL_winner 8 = .ok (.lastore, 1) := by decide +kernel
theorem dL_winner_9 : decode cL_winner 9 = .ok (.goto 9, 3) := by decide +kernel
theorem dL_winner_12 : decode cL_winner 12 = .ok (.astore_n 3, 1) := by decide +kernel
theorem dL_winner_13 : decode cL_winner 13 = .ok (.iconst 1, 1) := by decide +kernel
theorem dL_winner_14 : decode cL_winner 14 = .ok (.ireturn, 1) := by decide +kernel
theorem dL_winner_15 : decode cL_winner 15 = .ok (.astore_n 3, 1) := by decide +kernel
theorem dL_winner_16 : decode cL_winner 16 = .ok (.iconst 2, 1) := by decide +kernel
theorem dL_winner_17 : decode cL_winner 17 = .ok (.ireturn, 1) := by decide +kernel
theorem dL_winner_18 : decode cL_winner 18 = .ok (.iconst 0, 1) := by decide +kernel
theorem dL_winner_19 : decode cL_winner 19 = .ok (.ireturn, 1) := by decide +kernel
theorem hdL_winner : yL_winner.cls ≠ "java/lang/invoke/MethodHandle" ∧ yL_winner.cls ≠ "java/lang/invoke/VarHandle" ∧ (parseMethodDescriptor yL_winner.desc).map (fun d => d.parameters.length) = some 3 := by decide +kernel
def wpL_winner (post : Int32 → KS → Int64 → UInt64 → Prop) (mc ms : Nat) (K : KS) (o : Int64) (od : UInt64) (p1 : Int32) : Prop := wpX6_winner (fun v => post 0 K (v.toInt64) od) (fun E => (E = "java/lang/IndexOutOfBoundsException" ∧ post 1 K o od) ∨ (E = "java/util/NoSuchElementException" ∧ post 2 K o od)) mc ms K p1
set_option maxHeartbeats 4000000 in
theorem mtL_winner {l : Launch} {D : va_G} {cI : Nat → ClassId} {e0 : Nat} {A : Nat → Prop} {ad : Nat → Nat → Nat} {K M : KS} {ap o : Int64} {od : UInt64} {mc ms : Nat} {p1 : Int32} {post : Int32 → KS → Int64 → UInt64 → Prop} (hfl : l.stackTraces = false) (h : wpL_winner post mc ms K o od p1) : CW l D cI e0 A yL_winner cL_winner 4 (some .int) [(0, 9, 12, 21), (0, 9, 15, 76)] 8 125 mc ms [.ref (ad 0 0), .int p1, .ref (ad 14 0)] (HT D cI e0 A ad K M ap o od) (qH D cI e0 A ad M ap post) := by
  refine CW.of (by decide) (Nat.le_of_ble_eq_true rfl) (fun p e s m below meth c ls FX hw hS hl => ?_)
  obtain ⟨S, hg, hr, hlk, hnm, htab⟩ := FX
  have hl : lv_has ls 4 [(0, .ref (ad 0 0)), (1, .int p1), (2, .ref (ad 14 0))] := hl
  refine lv_aload_n S.1 S.2.1 dL_winner_0 rfl (lv_at hl 2 rfl) ?_
  refine lv_iconst (v := 0) S.1 S.2.1 dL_winner_1 (by decide) ?_
  refine lv_aload_n S.1 S.2.1 dL_winner_2 rfl (lv_at hl 0 rfl) ?_
  refine lv_iload_n S.1 S.2.1 dL_winner_3 rfl (lv_at hl 1 rfl) ?_
  refine r_call (rest := [.int 0, .ref (ad 14 0)]) S hg hS (mtX6_winner (mc := mc) (ms := ms) hfl h) u809 u810 u811 u43 u812 hdX6_winner (rv0 hg hw) hw ⟨Nat.le_of_ble_eq_true rfl, Nat.le_of_ble_eq_true rfl⟩ ⟨by show 0 + mc ≤ mc; omega, by show 0 + ms ≤ ms; omega⟩ hl.1 (Nat.le_of_ble_eq_true rfl) rfl dL_winner_4 (fun E ce q H locs hx hS hc1 hc2 hc3 => ?_) (fun rv H locs hq hS => ?_)
  · obtain ⟨hx1, hw⟩ := hx
    have hpass_1 : ∀ z ∈ [(⟨0, 9, 12, 21⟩ : ExceptionTableEntry)], z.catchType ≠ 0 ∧ ∃ nm : String, (Cond.classLink RL z.catchType nm).before #[.ref (ad 0 0), .int p1, .ref (ad 14 0)] s = true ∧ va_Nc "java/util/NoSuchElementException" nm s := by
      intro z hz
      rcases List.mem_cons.mp hz with rfl | hz
      · exact ⟨by decide, "java/lang/IndexOutOfBoundsException", S.2.2.2.2 _ u331, hg.2.2.2.2.2.1 ("java/util/NoSuchElementException", "java/lang/IndexOutOfBoundsException") (by decide +kernel)⟩
      exact nomatch hz
    rcases hx1 with ⟨rfl, h9⟩ | ⟨rfl, h9⟩
    · skip
      refine vx_catch (name := "java/lang/IndexOutOfBoundsException") S.2.2.2.1 [] (⟨0, 9, 12, 21⟩ : ExceptionTableEntry) [(⟨0, 9, 15, 76⟩ : ExceptionTableEntry)] (htab.trans rfl) (fun z hz => nomatch hz) (by decide) (by decide) (S.2.2.2.2 _ u331) (va_Nw.use rfl (hg.2.2.2.2.1.1 ("java/lang/IndexOutOfBoundsException", "java/lang/IndexOutOfBoundsException") (by decide +kernel))) hc1 hc2 hc3 ?_
      refine lv_astore_n (lv' := [(3, .ref q), (0, .ref (ad 0 0)), (1, .int p1), (2, .ref (ad 14 0))]) S.1 S.2.1 dL_winner_12 rfl hl (by decide) rfl (fun ls hl => ?_)
      refine lv_iconst (v := 1) S.1 S.2.1 dL_winner_13 (by decide) ?_
      exact r_iret (y := yL_winner) S hr rfl hlk hS (by show _ ≤ mc; omega) (by show _ ≤ ms; omega) dL_winner_14 ⟨_, _, _, _, ad, rfl, h9, ⟨rfl, rfl, rfl, rfl⟩, hw⟩
    · skip
      refine vx_catch (name := "java/util/NoSuchElementException") S.2.2.2.1 [(⟨0, 9, 12, 21⟩ : ExceptionTableEntry)] (⟨0, 9, 15, 76⟩ : ExceptionTableEntry) [] (htab.trans rfl) (fun z hz => Or.inr (hpass_1 z hz)) (by decide) (by decide) (S.2.2.2.2 _ u808) (va_Nw.use rfl (hg.2.2.2.2.1.1 ("java/util/NoSuchElementException", "java/util/NoSuchElementException") (by decide +kernel))) hc1 hc2 hc3 ?_
      refine lv_astore_n (lv' := [(3, .ref q), (0, .ref (ad 0 0)), (1, .int p1), (2, .ref (ad 14 0))]) S.1 S.2.1 dL_winner_15 rfl hl (by decide) rfl (fun ls hl => ?_)
      refine lv_iconst (v := 2) S.1 S.2.1 dL_winner_16 (by decide) ?_
      exact r_iret (y := yL_winner) S hr rfl hlk hS (by show _ ≤ mc; omega) (by show _ ≤ ms; omega) dL_winner_17 ⟨_, _, _, _, ad, rfl, h9, ⟨rfl, rfl, rfl, rfl⟩, hw⟩
  · obtain ⟨r1, rfl, h, hw⟩ := hq
    show W p l e _ s m _ below meth c H locs (0 + mc) (0 + ms) _ (F0 m 7 ls [.int r1, .int 0, .ref (ad 14 0)])
    refine lv_i2l S.1 S.2.1 dL_winner_7 rfl ?_
    refine s14 S hg hS hw rfl dL_winner_8 (fun H locs hw hS => ?_)
    refine lv_goto (tgt := 18) S.1 S.2.1 dL_winner_9 (by decide) ?_
    refine lv_iconst (v := 0) S.1 S.2.1 dL_winner_18 (by decide) ?_
    exact r_iret (y := yL_winner) S hr rfl hlk hS (by show _ ≤ mc; omega) (by show _ ≤ ms; omega) dL_winner_19 ⟨_, _, _, _, ad, rfl, h, ⟨rfl, rfl, rfl, rfl⟩, hw⟩
theorem dL_close_0 : decode cL_close 0 = .ok (.aload_n 2, 1) := by decide +kernel
theorem dL_close_1 : decode cL_close 1 = .ok (.iconst 0, 1) := by decide +kernel
theorem dL_close_2 : decode cL_close 2 = .ok (.aload_n 0, 1) := by decide +kernel
theorem dL_close_3 : decode cL_close 3 = .ok (.iload_n 1, 1) := by decide +kernel
theorem dL_close_4 : decode cL_close 4 = .ok (.invokevirtual 78, 3) := by decide +kernel
theorem dL_close_7 : decode cL_close 7 = .ok (.i2l, 1) := by decide +kernel
theorem dL_close_8 : decode cL_close 8 = .ok (.lastore, 1) := by decide +kernel
theorem dL_close_9 : decode cL_close 9 = .ok (.goto 9, 3) := by decide +kernel
theorem dL_close_12 : decode cL_close 12 = .ok (.astore_n 3, 1) := by decide +kernel
theorem dL_close_13 : decode cL_close 13 = .ok (.iconst 1, 1) := by decide +kernel
theorem dL_close_14 : decode cL_close 14 = .ok (.ireturn, 1) := by decide +kernel
theorem dL_close_15 : decode cL_close 15 = .ok (.astore_n 3, 1) := by decide +kernel
theorem dL_close_16 : decode cL_close 16 = .ok (.iconst 2, 1) := by decide +kernel
theorem dL_close_17 : decode cL_close 17 = .ok (.ireturn, 1) := by decide +kernel
theorem dL_close_18 : decode cL_close 18 = .ok (.iconst 0, 1) := by decide +kernel
theorem dL_close_19 : decode cL_close 19 = .ok (.ireturn, 1) := by decide +kernel
theorem hdL_close : yL_close.cls ≠ "java/lang/invoke/MethodHandle" ∧ yL_close.cls ≠ "java/lang/invoke/VarHandle" ∧ (parseMethodDescriptor yL_close.desc).map (fun d => d.parameters.length) = some 3 := by decide +kernel
def wpL_close (post : Int32 → KS → Int64 → UInt64 → Prop) (mc ms : Nat) (K : KS) (o : Int64) (od : UInt64) (p1 : Int32) : Prop := wpX6_close (fun v K => post 0 K (v.toInt64) od) (fun E K => (E = "java/lang/IndexOutOfBoundsException" ∧ post 1 K o od) ∨ (E = "java/lang/UnsupportedOperationException" ∧ post 2 K o od)) mc ms K p1
set_option maxHeartbeats 4000000 in
theorem mtL_close {l : Launch} {D : va_G} {cI : Nat → ClassId} {e0 : Nat} {A : Nat → Prop} {ad : Nat → Nat → Nat} {K M : KS} {ap o : Int64} {od : UInt64} {mc ms : Nat} {p1 : Int32} {post : Int32 → KS → Int64 → UInt64 → Prop} (hfl : l.stackTraces = false) (h : wpL_close post mc ms K o od p1) : CW l D cI e0 A yL_close cL_close 4 (some .int) [(0, 9, 12, 21), (0, 9, 15, 49)] 8 126 mc ms [.ref (ad 0 0), .int p1, .ref (ad 14 0)] (HT D cI e0 A ad K M ap o od) (qH D cI e0 A ad M ap post) := by
  refine CW.of (by decide) (Nat.le_of_ble_eq_true rfl) (fun p e s m below meth c ls FX hw hS hl => ?_)
  obtain ⟨S, hg, hr, hlk, hnm, htab⟩ := FX
  have hl : lv_has ls 4 [(0, .ref (ad 0 0)), (1, .int p1), (2, .ref (ad 14 0))] := hl
  refine lv_aload_n S.1 S.2.1 dL_close_0 rfl (lv_at hl 2 rfl) ?_
  refine lv_iconst (v := 0) S.1 S.2.1 dL_close_1 (by decide) ?_
  refine lv_aload_n S.1 S.2.1 dL_close_2 rfl (lv_at hl 0 rfl) ?_
  refine lv_iload_n S.1 S.2.1 dL_close_3 rfl (lv_at hl 1 rfl) ?_
  refine r_call (rest := [.int 0, .ref (ad 14 0)]) S hg hS (mtX6_close (mc := mc) (ms := ms) hfl h) u832 u833 u834 u43 u835 hdX6_close (rv0 hg hw) hw ⟨Nat.le_of_ble_eq_true rfl, Nat.le_of_ble_eq_true rfl⟩ ⟨by show 0 + mc ≤ mc; omega, by show 0 + ms ≤ ms; omega⟩ hl.1 (Nat.le_of_ble_eq_true rfl) rfl dL_close_4 (fun E ce q H locs hx hS hc1 hc2 hc3 => ?_) (fun rv H locs hq hS => ?_)
  · obtain ⟨K, hx1, hw⟩ := hx
    have hpass_1 : ∀ z ∈ [(⟨0, 9, 12, 21⟩ : ExceptionTableEntry)], z.catchType ≠ 0 ∧ ∃ nm : String, (Cond.classLink RL z.catchType nm).before #[.ref (ad 0 0), .int p1, .ref (ad 14 0)] s = true ∧ va_Nc "java/lang/UnsupportedOperationException" nm s := by
      intro z hz
      rcases List.mem_cons.mp hz with rfl | hz
      · exact ⟨by decide, "java/lang/IndexOutOfBoundsException", S.2.2.2.2 _ u331, hg.2.2.2.2.2.1 ("java/lang/UnsupportedOperationException", "java/lang/IndexOutOfBoundsException") (by decide +kernel)⟩
      exact nomatch hz
    rcases hx1 with ⟨rfl, h9⟩ | ⟨rfl, h9⟩
    · skip
      refine vx_catch (name := "java/lang/IndexOutOfBoundsException") S.2.2.2.1 [] (⟨0, 9, 12, 21⟩ : ExceptionTableEntry) [(⟨0, 9, 15, 49⟩ : ExceptionTableEntry)] (htab.trans rfl) (fun z hz => nomatch hz) (by decide) (by decide) (S.2.2.2.2 _ u331) (va_Nw.use rfl (hg.2.2.2.2.1.1 ("java/lang/IndexOutOfBoundsException", "java/lang/IndexOutOfBoundsException") (by decide +kernel))) hc1 hc2 hc3 ?_
      refine lv_astore_n (lv' := [(3, .ref q), (0, .ref (ad 0 0)), (1, .int p1), (2, .ref (ad 14 0))]) S.1 S.2.1 dL_close_12 rfl hl (by decide) rfl (fun ls hl => ?_)
      refine lv_iconst (v := 1) S.1 S.2.1 dL_close_13 (by decide) ?_
      exact r_iret (y := yL_close) S hr rfl hlk hS (by show _ ≤ mc; omega) (by show _ ≤ ms; omega) dL_close_14 ⟨_, _, _, _, ad, rfl, h9, ⟨rfl, rfl, rfl, rfl⟩, hw⟩
    · skip
      refine vx_catch (name := "java/lang/UnsupportedOperationException") S.2.2.2.1 [(⟨0, 9, 12, 21⟩ : ExceptionTableEntry)] (⟨0, 9, 15, 49⟩ : ExceptionTableEntry) [] (htab.trans rfl) (fun z hz => Or.inr (hpass_1 z hz)) (by decide) (by decide) (S.2.2.2.2 _ u641) (va_Nw.use rfl (hg.2.2.2.2.1.1 ("java/lang/UnsupportedOperationException", "java/lang/UnsupportedOperationException") (by decide +kernel))) hc1 hc2 hc3 ?_
      refine lv_astore_n (lv' := [(3, .ref q), (0, .ref (ad 0 0)), (1, .int p1), (2, .ref (ad 14 0))]) S.1 S.2.1 dL_close_15 rfl hl (by decide) rfl (fun ls hl => ?_)
      refine lv_iconst (v := 2) S.1 S.2.1 dL_close_16 (by decide) ?_
      exact r_iret (y := yL_close) S hr rfl hlk hS (by show _ ≤ mc; omega) (by show _ ≤ ms; omega) dL_close_17 ⟨_, _, _, _, ad, rfl, h9, ⟨rfl, rfl, rfl, rfl⟩, hw⟩
  · obtain ⟨r1, K1, rfl, h, hw⟩ := hq
    show W p l e _ s m _ below meth c H locs (0 + mc) (0 + ms) _ (F0 m 7 ls [.int r1, .int 0, .ref (ad 14 0)])
    refine lv_i2l S.1 S.2.1 dL_close_7 rfl ?_
    refine s14 S hg hS hw rfl dL_close_8 (fun H locs hw hS => ?_)
    refine lv_goto (tgt := 18) S.1 S.2.1 dL_close_9 (by decide) ?_
    refine lv_iconst (v := 0) S.1 S.2.1 dL_close_18 (by decide) ?_
    exact r_iret (y := yL_close) S hr rfl hlk hS (by show _ ≤ mc; omega) (by show _ ≤ ms; omega) dL_close_19 ⟨_, _, _, _, ad, rfl, h, ⟨rfl, rfl, rfl, rfl⟩, hw⟩
theorem dL_snapshot_0 : decode cL_snapshot 0 = .ok (.aload_n 2, 1) := by decide +kernel
theorem dL_snapshot_1 : decode cL_snapshot 1 = .ok (.iconst 0, 1) := by decide +kernel
theorem dL_snapshot_2 : decode cL_snapshot 2 = .ok (.aload_n 0, 1) := by decide +kernel
theorem dL_snapshot_3 : decode cL_snapshot 3 = .ok (.iload_n 1, 1) := by decide +kernel
theorem dL_snapshot_4 : decode cL_snapshot 4 = .ok (.invokevirtual 81, 3) := by decide +kernel
theorem dL_snapshot_7 : decode cL_snapshot 7 = .ok (.i2l, 1) := by decide +kernel
theorem dL_snapshot_8 : decode cL_snapshot 8 = .ok (.lastore, 1) := by decide +kernel
theorem dL_snapshot_9 : decode cL_snapshot 9 = .ok (.goto 12, 3) := by decide +kernel
theorem dL_snapshot_12 : decode cL_snapshot 12 = .ok (.astore_n 3, 1) := by decide +kernel
theorem dL_snapshot_13 : decode cL_snapshot 13 = .ok (.iconst 1, 1) := by decide +kernel
theorem dL_snapshot_14 : decode cL_snapshot 14 = .ok (.ireturn, 1) := by decide +kernel
theorem dL_snapshot_15 : decode cL_snapshot 15 = .ok (.astore_n 3, 1) := by decide +kernel
theorem dL_snapshot_16 : decode cL_snapshot 16 = .ok (.iconst 2, 1) := by decide +kernel
theorem dL_snapshot_17 : decode cL_snapshot 17 = .ok (.ireturn, 1) := by decide +kernel
theorem dL_snapshot_18 : decode cL_snapshot 18 = .ok (.astore_n 3, 1) := by decide +kernel
theorem dL_snapshot_19 : decode cL_snapshot 19 = .ok (.iconst 3, 1) := by decide +kernel
theorem dL_snapshot_20 : decode cL_snapshot 20 = .ok (.ireturn, 1) := by decide +kernel
theorem dL_snapshot_21 : decode cL_snapshot 21 = .ok (.iconst 0, 1) := by decide +kernel
theorem dL_snapshot_22 : decode cL_snapshot 22 = .ok (.ireturn, 1) := by decide +kernel
theorem hdL_snapshot : yL_snapshot.cls ≠ "java/lang/invoke/MethodHandle" ∧ yL_snapshot.cls ≠ "java/lang/invoke/VarHandle" ∧ (parseMethodDescriptor yL_snapshot.desc).map (fun d => d.parameters.length) = some 3 := by decide +kernel
def wpL_snapshot (post : Int32 → KS → Int64 → UInt64 → Prop) (mc ms : Nat) (K : KS) (o : Int64) (od : UInt64) (p1 : Int32) : Prop := wpX6_snapshot (fun v K => post 0 K (v.toInt64) od) (fun E K => (E = "java/lang/IndexOutOfBoundsException" ∧ post 1 K o od) ∨ (E = "java/lang/UnsupportedOperationException" ∧ post 2 K o od) ∨ (E = "java/lang/IllegalStateException" ∧ post 3 K o od)) mc ms K p1
set_option maxHeartbeats 4000000 in
theorem mtL_snapshot {l : Launch} {D : va_G} {cI : Nat → ClassId} {e0 : Nat} {A : Nat → Prop} {ad : Nat → Nat → Nat} {K M : KS} {ap o : Int64} {od : UInt64} {mc ms : Nat} {p1 : Int32} {post : Int32 → KS → Int64 → UInt64 → Prop} (hfl : l.stackTraces = false) (h : wpL_snapshot post mc ms K o od p1) : CW l D cI e0 A yL_snapshot cL_snapshot 4 (some .int) [(0, 9, 12, 21), (0, 9, 15, 49), (0, 9, 18, 15)] 8 125 mc ms [.ref (ad 0 0), .int p1, .ref (ad 14 0)] (HT D cI e0 A ad K M ap o od) (qH D cI e0 A ad M ap post) := by
  refine CW.of (by decide) (Nat.le_of_ble_eq_true rfl) (fun p e s m below meth c ls FX hw hS hl => ?_)
  obtain ⟨S, hg, hr, hlk, hnm, htab⟩ := FX
  have hl : lv_has ls 4 [(0, .ref (ad 0 0)), (1, .int p1), (2, .ref (ad 14 0))] := hl
  refine lv_aload_n S.1 S.2.1 dL_snapshot_0 rfl (lv_at hl 2 rfl) ?_
  refine lv_iconst (v := 0) S.1 S.2.1 dL_snapshot_1 (by decide) ?_
  refine lv_aload_n S.1 S.2.1 dL_snapshot_2 rfl (lv_at hl 0 rfl) ?_
  refine lv_iload_n S.1 S.2.1 dL_snapshot_3 rfl (lv_at hl 1 rfl) ?_
  refine r_call (rest := [.int 0, .ref (ad 14 0)]) S hg hS (mtX6_snapshot (mc := mc) (ms := ms) hfl h) u857 u858 u859 u43 u860 hdX6_snapshot (rv0 hg hw) hw ⟨Nat.le_of_ble_eq_true rfl, Nat.le_of_ble_eq_true rfl⟩ ⟨by show 0 + mc ≤ mc; omega, by show 0 + ms ≤ ms; omega⟩ hl.1 (Nat.le_of_ble_eq_true rfl) rfl dL_snapshot_4 (fun E ce q H locs hx hS hc1 hc2 hc3 => ?_) (fun rv H locs hq hS => ?_)
  · obtain ⟨K, hx1, hw⟩ := hx
    have hpass_1 : ∀ z ∈ [(⟨0, 9, 12, 21⟩ : ExceptionTableEntry)], z.catchType ≠ 0 ∧ ∃ nm : String, (Cond.classLink RL z.catchType nm).before #[.ref (ad 0 0), .int p1, .ref (ad 14 0)] s = true ∧ va_Nc "java/lang/UnsupportedOperationException" nm s := by
      intro z hz
      rcases List.mem_cons.mp hz with rfl | hz
      · exact ⟨by decide, "java/lang/IndexOutOfBoundsException", S.2.2.2.2 _ u331, hg.2.2.2.2.2.1 ("java/lang/UnsupportedOperationException", "java/lang/IndexOutOfBoundsException") (by decide +kernel)⟩
      exact nomatch hz
    have hpass_2 : ∀ z ∈ [(⟨0, 9, 12, 21⟩ : ExceptionTableEntry), (⟨0, 9, 15, 49⟩ : ExceptionTableEntry)], z.catchType ≠ 0 ∧ ∃ nm : String, (Cond.classLink RL z.catchType nm).before #[.ref (ad 0 0), .int p1, .ref (ad 14 0)] s = true ∧ va_Nc "java/lang/IllegalStateException" nm s := by
      intro z hz
      rcases List.mem_cons.mp hz with rfl | hz
      · exact ⟨by decide, "java/lang/IndexOutOfBoundsException", S.2.2.2.2 _ u331, hg.2.2.2.2.2.1 ("java/lang/IllegalStateException", "java/lang/IndexOutOfBoundsException") (by decide +kernel)⟩
      rcases List.mem_cons.mp hz with rfl | hz
      · exact ⟨by decide, "java/lang/UnsupportedOperationException", S.2.2.2.2 _ u641, hg.2.2.2.2.2.1 ("java/lang/IllegalStateException", "java/lang/UnsupportedOperationException") (by decide +kernel)⟩
      exact nomatch hz
    rcases hx1 with ⟨rfl, h9⟩ | ⟨rfl, h9⟩ | ⟨rfl, h9⟩
    · skip
      refine vx_catch (name := "java/lang/IndexOutOfBoundsException") S.2.2.2.1 [] (⟨0, 9, 12, 21⟩ : ExceptionTableEntry) [(⟨0, 9, 15, 49⟩ : ExceptionTableEntry), (⟨0, 9, 18, 15⟩ : ExceptionTableEntry)] (htab.trans rfl) (fun z hz => nomatch hz) (by decide) (by decide) (S.2.2.2.2 _ u331) (va_Nw.use rfl (hg.2.2.2.2.1.1 ("java/lang/IndexOutOfBoundsException", "java/lang/IndexOutOfBoundsException") (by decide +kernel))) hc1 hc2 hc3 ?_
      refine lv_astore_n (lv' := [(3, .ref q), (0, .ref (ad 0 0)), (1, .int p1), (2, .ref (ad 14 0))]) S.1 S.2.1 dL_snapshot_12 rfl hl (by decide) rfl (fun ls hl => ?_)
      refine lv_iconst (v := 1) S.1 S.2.1 dL_snapshot_13 (by decide) ?_
      exact r_iret (y := yL_snapshot) S hr rfl hlk hS (by show _ ≤ mc; omega) (by show _ ≤ ms; omega) dL_snapshot_14 ⟨_, _, _, _, ad, rfl, h9, ⟨rfl, rfl, rfl, rfl⟩, hw⟩
    · skip
      refine vx_catch (name := "java/lang/UnsupportedOperationException") S.2.2.2.1 [(⟨0, 9, 12, 21⟩ : ExceptionTableEntry)] (⟨0, 9, 15, 49⟩ : ExceptionTableEntry) [(⟨0, 9, 18, 15⟩ : ExceptionTableEntry)] (htab.trans rfl) (fun z hz => Or.inr (hpass_1 z hz)) (by decide) (by decide) (S.2.2.2.2 _ u641) (va_Nw.use rfl (hg.2.2.2.2.1.1 ("java/lang/UnsupportedOperationException", "java/lang/UnsupportedOperationException") (by decide +kernel))) hc1 hc2 hc3 ?_
      refine lv_astore_n (lv' := [(3, .ref q), (0, .ref (ad 0 0)), (1, .int p1), (2, .ref (ad 14 0))]) S.1 S.2.1 dL_snapshot_15 rfl hl (by decide) rfl (fun ls hl => ?_)
      refine lv_iconst (v := 2) S.1 S.2.1 dL_snapshot_16 (by decide) ?_
      exact r_iret (y := yL_snapshot) S hr rfl hlk hS (by show _ ≤ mc; omega) (by show _ ≤ ms; omega) dL_snapshot_17 ⟨_, _, _, _, ad, rfl, h9, ⟨rfl, rfl, rfl, rfl⟩, hw⟩
    · skip
      refine vx_catch (name := "java/lang/IllegalStateException") S.2.2.2.1 [(⟨0, 9, 12, 21⟩ : ExceptionTableEntry), (⟨0, 9, 15, 49⟩ : ExceptionTableEntry)] (⟨0, 9, 18, 15⟩ : ExceptionTableEntry) [] (htab.trans rfl) (fun z hz => Or.inr (hpass_2 z hz)) (by decide) (by decide) (S.2.2.2.2 _ u235) (va_Nw.use rfl (hg.2.2.2.2.1.1 ("java/lang/IllegalStateException", "java/lang/IllegalStateException") (by decide +kernel))) hc1 hc2 hc3 ?_
      refine lv_astore_n (lv' := [(3, .ref q), (0, .ref (ad 0 0)), (1, .int p1), (2, .ref (ad 14 0))]) S.1 S.2.1 dL_snapshot_18 rfl hl (by decide) rfl (fun ls hl => ?_)
      refine lv_iconst (v := 3) S.1 S.2.1 dL_snapshot_19 (by decide) ?_
      exact r_iret (y := yL_snapshot) S hr rfl hlk hS (by show _ ≤ mc; omega) (by show _ ≤ ms; omega) dL_snapshot_20 ⟨_, _, _, _, ad, rfl, h9, ⟨rfl, rfl, rfl, rfl⟩, hw⟩
  · obtain ⟨r1, K1, rfl, h, hw⟩ := hq
    show W p l e _ s m _ below meth c H locs (0 + mc) (0 + ms) _ (F0 m 7 ls [.int r1, .int 0, .ref (ad 14 0)])
    refine lv_i2l S.1 S.2.1 dL_snapshot_7 rfl ?_
    refine s14 S hg hS hw rfl dL_snapshot_8 (fun H locs hw hS => ?_)
    refine lv_goto (tgt := 21) S.1 S.2.1 dL_snapshot_9 (by decide) ?_
    refine lv_iconst (v := 0) S.1 S.2.1 dL_snapshot_21 (by decide) ?_
    exact r_iret (y := yL_snapshot) S hr rfl hlk hS (by show _ ≤ mc; omega) (by show _ ≤ ms; omega) dL_snapshot_22 ⟨_, _, _, _, ad, rfl, h, ⟨rfl, rfl, rfl, rfl⟩, hw⟩
theorem dL_inSnapshot_0 : decode cL_inSnapshot 0 = .ok (.aload 4, 2) := by decide +kernel
theorem dL_inSnapshot_2 : decode cL_inSnapshot 2 = .ok (.iconst 0, 1) := by decide +kernel
theorem dL_inSnapshot_3 : decode cL_inSnapshot 3 = .ok (.aload_n 0, 1) := by decide +kernel
theorem dL_inSnapshot_4 : decode cL_inSnapshot 4 = .ok (.iload_n 1, 1) := by decide +kernel
theorem dL_inSnapshot_5 : decode cL_inSnapshot 5 = .ok (.iload_n 2, 1) := by decide +kernel
theorem dL_inSnapshot_6 : decode cL_inSnapshot 6 = .ok (.iload_n 3, 1) := by decide +kernel
theorem dL_inSnapshot_7 : decode cL_inSnapshot 7 = .ok (.invokevirtual 84, 3) := by decide +kernel
theorem dL_inSnapshot_10 : decode cL_inSnapshot 10 = .ok (.i2l, 1) := by decide +kernel
theorem dL_inSnapshot_11 : decode cL_inSnapshot 11 = .ok (.lastore, 1) := by decide +kernel
theorem dL_inSnapshot_12 : decode cL_inSnapshot 12 = .ok (.goto 7, 3) := by decide +kernel
theorem dL_inSnapshot_15 : decode cL_inSnapshot 15 = .ok (.astore 5, 2) := by decide +kernel
theorem dL_inSnapshot_17 : decode cL_inSnapshot 17 = .ok (.iconst 1, 1) := by decide +kernel
theorem dL_inSnapshot_18 : decode cL_inSnapshot 18 = .ok (.ireturn, 1) := by decide +kernel
theorem dL_inSnapshot_19 : decode cL_inSnapshot 19 = .ok (.iconst 0, 1) := by decide +kernel
theorem dL_inSnapshot_20 : decode cL_inSnapshot 20 = .ok (.ireturn, 1) := by decide +kernel
theorem hdL_inSnapshot : yL_inSnapshot.cls ≠ "java/lang/invoke/MethodHandle" ∧ yL_inSnapshot.cls ≠ "java/lang/invoke/VarHandle" ∧ (parseMethodDescriptor yL_inSnapshot.desc).map (fun d => d.parameters.length) = some 5 := by decide +kernel
def wpL_inSnapshot (post : Int32 → KS → Int64 → UInt64 → Prop) (mc ms : Nat) (K : KS) (o : Int64) (od : UInt64) (p1 : Int32) (p2 : Int32) (p3 : Int32) : Prop := wpX6_inSnapshot (fun v => post 0 K (v.toInt64) od) (fun E => (E = "java/lang/IndexOutOfBoundsException" ∧ post 1 K o od)) mc ms K p1 p2 p3
set_option maxHeartbeats 4000000 in
theorem mtL_inSnapshot {l : Launch} {D : va_G} {cI : Nat → ClassId} {e0 : Nat} {A : Nat → Prop} {ad : Nat → Nat → Nat} {K M : KS} {ap o : Int64} {od : UInt64} {mc ms : Nat} {p1 p2 p3 : Int32} {post : Int32 → KS → Int64 → UInt64 → Prop} (hfl : l.stackTraces = false) (h : wpL_inSnapshot post mc ms K o od p1 p2 p3) : CW l D cI e0 A yL_inSnapshot cL_inSnapshot 6 (some .int) [(0, 12, 15, 21)] 8 127 mc ms [.ref (ad 0 0), .int p1, .int p2, .int p3, .ref (ad 14 0)] (HT D cI e0 A ad K M ap o od) (qH D cI e0 A ad M ap post) := by
  refine CW.of (by decide) (Nat.le_of_ble_eq_true rfl) (fun p e s m below meth c ls FX hw hS hl => ?_)
  obtain ⟨S, hg, hr, hlk, hnm, htab⟩ := FX
  have hl : lv_has ls 6 [(0, .ref (ad 0 0)), (1, .int p1), (2, .int p2), (3, .int p3), (4, .ref (ad 14 0))] := hl
  refine lv_aload S.1 S.2.1 dL_inSnapshot_0 (lv_at hl 4 rfl) ?_
  refine lv_iconst (v := 0) S.1 S.2.1 dL_inSnapshot_2 (by decide) ?_
  refine lv_aload_n S.1 S.2.1 dL_inSnapshot_3 rfl (lv_at hl 0 rfl) ?_
  refine lv_iload_n S.1 S.2.1 dL_inSnapshot_4 rfl (lv_at hl 1 rfl) ?_
  refine lv_iload_n S.1 S.2.1 dL_inSnapshot_5 rfl (lv_at hl 2 rfl) ?_
  refine lv_iload_n S.1 S.2.1 dL_inSnapshot_6 rfl (lv_at hl 3 rfl) ?_
  refine r_call (rest := [.int 0, .ref (ad 14 0)]) S hg hS (mtX6_inSnapshot (mc := mc) (ms := ms) hfl h) u883 u884 u885 u43 u886 hdX6_inSnapshot (rv0 hg hw) hw ⟨Nat.le_of_ble_eq_true rfl, Nat.le_of_ble_eq_true rfl⟩ ⟨by show 0 + mc ≤ mc; omega, by show 0 + ms ≤ ms; omega⟩ hl.1 (Nat.le_of_ble_eq_true rfl) rfl dL_inSnapshot_7 (fun E ce q H locs hx hS hc1 hc2 hc3 => ?_) (fun rv H locs hq hS => ?_)
  · obtain ⟨hx1, hw⟩ := hx
    obtain ⟨rfl, h9⟩ := hx1
    refine vx_catch (name := "java/lang/IndexOutOfBoundsException") S.2.2.2.1 [] (⟨0, 12, 15, 21⟩ : ExceptionTableEntry) [] (htab.trans rfl) (fun z hz => nomatch hz) (by decide) (by decide) (S.2.2.2.2 _ u331) (va_Nw.use rfl (hg.2.2.2.2.1.1 ("java/lang/IndexOutOfBoundsException", "java/lang/IndexOutOfBoundsException") (by decide +kernel))) hc1 hc2 hc3 ?_
    refine lv_astore (lv' := [(5, .ref q), (0, .ref (ad 0 0)), (1, .int p1), (2, .int p2), (3, .int p3), (4, .ref (ad 14 0))]) S.1 S.2.1 dL_inSnapshot_15 hl (by decide) rfl (fun ls hl => ?_)
    refine lv_iconst (v := 1) S.1 S.2.1 dL_inSnapshot_17 (by decide) ?_
    exact r_iret (y := yL_inSnapshot) S hr rfl hlk hS (by show _ ≤ mc; omega) (by show _ ≤ ms; omega) dL_inSnapshot_18 ⟨_, _, _, _, ad, rfl, h9, ⟨rfl, rfl, rfl, rfl⟩, hw⟩
  · obtain ⟨r1, rfl, h, hw⟩ := hq
    show W p l e _ s m _ below meth c H locs (0 + mc) (0 + ms) _ (F0 m 10 ls [.int r1, .int 0, .ref (ad 14 0)])
    refine lv_i2l S.1 S.2.1 dL_inSnapshot_10 rfl ?_
    refine s14 S hg hS hw rfl dL_inSnapshot_11 (fun H locs hw hS => ?_)
    refine lv_goto (tgt := 19) S.1 S.2.1 dL_inSnapshot_12 (by decide) ?_
    refine lv_iconst (v := 0) S.1 S.2.1 dL_inSnapshot_19 (by decide) ?_
    exact r_iret (y := yL_inSnapshot) S hr rfl hlk hS (by show _ ≤ mc; omega) (by show _ ≤ ms; omega) dL_inSnapshot_20 ⟨_, _, _, _, ad, rfl, h, ⟨rfl, rfl, rfl, rfl⟩, hw⟩
theorem dL_rollBack_0 : decode cL_rollBack 0 = .ok (.aload_n 3, 1) := by decide +kernel
theorem dL_rollBack_1 : decode cL_rollBack 1 = .ok (.iconst 0, 1) := by decide +kernel
theorem dL_rollBack_2 : decode cL_rollBack 2 = .ok (.aload_n 0, 1) := by decide +kernel
theorem dL_rollBack_3 : decode cL_rollBack 3 = .ok (.iload_n 1, 1) := by decide +kernel
theorem dL_rollBack_4 : decode cL_rollBack 4 = .ok (.iload_n 2, 1) := by decide +kernel
theorem dL_rollBack_5 : decode cL_rollBack 5 = .ok (.invokevirtual 88, 3) := by decide +kernel
theorem dL_rollBack_8 : decode cL_rollBack 8 = .ok (.i2l, 1) := by decide +kernel
theorem dL_rollBack_9 : decode cL_rollBack 9 = .ok (.lastore, 1) := by decide +kernel
theorem dL_rollBack_10 : decode cL_rollBack 10 = .ok (.goto 15, 3) := by decide +kernel
theorem dL_rollBack_13 : decode cL_rollBack 13 = .ok (.astore 4, 2) := by decide +kernel
theorem dL_rollBack_15 : decode cL_rollBack 15 = .ok (.iconst 1, 1) := by decide +kernel
theorem dL_rollBack_16 : decode cL_rollBack 16 = .ok (.ireturn, 1) := by decide +kernel
theorem dL_rollBack_17 : decode cL_rollBack 17 = .ok (.astore 4, 2) := by decide +kernel
theorem dL_rollBack_19 : decode cL_rollBack 19 = .ok (.iconst 2, 1) := by decide +kernel
theorem dL_rollBack_20 : decode cL_rollBack 20 = .ok (.ireturn, 1) := by decide +kernel
theorem dL_rollBack_21 : decode cL_rollBack 21 = .ok (.astore 4, 2) := by decide +kernel
theorem dL_rollBack_23 : decode cL_rollBack 23 = .ok (.iconst 3, 1) := by decide +kernel
theorem dL_rollBack_24 : decode cL_rollBack 24 = .ok (.ireturn, 1) := by decide +kernel
theorem dL_rollBack_25 : decode cL_rollBack 25 = .ok (.iconst 0, 1) := by decide +kernel
theorem dL_rollBack_26 : decode cL_rollBack 26 = .ok (.ireturn, 1) := by decide +kernel
theorem hdL_rollBack : yL_rollBack.cls ≠ "java/lang/invoke/MethodHandle" ∧ yL_rollBack.cls ≠ "java/lang/invoke/VarHandle" ∧ (parseMethodDescriptor yL_rollBack.desc).map (fun d => d.parameters.length) = some 4 := by decide +kernel
def wpL_rollBack (post : Int32 → KS → Int64 → UInt64 → Prop) (mc ms : Nat) (K : KS) (o : Int64) (od : UInt64) (p1 : Int32) (p2 : Int32) : Prop := wpX6_rollBack (fun v K => post 0 K (v.toInt64) od) (fun E K => (E = "java/lang/IndexOutOfBoundsException" ∧ post 1 K o od) ∨ (E = "java/lang/UnsupportedOperationException" ∧ post 2 K o od) ∨ (E = "java/lang/IllegalStateException" ∧ post 3 K o od)) mc ms K p1 p2
set_option maxHeartbeats 4000000 in
theorem mtL_rollBack {l : Launch} {D : va_G} {cI : Nat → ClassId} {e0 : Nat} {A : Nat → Prop} {ad : Nat → Nat → Nat} {K M : KS} {ap o : Int64} {od : UInt64} {mc ms : Nat} {p1 p2 : Int32} {post : Int32 → KS → Int64 → UInt64 → Prop} (hfl : l.stackTraces = false) (h : wpL_rollBack post mc ms K o od p1 p2) : CW l D cI e0 A yL_rollBack cL_rollBack 5 (some .int) [(0, 10, 13, 21), (0, 10, 17, 49), (0, 10, 21, 15)] 8 176 mc ms [.ref (ad 0 0), .int p1, .int p2, .ref (ad 14 0)] (HT D cI e0 A ad K M ap o od) (qH D cI e0 A ad M ap post) := by
  refine CW.of (by decide) (Nat.le_of_ble_eq_true rfl) (fun p e s m below meth c ls FX hw hS hl => ?_)
  obtain ⟨S, hg, hr, hlk, hnm, htab⟩ := FX
  have hl : lv_has ls 5 [(0, .ref (ad 0 0)), (1, .int p1), (2, .int p2), (3, .ref (ad 14 0))] := hl
  refine lv_aload_n S.1 S.2.1 dL_rollBack_0 rfl (lv_at hl 3 rfl) ?_
  refine lv_iconst (v := 0) S.1 S.2.1 dL_rollBack_1 (by decide) ?_
  refine lv_aload_n S.1 S.2.1 dL_rollBack_2 rfl (lv_at hl 0 rfl) ?_
  refine lv_iload_n S.1 S.2.1 dL_rollBack_3 rfl (lv_at hl 1 rfl) ?_
  refine lv_iload_n S.1 S.2.1 dL_rollBack_4 rfl (lv_at hl 2 rfl) ?_
  refine r_call (rest := [.int 0, .ref (ad 14 0)]) S hg hS (mtX6_rollBack (mc := mc) (ms := ms) hfl h) u899 u900 u901 u43 u902 hdX6_rollBack (rv0 hg hw) hw ⟨Nat.le_of_ble_eq_true rfl, Nat.le_of_ble_eq_true rfl⟩ ⟨by show 0 + mc ≤ mc; omega, by show 0 + ms ≤ ms; omega⟩ hl.1 (Nat.le_of_ble_eq_true rfl) rfl dL_rollBack_5 (fun E ce q H locs hx hS hc1 hc2 hc3 => ?_) (fun rv H locs hq hS => ?_)
  · obtain ⟨K, hx1, hw⟩ := hx
    have hpass_1 : ∀ z ∈ [(⟨0, 10, 13, 21⟩ : ExceptionTableEntry)], z.catchType ≠ 0 ∧ ∃ nm : String, (Cond.classLink RL z.catchType nm).before #[.ref (ad 0 0), .int p1, .int p2, .ref (ad 14 0)] s = true ∧ va_Nc "java/lang/UnsupportedOperationException" nm s := by
      intro z hz
      rcases List.mem_cons.mp hz with rfl | hz
      · exact ⟨by decide, "java/lang/IndexOutOfBoundsException", S.2.2.2.2 _ u331, hg.2.2.2.2.2.1 ("java/lang/UnsupportedOperationException", "java/lang/IndexOutOfBoundsException") (by decide +kernel)⟩
      exact nomatch hz
    have hpass_2 : ∀ z ∈ [(⟨0, 10, 13, 21⟩ : ExceptionTableEntry), (⟨0, 10, 17, 49⟩ : ExceptionTableEntry)], z.catchType ≠ 0 ∧ ∃ nm : String, (Cond.classLink RL z.catchType nm).before #[.ref (ad 0 0), .int p1, .int p2, .ref (ad 14 0)] s = true ∧ va_Nc "java/lang/IllegalStateException" nm s := by
      intro z hz
      rcases List.mem_cons.mp hz with rfl | hz
      · exact ⟨by decide, "java/lang/IndexOutOfBoundsException", S.2.2.2.2 _ u331, hg.2.2.2.2.2.1 ("java/lang/IllegalStateException", "java/lang/IndexOutOfBoundsException") (by decide +kernel)⟩
      rcases List.mem_cons.mp hz with rfl | hz
      · exact ⟨by decide, "java/lang/UnsupportedOperationException", S.2.2.2.2 _ u641, hg.2.2.2.2.2.1 ("java/lang/IllegalStateException", "java/lang/UnsupportedOperationException") (by decide +kernel)⟩
      exact nomatch hz
    rcases hx1 with ⟨rfl, h9⟩ | ⟨rfl, h9⟩ | ⟨rfl, h9⟩
    · skip
      refine vx_catch (name := "java/lang/IndexOutOfBoundsException") S.2.2.2.1 [] (⟨0, 10, 13, 21⟩ : ExceptionTableEntry) [(⟨0, 10, 17, 49⟩ : ExceptionTableEntry), (⟨0, 10, 21, 15⟩ : ExceptionTableEntry)] (htab.trans rfl) (fun z hz => nomatch hz) (by decide) (by decide) (S.2.2.2.2 _ u331) (va_Nw.use rfl (hg.2.2.2.2.1.1 ("java/lang/IndexOutOfBoundsException", "java/lang/IndexOutOfBoundsException") (by decide +kernel))) hc1 hc2 hc3 ?_
      refine lv_astore (lv' := [(4, .ref q), (0, .ref (ad 0 0)), (1, .int p1), (2, .int p2), (3, .ref (ad 14 0))]) S.1 S.2.1 dL_rollBack_13 hl (by decide) rfl (fun ls hl => ?_)
      refine lv_iconst (v := 1) S.1 S.2.1 dL_rollBack_15 (by decide) ?_
      exact r_iret (y := yL_rollBack) S hr rfl hlk hS (by show _ ≤ mc; omega) (by show _ ≤ ms; omega) dL_rollBack_16 ⟨_, _, _, _, ad, rfl, h9, ⟨rfl, rfl, rfl, rfl⟩, hw⟩
    · skip
      refine vx_catch (name := "java/lang/UnsupportedOperationException") S.2.2.2.1 [(⟨0, 10, 13, 21⟩ : ExceptionTableEntry)] (⟨0, 10, 17, 49⟩ : ExceptionTableEntry) [(⟨0, 10, 21, 15⟩ : ExceptionTableEntry)] (htab.trans rfl) (fun z hz => Or.inr (hpass_1 z hz)) (by decide) (by decide) (S.2.2.2.2 _ u641) (va_Nw.use rfl (hg.2.2.2.2.1.1 ("java/lang/UnsupportedOperationException", "java/lang/UnsupportedOperationException") (by decide +kernel))) hc1 hc2 hc3 ?_
      refine lv_astore (lv' := [(4, .ref q), (0, .ref (ad 0 0)), (1, .int p1), (2, .int p2), (3, .ref (ad 14 0))]) S.1 S.2.1 dL_rollBack_17 hl (by decide) rfl (fun ls hl => ?_)
      refine lv_iconst (v := 2) S.1 S.2.1 dL_rollBack_19 (by decide) ?_
      exact r_iret (y := yL_rollBack) S hr rfl hlk hS (by show _ ≤ mc; omega) (by show _ ≤ ms; omega) dL_rollBack_20 ⟨_, _, _, _, ad, rfl, h9, ⟨rfl, rfl, rfl, rfl⟩, hw⟩
    · skip
      refine vx_catch (name := "java/lang/IllegalStateException") S.2.2.2.1 [(⟨0, 10, 13, 21⟩ : ExceptionTableEntry), (⟨0, 10, 17, 49⟩ : ExceptionTableEntry)] (⟨0, 10, 21, 15⟩ : ExceptionTableEntry) [] (htab.trans rfl) (fun z hz => Or.inr (hpass_2 z hz)) (by decide) (by decide) (S.2.2.2.2 _ u235) (va_Nw.use rfl (hg.2.2.2.2.1.1 ("java/lang/IllegalStateException", "java/lang/IllegalStateException") (by decide +kernel))) hc1 hc2 hc3 ?_
      refine lv_astore (lv' := [(4, .ref q), (0, .ref (ad 0 0)), (1, .int p1), (2, .int p2), (3, .ref (ad 14 0))]) S.1 S.2.1 dL_rollBack_21 hl (by decide) rfl (fun ls hl => ?_)
      refine lv_iconst (v := 3) S.1 S.2.1 dL_rollBack_23 (by decide) ?_
      exact r_iret (y := yL_rollBack) S hr rfl hlk hS (by show _ ≤ mc; omega) (by show _ ≤ ms; omega) dL_rollBack_24 ⟨_, _, _, _, ad, rfl, h9, ⟨rfl, rfl, rfl, rfl⟩, hw⟩
  · obtain ⟨r1, K1, rfl, h, hw⟩ := hq
    show W p l e _ s m _ below meth c H locs (0 + mc) (0 + ms) _ (F0 m 8 ls [.int r1, .int 0, .ref (ad 14 0)])
    refine lv_i2l S.1 S.2.1 dL_rollBack_8 rfl ?_
    refine s14 S hg hS hw rfl dL_rollBack_9 (fun H locs hw hS => ?_)
    refine lv_goto (tgt := 25) S.1 S.2.1 dL_rollBack_10 (by decide) ?_
    refine lv_iconst (v := 0) S.1 S.2.1 dL_rollBack_25 (by decide) ?_
    exact r_iret (y := yL_rollBack) S hr rfl hlk hS (by show _ ≤ mc; omega) (by show _ ≤ ms; omega) dL_rollBack_26 ⟨_, _, _, _, ad, rfl, h, ⟨rfl, rfl, rfl, rfl⟩, hw⟩
theorem dL_offer_0 : decode cL_offer 0 = .ok (.aload_n 3, 1) := by decide +kernel
theorem dL_offer_1 : decode cL_offer 1 = .ok (.iconst 0, 1) := by decide +kernel
theorem dL_offer_2 : decode cL_offer 2 = .ok (.aload_n 0, 1) := by decide +kernel
theorem dL_offer_3 : decode cL_offer 3 = .ok (.iload_n 1, 1) := by decide +kernel
theorem dL_offer_4 : decode cL_offer 4 = .ok (.iload_n 2, 1) := by decide +kernel
theorem dL_offer_5 : decode cL_offer 5 = .ok (.invokevirtual 91, 3) := by decide +kernel
theorem dL_offer_8 : decode cL_offer 8 = .ok (.i2l, 1) := by decide +kernel
theorem dL_offer_9 : decode cL_offer 9 = .ok (.lastore, 1) := by decide +kernel
theorem dL_offer_10 : decode cL_offer 10 = .ok (.goto 15, 3) := by decide +kernel
theorem dL_offer_13 : decode cL_offer 13 = .ok (.astore 4, 2) := by decide +kernel
theorem dL_offer_15 : decode cL_offer 15 = .ok (.iconst 1, 1) := by decide +kernel
theorem dL_offer_16 : decode cL_offer 16 = .ok (.ireturn, 1) := by decide +kernel
theorem dL_offer_17 : decode cL_offer 17 = .ok (.astore 4, 2) := by decide +kernel
theorem dL_offer_19 : decode cL_offer 19 = .ok (.iconst 2, 1) := by decide +kernel
theorem dL_offer_20 : decode cL_offer 20 = .ok (.ireturn, 1) := by decide +kernel
theorem dL_offer_21 : decode cL_offer 21 = .ok (.astore 4, 2) := by decide +kernel
theorem dL_offer_23 : decode cL_offer 23 = .ok (.iconst 3, 1) := by decide +kernel
theorem dL_offer_24 : decode cL_offer 24 = .ok (.ireturn, 1) := by decide +kernel
theorem dL_offer_25 : decode cL_offer 25 = .ok (.iconst 0, 1) := by decide +kernel
theorem dL_offer_26 : decode cL_offer 26 = .ok (.ireturn, 1) := by decide +kernel
theorem hdL_offer : yL_offer.cls ≠ "java/lang/invoke/MethodHandle" ∧ yL_offer.cls ≠ "java/lang/invoke/VarHandle" ∧ (parseMethodDescriptor yL_offer.desc).map (fun d => d.parameters.length) = some 4 := by decide +kernel
def wpL_offer (post : Int32 → KS → Int64 → UInt64 → Prop) (mc ms : Nat) (K : KS) (o : Int64) (od : UInt64) (p1 : Int32) (p2 : Int32) : Prop := wpX6_offer (fun v K => post 0 K (v.toInt64) od) (fun E K => (E = "java/lang/IndexOutOfBoundsException" ∧ post 1 K o od) ∨ (E = "java/lang/IllegalArgumentException" ∧ post 2 K o od) ∨ (E = "java/lang/IllegalStateException" ∧ post 3 K o od)) mc ms K p1 p2
set_option maxHeartbeats 4000000 in
theorem mtL_offer {l : Launch} {D : va_G} {cI : Nat → ClassId} {e0 : Nat} {A : Nat → Prop} {ad : Nat → Nat → Nat} {K M : KS} {ap o : Int64} {od : UInt64} {mc ms : Nat} {p1 p2 : Int32} {post : Int32 → KS → Int64 → UInt64 → Prop} (hfl : l.stackTraces = false) (h : wpL_offer post mc ms K o od p1 p2) : CW l D cI e0 A yL_offer cL_offer 5 (some .int) [(0, 10, 13, 21), (0, 10, 17, 13), (0, 10, 21, 15)] 8 344 mc ms [.ref (ad 0 0), .int p1, .int p2, .ref (ad 14 0)] (HT D cI e0 A ad K M ap o od) (qH D cI e0 A ad M ap post) := by
  refine CW.of (by decide) (Nat.le_of_ble_eq_true rfl) (fun p e s m below meth c ls FX hw hS hl => ?_)
  obtain ⟨S, hg, hr, hlk, hnm, htab⟩ := FX
  have hl : lv_has ls 5 [(0, .ref (ad 0 0)), (1, .int p1), (2, .int p2), (3, .ref (ad 14 0))] := hl
  refine lv_aload_n S.1 S.2.1 dL_offer_0 rfl (lv_at hl 3 rfl) ?_
  refine lv_iconst (v := 0) S.1 S.2.1 dL_offer_1 (by decide) ?_
  refine lv_aload_n S.1 S.2.1 dL_offer_2 rfl (lv_at hl 0 rfl) ?_
  refine lv_iload_n S.1 S.2.1 dL_offer_3 rfl (lv_at hl 1 rfl) ?_
  refine lv_iload_n S.1 S.2.1 dL_offer_4 rfl (lv_at hl 2 rfl) ?_
  refine r_call (rest := [.int 0, .ref (ad 14 0)]) S hg hS (mtX6_offer (mc := mc) (ms := ms) hfl h) u933 u934 u935 u43 u936 hdX6_offer (rv0 hg hw) hw ⟨Nat.le_of_ble_eq_true rfl, Nat.le_of_ble_eq_true rfl⟩ ⟨by show 0 + mc ≤ mc; omega, by show 0 + ms ≤ ms; omega⟩ hl.1 (Nat.le_of_ble_eq_true rfl) rfl dL_offer_5 (fun E ce q H locs hx hS hc1 hc2 hc3 => ?_) (fun rv H locs hq hS => ?_)
  · obtain ⟨K, hx1, hw⟩ := hx
    have hpass_1 : ∀ z ∈ [(⟨0, 10, 13, 21⟩ : ExceptionTableEntry)], z.catchType ≠ 0 ∧ ∃ nm : String, (Cond.classLink RL z.catchType nm).before #[.ref (ad 0 0), .int p1, .int p2, .ref (ad 14 0)] s = true ∧ va_Nc "java/lang/IllegalArgumentException" nm s := by
      intro z hz
      rcases List.mem_cons.mp hz with rfl | hz
      · exact ⟨by decide, "java/lang/IndexOutOfBoundsException", S.2.2.2.2 _ u331, hg.2.2.2.2.2.1 ("java/lang/IllegalArgumentException", "java/lang/IndexOutOfBoundsException") (by decide +kernel)⟩
      exact nomatch hz
    have hpass_2 : ∀ z ∈ [(⟨0, 10, 13, 21⟩ : ExceptionTableEntry), (⟨0, 10, 17, 13⟩ : ExceptionTableEntry)], z.catchType ≠ 0 ∧ ∃ nm : String, (Cond.classLink RL z.catchType nm).before #[.ref (ad 0 0), .int p1, .int p2, .ref (ad 14 0)] s = true ∧ va_Nc "java/lang/IllegalStateException" nm s := by
      intro z hz
      rcases List.mem_cons.mp hz with rfl | hz
      · exact ⟨by decide, "java/lang/IndexOutOfBoundsException", S.2.2.2.2 _ u331, hg.2.2.2.2.2.1 ("java/lang/IllegalStateException", "java/lang/IndexOutOfBoundsException") (by decide +kernel)⟩
      rcases List.mem_cons.mp hz with rfl | hz
      · exact ⟨by decide, "java/lang/IllegalArgumentException", S.2.2.2.2 _ u234, hg.2.2.2.2.2.1 ("java/lang/IllegalStateException", "java/lang/IllegalArgumentException") (by decide +kernel)⟩
      exact nomatch hz
    rcases hx1 with ⟨rfl, h9⟩ | ⟨rfl, h9⟩ | ⟨rfl, h9⟩
    · skip
      refine vx_catch (name := "java/lang/IndexOutOfBoundsException") S.2.2.2.1 [] (⟨0, 10, 13, 21⟩ : ExceptionTableEntry) [(⟨0, 10, 17, 13⟩ : ExceptionTableEntry), (⟨0, 10, 21, 15⟩ : ExceptionTableEntry)] (htab.trans rfl) (fun z hz => nomatch hz) (by decide) (by decide) (S.2.2.2.2 _ u331) (va_Nw.use rfl (hg.2.2.2.2.1.1 ("java/lang/IndexOutOfBoundsException", "java/lang/IndexOutOfBoundsException") (by decide +kernel))) hc1 hc2 hc3 ?_
      refine lv_astore (lv' := [(4, .ref q), (0, .ref (ad 0 0)), (1, .int p1), (2, .int p2), (3, .ref (ad 14 0))]) S.1 S.2.1 dL_offer_13 hl (by decide) rfl (fun ls hl => ?_)
      refine lv_iconst (v := 1) S.1 S.2.1 dL_offer_15 (by decide) ?_
      exact r_iret (y := yL_offer) S hr rfl hlk hS (by show _ ≤ mc; omega) (by show _ ≤ ms; omega) dL_offer_16 ⟨_, _, _, _, ad, rfl, h9, ⟨rfl, rfl, rfl, rfl⟩, hw⟩
    · skip
      refine vx_catch (name := "java/lang/IllegalArgumentException") S.2.2.2.1 [(⟨0, 10, 13, 21⟩ : ExceptionTableEntry)] (⟨0, 10, 17, 13⟩ : ExceptionTableEntry) [(⟨0, 10, 21, 15⟩ : ExceptionTableEntry)] (htab.trans rfl) (fun z hz => Or.inr (hpass_1 z hz)) (by decide) (by decide) (S.2.2.2.2 _ u234) (va_Nw.use rfl (hg.2.2.2.2.1.1 ("java/lang/IllegalArgumentException", "java/lang/IllegalArgumentException") (by decide +kernel))) hc1 hc2 hc3 ?_
      refine lv_astore (lv' := [(4, .ref q), (0, .ref (ad 0 0)), (1, .int p1), (2, .int p2), (3, .ref (ad 14 0))]) S.1 S.2.1 dL_offer_17 hl (by decide) rfl (fun ls hl => ?_)
      refine lv_iconst (v := 2) S.1 S.2.1 dL_offer_19 (by decide) ?_
      exact r_iret (y := yL_offer) S hr rfl hlk hS (by show _ ≤ mc; omega) (by show _ ≤ ms; omega) dL_offer_20 ⟨_, _, _, _, ad, rfl, h9, ⟨rfl, rfl, rfl, rfl⟩, hw⟩
    · skip
      refine vx_catch (name := "java/lang/IllegalStateException") S.2.2.2.1 [(⟨0, 10, 13, 21⟩ : ExceptionTableEntry), (⟨0, 10, 17, 13⟩ : ExceptionTableEntry)] (⟨0, 10, 21, 15⟩ : ExceptionTableEntry) [] (htab.trans rfl) (fun z hz => Or.inr (hpass_2 z hz)) (by decide) (by decide) (S.2.2.2.2 _ u235) (va_Nw.use rfl (hg.2.2.2.2.1.1 ("java/lang/IllegalStateException", "java/lang/IllegalStateException") (by decide +kernel))) hc1 hc2 hc3 ?_
      refine lv_astore (lv' := [(4, .ref q), (0, .ref (ad 0 0)), (1, .int p1), (2, .int p2), (3, .ref (ad 14 0))]) S.1 S.2.1 dL_offer_21 hl (by decide) rfl (fun ls hl => ?_)
      refine lv_iconst (v := 3) S.1 S.2.1 dL_offer_23 (by decide) ?_
      exact r_iret (y := yL_offer) S hr rfl hlk hS (by show _ ≤ mc; omega) (by show _ ≤ ms; omega) dL_offer_24 ⟨_, _, _, _, ad, rfl, h9, ⟨rfl, rfl, rfl, rfl⟩, hw⟩
  · obtain ⟨r1, K1, ad1, rfl, h, hA, hw⟩ := hq
    show W p l e _ s m _ below meth c H locs (0 + mc) (0 + ms) _ (F0 m 8 ls [.int r1, .int 0, .ref (ad 14 0)])
    refine lv_i2l S.1 S.2.1 dL_offer_8 rfl ?_
    refine s14 S hg hS hw hA.2.2.1 dL_offer_9 (fun H locs hw hS => ?_)
    refine lv_goto (tgt := 25) S.1 S.2.1 dL_offer_10 (by decide) ?_
    refine lv_iconst (v := 0) S.1 S.2.1 dL_offer_25 (by decide) ?_
    exact r_iret (y := yL_offer) S hr rfl hlk hS (by show _ ≤ mc; omega) (by show _ ≤ ms; omega) dL_offer_26 ⟨_, _, _, _, ad1, rfl, h, hA, hw⟩
theorem dL_withdraw_0 : decode cL_withdraw 0 = .ok (.aload_n 2, 1) := by decide +kernel
theorem dL_withdraw_1 : decode cL_withdraw 1 = .ok (.iconst 0, 1) := by decide +kernel
theorem dL_withdraw_2 : decode cL_withdraw 2 = .ok (.aload_n 0, 1) := by decide +kernel
theorem dL_withdraw_3 : decode cL_withdraw 3 = .ok (.iload_n 1, 1) := by decide +kernel
theorem dL_withdraw_4 : decode cL_withdraw 4 = .ok (.invokevirtual 94, 3) := by decide +kernel
theorem dL_withdraw_7 : decode cL_withdraw 7 = .ok (.i2l, 1) := by decide +kernel
theorem dL_withdraw_8 : decode cL_withdraw 8 = .ok (.lastore, 1) := by decide +kernel
theorem dL_withdraw_9 : decode cL_withdraw 9 = .ok (.goto 9, 3) := by decide +kernel
theorem dL_withdraw_12 : decode cL_withdraw 12 = .ok (.astore_n 3, 1) := by decide +kernel
theorem dL_withdraw_13 : decode cL_withdraw 13 = .ok (.iconst 1, 1) := by decide +kernel
theorem dL_withdraw_14 : decode cL_withdraw 14 = .ok (.ireturn, 1) := by decide +kernel
theorem dL_withdraw_15 : decode cL_withdraw 15 = .ok (.astore_n 3, 1) := by decide +kernel
theorem dL_withdraw_16 : decode cL_withdraw 16 = .ok (.iconst 2, 1) := by decide +kernel
theorem dL_withdraw_17 : decode cL_withdraw 17 = .ok (.ireturn, 1) := by decide +kernel
theorem dL_withdraw_18 : decode cL_withdraw 18 = .ok (.iconst 0, 1) := by decide +kernel
theorem dL_withdraw_19 : decode cL_withdraw 19 = .ok (.ireturn, 1) := by decide +kernel
theorem hdL_withdraw : yL_withdraw.cls ≠ "java/lang/invoke/MethodHandle" ∧ yL_withdraw.cls ≠ "java/lang/invoke/VarHandle" ∧ (parseMethodDescriptor yL_withdraw.desc).map (fun d => d.parameters.length) = some 3 := by decide +kernel
def wpL_withdraw (post : Int32 → KS → Int64 → UInt64 → Prop) (mc ms : Nat) (K : KS) (o : Int64) (od : UInt64) (p1 : Int32) : Prop := wpX6_withdraw (fun v K => post 0 K (v.toInt64) od) (fun E K => (E = "java/lang/IndexOutOfBoundsException" ∧ post 1 K o od) ∨ (E = "java/lang/UnsupportedOperationException" ∧ post 2 K o od)) mc ms K p1
set_option maxHeartbeats 4000000 in
theorem mtL_withdraw {l : Launch} {D : va_G} {cI : Nat → ClassId} {e0 : Nat} {A : Nat → Prop} {ad : Nat → Nat → Nat} {K M : KS} {ap o : Int64} {od : UInt64} {mc ms : Nat} {p1 : Int32} {post : Int32 → KS → Int64 → UInt64 → Prop} (hfl : l.stackTraces = false) (h : wpL_withdraw post mc ms K o od p1) : CW l D cI e0 A yL_withdraw cL_withdraw 4 (some .int) [(0, 9, 12, 21), (0, 9, 15, 49)] 8 125 mc ms [.ref (ad 0 0), .int p1, .ref (ad 14 0)] (HT D cI e0 A ad K M ap o od) (qH D cI e0 A ad M ap post) := by
  refine CW.of (by decide) (Nat.le_of_ble_eq_true rfl) (fun p e s m below meth c ls FX hw hS hl => ?_)
  obtain ⟨S, hg, hr, hlk, hnm, htab⟩ := FX
  have hl : lv_has ls 4 [(0, .ref (ad 0 0)), (1, .int p1), (2, .ref (ad 14 0))] := hl
  refine lv_aload_n S.1 S.2.1 dL_withdraw_0 rfl (lv_at hl 2 rfl) ?_
  refine lv_iconst (v := 0) S.1 S.2.1 dL_withdraw_1 (by decide) ?_
  refine lv_aload_n S.1 S.2.1 dL_withdraw_2 rfl (lv_at hl 0 rfl) ?_
  refine lv_iload_n S.1 S.2.1 dL_withdraw_3 rfl (lv_at hl 1 rfl) ?_
  refine r_call (rest := [.int 0, .ref (ad 14 0)]) S hg hS (mtX6_withdraw (mc := mc) (ms := ms) hfl h) u972 u973 u974 u43 u975 hdX6_withdraw (rv0 hg hw) hw ⟨Nat.le_of_ble_eq_true rfl, Nat.le_of_ble_eq_true rfl⟩ ⟨by show 0 + mc ≤ mc; omega, by show 0 + ms ≤ ms; omega⟩ hl.1 (Nat.le_of_ble_eq_true rfl) rfl dL_withdraw_4 (fun E ce q H locs hx hS hc1 hc2 hc3 => ?_) (fun rv H locs hq hS => ?_)
  · obtain ⟨K, hx1, hw⟩ := hx
    have hpass_1 : ∀ z ∈ [(⟨0, 9, 12, 21⟩ : ExceptionTableEntry)], z.catchType ≠ 0 ∧ ∃ nm : String, (Cond.classLink RL z.catchType nm).before #[.ref (ad 0 0), .int p1, .ref (ad 14 0)] s = true ∧ va_Nc "java/lang/UnsupportedOperationException" nm s := by
      intro z hz
      rcases List.mem_cons.mp hz with rfl | hz
      · exact ⟨by decide, "java/lang/IndexOutOfBoundsException", S.2.2.2.2 _ u331, hg.2.2.2.2.2.1 ("java/lang/UnsupportedOperationException", "java/lang/IndexOutOfBoundsException") (by decide +kernel)⟩
      exact nomatch hz
    rcases hx1 with ⟨rfl, h9⟩ | ⟨rfl, h9⟩
    · skip
      refine vx_catch (name := "java/lang/IndexOutOfBoundsException") S.2.2.2.1 [] (⟨0, 9, 12, 21⟩ : ExceptionTableEntry) [(⟨0, 9, 15, 49⟩ : ExceptionTableEntry)] (htab.trans rfl) (fun z hz => nomatch hz) (by decide) (by decide) (S.2.2.2.2 _ u331) (va_Nw.use rfl (hg.2.2.2.2.1.1 ("java/lang/IndexOutOfBoundsException", "java/lang/IndexOutOfBoundsException") (by decide +kernel))) hc1 hc2 hc3 ?_
      refine lv_astore_n (lv' := [(3, .ref q), (0, .ref (ad 0 0)), (1, .int p1), (2, .ref (ad 14 0))]) S.1 S.2.1 dL_withdraw_12 rfl hl (by decide) rfl (fun ls hl => ?_)
      refine lv_iconst (v := 1) S.1 S.2.1 dL_withdraw_13 (by decide) ?_
      exact r_iret (y := yL_withdraw) S hr rfl hlk hS (by show _ ≤ mc; omega) (by show _ ≤ ms; omega) dL_withdraw_14 ⟨_, _, _, _, ad, rfl, h9, ⟨rfl, rfl, rfl, rfl⟩, hw⟩
    · skip
      refine vx_catch (name := "java/lang/UnsupportedOperationException") S.2.2.2.1 [(⟨0, 9, 12, 21⟩ : ExceptionTableEntry)] (⟨0, 9, 15, 49⟩ : ExceptionTableEntry) [] (htab.trans rfl) (fun z hz => Or.inr (hpass_1 z hz)) (by decide) (by decide) (S.2.2.2.2 _ u641) (va_Nw.use rfl (hg.2.2.2.2.1.1 ("java/lang/UnsupportedOperationException", "java/lang/UnsupportedOperationException") (by decide +kernel))) hc1 hc2 hc3 ?_
      refine lv_astore_n (lv' := [(3, .ref q), (0, .ref (ad 0 0)), (1, .int p1), (2, .ref (ad 14 0))]) S.1 S.2.1 dL_withdraw_15 rfl hl (by decide) rfl (fun ls hl => ?_)
      refine lv_iconst (v := 2) S.1 S.2.1 dL_withdraw_16 (by decide) ?_
      exact r_iret (y := yL_withdraw) S hr rfl hlk hS (by show _ ≤ mc; omega) (by show _ ≤ ms; omega) dL_withdraw_17 ⟨_, _, _, _, ad, rfl, h9, ⟨rfl, rfl, rfl, rfl⟩, hw⟩
  · obtain ⟨r1, K1, rfl, h, hw⟩ := hq
    show W p l e _ s m _ below meth c H locs (0 + mc) (0 + ms) _ (F0 m 7 ls [.int r1, .int 0, .ref (ad 14 0)])
    refine lv_i2l S.1 S.2.1 dL_withdraw_7 rfl ?_
    refine s14 S hg hS hw rfl dL_withdraw_8 (fun H locs hw hS => ?_)
    refine lv_goto (tgt := 18) S.1 S.2.1 dL_withdraw_9 (by decide) ?_
    refine lv_iconst (v := 0) S.1 S.2.1 dL_withdraw_18 (by decide) ?_
    exact r_iret (y := yL_withdraw) S hr rfl hlk hS (by show _ ≤ mc; omega) (by show _ ≤ ms; omega) dL_withdraw_19 ⟨_, _, _, _, ad, rfl, h, ⟨rfl, rfl, rfl, rfl⟩, hw⟩
theorem dL_buy_0 : decode cL_buy 0 = .ok (.aload_n 3, 1) := by decide +kernel
theorem dL_buy_1 : decode cL_buy 1 = .ok (.iconst 0, 1) := by decide +kernel
theorem dL_buy_2 : decode cL_buy 2 = .ok (.aload_n 0, 1) := by decide +kernel
theorem dL_buy_3 : decode cL_buy 3 = .ok (.iload_n 1, 1) := by decide +kernel
theorem dL_buy_4 : decode cL_buy 4 = .ok (.iload_n 2, 1) := by decide +kernel
theorem dL_buy_5 : decode cL_buy 5 = .ok (.invokevirtual 97, 3) := by decide +kernel
theorem dL_buy_8 : decode cL_buy 8 = .ok (.i2l, 1) := by decide +kernel
theorem dL_buy_9 : decode cL_buy 9 = .ok (.lastore, 1) := by decide +kernel
theorem dL_buy_10 : decode cL_buy 10 = .ok (.goto 15, 3) := by decide +kernel
theorem dL_buy_13 : decode cL_buy 13 = .ok (.astore 4, 2) := by decide +kernel
theorem dL_buy_15 : decode cL_buy 15 = .ok (.iconst 1, 1) := by decide +kernel
theorem dL_buy_16 : decode cL_buy 16 = .ok (.ireturn, 1) := by decide +kernel
theorem dL_buy_17 : decode cL_buy 17 = .ok (.astore 4, 2) := by decide +kernel
theorem dL_buy_19 : decode cL_buy 19 = .ok (.iconst 2, 1) := by decide +kernel
theorem dL_buy_20 : decode cL_buy 20 = .ok (.ireturn, 1) := by decide +kernel
theorem dL_buy_21 : decode cL_buy 21 = .ok (.astore 4, 2) := by decide +kernel
theorem dL_buy_23 : decode cL_buy 23 = .ok (.iconst 3, 1) := by decide +kernel
theorem dL_buy_24 : decode cL_buy 24 = .ok (.ireturn, 1) := by decide +kernel
theorem dL_buy_25 : decode cL_buy 25 = .ok (.iconst 0, 1) := by decide +kernel
theorem dL_buy_26 : decode cL_buy 26 = .ok (.ireturn, 1) := by decide +kernel
theorem hdL_buy : yL_buy.cls ≠ "java/lang/invoke/MethodHandle" ∧ yL_buy.cls ≠ "java/lang/invoke/VarHandle" ∧ (parseMethodDescriptor yL_buy.desc).map (fun d => d.parameters.length) = some 4 := by decide +kernel
def wpL_buy (post : Int32 → KS → Int64 → UInt64 → Prop) (mc ms : Nat) (K : KS) (o : Int64) (od : UInt64) (p1 : Int32) (p2 : Int32) : Prop := wpX6_buy (fun v K => post 0 K (v.toInt64) od) (fun E K => (E = "java/lang/IndexOutOfBoundsException" ∧ post 1 K o od) ∨ (E = "java/lang/UnsupportedOperationException" ∧ post 2 K o od) ∨ (E = "java/lang/IllegalStateException" ∧ post 3 K o od)) mc ms K p1 p2
set_option maxHeartbeats 4000000 in
theorem mtL_buy {l : Launch} {D : va_G} {cI : Nat → ClassId} {e0 : Nat} {A : Nat → Prop} {ad : Nat → Nat → Nat} {K M : KS} {ap o : Int64} {od : UInt64} {mc ms : Nat} {p1 p2 : Int32} {post : Int32 → KS → Int64 → UInt64 → Prop} (hfl : l.stackTraces = false) (h : wpL_buy post mc ms K o od p1 p2) : CW l D cI e0 A yL_buy cL_buy 5 (some .int) [(0, 10, 13, 21), (0, 10, 17, 49), (0, 10, 21, 15)] 9 366 mc ms [.ref (ad 0 0), .int p1, .int p2, .ref (ad 14 0)] (HT D cI e0 A ad K M ap o od) (qH D cI e0 A ad M ap post) := by
  refine CW.of (by decide) (Nat.le_of_ble_eq_true rfl) (fun p e s m below meth c ls FX hw hS hl => ?_)
  obtain ⟨S, hg, hr, hlk, hnm, htab⟩ := FX
  have hl : lv_has ls 5 [(0, .ref (ad 0 0)), (1, .int p1), (2, .int p2), (3, .ref (ad 14 0))] := hl
  refine lv_aload_n S.1 S.2.1 dL_buy_0 rfl (lv_at hl 3 rfl) ?_
  refine lv_iconst (v := 0) S.1 S.2.1 dL_buy_1 (by decide) ?_
  refine lv_aload_n S.1 S.2.1 dL_buy_2 rfl (lv_at hl 0 rfl) ?_
  refine lv_iload_n S.1 S.2.1 dL_buy_3 rfl (lv_at hl 1 rfl) ?_
  refine lv_iload_n S.1 S.2.1 dL_buy_4 rfl (lv_at hl 2 rfl) ?_
  refine r_call (rest := [.int 0, .ref (ad 14 0)]) S hg hS (mtX6_buy (mc := mc) (ms := ms) hfl h) u985 u986 u987 u43 u988 hdX6_buy (rv0 hg hw) hw ⟨Nat.le_of_ble_eq_true rfl, Nat.le_of_ble_eq_true rfl⟩ ⟨by show 0 + mc ≤ mc; omega, by show 0 + ms ≤ ms; omega⟩ hl.1 (Nat.le_of_ble_eq_true rfl) rfl dL_buy_5 (fun E ce q H locs hx hS hc1 hc2 hc3 => ?_) (fun rv H locs hq hS => ?_)
  · obtain ⟨K, hx1, hw⟩ := hx
    have hpass_1 : ∀ z ∈ [(⟨0, 10, 13, 21⟩ : ExceptionTableEntry)], z.catchType ≠ 0 ∧ ∃ nm : String, (Cond.classLink RL z.catchType nm).before #[.ref (ad 0 0), .int p1, .int p2, .ref (ad 14 0)] s = true ∧ va_Nc "java/lang/UnsupportedOperationException" nm s := by
      intro z hz
      rcases List.mem_cons.mp hz with rfl | hz
      · exact ⟨by decide, "java/lang/IndexOutOfBoundsException", S.2.2.2.2 _ u331, hg.2.2.2.2.2.1 ("java/lang/UnsupportedOperationException", "java/lang/IndexOutOfBoundsException") (by decide +kernel)⟩
      exact nomatch hz
    have hpass_2 : ∀ z ∈ [(⟨0, 10, 13, 21⟩ : ExceptionTableEntry), (⟨0, 10, 17, 49⟩ : ExceptionTableEntry)], z.catchType ≠ 0 ∧ ∃ nm : String, (Cond.classLink RL z.catchType nm).before #[.ref (ad 0 0), .int p1, .int p2, .ref (ad 14 0)] s = true ∧ va_Nc "java/lang/IllegalStateException" nm s := by
      intro z hz
      rcases List.mem_cons.mp hz with rfl | hz
      · exact ⟨by decide, "java/lang/IndexOutOfBoundsException", S.2.2.2.2 _ u331, hg.2.2.2.2.2.1 ("java/lang/IllegalStateException", "java/lang/IndexOutOfBoundsException") (by decide +kernel)⟩
      rcases List.mem_cons.mp hz with rfl | hz
      · exact ⟨by decide, "java/lang/UnsupportedOperationException", S.2.2.2.2 _ u641, hg.2.2.2.2.2.1 ("java/lang/IllegalStateException", "java/lang/UnsupportedOperationException") (by decide +kernel)⟩
      exact nomatch hz
    rcases hx1 with ⟨rfl, h9⟩ | ⟨rfl, h9⟩ | ⟨rfl, h9⟩
    · skip
      refine vx_catch (name := "java/lang/IndexOutOfBoundsException") S.2.2.2.1 [] (⟨0, 10, 13, 21⟩ : ExceptionTableEntry) [(⟨0, 10, 17, 49⟩ : ExceptionTableEntry), (⟨0, 10, 21, 15⟩ : ExceptionTableEntry)] (htab.trans rfl) (fun z hz => nomatch hz) (by decide) (by decide) (S.2.2.2.2 _ u331) (va_Nw.use rfl (hg.2.2.2.2.1.1 ("java/lang/IndexOutOfBoundsException", "java/lang/IndexOutOfBoundsException") (by decide +kernel))) hc1 hc2 hc3 ?_
      refine lv_astore (lv' := [(4, .ref q), (0, .ref (ad 0 0)), (1, .int p1), (2, .int p2), (3, .ref (ad 14 0))]) S.1 S.2.1 dL_buy_13 hl (by decide) rfl (fun ls hl => ?_)
      refine lv_iconst (v := 1) S.1 S.2.1 dL_buy_15 (by decide) ?_
      exact r_iret (y := yL_buy) S hr rfl hlk hS (by show _ ≤ mc; omega) (by show _ ≤ ms; omega) dL_buy_16 ⟨_, _, _, _, ad, rfl, h9, ⟨rfl, rfl, rfl, rfl⟩, hw⟩
    · skip
      refine vx_catch (name := "java/lang/UnsupportedOperationException") S.2.2.2.1 [(⟨0, 10, 13, 21⟩ : ExceptionTableEntry)] (⟨0, 10, 17, 49⟩ : ExceptionTableEntry) [(⟨0, 10, 21, 15⟩ : ExceptionTableEntry)] (htab.trans rfl) (fun z hz => Or.inr (hpass_1 z hz)) (by decide) (by decide) (S.2.2.2.2 _ u641) (va_Nw.use rfl (hg.2.2.2.2.1.1 ("java/lang/UnsupportedOperationException", "java/lang/UnsupportedOperationException") (by decide +kernel))) hc1 hc2 hc3 ?_
      refine lv_astore (lv' := [(4, .ref q), (0, .ref (ad 0 0)), (1, .int p1), (2, .int p2), (3, .ref (ad 14 0))]) S.1 S.2.1 dL_buy_17 hl (by decide) rfl (fun ls hl => ?_)
      refine lv_iconst (v := 2) S.1 S.2.1 dL_buy_19 (by decide) ?_
      exact r_iret (y := yL_buy) S hr rfl hlk hS (by show _ ≤ mc; omega) (by show _ ≤ ms; omega) dL_buy_20 ⟨_, _, _, _, ad, rfl, h9, ⟨rfl, rfl, rfl, rfl⟩, hw⟩
    · skip
      refine vx_catch (name := "java/lang/IllegalStateException") S.2.2.2.1 [(⟨0, 10, 13, 21⟩ : ExceptionTableEntry), (⟨0, 10, 17, 49⟩ : ExceptionTableEntry)] (⟨0, 10, 21, 15⟩ : ExceptionTableEntry) [] (htab.trans rfl) (fun z hz => Or.inr (hpass_2 z hz)) (by decide) (by decide) (S.2.2.2.2 _ u235) (va_Nw.use rfl (hg.2.2.2.2.1.1 ("java/lang/IllegalStateException", "java/lang/IllegalStateException") (by decide +kernel))) hc1 hc2 hc3 ?_
      refine lv_astore (lv' := [(4, .ref q), (0, .ref (ad 0 0)), (1, .int p1), (2, .int p2), (3, .ref (ad 14 0))]) S.1 S.2.1 dL_buy_21 hl (by decide) rfl (fun ls hl => ?_)
      refine lv_iconst (v := 3) S.1 S.2.1 dL_buy_23 (by decide) ?_
      exact r_iret (y := yL_buy) S hr rfl hlk hS (by show _ ≤ mc; omega) (by show _ ≤ ms; omega) dL_buy_24 ⟨_, _, _, _, ad, rfl, h9, ⟨rfl, rfl, rfl, rfl⟩, hw⟩
  · obtain ⟨r1, K1, rfl, h, hw⟩ := hq
    show W p l e _ s m _ below meth c H locs (0 + mc) (0 + ms) _ (F0 m 8 ls [.int r1, .int 0, .ref (ad 14 0)])
    refine lv_i2l S.1 S.2.1 dL_buy_8 rfl ?_
    refine s14 S hg hS hw rfl dL_buy_9 (fun H locs hw hS => ?_)
    refine lv_goto (tgt := 25) S.1 S.2.1 dL_buy_10 (by decide) ?_
    refine lv_iconst (v := 0) S.1 S.2.1 dL_buy_25 (by decide) ?_
    exact r_iret (y := yL_buy) S hr rfl hlk hS (by show _ ≤ mc; omega) (by show _ ≤ ms; omega) dL_buy_26 ⟨_, _, _, _, ad, rfl, h, ⟨rfl, rfl, rfl, rfl⟩, hw⟩
theorem dL_offerState_0 : decode cL_offerState 0 = .ok (.aload_n 2, 1) := by decide +kernel
theorem dL_offerState_1 : decode cL_offerState 1 = .ok (.iconst 0, 1) := by decide +kernel
theorem dL_offerState_2 : decode cL_offerState 2 = .ok (.aload_n 0, 1) := by decide +kernel
theorem dL_offerState_3 : decode cL_offerState 3 = .ok (.iload_n 1, 1) := by decide +kernel
theorem dL_offerState_4 : decode cL_offerState 4 = .ok (.invokevirtual 100, 3) := by decide +kernel
theorem dL_offerState_7 : decode cL_offerState 7 = .ok (.i2l, 1) := by decide +kernel
theorem dL_offerState_8 : decode cL_offerState 8 = .ok (.lastore, 1) := by decide +kernel
theorem dL_offerState_9 : decode cL_offerState 9 = .ok (.goto 6, 3) := by decide +kernel
theorem dL_offerState_12 : decode cL_offerState 12 = .ok (.astore_n 3, 1) := by decide +kernel
theorem dL_offerState_13 : decode cL_offerState 13 = .ok (.iconst 1, 1) := by decide +kernel
theorem dL_offerState_14 : decode cL_offerState 14 = .ok (.ireturn, 1) := by decide +kernel
theorem dL_offerState_15 : decode cL_offerState 15 = .ok (.iconst 0, 1) := by decide +kernel
theorem dL_offerState_16 : decode cL_offerState 16 = .ok (.ireturn, 1) := by decide +kernel
theorem hdL_offerState : yL_offerState.cls ≠ "java/lang/invoke/MethodHandle" ∧ yL_offerState.cls ≠ "java/lang/invoke/VarHandle" ∧ (parseMethodDescriptor yL_offerState.desc).map (fun d => d.parameters.length) = some 3 := by decide +kernel
def wpL_offerState (post : Int32 → KS → Int64 → UInt64 → Prop) (mc ms : Nat) (K : KS) (o : Int64) (od : UInt64) (p1 : Int32) : Prop := wpX6_offerState (fun v => post 0 K (v.toInt64) od) (fun E => (E = "java/lang/IndexOutOfBoundsException" ∧ post 1 K o od)) mc ms K p1
set_option maxHeartbeats 4000000 in
theorem mtL_offerState {l : Launch} {D : va_G} {cI : Nat → ClassId} {e0 : Nat} {A : Nat → Prop} {ad : Nat → Nat → Nat} {K M : KS} {ap o : Int64} {od : UInt64} {mc ms : Nat} {p1 : Int32} {post : Int32 → KS → Int64 → UInt64 → Prop} (hfl : l.stackTraces = false) (h : wpL_offerState post mc ms K o od p1) : CW l D cI e0 A yL_offerState cL_offerState 4 (some .int) [(0, 9, 12, 21)] 8 124 mc ms [.ref (ad 0 0), .int p1, .ref (ad 14 0)] (HT D cI e0 A ad K M ap o od) (qH D cI e0 A ad M ap post) := by
  refine CW.of (by decide) (Nat.le_of_ble_eq_true rfl) (fun p e s m below meth c ls FX hw hS hl => ?_)
  obtain ⟨S, hg, hr, hlk, hnm, htab⟩ := FX
  have hl : lv_has ls 4 [(0, .ref (ad 0 0)), (1, .int p1), (2, .ref (ad 14 0))] := hl
  refine lv_aload_n S.1 S.2.1 dL_offerState_0 rfl (lv_at hl 2 rfl) ?_
  refine lv_iconst (v := 0) S.1 S.2.1 dL_offerState_1 (by decide) ?_
  refine lv_aload_n S.1 S.2.1 dL_offerState_2 rfl (lv_at hl 0 rfl) ?_
  refine lv_iload_n S.1 S.2.1 dL_offerState_3 rfl (lv_at hl 1 rfl) ?_
  refine r_call (rest := [.int 0, .ref (ad 14 0)]) S hg hS (mtX6_offerState (mc := mc) (ms := ms) hfl h) u998 u999 u1000 u43 u1001 hdX6_offerState (rv0 hg hw) hw ⟨Nat.le_of_ble_eq_true rfl, Nat.le_of_ble_eq_true rfl⟩ ⟨by show 0 + mc ≤ mc; omega, by show 0 + ms ≤ ms; omega⟩ hl.1 (Nat.le_of_ble_eq_true rfl) rfl dL_offerState_4 (fun E ce q H locs hx hS hc1 hc2 hc3 => ?_) (fun rv H locs hq hS => ?_)
  · obtain ⟨hx1, hw⟩ := hx
    obtain ⟨rfl, h9⟩ := hx1
    refine vx_catch (name := "java/lang/IndexOutOfBoundsException") S.2.2.2.1 [] (⟨0, 9, 12, 21⟩ : ExceptionTableEntry) [] (htab.trans rfl) (fun z hz => nomatch hz) (by decide) (by decide) (S.2.2.2.2 _ u331) (va_Nw.use rfl (hg.2.2.2.2.1.1 ("java/lang/IndexOutOfBoundsException", "java/lang/IndexOutOfBoundsException") (by decide +kernel))) hc1 hc2 hc3 ?_
    refine lv_astore_n (lv' := [(3, .ref q), (0, .ref (ad 0 0)), (1, .int p1), (2, .ref (ad 14 0))]) S.1 S.2.1 dL_offerState_12 rfl hl (by decide) rfl (fun ls hl => ?_)
    refine lv_iconst (v := 1) S.1 S.2.1 dL_offerState_13 (by decide) ?_
    exact r_iret (y := yL_offerState) S hr rfl hlk hS (by show _ ≤ mc; omega) (by show _ ≤ ms; omega) dL_offerState_14 ⟨_, _, _, _, ad, rfl, h9, ⟨rfl, rfl, rfl, rfl⟩, hw⟩
  · obtain ⟨r1, rfl, h, hw⟩ := hq
    show W p l e _ s m _ below meth c H locs (0 + mc) (0 + ms) _ (F0 m 7 ls [.int r1, .int 0, .ref (ad 14 0)])
    refine lv_i2l S.1 S.2.1 dL_offerState_7 rfl ?_
    refine s14 S hg hS hw rfl dL_offerState_8 (fun H locs hw hS => ?_)
    refine lv_goto (tgt := 15) S.1 S.2.1 dL_offerState_9 (by decide) ?_
    refine lv_iconst (v := 0) S.1 S.2.1 dL_offerState_15 (by decide) ?_
    exact r_iret (y := yL_offerState) S hr rfl hlk hS (by show _ ≤ mc; omega) (by show _ ≤ ms; omega) dL_offerState_16 ⟨_, _, _, _, ad, rfl, h, ⟨rfl, rfl, rfl, rfl⟩, hw⟩
theorem dL_wonBits_0 : decode cL_wonBits 0 = .ok (.aload_n 1, 1) := by decide +kernel
theorem dL_wonBits_1 : decode cL_wonBits 1 = .ok (.iconst 0, 1) := by decide +kernel
theorem dL_wonBits_2 : decode cL_wonBits 2 = .ok (.aload_n 0, 1) := by decide +kernel
theorem dL_wonBits_3 : decode cL_wonBits 3 = .ok (.invokevirtual 103, 3) := by decide +kernel
theorem dL_wonBits_6 : decode cL_wonBits 6 = .ok (.i2l, 1) := by decide +kernel
theorem dL_wonBits_7 : decode cL_wonBits 7 = .ok (.lastore, 1) := by decide +kernel
theorem dL_wonBits_8 : decode cL_wonBits 8 = .ok (.goto 6, 3) := by decide +kernel
theorem dL_wonBits_11 : decode cL_wonBits 11 = .ok (.astore_n 2, 1) := by decide +kernel
theorem dL_wonBits_12 : decode cL_wonBits 12 = .ok (.iconst 1, 1) := by decide +kernel
theorem dL_wonBits_13 : decode cL_wonBits 13 = .ok (.ireturn, 1) := by decide +kernel
theorem dL_wonBits_14 : decode cL_wonBits 14 = .ok (.iconst 0, 1) := by decide +kernel
theorem dL_wonBits_15 : decode cL_wonBits 15 = .ok (.ireturn, 1) := by decide +kernel
theorem hdL_wonBits : yL_wonBits.cls ≠ "java/lang/invoke/MethodHandle" ∧ yL_wonBits.cls ≠ "java/lang/invoke/VarHandle" ∧ (parseMethodDescriptor yL_wonBits.desc).map (fun d => d.parameters.length) = some 2 := by decide +kernel
def wpL_wonBits (post : Int32 → KS → Int64 → UInt64 → Prop) (mc ms : Nat) (K : KS) (o : Int64) (od : UInt64) : Prop := wpX6_wonBits (fun v => post 0 K (v.toInt64) od) (fun E => (E = "java/lang/ArithmeticException" ∧ post 1 K o od)) mc ms K
set_option maxHeartbeats 4000000 in
theorem mtL_wonBits {l : Launch} {D : va_G} {cI : Nat → ClassId} {e0 : Nat} {A : Nat → Prop} {ad : Nat → Nat → Nat} {K M : KS} {ap o : Int64} {od : UInt64} {mc ms : Nat} {post : Int32 → KS → Int64 → UInt64 → Prop} (hfl : l.stackTraces = false) (h : wpL_wonBits post mc ms K o od) : CW l D cI e0 A yL_wonBits cL_wonBits 3 (some .int) [(0, 8, 11, 107)] 7 104 mc ms [.ref (ad 0 0), .ref (ad 14 0)] (HT D cI e0 A ad K M ap o od) (qH D cI e0 A ad M ap post) := by
  refine CW.of (by decide) (Nat.le_of_ble_eq_true rfl) (fun p e s m below meth c ls FX hw hS hl => ?_)
  obtain ⟨S, hg, hr, hlk, hnm, htab⟩ := FX
  have hl : lv_has ls 3 [(0, .ref (ad 0 0)), (1, .ref (ad 14 0))] := hl
  refine lv_aload_n S.1 S.2.1 dL_wonBits_0 rfl (lv_at hl 1 rfl) ?_
  refine lv_iconst (v := 0) S.1 S.2.1 dL_wonBits_1 (by decide) ?_
  refine lv_aload_n S.1 S.2.1 dL_wonBits_2 rfl (lv_at hl 0 rfl) ?_
  refine r_call (rest := [.int 0, .ref (ad 14 0)]) S hg hS (mtX6_wonBits (mc := mc) (ms := ms) hfl h) u1019 u1020 u1021 u43 u1022 hdX6_wonBits (rv0 hg hw) hw ⟨Nat.le_of_ble_eq_true rfl, Nat.le_of_ble_eq_true rfl⟩ ⟨by show 0 + mc ≤ mc; omega, by show 0 + ms ≤ ms; omega⟩ hl.1 (Nat.le_of_ble_eq_true rfl) rfl dL_wonBits_3 (fun E ce q H locs hx hS hc1 hc2 hc3 => ?_) (fun rv H locs hq hS => ?_)
  · obtain ⟨hx1, hw⟩ := hx
    obtain ⟨rfl, h9⟩ := hx1
    refine vx_catch (name := "java/lang/ArithmeticException") S.2.2.2.1 [] (⟨0, 8, 11, 107⟩ : ExceptionTableEntry) [] (htab.trans rfl) (fun z hz => nomatch hz) (by decide) (by decide) (S.2.2.2.2 _ u1005) (va_Nw.use rfl (hg.2.2.2.2.1.1 ("java/lang/ArithmeticException", "java/lang/ArithmeticException") (by decide +kernel))) hc1 hc2 hc3 ?_
    refine lv_astore_n (lv' := [(2, .ref q), (0, .ref (ad 0 0)), (1, .ref (ad 14 0))]) S.1 S.2.1 dL_wonBits_11 rfl hl (by decide) rfl (fun ls hl => ?_)
    refine lv_iconst (v := 1) S.1 S.2.1 dL_wonBits_12 (by decide) ?_
    exact r_iret (y := yL_wonBits) S hr rfl hlk hS (by show _ ≤ mc; omega) (by show _ ≤ ms; omega) dL_wonBits_13 ⟨_, _, _, _, ad, rfl, h9, ⟨rfl, rfl, rfl, rfl⟩, hw⟩
  · obtain ⟨r1, rfl, h, hw⟩ := hq
    show W p l e _ s m _ below meth c H locs (0 + mc) (0 + ms) _ (F0 m 6 ls [.int r1, .int 0, .ref (ad 14 0)])
    refine lv_i2l S.1 S.2.1 dL_wonBits_6 rfl ?_
    refine s14 S hg hS hw rfl dL_wonBits_7 (fun H locs hw hS => ?_)
    refine lv_goto (tgt := 14) S.1 S.2.1 dL_wonBits_8 (by decide) ?_
    refine lv_iconst (v := 0) S.1 S.2.1 dL_wonBits_14 (by decide) ?_
    exact r_iret (y := yL_wonBits) S hr rfl hlk hS (by show _ ≤ mc; omega) (by show _ ≤ ms; omega) dL_wonBits_15 ⟨_, _, _, _, ad, rfl, h, ⟨rfl, rfl, rfl, rfl⟩, hw⟩
theorem dL_meanPrice_0 : decode cL_meanPrice 0 = .ok (.aload_n 1, 1) := by decide +kernel
theorem dL_meanPrice_1 : decode cL_meanPrice 1 = .ok (.iconst 0, 1) := by decide +kernel
theorem dL_meanPrice_2 : decode cL_meanPrice 2 = .ok (.aload_n 0, 1) := by decide +kernel
theorem dL_meanPrice_3 : decode cL_meanPrice 3 = .ok (.invokevirtual 109, 3) := by decide +kernel
theorem dL_meanPrice_6 : decode cL_meanPrice 6 = .ok (.dastore, 1) := by decide +kernel
theorem dL_meanPrice_7 : decode cL_meanPrice 7 = .ok (.goto 6, 3) := by decide +kernel
theorem dL_meanPrice_10 : decode cL_meanPrice 10 = .ok (.astore_n 2, 1) := by decide +kernel
theorem dL_meanPrice_11 : decode cL_meanPrice 11 = .ok (.iconst 1, 1) := by decide +kernel
theorem dL_meanPrice_12 : decode cL_meanPrice 12 = .ok (.ireturn, 1) := by decide +kernel
theorem dL_meanPrice_13 : decode cL_meanPrice 13 = .ok (.iconst 0, 1) := by decide +kernel
theorem dL_meanPrice_14 : decode cL_meanPrice 14 = .ok (.ireturn, 1) := by decide +kernel
theorem hdL_meanPrice : yL_meanPrice.cls ≠ "java/lang/invoke/MethodHandle" ∧ yL_meanPrice.cls ≠ "java/lang/invoke/VarHandle" ∧ (parseMethodDescriptor yL_meanPrice.desc).map (fun d => d.parameters.length) = some 2 := by decide +kernel
def wpL_meanPrice (post : Int32 → KS → Int64 → UInt64 → Prop) (mc ms : Nat) (K : KS) (o : Int64) (od : UInt64) : Prop := wpX6_meanPrice (fun v => post 0 K o v) (fun E => (E = "java/lang/ArithmeticException" ∧ post 1 K o od)) mc ms K
set_option maxHeartbeats 4000000 in
theorem mtL_meanPrice {l : Launch} {D : va_G} {cI : Nat → ClassId} {e0 : Nat} {A : Nat → Prop} {ad : Nat → Nat → Nat} {K M : KS} {ap o : Int64} {od : UInt64} {mc ms : Nat} {post : Int32 → KS → Int64 → UInt64 → Prop} (hfl : l.stackTraces = false) (h : wpL_meanPrice post mc ms K o od) : CW l D cI e0 A yL_meanPrice cL_meanPrice 3 (some .int) [(0, 7, 10, 107)] 7 106 mc ms [.ref (ad 0 0), .ref (ad 15 0)] (HT D cI e0 A ad K M ap o od) (qH D cI e0 A ad M ap post) := by
  refine CW.of (by decide) (Nat.le_of_ble_eq_true rfl) (fun p e s m below meth c ls FX hw hS hl => ?_)
  obtain ⟨S, hg, hr, hlk, hnm, htab⟩ := FX
  have hl : lv_has ls 3 [(0, .ref (ad 0 0)), (1, .ref (ad 15 0))] := hl
  refine lv_aload_n S.1 S.2.1 dL_meanPrice_0 rfl (lv_at hl 1 rfl) ?_
  refine lv_iconst (v := 0) S.1 S.2.1 dL_meanPrice_1 (by decide) ?_
  refine lv_aload_n S.1 S.2.1 dL_meanPrice_2 rfl (lv_at hl 0 rfl) ?_
  refine r_call (rest := [.int 0, .ref (ad 15 0)]) S hg hS (mtX6_meanPrice (mc := mc) (ms := ms) hfl h) u1033 u1034 u1035 u43 u1036 hdX6_meanPrice (rv0 hg hw) hw ⟨Nat.le_of_ble_eq_true rfl, Nat.le_of_ble_eq_true rfl⟩ ⟨by show 0 + mc ≤ mc; omega, by show 0 + ms ≤ ms; omega⟩ hl.1 (Nat.le_of_ble_eq_true rfl) rfl dL_meanPrice_3 (fun E ce q H locs hx hS hc1 hc2 hc3 => ?_) (fun rv H locs hq hS => ?_)
  · obtain ⟨hx1, hw⟩ := hx
    obtain ⟨rfl, h9⟩ := hx1
    refine vx_catch (name := "java/lang/ArithmeticException") S.2.2.2.1 [] (⟨0, 7, 10, 107⟩ : ExceptionTableEntry) [] (htab.trans rfl) (fun z hz => nomatch hz) (by decide) (by decide) (S.2.2.2.2 _ u1005) (va_Nw.use rfl (hg.2.2.2.2.1.1 ("java/lang/ArithmeticException", "java/lang/ArithmeticException") (by decide +kernel))) hc1 hc2 hc3 ?_
    refine lv_astore_n (lv' := [(2, .ref q), (0, .ref (ad 0 0)), (1, .ref (ad 15 0))]) S.1 S.2.1 dL_meanPrice_10 rfl hl (by decide) rfl (fun ls hl => ?_)
    refine lv_iconst (v := 1) S.1 S.2.1 dL_meanPrice_11 (by decide) ?_
    exact r_iret (y := yL_meanPrice) S hr rfl hlk hS (by show _ ≤ mc; omega) (by show _ ≤ ms; omega) dL_meanPrice_12 ⟨_, _, _, _, ad, rfl, h9, ⟨rfl, rfl, rfl, rfl⟩, hw⟩
  · obtain ⟨r1, rfl, h, hw⟩ := hq
    show W p l e _ s m _ below meth c H locs (0 + mc) (0 + ms) _ (F0 m 6 ls [.double r1, .int 0, .ref (ad 15 0)])
    refine s15 S hg hS hw rfl dL_meanPrice_6 (fun H locs hw hS => ?_)
    refine lv_goto (tgt := 13) S.1 S.2.1 dL_meanPrice_7 (by decide) ?_
    refine lv_iconst (v := 0) S.1 S.2.1 dL_meanPrice_13 (by decide) ?_
    exact r_iret (y := yL_meanPrice) S hr rfl hlk hS (by show _ ≤ mc; omega) (by show _ ≤ ms; omega) dL_meanPrice_14 ⟨_, _, _, _, ad, rfl, h, ⟨rfl, rfl, rfl, rfl⟩, hw⟩
