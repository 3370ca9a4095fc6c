section CTOR
variable {p : Program} {l : Launch} {e : Env} {R : Room} {s : State} {m : MethodId} {args : Array Value} {below : List Frame} {meth : Method} {c : Code} {H : Heap} {locs : List Loc} {cells slots : Nat} {Q : State → Prop}
variable {D : va_G} {cI : Nat → ClassId} {e0 : Nat} {A : Nat → Prop} {ad av : Nat → Nat → Nat} {K M : KS} {ap o : Int64} {od : UInt64} {adr adr' : Nat → Nat → Nat} {G G' : Nat → Nat → va_E} {live live' : Nat → Nat → Prop}
variable {cc : ByteArray} {nL pc : Nat} {ls : Array Slot} {rest : List Value} {own : String} {index : Nat}
theorem hU_ov {α : Type} (f : Nat → Nat → α) {k i k2 i2 : Nat} (h : ¬ (k2 = k ∧ i2 = i)) (x y z : α) : hU (hU (hU f k i x) k2 i2 y) k i z = hU (hU f k2 i2 y) k i z := by
  funext a b
  by_cases h1 : a = k ∧ b = i
  · obtain ⟨rfl, rfl⟩ := h1
    rw [hU_s, hU_s]
  · rw [hU_n _ _ h1, hU_n _ _ h1]
    by_cases h2 : a = k2 ∧ b = i2
    · obtain ⟨rfl, rfl⟩ := h2
      rw [hU_s, hU_s]
    · rw [hU_n _ _ h2, hU_n _ _ h2, hU_n _ _ h1]
theorem hU_hU {α : Type} (f : Nat → Nat → α) (k i : Nat) (x y : α) : hU (hU f k i x) k i y = hU f k i y := by
  funext a b
  by_cases h1 : a = k ∧ b = i
  · obtain ⟨rfl, rfl⟩ := h1
    rw [hU_s, hU_s]
  · rw [hU_n _ _ h1, hU_n _ _ h1, hU_n _ _ h1]
/-- java.lang.Object's own constructor -/
theorem r_obj (S : CallFix p m c cc nL s args WU own) {a : Nat} (k1 : Cond.methodLink own index Lib.objectInit ∈ WU) (hsz : ls.size = nL) (hd : decode cc pc = .ok (.invokespecial index, 3)) (hf : 1 ≤ R.frames) (hlo : (rest.map fun v => v.category).sum + 12 ≤ R.locals) (kk : W p l e R s m args below meth c H locs cells slots Q (F0 m (pc + 3) ls rest)) : W p l e R s m args below meth c H locs cells slots Q (F0 m pc ls (.ref a :: rest)) :=
  W.objInit S.1 S.2.1 S.2.2.2.1 (S.2.2.2.2 _ k1) (S.2.2.2.2 _ u60) (S.2.2.2.2 _ u61) rfl (hsz.trans S.2.2.1.symm) rfl hd hf (by show 2 * 0 + _ + 12 ≤ _; omega) kk
theorem r_new (S : CallFix p m c cc nL s args WU own) (hg : GI D cI e0 A s s.heap) (hS : va_S A s.heap H locs) (hw : HW D A live adr G H) (k i : Nat) {ci : Nat} {fs : List Value} {C : String} {T : u_T} {N : Nat} (hc : vwCl[ci]? = some (C, T, N)) (hin : ∀ w ∈ u_ws C T N, w ∈ WU) (ty0 : Nat → FieldType) (hty : ∀ k, k < N → parseFieldDescriptor (T k).2.2.1 = some (ty0 k)) (k1 : Cond.classLink own index C ∈ WU) (k2 : Cond.instantiable C N ∈ WU) (k3 : Cond.initialized C ∈ WU) (hfs : ∀ j, j < N → defaultValue (ty0 j) = vp_V fs j) (hcs : cells + 1 ≤ R.cells ∧ slots + N ≤ R.slots) (hd : decode cc pc = .ok (.new index, 3))
    (kk : ∀ (q : Nat) (H1 : Heap), HW D A (fun k' i' => live k' i' ∨ (k' = k ∧ i' = i)) (hU adr k i q) (hU G k i (.inr (ci, fs))) H1 → va_S A s.heap H1 locs → W p l e R s m args below meth c H1 locs (cells + 1) (slots + N) Q (F0 m (pc + 3) ls (.ref q :: rest))) : W p l e R s m args below meth c H locs cells slots Q (F0 m pc ls rest) := by
  obtain ⟨ids, h1, h2, h3⟩ := hw
  exact va_new S.1 S.2.1 S.2.2.2.2 hin ty0 hty S.2.2.2.1 (S.2.2.2.2 _ k1) (S.2.2.2.2 _ k2) (S.2.2.2.2 _ k3) hg.1 h2 h3 hS hg.2.2.2.2.2.2.2.2.2 hc hfs hcs.1 hcs.2 hd (fun q H1 hP hD hS => kk q H1 (HW.push h1 hP hD (fun _ _ h => h)) hS)
/-- a constructor, called -/
theorem r_callI {y : MethodName} {bytes : ByteArray} {maxL : Nat} {fr lo mc ms : Nat} {As : List Value} {b : Nat} {P : Heap → Prop} {QQ : Option Value → Heap → Prop} {st0 : List Value}
    (S : CallFix p m c cc nL s args WU own) (hg : GI D cI e0 A s s.heap) (hS : va_S A s.heap H locs) (hM : CM l D cI e0 A y bytes maxL none fr lo mc ms (.ref b :: As) P QQ xN)
    (k1 : Cond.methodLink own index y ∈ WU) (k2 : Cond.instanceMethod y ∈ WU) (k4 : Cond.initialized y.cls ∈ WU) (k5 : Cond.code y bytes maxL none ∈ WU) (hy1 : y.name = "<init>")
    (hd : y.cls ≠ "java/lang/invoke/MethodHandle" ∧ y.cls ≠ "java/lang/invoke/VarHandle" ∧ (parseMethodDescriptor y.desc).map (fun d => d.parameters.length) = some As.length)
    (hP : P H) (hR : fr + 1 ≤ R.frames ∧ 8 + (maxL + 11) + lo ≤ R.locals) (hcs : cells + mc ≤ R.cells ∧ slots + ms ≤ R.slots)
    (hsize : ls.size = nL) (hrest : (rest.map fun v => v.category).sum ≤ 8) (hst : st0 = As.reverse ++ .ref b :: rest) (hdg : decode cc pc = .ok (.invokespecial index, 3))
    (kk : ∀ (r : Option Value) (H1 : Heap) (locs1 : List Loc), QQ r H1 → va_S A s.heap H1 locs1 → W p l e R s m args below meth c H1 locs1 (cells + mc) (slots + ms) Q (F0 m (pc + 3) ls (r.toList ++ rest))) : W p l e R s m args below meth c H locs cells slots Q (F0 m pc ls st0) := by
  have ht := S.2.2.2.2
  have hgood : ∀ w ∈ Cond.code y bytes maxL none :: WU, ∀ (a' : Array Value) (U : State), s.WarmedH U.vm → w.before a' U = true := by
    intro w hw a' U hW
    have hw2 : w ∈ WU := by
      rcases List.mem_cons.mp hw with rfl | h
      · exact k5
      · exact h
    exact word_at hW (good_of_word (WU_good w hw2)) (ht w hw2)
  have hM2 : Met l y (Cond.code y bytes maxL none :: WU) ({ frames := fr, cells := mc, slots := ms, locals := lo }) (va_Pc (.ref b :: As) (fun U => GI D cI e0 A U U.heap ∧ P U.heap)) (fun _ st oc t => (∃ r, oc = .returned r ∧ QQ r t.heap) ∧ va_F A st t) mc ms A := by
    intro p' e' h1 h2 h3 s' m' a' b' h4 h5 h6 h7
    obtain ⟨n9, o9, q1, q2, q3, q4⟩ := hM p' e' h1 h2 h3 s' m' a' b' h4 h5 h6 h7
    refine ⟨n9, o9, q1, q2, q3, ?_⟩
    rcases q4 with h | ⟨q, -, E, ce, L, hx, -⟩
    · exact h
    · exact absurd hx.1 id
  have hb : FrameBlind (va_Pc (.ref b :: As) (fun U => GI D cI e0 A U U.heap ∧ P U.heap)) := fun a U g mk h => ⟨h.1, h.2.1.mv (State.WarmedH.refl U) (Nat.le_refl _) (fun _ _ _ => rfl), h.2.2⟩
  have hrun := va_runI (e := e) (meth := meth) (below := below) (locs := locs) (cells := cells) (slots := slots) (g := F0 m pc ls st0) S hM2 ⟨⟨rfl, rfl, hR.1, hR.2, hgood, List.mem_cons_self, ht _ k5, ht _ k4, ⟨hd.1, hd.2.1⟩, (fun sig h => by have h2 := hd.2.2; rw [h] at h2; exact (Option.some.inj h2).symm), ht _ k1⟩, hy1, ht _ k2⟩ ⟨hb, fun U hU hW => ⟨rfl, hg.at hS hU hW, by rw [hU]; exact hP⟩⟩ rfl rfl hsize hst (lv_room hrest) hdg hcs
  intro T hT X
  obtain ⟨v, st₀, t, T', L, h0, X', hL, e1, e2, ⟨⟨r, hv, hq⟩, hF⟩, st⟩ := hrun T hT X
  cases hv
  obtain ⟨q1, q2, q3⟩ := vx_keep h0 e1 hS (fun _ _ h => h) (fun _ h => h) hL hF
  obtain ⟨t2, a1, b1⟩ := kk v T'.heap (locs ++ L) (by rw [e1]; exact hq) q3 T' rfl X'
  exact ⟨t2, st t2 a1, b1⟩
theorem rG_put {a : Nat} (S : CallFix p m c cc nL s args WU own) (hg : GI D cI e0 A s s.heap) (hS : va_S A s.heap H locs) (hw : HW D A live adr G H) {k i : Nat} (hl : live k i) (ha : adr k i = a) {ci : Nat} {fs fs' : List Value} (hG : G k i = .inr (ci, fs)) {C : String} {T : u_T} {N : Nat} (hc : vwCl[ci]? = some (C, T, N)) (hin : ∀ w ∈ u_ws C T N, w ∈ WU) (ty0 : Nat → FieldType) (hty : ∀ k, k < N → parseFieldDescriptor (T k).2.2.1 = some (ty0 k)) (hnm : ∀ a, a < N → ∀ b, b < N → a ≠ b → (T a).2.1 ≠ (T b).2.1) (fk : Nat) (hk : fk < N) {index : Nat} (hlink : Cond.fieldLink own index (T fk).1 (T fk).2.1 (T fk).2.2.1 ∈ WU) (hfin : (T fk).2.2.2 = false) {v : Value} (hn : narrow (ty0 fk) v = v) (hfit : fits (ty0 fk) v = true) (hlen : fk < fs.length) (hf : fs.set fk v = fs') (hdg : decode cc pc = .ok (.putfield index, 3))
    (kk : ∀ (H1 : Heap) (locs1 : List Loc), HW D A live adr (hU G k i (.inr (ci, fs'))) H1 → va_S A s.heap H1 locs1 → W p l e R s m args below meth c H1 locs1 cells slots Q (F0 m (pc + 3) ls rest)) : W p l e R s m args below meth c H locs cells slots Q (F0 m pc ls (v :: .ref a :: rest)) := by
  subst ha
  subst hf
  exact r_put S hg hS hw hl hG hc hin ty0 hty hnm fk hk hlink hfin hn hfit hlen hdg kk
theorem rG_putF {a : Nat} (S : CallFix p m c cc nL s args WU own) (hin2 : meth.name = "<init>") (hg : GI D cI e0 A s s.heap) (hS : va_S A s.heap H locs) (hw : HW D A live adr G H) {k i : Nat} (hl : live k i) (ha : adr k i = a) {ci : Nat} {fs fs' : List Value} (hG : G k i = .inr (ci, fs)) {C : String} {T : u_T} {N : Nat} (hc : vwCl[ci]? = some (C, T, N)) (hin : ∀ w ∈ u_ws C T N, w ∈ WU) (ty0 : Nat → FieldType) (hty : ∀ k, k < N → parseFieldDescriptor (T k).2.2.1 = some (ty0 k)) (hnm : ∀ a, a < N → ∀ b, b < N → a ≠ b → (T a).2.1 ≠ (T b).2.1) (fk : Nat) (hk : fk < N) {index : Nat} (hlink : Cond.fieldLink own index (T fk).1 (T fk).2.1 (T fk).2.2.1 ∈ WU) (hfin : (T fk).2.2.2 = true) (hdecl : (T fk).1 = own) {v : Value} (hn : narrow (ty0 fk) v = v) (hfit : fits (ty0 fk) v = true) (hlen : fk < fs.length) (hf : fs.set fk v = fs') (hdg : decode cc pc = .ok (.putfield index, 3))
    (kk : ∀ (H1 : Heap) (locs1 : List Loc), HW D A live adr (hU G k i (.inr (ci, fs'))) H1 → va_S A s.heap H1 locs1 → W p l e R s m args below meth c H1 locs1 cells slots Q (F0 m (pc + 3) ls rest)) : W p l e R s m args below meth c H locs cells slots Q (F0 m pc ls (v :: .ref a :: rest)) := by
  subst ha
  subst hf
  exact r_putF (y := yX0_init) S hin2 hg hS hw hl hG hc hin ty0 hty hnm fk hk hlink hfin hdecl hn hfit hlen hdg kk
theorem rG_get {a : Nat} (S : CallFix p m c cc nL s args WU own) (hg : GI D cI e0 A s s.heap) (hw : HW D A live adr G H) {k i : Nat} (hl : live k i) (ha : adr k i = a) {ci : Nat} {fs : List Value} (hG : G k i = .inr (ci, fs)) {C : String} {T : u_T} {N : Nat} (hc : vwCl[ci]? = some (C, T, N)) (hin : ∀ w ∈ u_ws C T N, w ∈ WU) (fk : Nat) (hk : fk < N) {index : Nat} (hlink : Cond.fieldLink own index (T fk).1 (T fk).2.1 (T fk).2.2.1 ∈ WU) {v : Value} (hv : fs[fk]? = some v) (hdg : decode cc pc = .ok (.getfield index, 3))
    (kk : W p l e R s m args below meth c H locs cells slots Q (F0 m (pc + 3) ls (v :: rest))) : W p l e R s m args below meth c H locs cells slots Q (F0 m pc ls (.ref a :: rest)) := by
  subst ha
  exact r_get S hg hw hl hG hc hin fk hk hlink hv hdg kk
/-- a constructor, called, that a nest mate declares -/
theorem r_callIN {host : String} {y : MethodName} {bytes : ByteArray} {maxL : Nat} {fr lo mc ms : Nat} {As : List Value} {b : Nat} {P : Heap → Prop} {QQ : Option Value → Heap → Prop} {st0 : List Value}
    (S : CallFix p m c cc nL s args WU own) (hg : GI D cI e0 A s s.heap) (hS : va_S A s.heap H locs) (hM : CM l D cI e0 A y bytes maxL none fr lo mc ms (.ref b :: As) P QQ xN)
    (k1 : va_Nw (.methodLinkNest own index y host) s) (k2 : Cond.instanceMethod y ∈ WU) (k4 : Cond.initialized y.cls ∈ WU) (k5 : Cond.code y bytes maxL none ∈ WU) (hy1 : y.name = "<init>")
    (hd : y.cls ≠ "java/lang/invoke/MethodHandle" ∧ y.cls ≠ "java/lang/invoke/VarHandle" ∧ (parseMethodDescriptor y.desc).map (fun d => d.parameters.length) = some As.length)
    (hP : P H) (hR : fr + 1 ≤ R.frames ∧ 8 + (maxL + 11) + lo ≤ R.locals) (hcs : cells + mc ≤ R.cells ∧ slots + ms ≤ R.slots)
    (hsize : ls.size = nL) (hrest : (rest.map fun v => v.category).sum ≤ 8) (hst : st0 = As.reverse ++ .ref b :: rest) (hdg : decode cc pc = .ok (.invokespecial index, 3))
    (kk : ∀ (r : Option Value) (H1 : Heap) (locs1 : List Loc), QQ r H1 → va_S A s.heap H1 locs1 → W p l e R s m args below meth c H1 locs1 (cells + mc) (slots + ms) Q (F0 m (pc + 3) ls (r.toList ++ rest))) : W p l e R s m args below meth c H locs cells slots Q (F0 m pc ls st0) := by
  have ht := S.2.2.2.2
  have hgood : ∀ w ∈ Cond.code y bytes maxL none :: WU, ∀ (a' : Array Value) (U : State), s.WarmedH U.vm → w.before a' U = true := by
    intro w hw a' U hW
    have hw2 : w ∈ WU := by
      rcases List.mem_cons.mp hw with rfl | h
      · exact k5
      · exact h
    exact word_at hW (good_of_word (WU_good w hw2)) (ht w hw2)
  have hM2 : Met l y (Cond.code y bytes maxL none :: WU) ({ frames := fr, cells := mc, slots := ms, locals := lo }) (va_Pc (.ref b :: As) (fun U => GI D cI e0 A U U.heap ∧ P U.heap)) (fun _ st oc t => (∃ r, oc = .returned r ∧ QQ r t.heap) ∧ va_F A st t) mc ms A := by
    intro p' e' h1 h2 h3 s' m' a' b' h4 h5 h6 h7
    obtain ⟨n9, o9, q1, q2, q3, q4⟩ := hM p' e' h1 h2 h3 s' m' a' b' h4 h5 h6 h7
    refine ⟨n9, o9, q1, q2, q3, ?_⟩
    rcases q4 with h | ⟨q, -, E, ce, L, hx, -⟩
    · exact h
    · exact absurd hx.1 id
  have hb : FrameBlind (va_Pc (.ref b :: As) (fun U => GI D cI e0 A U U.heap ∧ P U.heap)) := fun a U g mk h => ⟨h.1, h.2.1.mv (State.WarmedH.refl U) (Nat.le_refl _) (fun _ _ _ => rfl), h.2.2⟩
  have hrun := va_runIN (host := host) (e := e) (meth := meth) (below := below) (locs := locs) (cells := cells) (slots := slots) (g := F0 m pc ls st0) S hM2 ⟨⟨⟨rfl, rfl, hR.1, hR.2, hgood, List.mem_cons_self⟩, ht _ k5, ht _ k4, ⟨hd.1, hd.2.1⟩, (fun sig h => by have h2 := hd.2.2; rw [h] at h2; exact (Option.some.inj h2).symm), va_Nw.use rfl k1⟩, hy1, ht _ k2⟩ ⟨hb, fun U hU hW => ⟨rfl, hg.at hS hU hW, by rw [hU]; exact hP⟩⟩ rfl rfl hsize hst (lv_room hrest) hdg hcs
  intro T hT X
  obtain ⟨v, st₀, t, T', L, h0, X', hL, e1, e2, ⟨⟨r, hv, hq⟩, hF⟩, st⟩ := hrun T hT X
  cases hv
  obtain ⟨q1, q2, q3⟩ := vx_keep h0 e1 hS (fun _ _ h => h) (fun _ h => h) hL hF
  obtain ⟨t2, a1, b1⟩ := kk v T'.heap (locs ++ L) (by rw [e1]; exact hq) q3 T' rfl X'
  exact ⟨t2, st t2 a1, b1⟩
/-- a world with cells more that no name speaks of yet -/
def HWt (D : va_G) (A : Nat → Prop) (live : Nat → Nat → Prop) (adr : Nat → Nat → Nat) (G : Nat → Nat → va_E) (X : va_W) (H : Heap) : Prop :=
  ∃ ids : List (Nat × Nat), (∀ k i, live k i → (k, i) ∈ ids) ∧ va_P D vwCl (hws ids adr G ++ X) H ∧ va_D A (hws ids adr G ++ X)
theorem HWt.done (h : HWt D A live adr G [] H) : HW D A live adr G H := by
  obtain ⟨ids, h1, h2, h3⟩ := h
  rw [List.append_nil] at h2 h3
  exact ⟨ids, h1, h2, h3⟩
theorem HWt.push {q : Nat} {x : va_E} {X : va_W} (k i : Nat) (h : HWt D A live adr G ((q, x) :: X) H) : HWt D A (fun k' i' => live k' i' ∨ (k' = k ∧ i' = i)) (hU adr k i q) (hU G k i x) X H := by
  obtain ⟨ids, h1, hP, hD⟩ := h
  have hs : List.Sublist (hws (ids.filter (fun z => !decide (z.1 = k ∧ z.2 = i))) adr G ++ (q, x) :: X) (hws ids adr G ++ (q, x) :: X) := List.Sublist.append (List.Sublist.map _ List.filter_sublist) (List.Sublist.refl _)
  have e1 : hws (ids.filter (fun z => !decide (z.1 = k ∧ z.2 = i)) ++ [(k, i)]) (hU adr k i q) (hU G k i x) ++ X = hws (ids.filter (fun z => !decide (z.1 = k ∧ z.2 = i))) adr G ++ (q, x) :: X := by
    unfold hws
    rw [List.map_append, List.append_assoc]
    congr 1
    · apply List.map_congr_left
      intro z hz
      have hz2 := (List.mem_filter.mp hz).2
      have hne : ¬ (z.1 = k ∧ z.2 = i) := by
        intro hh
        rw [decide_eq_true hh] at hz2
        cases hz2
      rw [hU_n _ _ hne, hU_n _ _ hne]
    · simp [hU]
  refine ⟨ids.filter (fun z => !decide (z.1 = k ∧ z.2 = i)) ++ [(k, i)], ?_, ?_, ?_⟩
  · intro k' i' h
    by_cases c : k' = k ∧ i' = i
    · obtain ⟨rfl, rfl⟩ := c
      simp
    · rcases h with h | h
      · exact List.mem_append_left _ (List.mem_filter.mpr ⟨h1 _ _ h, by simp [c]⟩)
      · exact absurd h c
  · rw [e1]
    exact va_P_iff.mpr fun z hz => va_P_iff.mp hP z (hs.subset hz)
  · rw [e1]
    have h4 := va_D_iff.mp hD
    exact va_D_iff.mpr ⟨List.Nodup.sublist (hs.map Prod.fst) h4.1, fun z hz => h4.2 z (hs.subset hz)⟩
theorem r_mna (S : CallFix p m c cc nL s args WU own) (hg : GI D cI e0 A s s.heap) (hS : va_S A s.heap H locs) (hw : HW D A live adr G H) (ko d ki b : Nat) {k : Int32} {K' : Nat} (hl : Cond.classLink own index "[[I" ∈ WU) (hk : ¬ k < 0) (hK : k.toNatClampNeg = K') (hb : K' * 4 ≤ 536870912) (hc : cells + (1 + 6) ≤ R.cells) (hs : slots + (6 + 6 * K') ≤ R.slots) (hdg : decode cc pc = .ok (.multianewarray index 2, 4))
    (kk : ∀ (q : Nat) (r : Nat → Nat) (H1 : Heap), HW D A (fun k' i' => (fun k' i' => (fun k' i' => (fun k' i' => (fun k' i' => (fun k' i' => (fun k' i' => live k' i' ∨ (k' = ko ∧ i' = d)) k' i' ∨ (k' = ki ∧ i' = b + 0)) k' i' ∨ (k' = ki ∧ i' = b + 1)) k' i' ∨ (k' = ki ∧ i' = b + 2)) k' i' ∨ (k' = ki ∧ i' = b + 3)) k' i' ∨ (k' = ki ∧ i' = b + 4)) k' i' ∨ (k' = ki ∧ i' = b + 5))
      (hU (hU (hU (hU (hU (hU (hU adr ko d q) ki (b + 0) (r 0)) ki (b + 1) (r 1)) ki (b + 2) (r 2)) ki (b + 3) (r 3)) ki (b + 4) (r 4)) ki (b + 5) (r 5))
      (hU (hU (hU (hU (hU (hU (hU G ko d (.inl (cI 3, 6, .inr (.inr (.inr (.inr (fun i => if i < 6 then some (r i) else none))))))) ki (b + 0) (.inl (cI 0, K', .inl (fun _ => 0)))) ki (b + 1) (.inl (cI 0, K', .inl (fun _ => 0)))) ki (b + 2) (.inl (cI 0, K', .inl (fun _ => 0)))) ki (b + 3) (.inl (cI 0, K', .inl (fun _ => 0)))) ki (b + 4) (.inl (cI 0, K', .inl (fun _ => 0)))) ki (b + 5) (.inl (cI 0, K', .inl (fun _ => 0)))) H1 → va_S A s.heap H1 locs →
      W p l e R s m args below meth c H1 locs (cells + 1 + 6) (slots + 6 + 6 * K') Q (F0 m (pc + 4) ls (.ref q :: rest))) : W p l e R s m args below meth c H locs cells slots Q (F0 m pc ls (.int k :: .int 6 :: rest)) := by
  obtain ⟨ids, h1, h2, h3⟩ := hw
  have hcy : s.vm.findClass (FieldType.array .int).toString = some (cI 0) := (hg.1.2 0 _ rfl).2
  have h2' : va_P D vwCl (hws ids adr G ++ va_pl [] (fun _ => .inr (0, []))) H := by
    rw [show va_pl [] (fun _ => (.inr (0, []) : va_E)) = [] from rfl, List.append_nil]
    exact h2
  have h3' : va_D A (hws ids adr G ++ va_pl [] (fun _ => .inr (0, []))) := by
    rw [show va_pl [] (fun _ => (.inr (0, []) : va_E)) = [] from rfl, List.append_nil]
    exact h3
  refine va_mna (ty := .int) (N' := 6) (K' := K') (z := (K', .inl (fun _ => 0))) S.1 S.2.1 S.2.2.2.1 (S.2.2.2.2 _ hl) hg.2.2.2.2.2.2.2.2.1.2 (S.2.2.2.2 _ u88) hcy hg.1 h2' h3' hS hg.2.2.2.2.2.2.2.2.2 (by decide) hk (by decide) hK (by decide) hb (by omega) rfl rfl hc hs (fun c => ?_) hdg (fun q r cA H1 hr1 hr2 hK2 hP hD hS => ?_)
  · exact arrV_new _ _ _
  · have e9 : cA = cI 3 := by
      have u1 := (hK2.2 6 _ rfl).2
      have u2 := (hg.1.2 3 _ rfl).2
      exact Option.some.inj (Eq.trans (Eq.symm (u1 : s.vm.findClass _ = some cA)) (u2 : s.vm.findClass _ = some (cI 3)))
    subst e9
    have e8 : (hws ids adr G ++ [(q, (.inl (cI 3, 6, .inr (.inr (.inr (.inr (fun i => if i < 6 then some (r i) else none))))) : va_E))]) ++ va_pl ([] ++ (List.range 6).map r) (vr_up (fun _ => (.inr (0, []) : va_E)) ((List.range 6).map r) (.inl (cI 0, (K', .inl (fun _ => 0))))) = hws ids adr G ++ [(q, (.inl (cI 3, 6, .inr (.inr (.inr (.inr (fun i => if i < 6 then some (r i) else none))))) : va_E)), (r 0, .inl (cI 0, K', .inl (fun _ => 0))), (r 1, .inl (cI 0, K', .inl (fun _ => 0))), (r 2, .inl (cI 0, K', .inl (fun _ => 0))), (r 3, .inl (cI 0, K', .inl (fun _ => 0))), (r 4, .inl (cI 0, K', .inl (fun _ => 0))), (r 5, .inl (cI 0, K', .inl (fun _ => 0)))] := by
      have e7 : (List.range 6).map r = [r 0, r 1, r 2, r 3, r 4, r 5] := rfl
      rw [List.nil_append, e7, List.append_assoc]
      simp [va_pl, vr_up]
    rw [e8] at hP hD
    have hw : HWt D A live adr G _ H1 := ⟨ids, h1, hP, hD⟩
    exact kk q r H1 (((((((hw.push ko d).push ki (b + 0)).push ki (b + 1)).push ki (b + 2)).push ki (b + 3)).push ki (b + 4)).push ki (b + 5)).done hS
theorem dX0_init_0 : decode cX0_init 0 = .ok (.aload_n 0, 1) := by decide +kernel
theorem dX0_init_1 : decode cX0_init 1 = .ok (.invokespecial 3, 3) := by decide +kernel
theorem dX0_init_4 : decode cX0_init 4 = .ok (.aload_n 0, 1) := by decide +kernel
theorem dX0_init_5 : decode cX0_init 5 = .ok (.sipush 1152, 3) := by decide +kernel
theorem dX0_init_8 : decode cX0_init 8 = .ok (.newarray .int, 2) := by decide +kernel
theorem dX0_init_10 : decode cX0_init 10 = .ok (.putfield 11, 3) := by decide +kernel
theorem dX0_init_13 : decode cX0_init 13 = .ok (.aload_n 0, 1) := by decide +kernel
theorem dX0_init_14 : decode cX0_init 14 = .ok (.sipush 288, 3) := by decide +kernel
theorem dX0_init_17 : decode cX0_init 17 = .ok (.newarray .int, 2) := by decide +kernel
theorem dX0_init_19 : decode cX0_init 19 = .ok (.putfield 15, 3) := by decide +kernel
theorem dX0_init_22 : decode cX0_init 22 = .ok (.return_, 1) := by decide +kernel
theorem dX1_init_0 : decode cX1_init 0 = .ok (.aload_n 0, 1) := by decide +kernel
theorem dX1_init_1 : decode cX1_init 1 = .ok (.invokespecial 3, 3) := by decide +kernel
theorem dX1_init_4 : decode cX1_init 4 = .ok (.aload_n 0, 1) := by decide +kernel
theorem dX1_init_5 : decode cX1_init 5 = .ok (.bipush 45, 2) := by decide +kernel
theorem dX1_init_7 : decode cX1_init 7 = .ok (.putfield 9, 3) := by decide +kernel
theorem dX1_init_10 : decode cX1_init 10 = .ok (.aload_n 0, 1) := by decide +kernel
theorem dX1_init_11 : decode cX1_init 11 = .ok (.iconst (-1), 1) := by decide +kernel
theorem dX1_init_12 : decode cX1_init 12 = .ok (.putfield 15, 3) := by decide +kernel
theorem dX1_init_15 : decode cX1_init 15 = .ok (.aload_n 0, 1) := by decide +kernel
theorem dX1_init_16 : decode cX1_init 16 = .ok (.iload_n 1, 1) := by decide +kernel
theorem dX1_init_17 : decode cX1_init 17 = .ok (.putfield 19, 3) := by decide +kernel
theorem dX1_init_20 : decode cX1_init 20 = .ok (.aload_n 0, 1) := by decide +kernel
theorem dX1_init_21 : decode cX1_init 21 = .ok (.iload_n 2, 1) := by decide +kernel
theorem dX1_init_22 : decode cX1_init 22 = .ok (.putfield 22, 3) := by decide +kernel
theorem dX1_init_25 : decode cX1_init 25 = .ok (.aload_n 0, 1) := by decide +kernel
theorem dX1_init_26 : decode cX1_init 26 = .ok (.iload_n 3, 1) := by decide +kernel
theorem dX1_init_27 : decode cX1_init 27 = .ok (.putfield 25, 3) := by decide +kernel
theorem dX1_init_30 : decode cX1_init 30 = .ok (.return_, 1) := by decide +kernel
theorem dX2_init_0 : decode cX2_init 0 = .ok (.aload_n 0, 1) := by decide +kernel
theorem dX2_init_1 : decode cX2_init 1 = .ok (.invokespecial 3, 3) := by decide +kernel
theorem dX2_init_4 : decode cX2_init 4 = .ok (.aload_n 0, 1) := by decide +kernel
theorem dX2_init_5 : decode cX2_init 5 = .ok (.bipush 111, 2) := by decide +kernel
theorem dX2_init_7 : decode cX2_init 7 = .ok (.putfield 9, 3) := by decide +kernel
theorem dX2_init_10 : decode cX2_init 10 = .ok (.aload_n 0, 1) := by decide +kernel
theorem dX2_init_11 : decode cX2_init 11 = .ok (.iconst (-1), 1) := by decide +kernel
theorem dX2_init_12 : decode cX2_init 12 = .ok (.putfield 15, 3) := by decide +kernel
theorem dX2_init_15 : decode cX2_init 15 = .ok (.aload_n 0, 1) := by decide +kernel
theorem dX2_init_16 : decode cX2_init 16 = .ok (.bipush 8, 2) := by decide +kernel
theorem dX2_init_18 : decode cX2_init 18 = .ok (.newarray .int, 2) := by decide +kernel
theorem dX2_init_20 : decode cX2_init 20 = .ok (.putfield 19, 3) := by decide +kernel
theorem dX2_init_23 : decode cX2_init 23 = .ok (.aload_n 0, 1) := by decide +kernel
theorem dX2_init_24 : decode cX2_init 24 = .ok (.bipush 6, 2) := by decide +kernel
theorem dX2_init_26 : decode cX2_init 26 = .ok (.bipush 6, 2) := by decide +kernel
theorem dX2_init_28 : decode cX2_init 28 = .ok (.multianewarray 23 2, 4) := by decide +kernel
theorem dX2_init_32 : decode cX2_init 32 = .ok (.putfield 25, 3) := by decide +kernel
theorem dX2_init_35 : decode cX2_init 35 = .ok (.aload_n 0, 1) := by decide +kernel
theorem dX2_init_36 : decode cX2_init 36 = .ok (.bipush 6, 2) := by decide +kernel
theorem dX2_init_38 : decode cX2_init 38 = .ok (.bipush 8, 2) := by decide +kernel
theorem dX2_init_40 : decode cX2_init 40 = .ok (.multianewarray 23 2, 4) := by decide +kernel
theorem dX2_init_44 : decode cX2_init 44 = .ok (.putfield 28, 3) := by decide +kernel
theorem dX2_init_47 : decode cX2_init 47 = .ok (.aload_n 0, 1) := by decide +kernel
theorem dX2_init_48 : decode cX2_init 48 = .ok (.new 31, 3) := by decide +kernel
theorem dX2_init_51 : decode cX2_init 51 = .ok (.dup, 1) := by decide +kernel
theorem dX2_init_52 : decode cX2_init 52 = .ok (.iload_n 1, 1) := by decide +kernel
theorem dX2_init_53 : decode cX2_init 53 = .ok (.invokespecial 33, 3) := by decide +kernel
theorem dX2_init_56 : decode cX2_init 56 = .ok (.putfield 36, 3) := by decide +kernel
theorem dX2_init_59 : decode cX2_init 59 = .ok (.aload_n 0, 1) := by decide +kernel
theorem dX2_init_60 : decode cX2_init 60 = .ok (.new 31, 3) := by decide +kernel
theorem dX2_init_63 : decode cX2_init 63 = .ok (.dup, 1) := by decide +kernel
theorem dX2_init_64 : decode cX2_init 64 = .ok (.iload_n 2, 1) := by decide +kernel
theorem dX2_init_65 : decode cX2_init 65 = .ok (.invokespecial 33, 3) := by decide +kernel
theorem dX2_init_68 : decode cX2_init 68 = .ok (.putfield 40, 3) := by decide +kernel
theorem dX2_init_71 : decode cX2_init 71 = .ok (.return_, 1) := by decide +kernel
theorem dX3_init_0 : decode cX3_init 0 = .ok (.aload_n 0, 1) := by decide +kernel
theorem dX3_init_1 : decode cX3_init 1 = .ok (.invokespecial 3, 3) := by decide +kernel
theorem dX3_init_4 : decode cX3_init 4 = .ok (.aload_n 0, 1) := by decide +kernel
theorem dX3_init_5 : decode cX3_init 5 = .ok (.sipush 216, 3) := by decide +kernel
theorem dX3_init_8 : decode cX3_init 8 = .ok (.newarray .int, 2) := by decide +kernel
theorem dX3_init_10 : decode cX3_init 10 = .ok (.putfield 9, 3) := by decide +kernel
theorem dX3_init_13 : decode cX3_init 13 = .ok (.return_, 1) := by decide +kernel
theorem dX4_init_0 : decode cX4_init 0 = .ok (.aload_n 0, 1) := by decide +kernel
theorem dX4_init_1 : decode cX4_init 1 = .ok (.invokespecial 3, 3) := by decide +kernel
theorem dX4_init_4 : decode cX4_init 4 = .ok (.aload_n 0, 1) := by decide +kernel
theorem dX4_init_5 : decode cX4_init 5 = .ok (.iconst (-1), 1) := by decide +kernel
theorem dX4_init_6 : decode cX4_init 6 = .ok (.putfield 9, 3) := by decide +kernel
theorem dX4_init_9 : decode cX4_init 9 = .ok (.aload_n 0, 1) := by decide +kernel
theorem dX4_init_10 : decode cX4_init 10 = .ok (.bipush 111, 2) := by decide +kernel
theorem dX4_init_12 : decode cX4_init 12 = .ok (.putfield 15, 3) := by decide +kernel
theorem dX4_init_15 : decode cX4_init 15 = .ok (.aload_n 0, 1) := by decide +kernel
theorem dX4_init_16 : decode cX4_init 16 = .ok (.iconst (-1), 1) := by decide +kernel
theorem dX4_init_17 : decode cX4_init 17 = .ok (.putfield 19, 3) := by decide +kernel
theorem dX4_init_20 : decode cX4_init 20 = .ok (.aload_n 0, 1) := by decide +kernel
theorem dX4_init_21 : decode cX4_init 21 = .ok (.aload_n 1, 1) := by decide +kernel
theorem dX4_init_22 : decode cX4_init 22 = .ok (.putfield 22, 3) := by decide +kernel
theorem dX4_init_25 : decode cX4_init 25 = .ok (.aload_n 0, 1) := by decide +kernel
theorem dX4_init_26 : decode cX4_init 26 = .ok (.iload_n 2, 1) := by decide +kernel
theorem dX4_init_27 : decode cX4_init 27 = .ok (.putfield 26, 3) := by decide +kernel
theorem dX4_init_30 : decode cX4_init 30 = .ok (.aload_n 0, 1) := by decide +kernel
theorem dX4_init_31 : decode cX4_init 31 = .ok (.aload_n 1, 1) := by decide +kernel
theorem dX4_init_32 : decode cX4_init 32 = .ok (.getfield 29, 3) := by decide +kernel
theorem dX4_init_35 : decode cX4_init 35 = .ok (.putfield 34, 3) := by decide +kernel
theorem dX4_init_38 : decode cX4_init 38 = .ok (.return_, 1) := by decide +kernel
theorem dX5_init_0 : decode cX5_init 0 = .ok (.aload_n 0, 1) := by decide +kernel
theorem dX5_init_1 : decode cX5_init 1 = .ok (.invokespecial 3, 3) := by decide +kernel
theorem dX5_init_4 : decode cX5_init 4 = .ok (.aload_n 0, 1) := by decide +kernel
theorem dX5_init_5 : decode cX5_init 5 = .ok (.bipush 10, 2) := by decide +kernel
theorem dX5_init_7 : decode cX5_init 7 = .ok (.putfield 11, 3) := by decide +kernel
theorem dX5_init_10 : decode cX5_init 10 = .ok (.aload_n 0, 1) := by decide +kernel
theorem dX5_init_11 : decode cX5_init 11 = .ok (.new 15, 3) := by decide +kernel
theorem dX5_init_14 : decode cX5_init 14 = .ok (.dup, 1) := by decide +kernel
theorem dX5_init_15 : decode cX5_init 15 = .ok (.invokespecial 17, 3) := by decide +kernel
theorem dX5_init_18 : decode cX5_init 18 = .ok (.putfield 18, 3) := by decide +kernel
theorem dX5_init_21 : decode cX5_init 21 = .ok (.aload_n 0, 1) := by decide +kernel
theorem dX5_init_22 : decode cX5_init 22 = .ok (.bipush 8, 2) := by decide +kernel
theorem dX5_init_24 : decode cX5_init 24 = .ok (.newarray .int, 2) := by decide +kernel
theorem dX5_init_26 : decode cX5_init 26 = .ok (.putfield 22, 3) := by decide +kernel
theorem dX5_init_29 : decode cX5_init 29 = .ok (.aload_n 0, 1) := by decide +kernel
theorem dX5_init_30 : decode cX5_init 30 = .ok (.iload_n 1, 1) := by decide +kernel
theorem dX5_init_31 : decode cX5_init 31 = .ok (.putfield 26, 3) := by decide +kernel
theorem dX5_init_34 : decode cX5_init 34 = .ok (.return_, 1) := by decide +kernel
theorem dX6_init_0 : decode cX6_init 0 = .ok (.aload_n 0, 1) := by decide +kernel
theorem dX6_init_1 : decode cX6_init 1 = .ok (.invokespecial 1, 3) := by decide +kernel
theorem dX6_init_4 : decode cX6_init 4 = .ok (.aload_n 0, 1) := by decide +kernel
theorem dX6_init_5 : decode cX6_init 5 = .ok (.bipush 6, 2) := by decide +kernel
theorem dX6_init_7 : decode cX6_init 7 = .ok (.newarray .int, 2) := by decide +kernel
theorem dX6_init_9 : decode cX6_init 9 = .ok (.putfield 9, 3) := by decide +kernel
theorem dX6_init_12 : decode cX6_init 12 = .ok (.aload_n 0, 1) := by decide +kernel
theorem dX6_init_13 : decode cX6_init 13 = .ok (.new 13, 3) := by decide +kernel
theorem dX6_init_16 : decode cX6_init 16 = .ok (.dup, 1) := by decide +kernel
theorem dX6_init_17 : decode cX6_init 17 = .ok (.invokespecial 15, 3) := by decide +kernel
theorem dX6_init_20 : decode cX6_init 20 = .ok (.putfield 16, 3) := by decide +kernel
theorem dX6_init_23 : decode cX6_init 23 = .ok (.aload_n 0, 1) := by decide +kernel
theorem dX6_init_24 : decode cX6_init 24 = .ok (.new 13, 3) := by decide +kernel
theorem dX6_init_27 : decode cX6_init 27 = .ok (.dup, 1) := by decide +kernel
theorem dX6_init_28 : decode cX6_init 28 = .ok (.invokespecial 15, 3) := by decide +kernel
theorem dX6_init_31 : decode cX6_init 31 = .ok (.putfield 20, 3) := by decide +kernel
theorem dX6_init_34 : decode cX6_init 34 = .ok (.aload_n 0, 1) := by decide +kernel
theorem dX6_init_35 : decode cX6_init 35 = .ok (.new 13, 3) := by decide +kernel
theorem dX6_init_38 : decode cX6_init 38 = .ok (.dup, 1) := by decide +kernel
theorem dX6_init_39 : decode cX6_init 39 = .ok (.invokespecial 15, 3) := by decide +kernel
theorem dX6_init_42 : decode cX6_init 42 = .ok (.putfield 23, 3) := by decide +kernel
theorem dX6_init_45 : decode cX6_init 45 = .ok (.aload_n 0, 1) := by decide +kernel
theorem dX6_init_46 : decode cX6_init 46 = .ok (.new 13, 3) := by decide +kernel
theorem dX6_init_49 : decode cX6_init 49 = .ok (.dup, 1) := by decide +kernel
theorem dX6_init_50 : decode cX6_init 50 = .ok (.invokespecial 15, 3) := by decide +kernel
theorem dX6_init_53 : decode cX6_init 53 = .ok (.putfield 26, 3) := by decide +kernel
theorem dX6_init_56 : decode cX6_init 56 = .ok (.aload_n 0, 1) := by decide +kernel
theorem dX6_init_57 : decode cX6_init 57 = .ok (.new 29, 3) := by decide +kernel
theorem dX6_init_60 : decode cX6_init 60 = .ok (.dup, 1) := by decide +kernel
theorem dX6_init_61 : decode cX6_init 61 = .ok (.invokespecial 31, 3) := by decide +kernel
theorem dX6_init_64 : decode cX6_init 64 = .ok (.putfield 32, 3) := by decide +kernel
theorem dX6_init_67 : decode cX6_init 67 = .ok (.aload_n 0, 1) := by decide +kernel
theorem dX6_init_68 : decode cX6_init 68 = .ok (.new 36, 3) := by decide +kernel
theorem dX6_init_71 : decode cX6_init 71 = .ok (.dup, 1) := by decide +kernel
theorem dX6_init_72 : decode cX6_init 72 = .ok (.invokespecial 38, 3) := by decide +kernel
theorem dX6_init_75 : decode cX6_init 75 = .ok (.putfield 39, 3) := by decide +kernel
theorem dX6_init_78 : decode cX6_init 78 = .ok (.aload_n 0, 1) := by decide +kernel
theorem dX6_init_79 : decode cX6_init 79 = .ok (.bipush 24, 2) := by decide +kernel
theorem dX6_init_81 : decode cX6_init 81 = .ok (.newarray .int, 2) := by decide +kernel
theorem dX6_init_83 : decode cX6_init 83 = .ok (.putfield 43, 3) := by decide +kernel
theorem dX6_init_86 : decode cX6_init 86 = .ok (.return_, 1) := by decide +kernel
theorem hdX0_init : yX0_init.cls ≠ "java/lang/invoke/MethodHandle" ∧ yX0_init.cls ≠ "java/lang/invoke/VarHandle" ∧ (parseMethodDescriptor yX0_init.desc).map (fun d => d.parameters.length) = some 0 := by decide +kernel
theorem hdX1_init : yX1_init.cls ≠ "java/lang/invoke/MethodHandle" ∧ yX1_init.cls ≠ "java/lang/invoke/VarHandle" ∧ (parseMethodDescriptor yX1_init.desc).map (fun d => d.parameters.length) = some 3 := by decide +kernel
theorem hdX2_init : yX2_init.cls ≠ "java/lang/invoke/MethodHandle" ∧ yX2_init.cls ≠ "java/lang/invoke/VarHandle" ∧ (parseMethodDescriptor yX2_init.desc).map (fun d => d.parameters.length) = some 2 := by decide +kernel
theorem hdX3_init : yX3_init.cls ≠ "java/lang/invoke/MethodHandle" ∧ yX3_init.cls ≠ "java/lang/invoke/VarHandle" ∧ (parseMethodDescriptor yX3_init.desc).map (fun d => d.parameters.length) = some 0 := by decide +kernel
theorem hdX4_init : yX4_init.cls ≠ "java/lang/invoke/MethodHandle" ∧ yX4_init.cls ≠ "java/lang/invoke/VarHandle" ∧ (parseMethodDescriptor yX4_init.desc).map (fun d => d.parameters.length) = some 2 := by decide +kernel
theorem hdX5_init : yX5_init.cls ≠ "java/lang/invoke/MethodHandle" ∧ yX5_init.cls ≠ "java/lang/invoke/VarHandle" ∧ (parseMethodDescriptor yX5_init.desc).map (fun d => d.parameters.length) = some 1 := by decide +kernel
theorem hdX6_init : yX6_init.cls ≠ "java/lang/invoke/MethodHandle" ∧ yX6_init.cls ≠ "java/lang/invoke/VarHandle" ∧ (parseMethodDescriptor yX6_init.desc).map (fun d => d.parameters.length) = some 0 := by decide +kernel
def qJxa1e45_init_da8c8 (D : va_G) (cI : Nat → ClassId) (e0 : Nat) (A : Nat → Prop) (live : Nat → Nat → Prop) (adr : Nat → Nat → Nat) (G : Nat → Nat → va_E) (i : Nat) : Option Value → Heap → Prop := fun r H => r = none ∧ HW D A live adr G H
set_option maxHeartbeats 4000000 in
theorem mtJxa1e45_init_da8c8 {live : Nat → Nat → Prop} {adr : Nat → Nat → Nat} {G : Nat → Nat → va_E} {a : Nat} {i : Nat} (hlv : live 8 i) (ha : adr 8 i = a) (hG : G 8 i = .inr (2, [.int 0, .null, .int 0])) : CM l D cI e0 A yJxa1e45_init_da8c8 cJxa1e45_init_da8c8 1 none 1 40 0 0 [.ref a] (HW D A live adr G) (qJxa1e45_init_da8c8 D cI e0 A live adr G i) xN := by
  refine CM.of (by decide) (Nat.le_of_ble_eq_true rfl) (fun p e s m below meth c ls FX hw hS hl0 => ?_)
  obtain ⟨S, hg, hr, hlk, hnm, hout⟩ := FX
  have hl0 : lv_has ls 1 [(0, .ref a)] := hl0
  refine lv_aload_n S.1 S.2.1 dJxa1e45_init_da8c8_0 rfl (lv_at hl0 0 rfl) ?_
  refine r_obj S u73 hl0.1 dJxa1e45_init_da8c8_1 (Nat.le_of_ble_eq_true rfl) (Nat.le_of_ble_eq_true rfl) ?_
  exact r_vret (y := yJxa1e45_init_da8c8) S hr hlk hS (Nat.le_of_ble_eq_true rfl) (Nat.le_of_ble_eq_true rfl) dJxa1e45_init_da8c8_4 ⟨rfl, hw⟩
def qJxc12de_init_da8c8 (D : va_G) (cI : Nat → ClassId) (e0 : Nat) (A : Nat → Prop) (live : Nat → Nat → Prop) (adr : Nat → Nat → Nat) (G : Nat → Nat → va_E) (i : Nat) : Option Value → Heap → Prop := fun r H => r = none ∧ HW D A live adr (hU G 8 i (.inr (2, [.int 0, .null, .int 0]))) H
set_option maxHeartbeats 4000000 in
theorem mtJxc12de_init_da8c8 {live : Nat → Nat → Prop} {adr : Nat → Nat → Nat} {G : Nat → Nat → va_E} {a : Nat} {i : Nat} (hlv : live 8 i) (ha : adr 8 i = a) (hG : G 8 i = .inr (2, [.int 0, .null, .int 0])) : CM l D cI e0 A yJxc12de_init_da8c8 cJxc12de_init_da8c8 1 none 2 70 0 0 [.ref a] (HW D A live adr G) (qJxc12de_init_da8c8 D cI e0 A live adr G i) xN := by
  refine CM.of (by decide) (Nat.le_of_ble_eq_true rfl) (fun p e s m below meth c ls FX hw hS hl0 => ?_)
  obtain ⟨S, hg, hr, hlk, hnm, hout⟩ := FX
  have hl0 : lv_has ls 1 [(0, .ref a)] := hl0
  refine lv_aload_n S.1 S.2.1 dJxc12de_init_da8c8_0 rfl (lv_at hl0 0 rfl) ?_
  refine r_callI (rest := []) S hg hS (mtJxa1e45_init_da8c8 (i := i) hlv ha hG) u70 u71 u28 u72 rfl hdJxa1e45_init_da8c8 hw ⟨Nat.le_of_ble_eq_true rfl, Nat.le_of_ble_eq_true rfl⟩ ⟨Nat.le_of_ble_eq_true rfl, Nat.le_of_ble_eq_true rfl⟩ hl0.1 (Nat.le_of_ble_eq_true rfl) rfl dJxc12de_init_da8c8_1 (fun rv H locs hq hS => ?_)
  obtain ⟨rfl, hw⟩ := hq
  refine lv_aload_n S.1 S.2.1 dJxc12de_init_da8c8_4 rfl (lv_at hl0 0 rfl) ?_
  refine lv_iconst (v := 0) S.1 S.2.1 dJxc12de_init_da8c8_5 (by decide) ?_
  refine rG_put S hg hS hw hlv ha hG rfl iWJx4a65c tyJx4a65c tyJx4a65c_ok nmJx4a65c 0 (by decide) u78 rfl rfl rfl (Nat.le_of_ble_eq_true rfl) (fs' := [.int 0, .null, .int 0]) rfl dJxc12de_init_da8c8_6 (fun H locs hw hS => ?_)
  exact r_vret (y := yJxc12de_init_da8c8) S hr hlk hS (Nat.le_of_ble_eq_true rfl) (Nat.le_of_ble_eq_true rfl) dJxc12de_init_da8c8_9 ⟨rfl, hw⟩
def qJx4a65c_init_da8c8 (D : va_G) (cI : Nat → ClassId) (e0 : Nat) (A : Nat → Prop) (live : Nat → Nat → Prop) (adr : Nat → Nat → Nat) (G : Nat → Nat → va_E) (i : Nat) : Option Value → Heap → Prop := fun r H => r = none ∧ HW D A live adr (hU G 8 i (.inr (2, [.int 0, .ref e0, .int 0]))) H
set_option maxHeartbeats 4000000 in
theorem mtJx4a65c_init_da8c8 {live : Nat → Nat → Prop} {adr : Nat → Nat → Nat} {G : Nat → Nat → va_E} {a : Nat} {i : Nat} (hlv : live 8 i) (ha : adr 8 i = a) (hG : G 8 i = .inr (2, [.int 0, .null, .int 0])) : CM l D cI e0 A yJx4a65c_init_da8c8 cJx4a65c_init_da8c8 1 none 3 110 0 0 [.ref a] (HW D A live adr G) (qJx4a65c_init_da8c8 D cI e0 A live adr G i) xN := by
  refine CM.of (by decide) (Nat.le_of_ble_eq_true rfl) (fun p e s m below meth c ls FX hw hS hl0 => ?_)
  obtain ⟨S, hg, hr, hlk, hnm, hout⟩ := FX
  have hl0 : lv_has ls 1 [(0, .ref a)] := hl0
  refine lv_aload_n S.1 S.2.1 dJx4a65c_init_da8c8_0 rfl (lv_at hl0 0 rfl) ?_
  refine r_callI (rest := []) S hg hS (mtJxc12de_init_da8c8 (i := i) hlv ha hG) u67 u68 u29 u69 rfl hdJxc12de_init_da8c8 hw ⟨Nat.le_of_ble_eq_true rfl, Nat.le_of_ble_eq_true rfl⟩ ⟨Nat.le_of_ble_eq_true rfl, Nat.le_of_ble_eq_true rfl⟩ hl0.1 (Nat.le_of_ble_eq_true rfl) rfl dJx4a65c_init_da8c8_1 (fun rv H locs hq hS => ?_)
  obtain ⟨rfl, hw⟩ := hq
  refine lv_aload_n S.1 S.2.1 dJx4a65c_init_da8c8_4 rfl (lv_at hl0 0 rfl) ?_
  refine va_gets S.1 S.2.1 hg.2.1.1 hS S.2.2.2.1 (S.2.2.2.2 _ u74) (fun _ h => h) dJx4a65c_init_da8c8_5 ?_
  refine rG_put S hg hS hw hlv ha (hU_s _ _ _ _) rfl iWJx4a65c tyJx4a65c tyJx4a65c_ok nmJx4a65c 1 (by decide) u76 rfl rfl rfl (Nat.le_of_ble_eq_true rfl) (fs' := [.int 0, .ref e0, .int 0]) rfl dJx4a65c_init_da8c8_8 (fun H locs hw hS => ?_)
  rw [hU_hU (α := va_E) _ 8 i] at hw
  exact r_vret (y := yJx4a65c_init_da8c8) S hr hlk hS (Nat.le_of_ble_eq_true rfl) (Nat.le_of_ble_eq_true rfl) dJx4a65c_init_da8c8_11 ⟨rfl, hw⟩
def qX1_init (D : va_G) (cI : Nat → ClassId) (e0 : Nat) (A : Nat → Prop) (live : Nat → Nat → Prop) (adr : Nat → Nat → Nat) (G : Nat → Nat → va_E) (i : Nat) (x1 : Int32) (x2 : Int32) (x3 : Int32) : Option Value → Heap → Prop := fun r H => r = none ∧ HW D A live adr (hU G 4 i (.inr (4, [.int x1, .int x2, .int x3, .int 45, .int 0, .int (-1)]))) H
set_option maxHeartbeats 4000000 in
theorem mtX1_init {live : Nat → Nat → Prop} {adr : Nat → Nat → Nat} {G : Nat → Nat → va_E} {a : Nat} {i : Nat} {x1 : Int32} {x2 : Int32} {x3 : Int32} (hlv : live 4 i) (ha : adr 4 i = a) (hG : G 4 i = .inr (4, [.int 0, .int 0, .int 0, .int 0, .int 0, .int 0])) : CM l D cI e0 A yX1_init cX1_init 4 none 1 40 0 0 [.ref a, .int x1, .int x2, .int x3] (HW D A live adr G) (qX1_init D cI e0 A live adr G i x1 x2 x3) xN := by
  refine CM.of (by decide) (Nat.le_of_ble_eq_true rfl) (fun p e s m below meth c ls FX hw hS hl0 => ?_)
  obtain ⟨S, hg, hr, hlk, hnm, hout⟩ := FX
  have hl0 : lv_has ls 4 [(0, .ref a), (1, .int x1), (2, .int x2), (3, .int x3)] := hl0
  refine lv_aload_n S.1 S.2.1 dX1_init_0 rfl (lv_at hl0 0 rfl) ?_
  refine r_obj S u380 hl0.1 dX1_init_1 (Nat.le_of_ble_eq_true rfl) (Nat.le_of_ble_eq_true rfl) ?_
  refine lv_aload_n S.1 S.2.1 dX1_init_4 rfl (lv_at hl0 0 rfl) ?_
  refine lv_bipush (v := 45) S.1 S.2.1 dX1_init_5 (by decide) ?_
  refine rG_put S hg hS hw hlv ha hG rfl iWX1 tyX1 tyX1_ok nmX1 3 (by decide) u387 rfl rfl rfl (Nat.le_of_ble_eq_true rfl) (fs' := [.int 0, .int 0, .int 0, .int 45, .int 0, .int 0]) rfl dX1_init_7 (fun H locs hw hS => ?_)
  refine lv_aload_n S.1 S.2.1 dX1_init_10 rfl (lv_at hl0 0 rfl) ?_
  refine lv_iconst (v := (-1)) S.1 S.2.1 dX1_init_11 (by decide) ?_
  refine rG_put S hg hS hw hlv ha (hU_s _ _ _ _) rfl iWX1 tyX1 tyX1_ok nmX1 5 (by decide) u390 rfl rfl rfl (Nat.le_of_ble_eq_true rfl) (fs' := [.int 0, .int 0, .int 0, .int 45, .int 0, .int (-1)]) rfl dX1_init_12 (fun H locs hw hS => ?_)
  rw [hU_hU (α := va_E) _ 4 i] at hw
  refine lv_aload_n S.1 S.2.1 dX1_init_15 rfl (lv_at hl0 0 rfl) ?_
  refine lv_iload_n S.1 S.2.1 dX1_init_16 rfl (lv_at hl0 1 rfl) ?_
  refine rG_putF S hnm hg hS hw hlv ha (hU_s _ _ _ _) rfl iWX1 tyX1 tyX1_ok nmX1 0 (by decide) u381 rfl rfl rfl rfl (Nat.le_of_ble_eq_true rfl) (fs' := [.int x1, .int 0, .int 0, .int 45, .int 0, .int (-1)]) rfl dX1_init_17 (fun H locs hw hS => ?_)
  rw [hU_hU (α := va_E) _ 4 i] at hw
  refine lv_aload_n S.1 S.2.1 dX1_init_20 rfl (lv_at hl0 0 rfl) ?_
  refine lv_iload_n S.1 S.2.1 dX1_init_21 rfl (lv_at hl0 2 rfl) ?_
  refine rG_putF S hnm hg hS hw hlv ha (hU_s _ _ _ _) rfl iWX1 tyX1 tyX1_ok nmX1 1 (by decide) u383 rfl rfl rfl rfl (Nat.le_of_ble_eq_true rfl) (fs' := [.int x1, .int x2, .int 0, .int 45, .int 0, .int (-1)]) rfl dX1_init_22 (fun H locs hw hS => ?_)
  rw [hU_hU (α := va_E) _ 4 i] at hw
  refine lv_aload_n S.1 S.2.1 dX1_init_25 rfl (lv_at hl0 0 rfl) ?_
  refine lv_iload_n S.1 S.2.1 dX1_init_26 rfl (lv_at hl0 3 rfl) ?_
  refine rG_put S hg hS hw hlv ha (hU_s _ _ _ _) rfl iWX1 tyX1 tyX1_ok nmX1 2 (by decide) u384 rfl rfl rfl (Nat.le_of_ble_eq_true rfl) (fs' := [.int x1, .int x2, .int x3, .int 45, .int 0, .int (-1)]) rfl dX1_init_27 (fun H locs hw hS => ?_)
  rw [hU_hU (α := va_E) _ 4 i] at hw
  exact r_vret (y := yX1_init) S hr hlk hS (Nat.le_of_ble_eq_true rfl) (Nat.le_of_ble_eq_true rfl) dX1_init_30 ⟨rfl, hw⟩
def qX4_init (D : va_G) (cI : Nat → ClassId) (e0 : Nat) (A : Nat → Prop) (live : Nat → Nat → Prop) (adr : Nat → Nat → Nat) (G : Nat → Nat → va_E) (i : Nat) (b1 : Nat) (x2 : Int32) (c2 : Int32) : Option Value → Heap → Prop := fun r H => r = none ∧ HW D A live adr (hU G 5 i (.inr (7, [.ref b1, .int x2, .int c2, .int (-1), .int 111, .int (-1)]))) H
set_option maxHeartbeats 4000000 in
theorem mtX4_init {live : Nat → Nat → Prop} {adr : Nat → Nat → Nat} {G : Nat → Nat → va_E} {a : Nat} {i : Nat} {b1 : Nat} {x2 : Int32} {c2 : Int32} (hlv : live 5 i) (ha : adr 5 i = a) (hG : G 5 i = .inr (7, [.null, .int 0, .int 0, .int 0, .int 0, .int 0])) {j : Nat} {c0 c1 c3 c4 c5 : Int32} (hlv2 : live 4 j) (ha2 : adr 4 j = b1) (hG2 : G 4 j = .inr (4, [.int c0, .int c1, .int c2, .int c3, .int c4, .int c5])) : CM l D cI e0 A yX4_init cX4_init 3 none 1 40 0 0 [.ref a, .ref b1, .int x2] (HW D A live adr G) (qX4_init D cI e0 A live adr G i b1 x2 c2) xN := by
  refine CM.of (by decide) (Nat.le_of_ble_eq_true rfl) (fun p e s m below meth c ls FX hw hS hl0 => ?_)
  obtain ⟨S, hg, hr, hlk, hnm, hout⟩ := FX
  have hl0 : lv_has ls 3 [(0, .ref a), (1, .ref b1), (2, .int x2)] := hl0
  refine lv_aload_n S.1 S.2.1 dX4_init_0 rfl (lv_at hl0 0 rfl) ?_
  refine r_obj S u875 hl0.1 dX4_init_1 (Nat.le_of_ble_eq_true rfl) (Nat.le_of_ble_eq_true rfl) ?_
  refine lv_aload_n S.1 S.2.1 dX4_init_4 rfl (lv_at hl0 0 rfl) ?_
  refine lv_iconst (v := (-1)) S.1 S.2.1 dX4_init_5 (by decide) ?_
  refine rG_put S hg hS hw hlv ha hG rfl iWX4 tyX4 tyX4_ok nmX4 3 (by decide) u882 rfl rfl rfl (Nat.le_of_ble_eq_true rfl) (fs' := [.null, .int 0, .int 0, .int (-1), .int 0, .int 0]) rfl dX4_init_6 (fun H locs hw hS => ?_)
  refine lv_aload_n S.1 S.2.1 dX4_init_9 rfl (lv_at hl0 0 rfl) ?_
  refine lv_bipush (v := 111) S.1 S.2.1 dX4_init_10 (by decide) ?_
  refine rG_put S hg hS hw hlv ha (hU_s _ _ _ _) rfl iWX4 tyX4 tyX4_ok nmX4 4 (by decide) u884 rfl rfl rfl (Nat.le_of_ble_eq_true rfl) (fs' := [.null, .int 0, .int 0, .int (-1), .int 111, .int 0]) rfl dX4_init_12 (fun H locs hw hS => ?_)
  rw [hU_hU (α := va_E) _ 5 i] at hw
  refine lv_aload_n S.1 S.2.1 dX4_init_15 rfl (lv_at hl0 0 rfl) ?_
  refine lv_iconst (v := (-1)) S.1 S.2.1 dX4_init_16 (by decide) ?_
  refine rG_put S hg hS hw hlv ha (hU_s _ _ _ _) rfl iWX4 tyX4 tyX4_ok nmX4 5 (by decide) u886 rfl rfl rfl (Nat.le_of_ble_eq_true rfl) (fs' := [.null, .int 0, .int 0, .int (-1), .int 111, .int (-1)]) rfl dX4_init_17 (fun H locs hw hS => ?_)
  rw [hU_hU (α := va_E) _ 5 i] at hw
  refine lv_aload_n S.1 S.2.1 dX4_init_20 rfl (lv_at hl0 0 rfl) ?_
  refine lv_aload_n S.1 S.2.1 dX4_init_21 rfl (lv_at hl0 1 rfl) ?_
  refine rG_putF S hnm hg hS hw hlv ha (hU_s _ _ _ _) rfl iWX4 tyX4 tyX4_ok nmX4 0 (by decide) u876 rfl rfl rfl rfl (Nat.le_of_ble_eq_true rfl) (fs' := [.ref b1, .int 0, .int 0, .int (-1), .int 111, .int (-1)]) rfl dX4_init_22 (fun H locs hw hS => ?_)
  rw [hU_hU (α := va_E) _ 5 i] at hw
  refine lv_aload_n S.1 S.2.1 dX4_init_25 rfl (lv_at hl0 0 rfl) ?_
  refine lv_iload_n S.1 S.2.1 dX4_init_26 rfl (lv_at hl0 2 rfl) ?_
  refine rG_putF S hnm hg hS hw hlv ha (hU_s _ _ _ _) rfl iWX4 tyX4 tyX4_ok nmX4 1 (by decide) u878 rfl rfl rfl rfl (Nat.le_of_ble_eq_true rfl) (fs' := [.ref b1, .int x2, .int 0, .int (-1), .int 111, .int (-1)]) rfl dX4_init_27 (fun H locs hw hS => ?_)
  rw [hU_hU (α := va_E) _ 5 i] at hw
  refine lv_aload_n S.1 S.2.1 dX4_init_30 rfl (lv_at hl0 0 rfl) ?_
  refine lv_aload_n S.1 S.2.1 dX4_init_31 rfl (lv_at hl0 1 rfl) ?_
  refine rG_get S hg hw hlv2 ha2 ((hU_n _ _ (by omega)).trans hG2) rfl iWX1 2 (by decide) u385 rfl dX4_init_32 ?_
  refine rG_putF S hnm hg hS hw hlv ha (hU_s _ _ _ _) rfl iWX4 tyX4 tyX4_ok nmX4 2 (by decide) u880 rfl rfl rfl rfl (Nat.le_of_ble_eq_true rfl) (fs' := [.ref b1, .int x2, .int c2, .int (-1), .int 111, .int (-1)]) rfl dX4_init_35 (fun H locs hw hS => ?_)
  rw [hU_hU (α := va_E) _ 5 i] at hw
  exact r_vret (y := yX4_init) S hr hlk hS (Nat.le_of_ble_eq_true rfl) (Nat.le_of_ble_eq_true rfl) dX4_init_38 ⟨rfl, hw⟩
def qX3_init (D : va_G) (cI : Nat → ClassId) (e0 : Nat) (A : Nat → Prop) (live : Nat → Nat → Prop) (adr : Nat → Nat → Nat) (G : Nat → Nat → va_E)  : Option Value → Heap → Prop := fun r H => r = none ∧ ∃ q1 : Nat, HW D A (fun k' i' => live k' i' ∨ (k' = 11 ∧ i' = 0)) (hU adr 11 0 q1) (hU (hU G 11 0 (.inl (cI 0, 216, .inl (fun _ => 0)))) 1 0 (.inr (6, [.ref q1, .int 0]))) H
set_option maxHeartbeats 4000000 in
theorem mtX3_init {live : Nat → Nat → Prop} {adr : Nat → Nat → Nat} {G : Nat → Nat → va_E} {a : Nat}  (hlv : live 1 0) (ha : adr 1 0 = a) (hG : G 1 0 = .inr (6, [.null, .int 0])) : CM l D cI e0 A yX3_init cX3_init 1 none 1 40 1 216 [.ref a] (HW D A live adr G) (qX3_init D cI e0 A live adr G ) xN := by
  refine CM.of (by decide) (Nat.le_of_ble_eq_true rfl) (fun p e s m below meth c ls FX hw hS hl0 => ?_)
  obtain ⟨S, hg, hr, hlk, hnm, hout⟩ := FX
  have hl0 : lv_has ls 1 [(0, .ref a)] := hl0
  refine lv_aload_n S.1 S.2.1 dX3_init_0 rfl (lv_at hl0 0 rfl) ?_
  refine r_obj S u94 hl0.1 dX3_init_1 (Nat.le_of_ble_eq_true rfl) (Nat.le_of_ble_eq_true rfl) ?_
  refine lv_aload_n S.1 S.2.1 dX3_init_4 rfl (lv_at hl0 0 rfl) ?_
  refine lv_sipush (v := 216) S.1 S.2.1 dX3_init_5 (by decide) ?_
  refine r_inew S hg hS hw 11 0 (n := 216) (N := 216) u88 (by decide) (by decide) (by decide) (Nat.le_of_ble_eq_true rfl) (Nat.le_of_ble_eq_true rfl) dX3_init_8 (fun q1 H hw hS => ?_)
  refine rG_put S hg hS hw (Or.inl hlv) ((hU_n _ _ (by omega)).trans ha) ((hU_n _ _ (by omega)).trans hG) rfl iWX3 tyX3 tyX3_ok nmX3 0 (by decide) u95 rfl rfl rfl (Nat.le_of_ble_eq_true rfl) (fs' := [.ref q1, .int 0]) rfl dX3_init_10 (fun H locs hw hS => ?_)
  exact r_vret (y := yX3_init) S hr hlk hS (Nat.le_of_ble_eq_true rfl) (Nat.le_of_ble_eq_true rfl) dX3_init_13 ⟨rfl, q1, hw⟩
def qX0_init (D : va_G) (cI : Nat → ClassId) (e0 : Nat) (A : Nat → Prop) (live : Nat → Nat → Prop) (adr : Nat → Nat → Nat) (G : Nat → Nat → va_E)  : Option Value → Heap → Prop := fun r H => r = none ∧ ∃ q1 q2 : Nat, HW D A (fun k' i' => (fun k' i' => live k' i' ∨ (k' = 10 ∧ i' = 2)) k' i' ∨ (k' = 10 ∧ i' = 3)) (hU (hU adr 10 2 q1) 10 3 q2) (hU (hU (hU G 10 2 (.inl (cI 0, 1152, .inl (fun _ => 0)))) 10 3 (.inl (cI 0, 288, .inl (fun _ => 0)))) 2 0 (.inr (3, [.ref q1, .ref q2]))) H
set_option maxHeartbeats 4000000 in
theorem mtX0_init {live : Nat → Nat → Prop} {adr : Nat → Nat → Nat} {G : Nat → Nat → va_E} {a : Nat}  (hlv : live 2 0) (ha : adr 2 0 = a) (hG : G 2 0 = .inr (3, [.null, .null])) : CM l D cI e0 A yX0_init cX0_init 1 none 1 40 2 1440 [.ref a] (HW D A live adr G) (qX0_init D cI e0 A live adr G ) xN := by
  refine CM.of (by decide) (Nat.le_of_ble_eq_true rfl) (fun p e s m below meth c ls FX hw hS hl0 => ?_)
  obtain ⟨S, hg, hr, hlk, hnm, hout⟩ := FX
  have hl0 : lv_has ls 1 [(0, .ref a)] := hl0
  refine lv_aload_n S.1 S.2.1 dX0_init_0 rfl (lv_at hl0 0 rfl) ?_
  refine r_obj S u108 hl0.1 dX0_init_1 (Nat.le_of_ble_eq_true rfl) (Nat.le_of_ble_eq_true rfl) ?_
  refine lv_aload_n S.1 S.2.1 dX0_init_4 rfl (lv_at hl0 0 rfl) ?_
  refine lv_sipush (v := 1152) S.1 S.2.1 dX0_init_5 (by decide) ?_
  refine r_inew S hg hS hw 10 2 (n := 1152) (N := 1152) u88 (by decide) (by decide) (by decide) (Nat.le_of_ble_eq_true rfl) (Nat.le_of_ble_eq_true rfl) dX0_init_8 (fun q1 H hw hS => ?_)
  refine rG_putF S hnm hg hS hw (Or.inl hlv) ((hU_n _ _ (by omega)).trans ha) ((hU_n _ _ (by omega)).trans hG) rfl iWX0 tyX0 tyX0_ok nmX0 0 (by decide) u109 rfl rfl rfl rfl (Nat.le_of_ble_eq_true rfl) (fs' := [.ref q1, .null]) rfl dX0_init_10 (fun H locs hw hS => ?_)
  refine lv_aload_n S.1 S.2.1 dX0_init_13 rfl (lv_at hl0 0 rfl) ?_
  refine lv_sipush (v := 288) S.1 S.2.1 dX0_init_14 (by decide) ?_
  refine r_inew S hg hS hw 10 3 (n := 288) (N := 288) u88 (by decide) (by decide) (by decide) (Nat.le_of_ble_eq_true rfl) (Nat.le_of_ble_eq_true rfl) dX0_init_17 (fun q2 H hw hS => ?_)
  refine rG_putF S hnm hg hS hw (Or.inl (Or.inl hlv)) ((hU_n _ _ (by omega)).trans ((hU_n _ _ (by omega)).trans ha)) ((hU_n _ _ (by omega)).trans (hU_s _ _ _ _)) rfl iWX0 tyX0 tyX0_ok nmX0 1 (by decide) u110 rfl rfl rfl rfl (Nat.le_of_ble_eq_true rfl) (fs' := [.ref q1, .ref q2]) rfl dX0_init_19 (fun H locs hw hS => ?_)
  rw [hU_ov (α := va_E) _ (k := 2) (i := 0) (k2 := 10) (i2 := 3) (by omega)] at hw
  exact r_vret (y := yX0_init) S hr hlk hS (Nat.le_of_ble_eq_true rfl) (Nat.le_of_ble_eq_true rfl) dX0_init_22 ⟨rfl, q1, q2, hw⟩
def qX5_init (D : va_G) (cI : Nat → ClassId) (e0 : Nat) (A : Nat → Prop) (live : Nat → Nat → Prop) (adr : Nat → Nat → Nat) (G : Nat → Nat → va_E) (i : Nat) (x1 : Int32) : Option Value → Heap → Prop := fun r H => r = none ∧ ∃ q1 q2 : Nat, HW D A (fun k' i' => (fun k' i' => live k' i' ∨ (k' = 8 ∧ i' = i + 4)) k' i' ∨ (k' = 18 ∧ i' = i)) (hU (hU adr 8 (i + 4) q1) 18 i q2) (hU (hU (hU (hU (hU G 7 i (.inr (8, [.int 0, .int 10, .null, .null]))) 8 (i + 4) (.inr (2, [.int 0, .null, .int 0]))) 8 ((i + 4)) (.inr (2, [.int 0, .ref e0, .int 0]))) 18 i (.inl (cI 0, 8, .inl (fun _ => 0)))) 7 i (.inr (8, [.int x1, .int 10, .ref q1, .ref q2]))) H
set_option maxHeartbeats 4000000 in
theorem mtX5_init {live : Nat → Nat → Prop} {adr : Nat → Nat → Nat} {G : Nat → Nat → va_E} {a : Nat} {i : Nat} {x1 : Int32} (hlv : live 7 i) (ha : adr 7 i = a) (hG : G 7 i = .inr (8, [.int 0, .int 0, .null, .null])) : CM l D cI e0 A yX5_init cX5_init 2 none 4 150 2 11 [.ref a, .int x1] (HW D A live adr G) (qX5_init D cI e0 A live adr G i x1) xN := by
  refine CM.of (by decide) (Nat.le_of_ble_eq_true rfl) (fun p e s m below meth c ls FX hw hS hl0 => ?_)
  obtain ⟨S, hg, hr, hlk, hnm, hout⟩ := FX
  have hl0 : lv_has ls 2 [(0, .ref a), (1, .int x1)] := hl0
  refine lv_aload_n S.1 S.2.1 dX5_init_0 rfl (lv_at hl0 0 rfl) ?_
  refine r_obj S u550 hl0.1 dX5_init_1 (Nat.le_of_ble_eq_true rfl) (Nat.le_of_ble_eq_true rfl) ?_
  refine lv_aload_n S.1 S.2.1 dX5_init_4 rfl (lv_at hl0 0 rfl) ?_
  refine lv_bipush (v := 10) S.1 S.2.1 dX5_init_5 (by decide) ?_
  refine rG_put S hg hS hw hlv ha hG rfl iWX5 tyX5 tyX5_ok nmX5 1 (by decide) u556 rfl rfl rfl (Nat.le_of_ble_eq_true rfl) (fs' := [.int 0, .int 10, .null, .null]) rfl dX5_init_7 (fun H locs hw hS => ?_)
  refine lv_aload_n S.1 S.2.1 dX5_init_10 rfl (lv_at hl0 0 rfl) ?_
  refine r_new S hg hS hw 8 (i + 4) (ci := 2) (fs := [.int 0, .null, .int 0]) rfl iWJx4a65c tyJx4a65c tyJx4a65c_ok u551 u63 u30 (by decide +kernel) ⟨Nat.le_of_ble_eq_true rfl, Nat.le_of_ble_eq_true rfl⟩ dX5_init_11 (fun q1 H hw hS => ?_)
  refine lv_dup S.1 S.2.1 dX5_init_14 rfl ?_
  refine r_callI (rest := [.ref q1, .ref a]) S hg hS (mtJx4a65c_init_da8c8 (i := i + 4) (Or.inr ⟨rfl, rfl⟩) (hU_s _ _ _ _) (hU_s _ _ _ _)) u552 u65 u30 u66 rfl hdJx4a65c_init_da8c8 hw ⟨Nat.le_of_ble_eq_true rfl, Nat.le_of_ble_eq_true rfl⟩ ⟨Nat.le_of_ble_eq_true rfl, Nat.le_of_ble_eq_true rfl⟩ hl0.1 (Nat.le_of_ble_eq_true rfl) rfl dX5_init_15 (fun rv H locs hq hS => ?_)
  obtain ⟨rfl, hw⟩ := hq
  refine rG_putF S hnm hg hS hw (Or.inl hlv) ((hU_n _ _ (by omega)).trans ha) ((hU_n _ _ (by omega)).trans ((hU_n _ _ (by omega)).trans (hU_s _ _ _ _))) rfl iWX5 tyX5 tyX5_ok nmX5 2 (by decide) u559 rfl rfl rfl rfl (Nat.le_of_ble_eq_true rfl) (fs' := [.int 0, .int 10, .ref q1, .null]) rfl dX5_init_18 (fun H locs hw hS => ?_)
  refine lv_aload_n S.1 S.2.1 dX5_init_21 rfl (lv_at hl0 0 rfl) ?_
  refine lv_bipush (v := 8) S.1 S.2.1 dX5_init_22 (by decide) ?_
  refine r_inew S hg hS hw 18 i (n := 8) (N := 8) u88 (by decide) (by decide) (by decide) (Nat.le_of_ble_eq_true rfl) (Nat.le_of_ble_eq_true rfl) dX5_init_24 (fun q2 H hw hS => ?_)
  refine rG_putF S hnm hg hS hw (Or.inl (Or.inl hlv)) ((hU_n _ _ (by omega)).trans ((hU_n _ _ (by omega)).trans ha)) ((hU_n _ _ (by omega)).trans (hU_s _ _ _ _)) rfl iWX5 tyX5 tyX5_ok nmX5 3 (by decide) u562 rfl rfl rfl rfl (Nat.le_of_ble_eq_true rfl) (fs' := [.int 0, .int 10, .ref q1, .ref q2]) rfl dX5_init_26 (fun H locs hw hS => ?_)
  rw [hU_ov (α := va_E) _ (k := 7) (i := i) (k2 := 18) (i2 := i) (by omega)] at hw
  refine lv_aload_n S.1 S.2.1 dX5_init_29 rfl (lv_at hl0 0 rfl) ?_
  refine lv_iload_n S.1 S.2.1 dX5_init_30 rfl (lv_at hl0 1 rfl) ?_
  refine rG_putF S hnm hg hS hw (Or.inl (Or.inl hlv)) ((hU_n _ _ (by omega)).trans ((hU_n _ _ (by omega)).trans ha)) (hU_s _ _ _ _) rfl iWX5 tyX5 tyX5_ok nmX5 0 (by decide) u553 rfl rfl rfl rfl (Nat.le_of_ble_eq_true rfl) (fs' := [.int x1, .int 10, .ref q1, .ref q2]) rfl dX5_init_31 (fun H locs hw hS => ?_)
  rw [hU_hU (α := va_E) _ 7 i] at hw
  exact r_vret (y := yX5_init) S hr hlk hS (Nat.le_of_ble_eq_true rfl) (Nat.le_of_ble_eq_true rfl) dX5_init_34 ⟨rfl, q1, q2, hw⟩
def qX2_init (D : va_G) (cI : Nat → ClassId) (e0 : Nat) (A : Nat → Prop) (live : Nat → Nat → Prop) (adr : Nat → Nat → Nat) (G : Nat → Nat → va_E) (i : Nat) (x1 : Int32) (x2 : Int32) : Option Value → Heap → Prop := fun r H => r = none ∧ ∃ (q1 : Nat) (q2 : Nat) (rq2 : Nat → Nat) (q3 : Nat) (rq3 : Nat → Nat) (q4 : Nat) (q5 : Nat) (q6 : Nat) (q7 : Nat) (q8 : Nat) (q9 : Nat), HW D A (fun k' i' => (fun k' i' => (fun k' i' => (fun k' i' => (fun k' i' => (fun k' i' => (fun k' i' => (fun k' i' => (fun k' i' => (fun k' i' => (fun k' i' => (fun k' i' => (fun k' i' => (fun k' i' => (fun k' i' => (fun k' i' => (fun k' i' => (fun k' i' => (fun k' i' => (fun k' i' => (fun k' i' => live k' i' ∨ (k' = 17 ∧ i' = i)) k' i' ∨ (k' = 12 ∧ i' = i)) k' i' ∨ (k' = 19 ∧ i' = 6 * i + 0)) k' i' ∨ (k' = 19 ∧ i' = 6 * i + 1)) k' i' ∨ (k' = 19 ∧ i' = 6 * i + 2)) k' i' ∨ (k' = 19 ∧ i' = 6 * i + 3)) k' i' ∨ (k' = 19 ∧ i' = 6 * i + 4)) k' i' ∨ (k' = 19 ∧ i' = 6 * i + 5)) k' i' ∨ (k' = 21 ∧ i' = i)) k' i' ∨ (k' = 20 ∧ i' = 6 * i + 0)) k' i' ∨ (k' = 20 ∧ i' = 6 * i + 1)) k' i' ∨ (k' = 20 ∧ i' = 6 * i + 2)) k' i' ∨ (k' = 20 ∧ i' = 6 * i + 3)) k' i' ∨ (k' = 20 ∧ i' = 6 * i + 4)) k' i' ∨ (k' = 20 ∧ i' = 6 * i + 5)) k' i' ∨ (k' = 7 ∧ i' = 2 * i)) k' i' ∨ (k' = 8 ∧ i' = (2 * i) + 4)) k' i' ∨ (k' = 18 ∧ i' = (2 * i))) k' i' ∨ (k' = 7 ∧ i' = 2 * i + 1)) k' i' ∨ (k' = 8 ∧ i' = (2 * i + 1) + 4)) k' i' ∨ (k' = 18 ∧ i' = (2 * i + 1))) (hU (hU (hU (hU (hU (hU (hU (hU (hU (hU (hU (hU (hU (hU (hU (hU (hU (hU (hU (hU (hU adr 17 i q1) 12 i q2) 19 (6 * i + 0) (rq2 0)) 19 (6 * i + 1) (rq2 1)) 19 (6 * i + 2) (rq2 2)) 19 (6 * i + 3) (rq2 3)) 19 (6 * i + 4) (rq2 4)) 19 (6 * i + 5) (rq2 5)) 21 i q3) 20 (6 * i + 0) (rq3 0)) 20 (6 * i + 1) (rq3 1)) 20 (6 * i + 2) (rq3 2)) 20 (6 * i + 3) (rq3 3)) 20 (6 * i + 4) (rq3 4)) 20 (6 * i + 5) (rq3 5)) 7 (2 * i) q4) 8 ((2 * i) + 4) q5) 18 ((2 * i)) q6) 7 (2 * i + 1) q7) 8 ((2 * i + 1) + 4) q8) 18 ((2 * i + 1)) q9) (hU (hU (hU (hU (hU (hU (hU (hU (hU (hU (hU (hU (hU (hU (hU (hU (hU (hU (hU (hU (hU (hU (hU (hU (hU (hU (hU (hU (hU (hU (hU (hU G 17 i (.inl (cI 0, 8, .inl (fun _ => 0)))) 6 i (.inr (5, [.null, .null, .int 111, .int (-1), .int 0, .int 0, .ref q1, .int 0, .int 0, .null, .null]))) 12 i (.inl (cI 3, 6, .inr (.inr (.inr (.inr (fun i => if i < 6 then some (rq2 i) else none))))))) 19 (6 * i + 0) (.inl (cI 0, 6, .inl (fun _ => 0)))) 19 (6 * i + 1) (.inl (cI 0, 6, .inl (fun _ => 0)))) 19 (6 * i + 2) (.inl (cI 0, 6, .inl (fun _ => 0)))) 19 (6 * i + 3) (.inl (cI 0, 6, .inl (fun _ => 0)))) 19 (6 * i + 4) (.inl (cI 0, 6, .inl (fun _ => 0)))) 19 (6 * i + 5) (.inl (cI 0, 6, .inl (fun _ => 0)))) 6 i (.inr (5, [.null, .null, .int 111, .int (-1), .int 0, .int 0, .ref q1, .int 0, .int 0, .ref q2, .null]))) 21 i (.inl (cI 3, 6, .inr (.inr (.inr (.inr (fun i => if i < 6 then some (rq3 i) else none))))))) 20 (6 * i + 0) (.inl (cI 0, 8, .inl (fun _ => 0)))) 20 (6 * i + 1) (.inl (cI 0, 8, .inl (fun _ => 0)))) 20 (6 * i + 2) (.inl (cI 0, 8, .inl (fun _ => 0)))) 20 (6 * i + 3) (.inl (cI 0, 8, .inl (fun _ => 0)))) 20 (6 * i + 4) (.inl (cI 0, 8, .inl (fun _ => 0)))) 20 (6 * i + 5) (.inl (cI 0, 8, .inl (fun _ => 0)))) 6 i (.inr (5, [.null, .null, .int 111, .int (-1), .int 0, .int 0, .ref q1, .int 0, .int 0, .ref q2, .ref q3]))) 7 (2 * i) (.inr (8, [.int 0, .int 0, .null, .null]))) 7 ((2 * i)) (.inr (8, [.int 0, .int 10, .null, .null]))) 8 ((2 * i) + 4) (.inr (2, [.int 0, .null, .int 0]))) 8 (((2 * i) + 4)) (.inr (2, [.int 0, .ref e0, .int 0]))) 18 ((2 * i)) (.inl (cI 0, 8, .inl (fun _ => 0)))) 7 ((2 * i)) (.inr (8, [.int x1, .int 10, .ref q5, .ref q6]))) 6 i (.inr (5, [.ref q4, .null, .int 111, .int (-1), .int 0, .int 0, .ref q1, .int 0, .int 0, .ref q2, .ref q3]))) 7 (2 * i + 1) (.inr (8, [.int 0, .int 0, .null, .null]))) 7 ((2 * i + 1)) (.inr (8, [.int 0, .int 10, .null, .null]))) 8 ((2 * i + 1) + 4) (.inr (2, [.int 0, .null, .int 0]))) 8 (((2 * i + 1) + 4)) (.inr (2, [.int 0, .ref e0, .int 0]))) 18 ((2 * i + 1)) (.inl (cI 0, 8, .inl (fun _ => 0)))) 7 ((2 * i + 1)) (.inr (8, [.int x2, .int 10, .ref q8, .ref q9]))) 6 i (.inr (5, [.ref q4, .ref q7, .int 111, .int (-1), .int 0, .int 0, .ref q1, .int 0, .int 0, .ref q2, .ref q3]))) H
set_option maxHeartbeats 4000000 in
theorem mtX2_init {live : Nat → Nat → Prop} {adr : Nat → Nat → Nat} {G : Nat → Nat → va_E} {a : Nat} {i : Nat} {x1 : Int32} {x2 : Int32} (hlv : live 6 i) (ha : adr 6 i = a) (hG : G 6 i = .inr (5, [.null, .null, .int 0, .int 0, .int 0, .int 0, .null, .int 0, .int 0, .null, .null])) : CM l D cI e0 A yX2_init cX2_init 3 none 5 200 21 134 [.ref a, .int x1, .int x2] (HW D A live adr G) (qX2_init D cI e0 A live adr G i x1 x2) xN := by
  refine CM.of (by decide) (Nat.le_of_ble_eq_true rfl) (fun p e s m below meth c ls FX hw hS hl0 => ?_)
  obtain ⟨S, hg, hr, hlk, hnm, hout⟩ := FX
  have hl0 : lv_has ls 3 [(0, .ref a), (1, .int x1), (2, .int x2)] := hl0
  refine lv_aload_n S.1 S.2.1 dX2_init_0 rfl (lv_at hl0 0 rfl) ?_
  refine r_obj S u542 hl0.1 dX2_init_1 (Nat.le_of_ble_eq_true rfl) (Nat.le_of_ble_eq_true rfl) ?_
  refine lv_aload_n S.1 S.2.1 dX2_init_4 rfl (lv_at hl0 0 rfl) ?_
  refine lv_bipush (v := 111) S.1 S.2.1 dX2_init_5 (by decide) ?_
  refine rG_put S hg hS hw hlv ha hG rfl iWX2 tyX2 tyX2_ok nmX2 2 (by decide) u577 rfl rfl rfl (Nat.le_of_ble_eq_true rfl) (fs' := [.null, .null, .int 111, .int 0, .int 0, .int 0, .null, .int 0, .int 0, .null, .null]) rfl dX2_init_7 (fun H locs hw hS => ?_)
  refine lv_aload_n S.1 S.2.1 dX2_init_10 rfl (lv_at hl0 0 rfl) ?_
  refine lv_iconst (v := (-1)) S.1 S.2.1 dX2_init_11 (by decide) ?_
  refine rG_put S hg hS hw hlv ha (hU_s _ _ _ _) rfl iWX2 tyX2 tyX2_ok nmX2 3 (by decide) u579 rfl rfl rfl (Nat.le_of_ble_eq_true rfl) (fs' := [.null, .null, .int 111, .int (-1), .int 0, .int 0, .null, .int 0, .int 0, .null, .null]) rfl dX2_init_12 (fun H locs hw hS => ?_)
  rw [hU_hU (α := va_E) _ 6 i] at hw
  refine lv_aload_n S.1 S.2.1 dX2_init_15 rfl (lv_at hl0 0 rfl) ?_
  refine lv_bipush (v := 8) S.1 S.2.1 dX2_init_16 (by decide) ?_
  refine r_inew S hg hS hw 17 i (n := 8) (N := 8) u88 (by decide) (by decide) (by decide) (Nat.le_of_ble_eq_true rfl) (Nat.le_of_ble_eq_true rfl) dX2_init_18 (fun q1 H hw hS => ?_)
  refine rG_putF S hnm hg hS hw (Or.inl hlv) ((hU_n _ _ (by omega)).trans ha) ((hU_n _ _ (by omega)).trans (hU_s _ _ _ _)) rfl iWX2 tyX2 tyX2_ok nmX2 6 (by decide) u584 rfl rfl rfl rfl (Nat.le_of_ble_eq_true rfl) (fs' := [.null, .null, .int 111, .int (-1), .int 0, .int 0, .ref q1, .int 0, .int 0, .null, .null]) rfl dX2_init_20 (fun H locs hw hS => ?_)
  rw [hU_ov (α := va_E) _ (k := 6) (i := i) (k2 := 17) (i2 := i) (by omega)] at hw
  refine lv_aload_n S.1 S.2.1 dX2_init_23 rfl (lv_at hl0 0 rfl) ?_
  refine lv_bipush (v := 6) S.1 S.2.1 dX2_init_24 (by decide) ?_
  refine lv_bipush (v := 6) S.1 S.2.1 dX2_init_26 (by decide) ?_
  refine r_mna S hg hS hw 12 i 19 (6 * i) (k := 6) (K' := 6) u543 (by decide) (by decide) (by decide) (Nat.le_of_ble_eq_true rfl) (Nat.le_of_ble_eq_true rfl) dX2_init_28 (fun q2 rq2 H hw hS => ?_)
  refine rG_putF S hnm hg hS hw (Or.inl (Or.inl (Or.inl (Or.inl (Or.inl (Or.inl (Or.inl (Or.inl hlv)))))))) ((hU_n _ _ (by omega)).trans ((hU_n _ _ (by omega)).trans ((hU_n _ _ (by omega)).trans ((hU_n _ _ (by omega)).trans ((hU_n _ _ (by omega)).trans ((hU_n _ _ (by omega)).trans ((hU_n _ _ (by omega)).trans ((hU_n _ _ (by omega)).trans ha)))))))) ((hU_n _ _ (by omega)).trans ((hU_n _ _ (by omega)).trans ((hU_n _ _ (by omega)).trans ((hU_n _ _ (by omega)).trans ((hU_n _ _ (by omega)).trans ((hU_n _ _ (by omega)).trans ((hU_n _ _ (by omega)).trans (hU_s _ _ _ _)))))))) rfl iWX2 tyX2 tyX2_ok nmX2 9 (by decide) u589 rfl rfl rfl rfl (Nat.le_of_ble_eq_true rfl) (fs' := [.null, .null, .int 111, .int (-1), .int 0, .int 0, .ref q1, .int 0, .int 0, .ref q2, .null]) rfl dX2_init_32 (fun H locs hw hS => ?_)
  refine lv_aload_n S.1 S.2.1 dX2_init_35 rfl (lv_at hl0 0 rfl) ?_
  refine lv_bipush (v := 6) S.1 S.2.1 dX2_init_36 (by decide) ?_
  refine lv_bipush (v := 8) S.1 S.2.1 dX2_init_38 (by decide) ?_
  refine r_mna S hg hS hw 21 i 20 (6 * i) (k := 8) (K' := 8) u543 (by decide) (by decide) (by decide) (Nat.le_of_ble_eq_true rfl) (Nat.le_of_ble_eq_true rfl) dX2_init_40 (fun q3 rq3 H hw hS => ?_)
  refine rG_putF S hnm hg hS hw (Or.inl (Or.inl (Or.inl (Or.inl (Or.inl (Or.inl (Or.inl (Or.inl (Or.inl (Or.inl (Or.inl (Or.inl (Or.inl (Or.inl (Or.inl hlv))))))))))))))) ((hU_n _ _ (by omega)).trans ((hU_n _ _ (by omega)).trans ((hU_n _ _ (by omega)).trans ((hU_n _ _ (by omega)).trans ((hU_n _ _ (by omega)).trans ((hU_n _ _ (by omega)).trans ((hU_n _ _ (by omega)).trans ((hU_n _ _ (by omega)).trans ((hU_n _ _ (by omega)).trans ((hU_n _ _ (by omega)).trans ((hU_n _ _ (by omega)).trans ((hU_n _ _ (by omega)).trans ((hU_n _ _ (by omega)).trans ((hU_n _ _ (by omega)).trans ((hU_n _ _ (by omega)).trans ha))))))))))))))) ((hU_n _ _ (by omega)).trans ((hU_n _ _ (by omega)).trans ((hU_n _ _ (by omega)).trans ((hU_n _ _ (by omega)).trans ((hU_n _ _ (by omega)).trans ((hU_n _ _ (by omega)).trans ((hU_n _ _ (by omega)).trans (hU_s _ _ _ _)))))))) rfl iWX2 tyX2 tyX2_ok nmX2 10 (by decide) u590 rfl rfl rfl rfl (Nat.le_of_ble_eq_true rfl) (fs' := [.null, .null, .int 111, .int (-1), .int 0, .int 0, .ref q1, .int 0, .int 0, .ref q2, .ref q3]) rfl dX2_init_44 (fun H locs hw hS => ?_)
  refine lv_aload_n S.1 S.2.1 dX2_init_47 rfl (lv_at hl0 0 rfl) ?_
  refine r_new S hg hS hw 7 (2 * i) (ci := 8) (fs := [.int 0, .int 0, .null, .null]) rfl iWX5 tyX5 tyX5_ok u545 u546 u50 (by decide +kernel) ⟨Nat.le_of_ble_eq_true rfl, Nat.le_of_ble_eq_true rfl⟩ dX2_init_48 (fun q4 H hw hS => ?_)
  refine lv_dup S.1 S.2.1 dX2_init_51 rfl ?_
  refine lv_iload_n S.1 S.2.1 dX2_init_52 rfl (lv_at hl0 1 rfl) ?_
  refine r_callI (rest := [.ref q4, .ref a]) S hg hS (mtX5_init (i := 2 * i) (x1 := x1) (Or.inr ⟨rfl, rfl⟩) (hU_s _ _ _ _) (hU_s _ _ _ _)) u547 u548 u50 u549 rfl hdX5_init hw ⟨Nat.le_of_ble_eq_true rfl, Nat.le_of_ble_eq_true rfl⟩ ⟨Nat.le_of_ble_eq_true rfl, Nat.le_of_ble_eq_true rfl⟩ hl0.1 (Nat.le_of_ble_eq_true rfl) rfl dX2_init_53 (fun rv H locs hq hS => ?_)
  obtain ⟨rfl, q5, q6, hw⟩ := hq
  refine rG_putF S hnm hg hS hw (Or.inl (Or.inl (Or.inl (Or.inl (Or.inl (Or.inl (Or.inl (Or.inl (Or.inl (Or.inl (Or.inl (Or.inl (Or.inl (Or.inl (Or.inl (Or.inl (Or.inl (Or.inl hlv)))))))))))))))))) ((hU_n _ _ (by omega)).trans ((hU_n _ _ (by omega)).trans ((hU_n _ _ (by omega)).trans ((hU_n _ _ (by omega)).trans ((hU_n _ _ (by omega)).trans ((hU_n _ _ (by omega)).trans ((hU_n _ _ (by omega)).trans ((hU_n _ _ (by omega)).trans ((hU_n _ _ (by omega)).trans ((hU_n _ _ (by omega)).trans ((hU_n _ _ (by omega)).trans ((hU_n _ _ (by omega)).trans ((hU_n _ _ (by omega)).trans ((hU_n _ _ (by omega)).trans ((hU_n _ _ (by omega)).trans ((hU_n _ _ (by omega)).trans ((hU_n _ _ (by omega)).trans ((hU_n _ _ (by omega)).trans ha)))))))))))))))))) ((hU_n _ _ (by omega)).trans ((hU_n _ _ (by omega)).trans ((hU_n _ _ (by omega)).trans ((hU_n _ _ (by omega)).trans ((hU_n _ _ (by omega)).trans ((hU_n _ _ (by omega)).trans (hU_s _ _ _ _))))))) rfl iWX2 tyX2 tyX2_ok nmX2 0 (by decide) u573 rfl rfl rfl rfl (Nat.le_of_ble_eq_true rfl) (fs' := [.ref q4, .null, .int 111, .int (-1), .int 0, .int 0, .ref q1, .int 0, .int 0, .ref q2, .ref q3]) rfl dX2_init_56 (fun H locs hw hS => ?_)
  refine lv_aload_n S.1 S.2.1 dX2_init_59 rfl (lv_at hl0 0 rfl) ?_
  refine r_new S hg hS hw 7 (2 * i + 1) (ci := 8) (fs := [.int 0, .int 0, .null, .null]) rfl iWX5 tyX5 tyX5_ok u545 u546 u50 (by decide +kernel) ⟨Nat.le_of_ble_eq_true rfl, Nat.le_of_ble_eq_true rfl⟩ dX2_init_60 (fun q7 H hw hS => ?_)
  refine lv_dup S.1 S.2.1 dX2_init_63 rfl ?_
  refine lv_iload_n S.1 S.2.1 dX2_init_64 rfl (lv_at hl0 2 rfl) ?_
  refine r_callI (rest := [.ref q7, .ref a]) S hg hS (mtX5_init (i := 2 * i + 1) (x1 := x2) (Or.inr ⟨rfl, rfl⟩) (hU_s _ _ _ _) (hU_s _ _ _ _)) u547 u548 u50 u549 rfl hdX5_init hw ⟨Nat.le_of_ble_eq_true rfl, Nat.le_of_ble_eq_true rfl⟩ ⟨Nat.le_of_ble_eq_true rfl, Nat.le_of_ble_eq_true rfl⟩ hl0.1 (Nat.le_of_ble_eq_true rfl) rfl dX2_init_65 (fun rv H locs hq hS => ?_)
  obtain ⟨rfl, q8, q9, hw⟩ := hq
  refine rG_putF S hnm hg hS hw (Or.inl (Or.inl (Or.inl (Or.inl (Or.inl (Or.inl (Or.inl (Or.inl (Or.inl (Or.inl (Or.inl (Or.inl (Or.inl (Or.inl (Or.inl (Or.inl (Or.inl (Or.inl (Or.inl (Or.inl (Or.inl hlv))))))))))))))))))))) ((hU_n _ _ (by omega)).trans ((hU_n _ _ (by omega)).trans ((hU_n _ _ (by omega)).trans ((hU_n _ _ (by omega)).trans ((hU_n _ _ (by omega)).trans ((hU_n _ _ (by omega)).trans ((hU_n _ _ (by omega)).trans ((hU_n _ _ (by omega)).trans ((hU_n _ _ (by omega)).trans ((hU_n _ _ (by omega)).trans ((hU_n _ _ (by omega)).trans ((hU_n _ _ (by omega)).trans ((hU_n _ _ (by omega)).trans ((hU_n _ _ (by omega)).trans ((hU_n _ _ (by omega)).trans ((hU_n _ _ (by omega)).trans ((hU_n _ _ (by omega)).trans ((hU_n _ _ (by omega)).trans ((hU_n _ _ (by omega)).trans ((hU_n _ _ (by omega)).trans ((hU_n _ _ (by omega)).trans ha))))))))))))))))))))) ((hU_n _ _ (by omega)).trans ((hU_n _ _ (by omega)).trans ((hU_n _ _ (by omega)).trans ((hU_n _ _ (by omega)).trans ((hU_n _ _ (by omega)).trans ((hU_n _ _ (by omega)).trans (hU_s _ _ _ _))))))) rfl iWX2 tyX2 tyX2_ok nmX2 1 (by decide) u575 rfl rfl rfl rfl (Nat.le_of_ble_eq_true rfl) (fs' := [.ref q4, .ref q7, .int 111, .int (-1), .int 0, .int 0, .ref q1, .int 0, .int 0, .ref q2, .ref q3]) rfl dX2_init_68 (fun H locs hw hS => ?_)
  exact r_vret (y := yX2_init) S hr hlk hS (Nat.le_of_ble_eq_true rfl) (Nat.le_of_ble_eq_true rfl) dX2_init_71 ⟨rfl, q1, q2, rq2, q3, rq3, q4, q5, q6, q7, q8, q9, hw⟩
def qX6_init (D : va_G) (cI : Nat → ClassId) (e0 : Nat) (A : Nat → Prop) (live : Nat → Nat → Prop) (adr : Nat → Nat → Nat) (G : Nat → Nat → va_E)  : Option Value → Heap → Prop := fun r H => r = none ∧ ∃ q1 q2 q3 q4 q5 q6 q7 q8 q9 q10 q11 : Nat, HW D A (fun k' i' => (fun k' i' => (fun k' i' => (fun k' i' => (fun k' i' => (fun k' i' => (fun k' i' => (fun k' i' => (fun k' i' => (fun k' i' => (fun k' i' => live k' i' ∨ (k' = 10 ∧ i' = 0)) k' i' ∨ (k' = 8 ∧ i' = 0)) k' i' ∨ (k' = 8 ∧ i' = 1)) k' i' ∨ (k' = 8 ∧ i' = 2)) k' i' ∨ (k' = 8 ∧ i' = 3)) k' i' ∨ (k' = 1 ∧ i' = 0)) k' i' ∨ (k' = 11 ∧ i' = 0)) k' i' ∨ (k' = 2 ∧ i' = 0)) k' i' ∨ (k' = 10 ∧ i' = 2)) k' i' ∨ (k' = 10 ∧ i' = 3)) k' i' ∨ (k' = 10 ∧ i' = 1)) (hU (hU (hU (hU (hU (hU (hU (hU (hU (hU (hU adr 10 0 q1) 8 0 q2) 8 1 q3) 8 2 q4) 8 3 q5) 1 0 q6) 11 0 q7) 2 0 q8) 10 2 q9) 10 3 q10) 10 1 q11) (hU (hU (hU (hU (hU (hU (hU (hU (hU (hU (hU (hU (hU (hU (hU (hU (hU (hU (hU (hU (hU (hU (hU (hU G 10 0 (.inl (cI 0, 6, .inl (fun _ => 0)))) 0 0 (.inr (9, [.ref q1, .int 0, .int 0, .int 0, .int 0, .null, .null, .null, .null, .null, .null, .null]))) 8 0 (.inr (2, [.int 0, .null, .int 0]))) 8 0 (.inr (2, [.int 0, .ref e0, .int 0]))) 0 0 (.inr (9, [.ref q1, .int 0, .int 0, .int 0, .int 0, .ref q2, .null, .null, .null, .null, .null, .null]))) 8 1 (.inr (2, [.int 0, .null, .int 0]))) 8 1 (.inr (2, [.int 0, .ref e0, .int 0]))) 0 0 (.inr (9, [.ref q1, .int 0, .int 0, .int 0, .int 0, .ref q2, .ref q3, .null, .null, .null, .null, .null]))) 8 2 (.inr (2, [.int 0, .null, .int 0]))) 8 2 (.inr (2, [.int 0, .ref e0, .int 0]))) 0 0 (.inr (9, [.ref q1, .int 0, .int 0, .int 0, .int 0, .ref q2, .ref q3, .ref q4, .null, .null, .null, .null]))) 8 3 (.inr (2, [.int 0, .null, .int 0]))) 8 3 (.inr (2, [.int 0, .ref e0, .int 0]))) 0 0 (.inr (9, [.ref q1, .int 0, .int 0, .int 0, .int 0, .ref q2, .ref q3, .ref q4, .ref q5, .null, .null, .null]))) 1 0 (.inr (6, [.null, .int 0]))) 11 0 (.inl (cI 0, 216, .inl (fun _ => 0)))) 1 0 (.inr (6, [.ref q7, .int 0]))) 0 0 (.inr (9, [.ref q1, .int 0, .int 0, .int 0, .int 0, .ref q2, .ref q3, .ref q4, .ref q5, .ref q6, .null, .null]))) 2 0 (.inr (3, [.null, .null]))) 10 2 (.inl (cI 0, 1152, .inl (fun _ => 0)))) 10 3 (.inl (cI 0, 288, .inl (fun _ => 0)))) 2 0 (.inr (3, [.ref q9, .ref q10]))) 10 1 (.inl (cI 0, 24, .inl (fun _ => 0)))) 0 0 (.inr (9, [.ref q1, .int 0, .int 0, .int 0, .int 0, .ref q2, .ref q3, .ref q4, .ref q5, .ref q6, .ref q8, .ref q11]))) H
set_option maxHeartbeats 4000000 in
theorem mtX6_init {live : Nat → Nat → Prop} {adr : Nat → Nat → Nat} {G : Nat → Nat → va_E} {a : Nat}  (hlv : live 0 0) (ha : adr 0 0 = a) (hG : G 0 0 = .inr (9, [.null, .int 0, .int 0, .int 0, .int 0, .null, .null, .null, .null, .null, .null, .null])) : CM l D cI e0 A yX6_init cX6_init 1 none 5 220 11 1702 [.ref a] (HW D A live adr G) (qX6_init D cI e0 A live adr G ) xN := by
  refine CM.of (by decide) (Nat.le_of_ble_eq_true rfl) (fun p e s m below meth c ls FX hw hS hl0 => ?_)
  obtain ⟨S, hg, hr, hlk, hnm, hout⟩ := FX
  have hl0 : lv_has ls 1 [(0, .ref a)] := hl0
  refine lv_aload_n S.1 S.2.1 dX6_init_0 rfl (lv_at hl0 0 rfl) ?_
  refine r_obj S u59 hl0.1 dX6_init_1 (Nat.le_of_ble_eq_true rfl) (Nat.le_of_ble_eq_true rfl) ?_
  refine lv_aload_n S.1 S.2.1 dX6_init_4 rfl (lv_at hl0 0 rfl) ?_
  refine lv_bipush (v := 6) S.1 S.2.1 dX6_init_5 (by decide) ?_
  refine r_inew S hg hS hw 10 0 (n := 6) (N := 6) u88 (by decide) (by decide) (by decide) (Nat.le_of_ble_eq_true rfl) (Nat.le_of_ble_eq_true rfl) dX6_init_7 (fun q1 H hw hS => ?_)
  refine rG_putF S hnm hg hS hw (Or.inl hlv) ((hU_n _ _ (by omega)).trans ha) ((hU_n _ _ (by omega)).trans hG) rfl iWX6 tyX6 tyX6_ok nmX6 0 (by decide) u116 rfl rfl rfl rfl (Nat.le_of_ble_eq_true rfl) (fs' := [.ref q1, .int 0, .int 0, .int 0, .int 0, .null, .null, .null, .null, .null, .null, .null]) rfl dX6_init_9 (fun H locs hw hS => ?_)
  refine lv_aload_n S.1 S.2.1 dX6_init_12 rfl (lv_at hl0 0 rfl) ?_
  refine r_new S hg hS hw 8 0 (ci := 2) (fs := [.int 0, .null, .int 0]) rfl iWJx4a65c tyJx4a65c tyJx4a65c_ok u62 u63 u30 (by decide +kernel) ⟨Nat.le_of_ble_eq_true rfl, Nat.le_of_ble_eq_true rfl⟩ dX6_init_13 (fun q2 H hw hS => ?_)
  refine lv_dup S.1 S.2.1 dX6_init_16 rfl ?_
  refine r_callI (rest := [.ref q2, .ref a]) S hg hS (mtJx4a65c_init_da8c8 (i := 0) (Or.inr ⟨rfl, rfl⟩) (hU_s _ _ _ _) (hU_s _ _ _ _)) u64 u65 u30 u66 rfl hdJx4a65c_init_da8c8 hw ⟨Nat.le_of_ble_eq_true rfl, Nat.le_of_ble_eq_true rfl⟩ ⟨Nat.le_of_ble_eq_true rfl, Nat.le_of_ble_eq_true rfl⟩ hl0.1 (Nat.le_of_ble_eq_true rfl) rfl dX6_init_17 (fun rv H locs hq hS => ?_)
  obtain ⟨rfl, hw⟩ := hq
  refine rG_putF S hnm hg hS hw (Or.inl (Or.inl hlv)) ((hU_n _ _ (by omega)).trans ((hU_n _ _ (by omega)).trans ha)) ((hU_n _ _ (by omega)).trans ((hU_n _ _ (by omega)).trans (hU_s _ _ _ _))) rfl iWX6 tyX6 tyX6_ok nmX6 5 (by decide) u121 rfl rfl rfl rfl (Nat.le_of_ble_eq_true rfl) (fs' := [.ref q1, .int 0, .int 0, .int 0, .int 0, .ref q2, .null, .null, .null, .null, .null, .null]) rfl dX6_init_20 (fun H locs hw hS => ?_)
  refine lv_aload_n S.1 S.2.1 dX6_init_23 rfl (lv_at hl0 0 rfl) ?_
  refine r_new S hg hS hw 8 1 (ci := 2) (fs := [.int 0, .null, .int 0]) rfl iWJx4a65c tyJx4a65c tyJx4a65c_ok u62 u63 u30 (by decide +kernel) ⟨Nat.le_of_ble_eq_true rfl, Nat.le_of_ble_eq_true rfl⟩ dX6_init_24 (fun q3 H hw hS => ?_)
  refine lv_dup S.1 S.2.1 dX6_init_27 rfl ?_
  refine r_callI (rest := [.ref q3, .ref a]) S hg hS (mtJx4a65c_init_da8c8 (i := 1) (Or.inr ⟨rfl, rfl⟩) (hU_s _ _ _ _) (hU_s _ _ _ _)) u64 u65 u30 u66 rfl hdJx4a65c_init_da8c8 hw ⟨Nat.le_of_ble_eq_true rfl, Nat.le_of_ble_eq_true rfl⟩ ⟨Nat.le_of_ble_eq_true rfl, Nat.le_of_ble_eq_true rfl⟩ hl0.1 (Nat.le_of_ble_eq_true rfl) rfl dX6_init_28 (fun rv H locs hq hS => ?_)
  obtain ⟨rfl, hw⟩ := hq
  refine rG_putF S hnm hg hS hw (Or.inl (Or.inl (Or.inl hlv))) ((hU_n _ _ (by omega)).trans ((hU_n _ _ (by omega)).trans ((hU_n _ _ (by omega)).trans ha))) ((hU_n _ _ (by omega)).trans ((hU_n _ _ (by omega)).trans (hU_s _ _ _ _))) rfl iWX6 tyX6 tyX6_ok nmX6 6 (by decide) u122 rfl rfl rfl rfl (Nat.le_of_ble_eq_true rfl) (fs' := [.ref q1, .int 0, .int 0, .int 0, .int 0, .ref q2, .ref q3, .null, .null, .null, .null, .null]) rfl dX6_init_31 (fun H locs hw hS => ?_)
  refine lv_aload_n S.1 S.2.1 dX6_init_34 rfl (lv_at hl0 0 rfl) ?_
  refine r_new S hg hS hw 8 2 (ci := 2) (fs := [.int 0, .null, .int 0]) rfl iWJx4a65c tyJx4a65c tyJx4a65c_ok u62 u63 u30 (by decide +kernel) ⟨Nat.le_of_ble_eq_true rfl, Nat.le_of_ble_eq_true rfl⟩ dX6_init_35 (fun q4 H hw hS => ?_)
  refine lv_dup S.1 S.2.1 dX6_init_38 rfl ?_
  refine r_callI (rest := [.ref q4, .ref a]) S hg hS (mtJx4a65c_init_da8c8 (i := 2) (Or.inr ⟨rfl, rfl⟩) (hU_s _ _ _ _) (hU_s _ _ _ _)) u64 u65 u30 u66 rfl hdJx4a65c_init_da8c8 hw ⟨Nat.le_of_ble_eq_true rfl, Nat.le_of_ble_eq_true rfl⟩ ⟨Nat.le_of_ble_eq_true rfl, Nat.le_of_ble_eq_true rfl⟩ hl0.1 (Nat.le_of_ble_eq_true rfl) rfl dX6_init_39 (fun rv H locs hq hS => ?_)
  obtain ⟨rfl, hw⟩ := hq
  refine rG_putF S hnm hg hS hw (Or.inl (Or.inl (Or.inl (Or.inl hlv)))) ((hU_n _ _ (by omega)).trans ((hU_n _ _ (by omega)).trans ((hU_n _ _ (by omega)).trans ((hU_n _ _ (by omega)).trans ha)))) ((hU_n _ _ (by omega)).trans ((hU_n _ _ (by omega)).trans (hU_s _ _ _ _))) rfl iWX6 tyX6 tyX6_ok nmX6 7 (by decide) u123 rfl rfl rfl rfl (Nat.le_of_ble_eq_true rfl) (fs' := [.ref q1, .int 0, .int 0, .int 0, .int 0, .ref q2, .ref q3, .ref q4, .null, .null, .null, .null]) rfl dX6_init_42 (fun H locs hw hS => ?_)
  refine lv_aload_n S.1 S.2.1 dX6_init_45 rfl (lv_at hl0 0 rfl) ?_
  refine r_new S hg hS hw 8 3 (ci := 2) (fs := [.int 0, .null, .int 0]) rfl iWJx4a65c tyJx4a65c tyJx4a65c_ok u62 u63 u30 (by decide +kernel) ⟨Nat.le_of_ble_eq_true rfl, Nat.le_of_ble_eq_true rfl⟩ dX6_init_46 (fun q5 H hw hS => ?_)
  refine lv_dup S.1 S.2.1 dX6_init_49 rfl ?_
  refine r_callI (rest := [.ref q5, .ref a]) S hg hS (mtJx4a65c_init_da8c8 (i := 3) (Or.inr ⟨rfl, rfl⟩) (hU_s _ _ _ _) (hU_s _ _ _ _)) u64 u65 u30 u66 rfl hdJx4a65c_init_da8c8 hw ⟨Nat.le_of_ble_eq_true rfl, Nat.le_of_ble_eq_true rfl⟩ ⟨Nat.le_of_ble_eq_true rfl, Nat.le_of_ble_eq_true rfl⟩ hl0.1 (Nat.le_of_ble_eq_true rfl) rfl dX6_init_50 (fun rv H locs hq hS => ?_)
  obtain ⟨rfl, hw⟩ := hq
  refine rG_putF S hnm hg hS hw (Or.inl (Or.inl (Or.inl (Or.inl (Or.inl hlv))))) ((hU_n _ _ (by omega)).trans ((hU_n _ _ (by omega)).trans ((hU_n _ _ (by omega)).trans ((hU_n _ _ (by omega)).trans ((hU_n _ _ (by omega)).trans ha))))) ((hU_n _ _ (by omega)).trans ((hU_n _ _ (by omega)).trans (hU_s _ _ _ _))) rfl iWX6 tyX6 tyX6_ok nmX6 8 (by decide) u124 rfl rfl rfl rfl (Nat.le_of_ble_eq_true rfl) (fs' := [.ref q1, .int 0, .int 0, .int 0, .int 0, .ref q2, .ref q3, .ref q4, .ref q5, .null, .null, .null]) rfl dX6_init_53 (fun H locs hw hS => ?_)
  refine lv_aload_n S.1 S.2.1 dX6_init_56 rfl (lv_at hl0 0 rfl) ?_
  refine r_new S hg hS hw 1 0 (ci := 6) (fs := [.null, .int 0]) rfl iWX3 tyX3 tyX3_ok u89 u90 u31 (by decide +kernel) ⟨Nat.le_of_ble_eq_true rfl, Nat.le_of_ble_eq_true rfl⟩ dX6_init_57 (fun q6 H hw hS => ?_)
  refine lv_dup S.1 S.2.1 dX6_init_60 rfl ?_
  refine r_callIN (rest := [.ref q6, .ref a]) S hg hS (mtX3_init  (Or.inr ⟨rfl, rfl⟩) (hU_s _ _ _ _) (hU_s _ _ _ _)) hg.2.2.2.2.2.2.2.1.1 u92 u31 u93 rfl hdX3_init hw ⟨Nat.le_of_ble_eq_true rfl, Nat.le_of_ble_eq_true rfl⟩ ⟨Nat.le_of_ble_eq_true rfl, Nat.le_of_ble_eq_true rfl⟩ hl0.1 (Nat.le_of_ble_eq_true rfl) rfl dX6_init_61 (fun rv H locs hq hS => ?_)
  obtain ⟨rfl, q7, hw⟩ := hq
  refine rG_putF S hnm hg hS hw (Or.inl (Or.inl (Or.inl (Or.inl (Or.inl (Or.inl (Or.inl hlv))))))) ((hU_n _ _ (by omega)).trans ((hU_n _ _ (by omega)).trans ((hU_n _ _ (by omega)).trans ((hU_n _ _ (by omega)).trans ((hU_n _ _ (by omega)).trans ((hU_n _ _ (by omega)).trans ((hU_n _ _ (by omega)).trans ha))))))) ((hU_n _ _ (by omega)).trans ((hU_n _ _ (by omega)).trans ((hU_n _ _ (by omega)).trans (hU_s _ _ _ _)))) rfl iWX6 tyX6 tyX6_ok nmX6 9 (by decide) u125 rfl rfl rfl rfl (Nat.le_of_ble_eq_true rfl) (fs' := [.ref q1, .int 0, .int 0, .int 0, .int 0, .ref q2, .ref q3, .ref q4, .ref q5, .ref q6, .null, .null]) rfl dX6_init_64 (fun H locs hw hS => ?_)
  refine lv_aload_n S.1 S.2.1 dX6_init_67 rfl (lv_at hl0 0 rfl) ?_
  refine r_new S hg hS hw 2 0 (ci := 3) (fs := [.null, .null]) rfl iWX0 tyX0 tyX0_ok u103 u104 u32 (by decide +kernel) ⟨Nat.le_of_ble_eq_true rfl, Nat.le_of_ble_eq_true rfl⟩ dX6_init_68 (fun q8 H hw hS => ?_)
  refine lv_dup S.1 S.2.1 dX6_init_71 rfl ?_
  refine r_callIN (rest := [.ref q8, .ref a]) S hg hS (mtX0_init  (Or.inr ⟨rfl, rfl⟩) (hU_s _ _ _ _) (hU_s _ _ _ _)) hg.2.2.2.2.2.2.2.1.2 u106 u32 u107 rfl hdX0_init hw ⟨Nat.le_of_ble_eq_true rfl, Nat.le_of_ble_eq_true rfl⟩ ⟨Nat.le_of_ble_eq_true rfl, Nat.le_of_ble_eq_true rfl⟩ hl0.1 (Nat.le_of_ble_eq_true rfl) rfl dX6_init_72 (fun rv H locs hq hS => ?_)
  obtain ⟨rfl, q9, q10, hw⟩ := hq
  refine rG_putF S hnm hg hS hw (Or.inl (Or.inl (Or.inl (Or.inl (Or.inl (Or.inl (Or.inl (Or.inl (Or.inl (Or.inl hlv)))))))))) ((hU_n _ _ (by omega)).trans ((hU_n _ _ (by omega)).trans ((hU_n _ _ (by omega)).trans ((hU_n _ _ (by omega)).trans ((hU_n _ _ (by omega)).trans ((hU_n _ _ (by omega)).trans ((hU_n _ _ (by omega)).trans ((hU_n _ _ (by omega)).trans ((hU_n _ _ (by omega)).trans ((hU_n _ _ (by omega)).trans ha)))))))))) ((hU_n _ _ (by omega)).trans ((hU_n _ _ (by omega)).trans ((hU_n _ _ (by omega)).trans ((hU_n _ _ (by omega)).trans (hU_s _ _ _ _))))) rfl iWX6 tyX6 tyX6_ok nmX6 10 (by decide) u126 rfl rfl rfl rfl (Nat.le_of_ble_eq_true rfl) (fs' := [.ref q1, .int 0, .int 0, .int 0, .int 0, .ref q2, .ref q3, .ref q4, .ref q5, .ref q6, .ref q8, .null]) rfl dX6_init_75 (fun H locs hw hS => ?_)
  refine lv_aload_n S.1 S.2.1 dX6_init_78 rfl (lv_at hl0 0 rfl) ?_
  refine lv_bipush (v := 24) S.1 S.2.1 dX6_init_79 (by decide) ?_
  refine r_inew S hg hS hw 10 1 (n := 24) (N := 24) u88 (by decide) (by decide) (by decide) (Nat.le_of_ble_eq_true rfl) (Nat.le_of_ble_eq_true rfl) dX6_init_81 (fun q11 H hw hS => ?_)
  refine rG_putF S hnm hg hS hw (Or.inl (Or.inl (Or.inl (Or.inl (Or.inl (Or.inl (Or.inl (Or.inl (Or.inl (Or.inl (Or.inl hlv))))))))))) ((hU_n _ _ (by omega)).trans ((hU_n _ _ (by omega)).trans ((hU_n _ _ (by omega)).trans ((hU_n _ _ (by omega)).trans ((hU_n _ _ (by omega)).trans ((hU_n _ _ (by omega)).trans ((hU_n _ _ (by omega)).trans ((hU_n _ _ (by omega)).trans ((hU_n _ _ (by omega)).trans ((hU_n _ _ (by omega)).trans ((hU_n _ _ (by omega)).trans ha))))))))))) ((hU_n _ _ (by omega)).trans (hU_s _ _ _ _)) rfl iWX6 tyX6 tyX6_ok nmX6 11 (by decide) u127 rfl rfl rfl rfl (Nat.le_of_ble_eq_true rfl) (fs' := [.ref q1, .int 0, .int 0, .int 0, .int 0, .ref q2, .ref q3, .ref q4, .ref q5, .ref q6, .ref q8, .ref q11]) rfl dX6_init_83 (fun H locs hw hS => ?_)
  rw [hU_ov (α := va_E) _ (k := 0) (i := 0) (k2 := 10) (i2 := 1) (by omega)] at hw
  exact r_vret (y := yX6_init) S hr hlk hS (Nat.le_of_ble_eq_true rfl) (Nat.le_of_ble_eq_true rfl) dX6_init_86 ⟨rfl, q1, q2, q3, q4, q5, q6, q7, q8, q9, q10, q11, hw⟩

end CTOR
