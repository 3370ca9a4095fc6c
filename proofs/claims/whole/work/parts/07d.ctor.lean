section CTOR
variable {p : Program} {l : Launch} {e : Env} {R : Room} {s : State} {m : MethodId} {args : Array Value} {below : List Frame} {meth : Method} {c : Code} {H : Heap} {locs : List Loc} {cells slots : Nat} {Q : State → Prop}
variable {D : va_G} {cI : Nat → ClassId} {e0 : Nat} {A : Nat → Prop} {ad av : Nat → Nat → Nat} {K M : KS} {ap o : Int64} {od : UInt64} {adr adr' : Nat → Nat → Nat} {G G' : Nat → Nat → va_E} {live live' : Nat → Nat → Prop}
variable {cc : ByteArray} {nL pc : Nat} {ls : Array Slot} {rest : List Value} {own : String} {index : Nat}
theorem hU_ov {α : Type} (f : Nat → Nat → α) {k i k2 i2 : Nat} (h : ¬ (k2 = k ∧ i2 = i)) (x y z : α) : hU (hU (hU f k i x) k2 i2 y) k i z = hU (hU f k2 i2 y) k i z := by
  funext a b
  by_cases h1 : a = k ∧ b = i
  · obtain ⟨rfl, rfl⟩ := h1
    rw [hU_s, hU_s]
  · rw [hU_n _ _ h1, hU_n _ _ h1]
    by_cases h2 : a = k2 ∧ b = i2
    · obtain ⟨rfl, rfl⟩ := h2
      rw [hU_s, hU_s]
    · rw [hU_n _ _ h2, hU_n _ _ h2, hU_n _ _ h1]
theorem hU_hU {α : Type} (f : Nat → Nat → α) (k i : Nat) (x y : α) : hU (hU f k i x) k i y = hU f k i y := by
  funext a b
  by_cases h1 : a = k ∧ b = i
  · obtain ⟨rfl, rfl⟩ := h1
    rw [hU_s, hU_s]
  · rw [hU_n _ _ h1, hU_n _ _ h1, hU_n _ _ h1]
/-- java.lang.Object's own constructor -/
theorem r_obj (S : CallFix p m c cc nL s args WU own) {a : Nat} (k1 : Cond.methodLink own index Lib.objectInit ∈ WU) (hsz : ls.size = nL) (hd : decode cc pc = .ok (.invokespecial index, 3)) (hf : 1 ≤ R.frames) (hlo : (rest.map fun v => v.category).sum + 12 ≤ R.locals) (kk : W p l e R s m args below meth c H locs cells slots Q (F0 m (pc + 3) ls rest)) : W p l e R s m args below meth c H locs cells slots Q (F0 m pc ls (.ref a :: rest)) :=
  W.objInit S.1 S.2.1 S.2.2.2.1 (S.2.2.2.2 _ k1) (S.2.2.2.2 _ u79) (S.2.2.2.2 _ u80) rfl (hsz.trans S.2.2.1.symm) rfl hd hf (by show 2 * 0 + _ + 12 ≤ _; omega) kk
theorem r_new (S : CallFix p m c cc nL s args WU own) (hg : GI D cI e0 A s s.heap) (hS : va_S A s.heap H locs) (hw : HW D A live adr G H) (k i : Nat) {ci : Nat} {fs : List Value} {C : String} {T : u_T} {N : Nat} (hc : vwCl[ci]? = some (C, T, N)) (hin : ∀ w ∈ u_ws C T N, w ∈ WU) (ty0 : Nat → FieldType) (hty : ∀ k, k < N → parseFieldDescriptor (T k).2.2.1 = some (ty0 k)) (k1 : Cond.classLink own index C ∈ WU) (k2 : Cond.instantiable C N ∈ WU) (k3 : Cond.initialized C ∈ WU) (hfs : ∀ j, j < N → defaultValue (ty0 j) = vp_V fs j) (hcs : cells + 1 ≤ R.cells ∧ slots + N ≤ R.slots) (hd : decode cc pc = .ok (.new index, 3))
    (kk : ∀ (q : Nat) (H1 : Heap), HW D A (fun k' i' => live k' i' ∨ (k' = k ∧ i' = i)) (hU adr k i q) (hU G k i (.inr (ci, fs))) H1 → va_S A s.heap H1 locs → W p l e R s m args below meth c H1 locs (cells + 1) (slots + N) Q (F0 m (pc + 3) ls (.ref q :: rest))) : W p l e R s m args below meth c H locs cells slots Q (F0 m pc ls rest) := by
  obtain ⟨ids, h1, h2, h3⟩ := hw
  exact va_new S.1 S.2.1 S.2.2.2.2 hin ty0 hty S.2.2.2.1 (S.2.2.2.2 _ k1) (S.2.2.2.2 _ k2) (S.2.2.2.2 _ k3) hg.1 h2 h3 hS hg.2.2.2.2.2.2.2.2.2 hc hfs hcs.1 hcs.2 hd (fun q H1 hP hD hS => kk q H1 (HW.push h1 hP hD (fun _ _ h => h)) hS)
theorem r_cnew (S : CallFix p m c cc nL s args WU own) (hg : GI D cI e0 A s s.heap) (hS : va_S A s.heap H locs) (hw : HW D A live adr G H) (k i : Nat) {n : Int32} {N : Nat} (hl : Cond.arrayClass .char ∈ WU) (hn : ¬ n < 0) (hN : n.toNatClampNeg = N) (hb : N * 2 ≤ 536870912) (hc : cells + 1 ≤ R.cells) (hs : slots + N ≤ R.slots) (hdg : decode cc pc = .ok (.newarray .char, 2))
    (kk : ∀ (q : Nat) (H1 : Heap), HW D A (fun k' i' => live k' i' ∨ (k' = k ∧ i' = i)) (hU adr k i q) (hU G k i (.inl (cI 1, N, .inl (fun _ => 0)))) H1 → va_S A s.heap H1 locs → W p l e R s m args below meth c H1 locs (cells + 1) (slots + N) Q (F0 m (pc + 2) ls (.ref q :: rest))) : W p l e R s m args below meth c H locs cells slots Q (F0 m pc ls (.int n :: rest)) := by
  obtain ⟨ids, h1, h2, h3⟩ := hw
  refine va_newa (atype := .char) (ty := .char) (a0 := (N, .inl (fun _ => 0))) S.1 S.2.1 (S.2.2.2.2 _ hl) rfl hg.1 h2 h3 hS hg.2.2.2.2.2.2.2.2.2 (fun _ => rfl) hn hN hb hc hs hdg (fun q cA H1 hK hP hD hS => ?_)
  have e9 : cA = cI 1 := Option.some.inj (Eq.trans (Eq.symm ((hK.2 6 _ rfl).2 : s.vm.findClass _ = some cA)) ((hg.1.2 1 _ rfl).2 : s.vm.findClass _ = some (cI 1)))
  subst e9
  exact kk q H1 (HW.push h1 hP hD (fun _ _ h => h)) hS
/-- a constructor, called -/
theorem r_callI {y : MethodName} {bytes : ByteArray} {maxL : Nat} {fr lo mc ms : Nat} {As : List Value} {b : Nat} {P : Heap → Prop} {QQ : Option Value → Heap → Prop} {st0 : List Value}
    (S : CallFix p m c cc nL s args WU own) (hg : GI D cI e0 A s s.heap) (hS : va_S A s.heap H locs) (hM : CM l D cI e0 A y bytes maxL none fr lo mc ms (.ref b :: As) P QQ xN)
    (k1 : Cond.methodLink own index y ∈ WU) (k2 : Cond.instanceMethod y ∈ WU) (k4 : Cond.initialized y.cls ∈ WU) (k5 : Cond.code y bytes maxL none ∈ WU) (hy1 : y.name = "<init>")
    (hd : y.cls ≠ "java/lang/invoke/MethodHandle" ∧ y.cls ≠ "java/lang/invoke/VarHandle" ∧ (parseMethodDescriptor y.desc).map (fun d => d.parameters.length) = some As.length)
    (hP : P H) (hR : fr + 1 ≤ R.frames ∧ 8 + (maxL + 11) + lo ≤ R.locals) (hcs : cells + mc ≤ R.cells ∧ slots + ms ≤ R.slots)
    (hsize : ls.size = nL) (hrest : (rest.map fun v => v.category).sum ≤ 8) (hst : st0 = As.reverse ++ .ref b :: rest) (hdg : decode cc pc = .ok (.invokespecial index, 3))
    (kk : ∀ (r : Option Value) (H1 : Heap) (locs1 : List Loc), QQ r H1 → va_S A s.heap H1 locs1 → W p l e R s m args below meth c H1 locs1 (cells + mc) (slots + ms) Q (F0 m (pc + 3) ls (r.toList ++ rest))) : W p l e R s m args below meth c H locs cells slots Q (F0 m pc ls st0) := by
  have ht := S.2.2.2.2
  have hgood : ∀ w ∈ Cond.code y bytes maxL none :: WU, ∀ (a' : Array Value) (U : State), s.WarmedH U.vm → w.before a' U = true := by
    intro w hw a' U hW
    have hw2 : w ∈ WU := by
      rcases List.mem_cons.mp hw with rfl | h
      · exact k5
      · exact h
    exact word_at hW (good_of_word (WU_good w hw2)) (ht w hw2)
  have hM2 : Met l y (Cond.code y bytes maxL none :: WU) ({ frames := fr, cells := mc, slots := ms, locals := lo }) (va_Pc (.ref b :: As) (fun U => GI D cI e0 A U U.heap ∧ P U.heap)) (fun _ st oc t => (∃ r, oc = .returned r ∧ QQ r t.heap) ∧ va_F A st t) mc ms A := by
    intro p' e' h1 h2 h3 s' m' a' b' h4 h5 h6 h7
    obtain ⟨n9, o9, q1, q2, q3, q4⟩ := hM p' e' h1 h2 h3 s' m' a' b' h4 h5 h6 h7
    refine ⟨n9, o9, q1, q2, q3, ?_⟩
    rcases q4 with h | ⟨q, -, E, ce, L, hx, -⟩
    · exact h
    · exact absurd hx.1 id
  have hb : FrameBlind (va_Pc (.ref b :: As) (fun U => GI D cI e0 A U U.heap ∧ P U.heap)) := fun a U g mk h => ⟨h.1, h.2.1.mv (State.WarmedH.refl U) (Nat.le_refl _) (fun _ _ _ => rfl), h.2.2⟩
  have hrun := va_runI (e := e) (meth := meth) (below := below) (locs := locs) (cells := cells) (slots := slots) (g := F0 m pc ls st0) S hM2 ⟨⟨rfl, rfl, hR.1, hR.2, hgood, List.mem_cons_self, ht _ k5, ht _ k4, ⟨hd.1, hd.2.1⟩, (fun sig h => by have h2 := hd.2.2; rw [h] at h2; exact (Option.some.inj h2).symm), ht _ k1⟩, hy1, ht _ k2⟩ ⟨hb, fun U hU hW => ⟨rfl, hg.at hS hU hW, by rw [hU]; exact hP⟩⟩ rfl rfl hsize hst (lv_room hrest) hdg hcs
  intro T hT X
  obtain ⟨v, st₀, t, T', L, h0, X', hL, e1, e2, ⟨⟨r, hv, hq⟩, hF⟩, st⟩ := hrun T hT X
  cases hv
  obtain ⟨q1, q2, q3⟩ := vx_keep h0 e1 hS (fun _ _ h => h) (fun _ h => h) hL hF
  obtain ⟨t2, a1, b1⟩ := kk v T'.heap (locs ++ L) (by rw [e1]; exact hq) q3 T' rfl X'
  exact ⟨t2, st t2 a1, b1⟩
end CTOR
