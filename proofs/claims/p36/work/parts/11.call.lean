/-! The law's helper methods: contracts of methods that have a table of handlers. -/
section HELP
variable {p : Program} {l : Launch} {e : Env} {R : Room} {s : State} {m : MethodId} {args : Array Value} {below : List Frame} {meth : Method} {c : Code} {H : Heap} {locs : List Loc} {cells slots : Nat} {Q : State → Prop}
variable {D : va_G} {cI : Nat → ClassId} {e0 : Nat} {A : Nat → Prop} {ad av : Nat → Nat → Nat} {K M : KS} {ap o : Int64} {od : UInt64} {adr : Nat → Nat → Nat} {G : Nat → Nat → va_E} {live : Nat → Nat → Prop}
variable {cc : ByteArray} {nL pc : Nat} {ls : Array Slot} {rest : List Value} {own : String} {index : Nat}
def qW (D : va_G) (cI : Nat → ClassId) (e0 : Nat) (A : Nat → Prop) (ad : Nat → Nat → Nat) (M : KS) (ap o : Int64) (od : UInt64) (post : Int32 → KS → Prop) (rv : Option Value) (H : Heap) : Prop := ∃ r K, ∃ ad' : Nat → Nat → Nat, rv = some (.int r) ∧ post r K ∧ (ad 0 0 = ad' 0 0 ∧ ad 16 0 = ad' 16 0) ∧ HT D cI e0 A ad' K M ap o od H
def CW (l : Launch) (D : va_G) (cI : Nat → ClassId) (e0 : Nat) (A : Nat → Prop) (y : MethodName) (bytes : ByteArray) (maxL : Nat) (ret : Option FieldType) (hh : List (Nat × Nat × Nat × Nat)) (fr lo mc ms : Nat) (av : List Value) (P : Heap → Prop) (QQ : Option Value → Heap → Prop) : Prop :=
  vx_Met l y (Cond.codeWith y bytes maxL ret hh :: WU) ({ frames := fr, cells := mc, slots := ms, locals := lo }) (va_Pc av (fun U => GI D cI e0 A U U.heap ∧ P U.heap)) (fun _ st oc t => (∃ r, oc = .returned r ∧ QQ r t.heap) ∧ va_F A st t) (fun E st t => xN E t.heap ∧ va_F A st t) mc ms A
def EW (p : Program) (l : Launch) (D : va_G) (cI : Nat → ClassId) (e0 : Nat) (A : Nat → Prop) (m : MethodId) (meth : Method) (c : Code) (s : State) (args : Array Value) (y : MethodName) (cc : ByteArray) (nL : Nat) (ret : Option FieldType) (hh : List (Nat × Nat × Nat × Nat)) : Prop :=
  CallFix p m c cc nL s args WU y.cls ∧ GI D cI e0 A s s.heap ∧ meth.sig.returnType = ret ∧ meth.locks = false ∧ meth.name = y.name ∧ c.exceptionTable.toList = hh.map (fun x => (⟨x.1, x.2.1, x.2.2.1, x.2.2.2⟩ : ExceptionTableEntry))
theorem CW.of {y : MethodName} {bytes : ByteArray} {maxL : Nat} {ret : Option FieldType} {hh : List (Nat × Nat × Nat × Nat)} {fr lo mc ms : Nat} {av : List Value} {P : Heap → Prop} {QQ : Option Value → Heap → Prop} (hy : plainName y.cls = true) (hav : (lg_sl av).length ≤ maxL)
    (body : ∀ (p : Program) (e : Env) (s : State) (m : MethodId) (below : List Frame) (meth : Method) (c : Code) (ls : Array Slot), EW p l D cI e0 A m meth c s av.toArray y bytes maxL ret hh → P s.heap → va_S A s.heap s.heap [] → lv_has ls maxL (lv_args 0 av) →
      W p l e ({ frames := fr, cells := mc, slots := ms, locals := lo }) s m av.toArray below meth c s.heap [] 0 0 (vx_MQ below (fun _ st oc t => (∃ r, oc = .returned r ∧ QQ r t.heap) ∧ va_F A st t) (fun E st t => xN E t.heap ∧ va_F A st t) av.toArray s mc ms A) (F0 m 0 ls [])) : CW l D cI e0 A y bytes maxL ret hh fr lo mc ms av P QQ := by
  refine vx_ofWH (cc := bytes) (maxL := maxL) (ret := ret) (hh := hh) hy rfl ?_
  intro p e s m args below meth c s₁ B hml hv
  obtain ⟨rfl, hg, hP⟩ := hv
  have hts := atoms_spec (ws := Cond.codeWith y bytes maxL ret hh :: WU) B.pre
  rw [lg_entry_eq]
  exact body p e s m below meth c _ ⟨⟨B.exec, B.bytes, hml, findClass_of_methodNamed B.named, fun w hw => hts w (List.mem_cons_of_mem _ hw)⟩, hg, B.returns, B.notSynchronized, (name_of_methodNamed B.named B.method).1, (vx_table (x := y) B (hts _ List.mem_cons_self)).trans rfl⟩ hP va_S.rf (lv_entry av hav)
theorem r_callSW {y : MethodName} {bytes : ByteArray} {maxL : Nat} {ret : Option FieldType} {hh : List (Nat × Nat × Nat × Nat)} {fr lo mc ms : Nat} {As : List Value} {P : Heap → Prop} {QQ : Option Value → Heap → Prop} {st0 : List Value} {index : Nat}
    (S : CallFix p m c cc nL s args WU own) (hg : GI D cI e0 A s s.heap) (hS : va_S A s.heap H locs) (hM : CW l D cI e0 A y bytes maxL ret hh fr lo mc ms As P QQ)
    (k1 : Cond.methodLink own index y ∈ WU) (k2 : Cond.static y ∈ WU) (k4 : Cond.initialized y.cls ∈ WU) (k5 : Cond.codeWith y bytes maxL ret hh ∈ WU)
    (hd : y.cls ≠ "java/lang/invoke/MethodHandle" ∧ y.cls ≠ "java/lang/invoke/VarHandle" ∧ (parseMethodDescriptor y.desc).map (fun d => d.parameters.length) = some As.length)
    (hP : P H) (hR : fr + 1 ≤ R.frames ∧ 8 + (maxL + 11) + lo ≤ R.locals) (hcs : cells + mc ≤ R.cells ∧ slots + ms ≤ R.slots)
    (hsize : ls.size = nL) (hrest : (rest.map fun v => v.category).sum ≤ 8) (hst : st0 = As.reverse ++ rest) (hdg : decode cc pc = .ok (.invokestatic index, 3))
    (kk : ∀ (r : Option Value) (H1 : Heap) (locs1 : List Loc), QQ r H1 → va_S A s.heap H1 locs1 → W p l e R s m args below meth c H1 locs1 (cells + mc) (slots + ms) Q (F0 m (pc + 3) ls (r.toList ++ rest))) : W p l e R s m args below meth c H locs cells slots Q (F0 m pc ls st0) := by
  have hcw : vx_CSW R s args own index y bytes maxL ret hh (Cond.codeWith y bytes maxL ret hh :: WU) ({ frames := fr, cells := mc, slots := ms, locals := lo }) mc ms As.length := by
    have ht := S.2.2.2.2
    have hgood : ∀ w ∈ Cond.codeWith y bytes maxL ret hh :: WU, ∀ (a' : Array Value) (U : State), s.WarmedH U.vm → w.before a' U = true := by
      intro w hw a' U hW
      have hw2 : w ∈ WU := by
        rcases List.mem_cons.mp hw with rfl | h
        · exact k5
        · exact h
      exact word_at hW (good_of_word (WU_good w hw2)) (ht w hw2)
    exact ⟨⟨rfl, rfl, hR.1, hR.2, hgood, List.mem_cons_self⟩, ht _ k5, ht _ k4, ⟨hd.1, hd.2.1⟩, (fun sig h => by have h2 := hd.2.2; rw [h] at h2; exact (Option.some.inj h2).symm), ht _ k1, ht _ k2⟩
  have hb : FrameBlind (va_Pc As (fun U => GI D cI e0 A U U.heap ∧ P U.heap)) := fun a U g mk h => ⟨h.1, h.2.1.mv (State.WarmedH.refl U) (Nat.le_refl _) (fun _ _ _ => rfl), h.2.2⟩
  have hrun := vx_runSX (e := e) (meth := meth) (below := below) (locs := locs) (cells := cells) (slots := slots) (g := F0 m pc ls st0) S hM hcw ⟨hb, fun U hU hW => ⟨rfl, hg.at hS hU hW, by rw [hU]; exact hP⟩⟩ rfl rfl hsize hst (lv_room hrest) hdg hcs
  intro T hT X
  rcases hrun T hT X with ⟨v, st₀, t, T', L, h0, X', hL, e1, e2, ⟨⟨r, hv, hq⟩, hF⟩, st⟩ | ⟨q, st₀, t, T', L, E, ce, h0, X', hL, e1, e2, ⟨hx, hF⟩, hce, hcv, hcl, st⟩
  · cases hv
    obtain ⟨q1, q2, q3⟩ := vx_keep h0 e1 hS (fun _ _ h => h) (fun _ h => h) hL hF
    obtain ⟨t2, a1, b1⟩ := kk v T'.heap (locs ++ L) (by rw [e1]; exact hq) q3 T' rfl X'
    exact ⟨t2, st t2 a1, b1⟩
  · exact hx.elim
end HELP

theorem dL_call_0 : decode cL_call 0 = .ok (.iload_n 1, 1) := by decide +kernel
theorem dL_call_1 : decode cL_call 1 = .ok (.tableswitch 287 0 24 #[115, 121, 128, 134, 140, 146, 152, 158, 166, 173, 180, 186, 193, 199, 205, 221, 227, 233, 239, 245, 251, 260, 267, 274, 280], 115) := by decide +kernel
theorem dL_call_116 : decode cL_call 116 = .ok (.aload_n 0, 1) := by decide +kernel
theorem dL_call_117 : decode cL_call 117 = .ok (.iload_n 2, 1) := by decide +kernel
theorem dL_call_118 : decode cL_call 118 = .ok (.invokevirtual 9, 3) := by decide +kernel
theorem dL_call_121 : decode cL_call 121 = .ok (.ireturn, 1) := by decide +kernel
theorem dL_call_122 : decode cL_call 122 = .ok (.aload_n 0, 1) := by decide +kernel
theorem dL_call_123 : decode cL_call 123 = .ok (.iload_n 2, 1) := by decide +kernel
theorem dL_call_124 : decode cL_call 124 = .ok (.iload_n 3, 1) := by decide +kernel
theorem dL_call_125 : decode cL_call 125 = .ok (.invokevirtual 15, 3) := by decide +kernel
theorem dL_call_128 : decode cL_call 128 = .ok (.ireturn, 1) := by decide +kernel
theorem dL_call_129 : decode cL_call 129 = .ok (.aload_n 0, 1) := by decide +kernel
theorem dL_call_130 : decode cL_call 130 = .ok (.iload_n 2, 1) := by decide +kernel
theorem dL_call_131 : decode cL_call 131 = .ok (.invokevirtual 19, 3) := by decide +kernel
theorem dL_call_134 : decode cL_call 134 = .ok (.ireturn, 1) := by decide +kernel
theorem dL_call_135 : decode cL_call 135 = .ok (.aload_n 0, 1) := by decide +kernel
theorem dL_call_136 : decode cL_call 136 = .ok (.iload_n 2, 1) := by decide +kernel
theorem dL_call_137 : decode cL_call 137 = .ok (.invokevirtual 22, 3) := by decide +kernel
theorem dL_call_140 : decode cL_call 140 = .ok (.ireturn, 1) := by decide +kernel
theorem dL_call_141 : decode cL_call 141 = .ok (.aload_n 0, 1) := by decide +kernel
theorem dL_call_142 : decode cL_call 142 = .ok (.iload_n 2, 1) := by decide +kernel
theorem dL_call_143 : decode cL_call 143 = .ok (.invokevirtual 25, 3) := by decide +kernel
theorem dL_call_146 : decode cL_call 146 = .ok (.ireturn, 1) := by decide +kernel
theorem dL_call_147 : decode cL_call 147 = .ok (.aload_n 0, 1) := by decide +kernel
theorem dL_call_148 : decode cL_call 148 = .ok (.iload_n 2, 1) := by decide +kernel
theorem dL_call_149 : decode cL_call 149 = .ok (.invokevirtual 29, 3) := by decide +kernel
theorem dL_call_152 : decode cL_call 152 = .ok (.ireturn, 1) := by decide +kernel
theorem dL_call_153 : decode cL_call 153 = .ok (.aload_n 0, 1) := by decide +kernel
theorem dL_call_154 : decode cL_call 154 = .ok (.iload_n 2, 1) := by decide +kernel
theorem dL_call_155 : decode cL_call 155 = .ok (.invokevirtual 32, 3) := by decide +kernel
theorem dL_call_158 : decode cL_call 158 = .ok (.ireturn, 1) := by decide +kernel
theorem dL_call_159 : decode cL_call 159 = .ok (.aload_n 0, 1) := by decide +kernel
theorem dL_call_160 : decode cL_call 160 = .ok (.iload_n 2, 1) := by decide +kernel
theorem dL_call_161 : decode cL_call 161 = .ok (.iload_n 3, 1) := by decide +kernel
theorem dL_call_162 : decode cL_call 162 = .ok (.i2c, 1) := by decide +kernel
theorem dL_call_163 : decode cL_call 163 = .ok (.invokevirtual 35, 3) := by decide +kernel
theorem dL_call_166 : decode cL_call 166 = .ok (.ireturn, 1) := by decide +kernel
theorem dL_call_167 : decode cL_call 167 = .ok (.aload_n 0, 1) := by decide +kernel
theorem dL_call_168 : decode cL_call 168 = .ok (.iload_n 2, 1) := by decide +kernel
theorem dL_call_169 : decode cL_call 169 = .ok (.iload_n 3, 1) := by decide +kernel
theorem dL_call_170 : decode cL_call 170 = .ok (.invokevirtual 39, 3) := by decide +kernel
theorem dL_call_173 : decode cL_call 173 = .ok (.ireturn, 1) := by decide +kernel
theorem dL_call_174 : decode cL_call 174 = .ok (.aload_n 0, 1) := by decide +kernel
theorem dL_call_175 : decode cL_call 175 = .ok (.iload_n 2, 1) := by decide +kernel
theorem dL_call_176 : decode cL_call 176 = .ok (.iload_n 3, 1) := by decide +kernel
theorem dL_call_177 : decode cL_call 177 = .ok (.invokevirtual 42, 3) := by decide +kernel
theorem dL_call_180 : decode cL_call 180 = .ok (.ireturn, 1) := by decide +kernel
theorem dL_call_181 : decode cL_call 181 = .ok (.aload_n 0, 1) := by decide +kernel
theorem dL_call_182 : decode cL_call 182 = .ok (.iload_n 2, 1) := by decide +kernel
theorem dL_call_183 : decode cL_call 183 = .ok (.invokevirtual 45, 3) := by decide +kernel
theorem dL_call_186 : decode cL_call 186 = .ok (.ireturn, 1) := by decide +kernel
theorem dL_call_187 : decode cL_call 187 = .ok (.aload_n 0, 1) := by decide +kernel
theorem dL_call_188 : decode cL_call 188 = .ok (.iload_n 2, 1) := by decide +kernel
theorem dL_call_189 : decode cL_call 189 = .ok (.iload_n 3, 1) := by decide +kernel
theorem dL_call_190 : decode cL_call 190 = .ok (.invokevirtual 48, 3) := by decide +kernel
theorem dL_call_193 : decode cL_call 193 = .ok (.ireturn, 1) := by decide +kernel
theorem dL_call_194 : decode cL_call 194 = .ok (.aload_n 0, 1) := by decide +kernel
theorem dL_call_195 : decode cL_call 195 = .ok (.iload_n 2, 1) := by decide +kernel
theorem dL_call_196 : decode cL_call 196 = .ok (.invokevirtual 51, 3) := by decide +kernel
theorem dL_call_199 : decode cL_call 199 = .ok (.ireturn, 1) := by decide +kernel
theorem dL_call_200 : decode cL_call 200 = .ok (.aload_n 0, 1) := by decide +kernel
theorem dL_call_201 : decode cL_call 201 = .ok (.iload_n 2, 1) := by decide +kernel
theorem dL_call_202 : decode cL_call 202 = .ok (.invokevirtual 54, 3) := by decide +kernel
theorem dL_call_205 : decode cL_call 205 = .ok (.ireturn, 1) := by decide +kernel
theorem dL_call_206 : decode cL_call 206 = .ok (.aload_n 0, 1) := by decide +kernel
theorem dL_call_207 : decode cL_call 207 = .ok (.iload_n 2, 1) := by decide +kernel
theorem dL_call_208 : decode cL_call 208 = .ok (.iload_n 3, 1) := by decide +kernel
theorem dL_call_209 : decode cL_call 209 = .ok (.iconst 1, 1) := by decide +kernel
theorem dL_call_210 : decode cL_call 210 = .ok (.if_icmp .ne 7, 3) := by decide +kernel
theorem dL_call_213 : decode cL_call 213 = .ok (.iconst 1, 1) := by decide +kernel
theorem dL_call_214 : decode cL_call 214 = .ok (.goto 4, 3) := by decide +kernel
theorem dL_call_217 : decode cL_call 217 = .ok (.iconst 0, 1) := by decide +kernel
theorem dL_call_218 : decode cL_call 218 = .ok (.invokevirtual 57, 3) := by decide +kernel
theorem dL_call_221 : decode cL_call 221 = .ok (.ireturn, 1) := by decide +kernel
theorem dL_call_222 : decode cL_call 222 = .ok (.aload_n 0, 1) := by decide +kernel
theorem dL_call_223 : decode cL_call 223 = .ok (.iload_n 2, 1) := by decide +kernel
theorem dL_call_224 : decode cL_call 224 = .ok (.invokevirtual 61, 3) := by decide +kernel
theorem dL_call_227 : decode cL_call 227 = .ok (.ireturn, 1) := by decide +kernel
theorem dL_call_228 : decode cL_call 228 = .ok (.aload_n 0, 1) := by decide +kernel
theorem dL_call_229 : decode cL_call 229 = .ok (.iload_n 2, 1) := by decide +kernel
theorem dL_call_230 : decode cL_call 230 = .ok (.invokevirtual 64, 3) := by decide +kernel
theorem dL_call_233 : decode cL_call 233 = .ok (.ireturn, 1) := by decide +kernel
theorem dL_call_234 : decode cL_call 234 = .ok (.aload_n 0, 1) := by decide +kernel
theorem dL_call_235 : decode cL_call 235 = .ok (.iload_n 2, 1) := by decide +kernel
theorem dL_call_236 : decode cL_call 236 = .ok (.invokevirtual 67, 3) := by decide +kernel
theorem dL_call_239 : decode cL_call 239 = .ok (.ireturn, 1) := by decide +kernel
theorem dL_call_240 : decode cL_call 240 = .ok (.aload_n 0, 1) := by decide +kernel
theorem dL_call_241 : decode cL_call 241 = .ok (.iload_n 2, 1) := by decide +kernel
theorem dL_call_242 : decode cL_call 242 = .ok (.invokevirtual 70, 3) := by decide +kernel
theorem dL_call_245 : decode cL_call 245 = .ok (.ireturn, 1) := by decide +kernel
theorem dL_call_246 : decode cL_call 246 = .ok (.aload_n 0, 1) := by decide +kernel
theorem dL_call_247 : decode cL_call 247 = .ok (.iload_n 2, 1) := by decide +kernel
theorem dL_call_248 : decode cL_call 248 = .ok (.invokevirtual 73, 3) := by decide +kernel
theorem dL_call_251 : decode cL_call 251 = .ok (.ireturn, 1) := by decide +kernel
theorem dL_call_252 : decode cL_call 252 = .ok (.aload_n 0, 1) := by decide +kernel
theorem dL_call_253 : decode cL_call 253 = .ok (.iload_n 2, 1) := by decide +kernel
theorem dL_call_254 : decode cL_call 254 = .ok (.iload_n 3, 1) := by decide +kernel
theorem dL_call_255 : decode cL_call 255 = .ok (.iload 4, 2) := by decide +kernel
theorem dL_call_257 : decode cL_call 257 = .ok (.invokevirtual 76, 3) := by decide +kernel
theorem dL_call_260 : decode cL_call 260 = .ok (.ireturn, 1) := by decide +kernel
theorem dL_call_261 : decode cL_call 261 = .ok (.aload_n 0, 1) := by decide +kernel
theorem dL_call_262 : decode cL_call 262 = .ok (.iload_n 2, 1) := by decide +kernel
theorem dL_call_263 : decode cL_call 263 = .ok (.iload_n 3, 1) := by decide +kernel
theorem dL_call_264 : decode cL_call 264 = .ok (.invokevirtual 80, 3) := by decide +kernel
theorem dL_call_267 : decode cL_call 267 = .ok (.ireturn, 1) := by decide +kernel
theorem dL_call_268 : decode cL_call 268 = .ok (.aload_n 0, 1) := by decide +kernel
theorem dL_call_269 : decode cL_call 269 = .ok (.iload_n 2, 1) := by decide +kernel
theorem dL_call_270 : decode cL_call 270 = .ok (.iload_n 3, 1) := by decide +kernel
theorem dL_call_271 : decode cL_call 271 = .ok (.invokevirtual 83, 3) := by decide +kernel
theorem dL_call_274 : decode cL_call 274 = .ok (.ireturn, 1) := by decide +kernel
theorem dL_call_275 : decode cL_call 275 = .ok (.aload_n 0, 1) := by decide +kernel
theorem dL_call_276 : decode cL_call 276 = .ok (.iload_n 2, 1) := by decide +kernel
theorem dL_call_277 : decode cL_call 277 = .ok (.invokevirtual 86, 3) := by decide +kernel
theorem dL_call_280 : decode cL_call 280 = .ok (.ireturn, 1) := by decide +kernel
theorem dL_call_281 : decode cL_call 281 = .ok (.aload_n 0, 1) := by decide +kernel
theorem dL_call_282 : decode cL_call 282 = .ok (.iload_n 2, 1) := by decide +kernel
theorem dL_call_283 : decode cL_call 283 = .ok (.iload_n 3, 1) := by decide +kernel
theorem dL_call_284 : decode cL_call 284 = .ok (.invokevirtual 89, 3) := by decide +kernel
theorem dL_call_287 : decode cL_call 287 = .ok (.ireturn, 1) := by decide +kernel
theorem dL_call_288 : decode cL_call 288 = .ok (.aload_n 0, 1) := by decide +kernel
theorem dL_call_289 : decode cL_call 289 = .ok (.iload_n 2, 1) := by decide +kernel
theorem dL_call_290 : decode cL_call 290 = .ok (.invokevirtual 92, 3) := by decide +kernel
theorem dL_call_293 : decode cL_call 293 = .ok (.ireturn, 1) := by decide +kernel
theorem dL_call_294 : decode cL_call 294 = .ok (.astore 5, 2) := by decide +kernel
theorem dL_call_296 : decode cL_call 296 = .ok (.sipush (-1001), 3) := by decide +kernel
theorem dL_call_299 : decode cL_call 299 = .ok (.ireturn, 1) := by decide +kernel
theorem dL_call_300 : decode cL_call 300 = .ok (.astore 5, 2) := by decide +kernel
theorem dL_call_302 : decode cL_call 302 = .ok (.sipush (-1002), 3) := by decide +kernel
theorem dL_call_305 : decode cL_call 305 = .ok (.ireturn, 1) := by decide +kernel
theorem dL_call_306 : decode cL_call 306 = .ok (.astore 5, 2) := by decide +kernel
theorem dL_call_308 : decode cL_call 308 = .ok (.sipush (-1003), 3) := by decide +kernel
theorem dL_call_311 : decode cL_call 311 = .ok (.ireturn, 1) := by decide +kernel
theorem dL_call_312 : decode cL_call 312 = .ok (.astore 5, 2) := by decide +kernel
theorem dL_call_314 : decode cL_call 314 = .ok (.sipush (-1004), 3) := by decide +kernel
theorem dL_call_317 : decode cL_call 317 = .ok (.ireturn, 1) := by decide +kernel
theorem dL_call_318 : decode cL_call 318 = .ok (.astore 5, 2) := by decide +kernel
theorem dL_call_320 : decode cL_call 320 = .ok (.sipush (-1005), 3) := by decide +kernel
theorem dL_call_323 : decode cL_call 323 = .ok (.ireturn, 1) := by decide +kernel
theorem dL_call_324 : decode cL_call 324 = .ok (.astore 5, 2) := by decide +kernel
theorem dL_call_326 : decode cL_call 326 = .ok (.sipush (-1006), 3) := by decide +kernel
theorem dL_call_329 : decode cL_call 329 = .ok (.ireturn, 1) := by decide +kernel
theorem hdL_call : yL_call.cls ≠ "java/lang/invoke/MethodHandle" ∧ yL_call.cls ≠ "java/lang/invoke/VarHandle" ∧ (parseMethodDescriptor yL_call.desc).map (fun d => d.parameters.length) = some 5 := by decide +kernel
def cTab : List (Nat × Nat × Nat × Nat) := [(0, 121, 294, 95), (122, 128, 294, 95), (129, 134, 294, 95), (135, 140, 294, 95), (141, 146, 294, 95), (147, 152, 294, 95), (153, 158, 294, 95), (159, 166, 294, 95), (167, 173, 294, 95), (174, 180, 294, 95), (181, 186, 294, 95), (187, 193, 294, 95), (194, 199, 294, 95), (200, 205, 294, 95), (206, 221, 294, 95), (222, 227, 294, 95), (228, 233, 294, 95), (234, 239, 294, 95), (240, 245, 294, 95), (246, 251, 294, 95), (252, 260, 294, 95), (261, 267, 294, 95), (268, 274, 294, 95), (275, 280, 294, 95), (281, 287, 294, 95), (288, 293, 294, 95), (0, 121, 300, 97), (122, 128, 300, 97), (129, 134, 300, 97), (135, 140, 300, 97), (141, 146, 300, 97), (147, 152, 300, 97), (153, 158, 300, 97), (159, 166, 300, 97), (167, 173, 300, 97), (174, 180, 300, 97), (181, 186, 300, 97), (187, 193, 300, 97), (194, 199, 300, 97), (200, 205, 300, 97), (206, 221, 300, 97), (222, 227, 300, 97), (228, 233, 300, 97), (234, 239, 300, 97), (240, 245, 300, 97), (246, 251, 300, 97), (252, 260, 300, 97), (261, 267, 300, 97), (268, 274, 300, 97), (275, 280, 300, 97), (281, 287, 300, 97), (288, 293, 300, 97), (0, 121, 306, 99), (122, 128, 306, 99), (129, 134, 306, 99), (135, 140, 306, 99), (141, 146, 306, 99), (147, 152, 306, 99), (153, 158, 306, 99), (159, 166, 306, 99), (167, 173, 306, 99), (174, 180, 306, 99), (181, 186, 306, 99), (187, 193, 306, 99), (194, 199, 306, 99), (200, 205, 306, 99), (206, 221, 306, 99), (222, 227, 306, 99), (228, 233, 306, 99), (234, 239, 306, 99), (240, 245, 306, 99), (246, 251, 306, 99), (252, 260, 306, 99), (261, 267, 306, 99), (268, 274, 306, 99), (275, 280, 306, 99), (281, 287, 306, 99), (288, 293, 306, 99), (0, 121, 312, 101), (122, 128, 312, 101), (129, 134, 312, 101), (135, 140, 312, 101), (141, 146, 312, 101), (147, 152, 312, 101), (153, 158, 312, 101), (159, 166, 312, 101), (167, 173, 312, 101), (174, 180, 312, 101), (181, 186, 312, 101), (187, 193, 312, 101), (194, 199, 312, 101), (200, 205, 312, 101), (206, 221, 312, 101), (222, 227, 312, 101), (228, 233, 312, 101), (234, 239, 312, 101), (240, 245, 312, 101), (246, 251, 312, 101), (252, 260, 312, 101), (261, 267, 312, 101), (268, 274, 312, 101), (275, 280, 312, 101), (281, 287, 312, 101), (288, 293, 312, 101), (0, 121, 318, 103), (122, 128, 318, 103), (129, 134, 318, 103), (135, 140, 318, 103), (141, 146, 318, 103), (147, 152, 318, 103), (153, 158, 318, 103), (159, 166, 318, 103), (167, 173, 318, 103), (174, 180, 318, 103), (181, 186, 318, 103), (187, 193, 318, 103), (194, 199, 318, 103), (200, 205, 318, 103), (206, 221, 318, 103), (222, 227, 318, 103), (228, 233, 318, 103), (234, 239, 318, 103), (240, 245, 318, 103), (246, 251, 318, 103), (252, 260, 318, 103), (261, 267, 318, 103), (268, 274, 318, 103), (275, 280, 318, 103), (281, 287, 318, 103), (288, 293, 318, 103), (0, 121, 324, 105), (122, 128, 324, 105), (129, 134, 324, 105), (135, 140, 324, 105), (141, 146, 324, 105), (147, 152, 324, 105), (153, 158, 324, 105), (159, 166, 324, 105), (167, 173, 324, 105), (174, 180, 324, 105), (181, 186, 324, 105), (187, 193, 324, 105), (194, 199, 324, 105), (200, 205, 324, 105), (206, 221, 324, 105), (222, 227, 324, 105), (228, 233, 324, 105), (234, 239, 324, 105), (240, 245, 324, 105), (246, 251, 324, 105), (252, 260, 324, 105), (261, 267, 324, 105), (268, 274, 324, 105), (275, 280, 324, 105), (281, 287, 324, 105), (288, 293, 324, 105)]
def cTabE : List ExceptionTableEntry := cTab.map (fun x => (⟨x.1, x.2.1, x.2.2.1, x.2.2.2⟩ : ExceptionTableEntry))
def wpL_c0 (post : Int32 → KS → Prop) (mc ms : Nat) (K : KS) (p2 p3 p4 : Int32) : Prop := wpX6_player (fun v K => post v K) (fun E K => (E = "java/lang/IndexOutOfBoundsException" ∧ post (-1001) K) ∨ (E = "java/lang/IllegalArgumentException" ∧ post (-1002) K) ∨ (E = "java/lang/IllegalStateException" ∧ post (-1003) K) ∨ (E = "java/lang/UnsupportedOperationException" ∧ post (-1004) K) ∨ (E = "java/util/NoSuchElementException" ∧ post (-1005) K) ∨ (E = "java/lang/ArithmeticException" ∧ post (-1006) K)) mc ms K p2
set_option maxHeartbeats 4000000 in
set_option maxRecDepth 100000 in
theorem mtL_c0 {l : Launch} {D : va_G} {cI : Nat → ClassId} {e0 : Nat} {A : Nat → Prop} {ad : Nat → Nat → Nat} {K M : KS} {ap o : Int64} {od : UInt64} {mc ms : Nat} {p2 p3 p4 : Int32} {post : Int32 → KS → Prop} (hfl : l.stackTraces = false) (h : wpL_c0 post mc ms K p2 p3 p4) : CW l D cI e0 A yL_call cL_call 6 (some .int) cTab 9 366 mc ms [.ref (ad 0 0), .int 0, .int p2, .int p3, .int p4] (HT D cI e0 A ad K M ap o od) (qW D cI e0 A ad M ap o od post) := by
  refine CW.of (by decide) (Nat.le_of_ble_eq_true rfl) (fun p e s m below meth c ls FX hw hS hl => ?_)
  obtain ⟨S, hg, hr, hlk, hnm, htab⟩ := FX
  have hl : lv_has ls 6 [(0, .ref (ad 0 0)), (1, .int 0), (2, .int p2), (3, .int p3), (4, .int p4)] := hl
  unfold wpL_c0 at h
  refine lv_iload_n S.1 S.2.1 dL_call_0 rfl (lv_at hl 1 rfl) ?_
  refine lv_tableIn (off := 115) (tgt := 116) S.1 S.2.1 dL_call_1 (by decide) (by decide) (by decide) (by decide) ?_
  refine lv_aload_n S.1 S.2.1 dL_call_116 rfl (lv_at hl 0 rfl) ?_
  refine lv_iload_n S.1 S.2.1 dL_call_117 rfl (lv_at hl 2 rfl) ?_
  refine r_call (rest := []) S hg hS (mtX6_player (mc := mc) (ms := ms) hfl h) u317 u318 u319 u27 u320 hdX6_player (rv0 hg hw) hw ⟨Nat.le_of_ble_eq_true rfl, Nat.le_of_ble_eq_true rfl⟩ ⟨by show 0 + mc ≤ mc; omega, by show 0 + ms ≤ ms; omega⟩ hl.1 (Nat.le_of_ble_eq_true rfl) rfl dL_call_118 (fun E ce q H locs hx hS hc1 hc2 hc3 => ?_) (fun rv H locs hq hS => ?_)
  · obtain ⟨K, hx1, hw⟩ := hx
    have hpass_1 : ∀ z ∈ cTabE.take 26, covers z 118 = false ∨ (z.catchType ≠ 0 ∧ ∃ nm : String, (Cond.classLink RL z.catchType nm).before #[.ref (ad 0 0), .int 0, .int p2, .int p3, .int p4] s = true ∧ va_Nc "java/lang/IllegalArgumentException" nm s) := by
      have hc : ∀ z ∈ cTabE.take 26, covers z 118 = false ∨ z.catchType = 95 := by decide +kernel
      intro z hz
      rcases hc z hz with h0 | h0
      · exact Or.inl h0
      · exact Or.inr ⟨by rw [h0]; decide, "java/lang/IndexOutOfBoundsException", by rw [h0]; exact S.2.2.2.2 _ u219, hg.2.2.2.2.2.1 ("java/lang/IllegalArgumentException", "java/lang/IndexOutOfBoundsException") (by decide +kernel)⟩
    have hpass_2 : ∀ z ∈ cTabE.take 52, covers z 118 = false ∨ (z.catchType ≠ 0 ∧ ∃ nm : String, (Cond.classLink RL z.catchType nm).before #[.ref (ad 0 0), .int 0, .int p2, .int p3, .int p4] s = true ∧ va_Nc "java/lang/IllegalStateException" nm s) := by
      have hc : ∀ z ∈ cTabE.take 52, covers z 118 = false ∨ z.catchType = 95 ∨ z.catchType = 97 := by decide +kernel
      intro z hz
      rcases hc z hz with h0 | h0 | h0
      · exact Or.inl h0
      · exact Or.inr ⟨by rw [h0]; decide, "java/lang/IndexOutOfBoundsException", by rw [h0]; exact S.2.2.2.2 _ u219, hg.2.2.2.2.2.1 ("java/lang/IllegalStateException", "java/lang/IndexOutOfBoundsException") (by decide +kernel)⟩
      · exact Or.inr ⟨by rw [h0]; decide, "java/lang/IllegalArgumentException", by rw [h0]; exact S.2.2.2.2 _ u299, hg.2.2.2.2.2.1 ("java/lang/IllegalStateException", "java/lang/IllegalArgumentException") (by decide +kernel)⟩
    have hpass_3 : ∀ z ∈ cTabE.take 78, covers z 118 = false ∨ (z.catchType ≠ 0 ∧ ∃ nm : String, (Cond.classLink RL z.catchType nm).before #[.ref (ad 0 0), .int 0, .int p2, .int p3, .int p4] s = true ∧ va_Nc "java/lang/UnsupportedOperationException" nm s) := by
      have hc : ∀ z ∈ cTabE.take 78, covers z 118 = false ∨ z.catchType = 95 ∨ z.catchType = 97 ∨ z.catchType = 99 := by decide +kernel
      intro z hz
      rcases hc z hz with h0 | h0 | h0 | h0
      · exact Or.inl h0
      · exact Or.inr ⟨by rw [h0]; decide, "java/lang/IndexOutOfBoundsException", by rw [h0]; exact S.2.2.2.2 _ u219, hg.2.2.2.2.2.1 ("java/lang/UnsupportedOperationException", "java/lang/IndexOutOfBoundsException") (by decide +kernel)⟩
      · exact Or.inr ⟨by rw [h0]; decide, "java/lang/IllegalArgumentException", by rw [h0]; exact S.2.2.2.2 _ u299, hg.2.2.2.2.2.1 ("java/lang/UnsupportedOperationException", "java/lang/IllegalArgumentException") (by decide +kernel)⟩
      · exact Or.inr ⟨by rw [h0]; decide, "java/lang/IllegalStateException", by rw [h0]; exact S.2.2.2.2 _ u300, hg.2.2.2.2.2.1 ("java/lang/UnsupportedOperationException", "java/lang/IllegalStateException") (by decide +kernel)⟩
    have hpass_4 : ∀ z ∈ cTabE.take 104, covers z 118 = false ∨ (z.catchType ≠ 0 ∧ ∃ nm : String, (Cond.classLink RL z.catchType nm).before #[.ref (ad 0 0), .int 0, .int p2, .int p3, .int p4] s = true ∧ va_Nc "java/util/NoSuchElementException" nm s) := by
      have hc : ∀ z ∈ cTabE.take 104, covers z 118 = false ∨ z.catchType = 95 ∨ z.catchType = 97 ∨ z.catchType = 99 ∨ z.catchType = 101 := by decide +kernel
      intro z hz
      rcases hc z hz with h0 | h0 | h0 | h0 | h0
      · exact Or.inl h0
      · exact Or.inr ⟨by rw [h0]; decide, "java/lang/IndexOutOfBoundsException", by rw [h0]; exact S.2.2.2.2 _ u219, hg.2.2.2.2.2.1 ("java/util/NoSuchElementException", "java/lang/IndexOutOfBoundsException") (by decide +kernel)⟩
      · exact Or.inr ⟨by rw [h0]; decide, "java/lang/IllegalArgumentException", by rw [h0]; exact S.2.2.2.2 _ u299, hg.2.2.2.2.2.1 ("java/util/NoSuchElementException", "java/lang/IllegalArgumentException") (by decide +kernel)⟩
      · exact Or.inr ⟨by rw [h0]; decide, "java/lang/IllegalStateException", by rw [h0]; exact S.2.2.2.2 _ u300, hg.2.2.2.2.2.1 ("java/util/NoSuchElementException", "java/lang/IllegalStateException") (by decide +kernel)⟩
      · exact Or.inr ⟨by rw [h0]; decide, "java/lang/UnsupportedOperationException", by rw [h0]; exact S.2.2.2.2 _ u301, hg.2.2.2.2.2.1 ("java/util/NoSuchElementException", "java/lang/UnsupportedOperationException") (by decide +kernel)⟩
    have hpass_5 : ∀ z ∈ cTabE.take 130, covers z 118 = false ∨ (z.catchType ≠ 0 ∧ ∃ nm : String, (Cond.classLink RL z.catchType nm).before #[.ref (ad 0 0), .int 0, .int p2, .int p3, .int p4] s = true ∧ va_Nc "java/lang/ArithmeticException" nm s) := by
      have hc : ∀ z ∈ cTabE.take 130, covers z 118 = false ∨ z.catchType = 95 ∨ z.catchType = 97 ∨ z.catchType = 99 ∨ z.catchType = 101 ∨ z.catchType = 103 := by decide +kernel
      intro z hz
      rcases hc z hz with h0 | h0 | h0 | h0 | h0 | h0
      · exact Or.inl h0
      · exact Or.inr ⟨by rw [h0]; decide, "java/lang/IndexOutOfBoundsException", by rw [h0]; exact S.2.2.2.2 _ u219, hg.2.2.2.2.2.1 ("java/lang/ArithmeticException", "java/lang/IndexOutOfBoundsException") (by decide +kernel)⟩
      · exact Or.inr ⟨by rw [h0]; decide, "java/lang/IllegalArgumentException", by rw [h0]; exact S.2.2.2.2 _ u299, hg.2.2.2.2.2.1 ("java/lang/ArithmeticException", "java/lang/IllegalArgumentException") (by decide +kernel)⟩
      · exact Or.inr ⟨by rw [h0]; decide, "java/lang/IllegalStateException", by rw [h0]; exact S.2.2.2.2 _ u300, hg.2.2.2.2.2.1 ("java/lang/ArithmeticException", "java/lang/IllegalStateException") (by decide +kernel)⟩
      · exact Or.inr ⟨by rw [h0]; decide, "java/lang/UnsupportedOperationException", by rw [h0]; exact S.2.2.2.2 _ u301, hg.2.2.2.2.2.1 ("java/lang/ArithmeticException", "java/lang/UnsupportedOperationException") (by decide +kernel)⟩
      · exact Or.inr ⟨by rw [h0]; decide, "java/util/NoSuchElementException", by rw [h0]; exact S.2.2.2.2 _ u302, hg.2.2.2.2.2.1 ("java/lang/ArithmeticException", "java/util/NoSuchElementException") (by decide +kernel)⟩
    rcases hx1 with ⟨rfl, h9⟩ | ⟨rfl, h9⟩ | ⟨rfl, h9⟩ | ⟨rfl, h9⟩ | ⟨rfl, h9⟩ | ⟨rfl, h9⟩
    · skip
      have hpass_0 : ∀ z ∈ cTabE.take 0, covers z 118 = false ∨ (z.catchType ≠ 0 ∧ ∃ nm : String, (Cond.classLink RL z.catchType nm).before #[.ref (ad 0 0), .int 0, .int p2, .int p3, .int p4] s = true ∧ va_Nc "java/lang/IndexOutOfBoundsException" nm s) := by
        have hc : ∀ z ∈ cTabE.take 0, covers z 118 = false := by decide +kernel
        exact fun z hz => Or.inl (hc z hz)
      refine vx_catch (name := "java/lang/IndexOutOfBoundsException") S.2.2.2.1 (cTabE.take 0) (⟨0, 121, 294, 95⟩ : ExceptionTableEntry) (cTabE.drop 1) (htab.trans rfl) hpass_0 (by decide) (by decide) (S.2.2.2.2 _ u219) (va_Nw.use rfl (hg.2.2.2.2.1.1 ("java/lang/IndexOutOfBoundsException", "java/lang/IndexOutOfBoundsException") (by decide +kernel))) hc1 hc2 hc3 ?_
      refine lv_astore (lv' := [(5, .ref q), (0, .ref (ad 0 0)), (1, .int 0), (2, .int p2), (3, .int p3), (4, .int p4)]) S.1 S.2.1 dL_call_294 hl (by decide) rfl (fun ls hl => ?_)
      refine lv_sipush (v := (-1001)) S.1 S.2.1 dL_call_296 (by decide) ?_
      exact r_iret (y := yL_call) S hr rfl hlk hS (by show _ ≤ mc; omega) (by show _ ≤ ms; omega) dL_call_299 ⟨_, _, ad, rfl, h9, ⟨rfl, rfl⟩, hw⟩
    · skip
      refine vx_catch (name := "java/lang/IllegalArgumentException") S.2.2.2.1 (cTabE.take 26) (⟨0, 121, 300, 97⟩ : ExceptionTableEntry) (cTabE.drop 27) (htab.trans rfl) hpass_1 (by decide) (by decide) (S.2.2.2.2 _ u299) (va_Nw.use rfl (hg.2.2.2.2.1.1 ("java/lang/IllegalArgumentException", "java/lang/IllegalArgumentException") (by decide +kernel))) hc1 hc2 hc3 ?_
      refine lv_astore (lv' := [(5, .ref q), (0, .ref (ad 0 0)), (1, .int 0), (2, .int p2), (3, .int p3), (4, .int p4)]) S.1 S.2.1 dL_call_300 hl (by decide) rfl (fun ls hl => ?_)
      refine lv_sipush (v := (-1002)) S.1 S.2.1 dL_call_302 (by decide) ?_
      exact r_iret (y := yL_call) S hr rfl hlk hS (by show _ ≤ mc; omega) (by show _ ≤ ms; omega) dL_call_305 ⟨_, _, ad, rfl, h9, ⟨rfl, rfl⟩, hw⟩
    · skip
      refine vx_catch (name := "java/lang/IllegalStateException") S.2.2.2.1 (cTabE.take 52) (⟨0, 121, 306, 99⟩ : ExceptionTableEntry) (cTabE.drop 53) (htab.trans rfl) hpass_2 (by decide) (by decide) (S.2.2.2.2 _ u300) (va_Nw.use rfl (hg.2.2.2.2.1.1 ("java/lang/IllegalStateException", "java/lang/IllegalStateException") (by decide +kernel))) hc1 hc2 hc3 ?_
      refine lv_astore (lv' := [(5, .ref q), (0, .ref (ad 0 0)), (1, .int 0), (2, .int p2), (3, .int p3), (4, .int p4)]) S.1 S.2.1 dL_call_306 hl (by decide) rfl (fun ls hl => ?_)
      refine lv_sipush (v := (-1003)) S.1 S.2.1 dL_call_308 (by decide) ?_
      exact r_iret (y := yL_call) S hr rfl hlk hS (by show _ ≤ mc; omega) (by show _ ≤ ms; omega) dL_call_311 ⟨_, _, ad, rfl, h9, ⟨rfl, rfl⟩, hw⟩
    · skip
      refine vx_catch (name := "java/lang/UnsupportedOperationException") S.2.2.2.1 (cTabE.take 78) (⟨0, 121, 312, 101⟩ : ExceptionTableEntry) (cTabE.drop 79) (htab.trans rfl) hpass_3 (by decide) (by decide) (S.2.2.2.2 _ u301) (va_Nw.use rfl (hg.2.2.2.2.1.1 ("java/lang/UnsupportedOperationException", "java/lang/UnsupportedOperationException") (by decide +kernel))) hc1 hc2 hc3 ?_
      refine lv_astore (lv' := [(5, .ref q), (0, .ref (ad 0 0)), (1, .int 0), (2, .int p2), (3, .int p3), (4, .int p4)]) S.1 S.2.1 dL_call_312 hl (by decide) rfl (fun ls hl => ?_)
      refine lv_sipush (v := (-1004)) S.1 S.2.1 dL_call_314 (by decide) ?_
      exact r_iret (y := yL_call) S hr rfl hlk hS (by show _ ≤ mc; omega) (by show _ ≤ ms; omega) dL_call_317 ⟨_, _, ad, rfl, h9, ⟨rfl, rfl⟩, hw⟩
    · skip
      refine vx_catch (name := "java/util/NoSuchElementException") S.2.2.2.1 (cTabE.take 104) (⟨0, 121, 318, 103⟩ : ExceptionTableEntry) (cTabE.drop 105) (htab.trans rfl) hpass_4 (by decide) (by decide) (S.2.2.2.2 _ u302) (va_Nw.use rfl (hg.2.2.2.2.1.1 ("java/util/NoSuchElementException", "java/util/NoSuchElementException") (by decide +kernel))) hc1 hc2 hc3 ?_
      refine lv_astore (lv' := [(5, .ref q), (0, .ref (ad 0 0)), (1, .int 0), (2, .int p2), (3, .int p3), (4, .int p4)]) S.1 S.2.1 dL_call_318 hl (by decide) rfl (fun ls hl => ?_)
      refine lv_sipush (v := (-1005)) S.1 S.2.1 dL_call_320 (by decide) ?_
      exact r_iret (y := yL_call) S hr rfl hlk hS (by show _ ≤ mc; omega) (by show _ ≤ ms; omega) dL_call_323 ⟨_, _, ad, rfl, h9, ⟨rfl, rfl⟩, hw⟩
    · skip
      refine vx_catch (name := "java/lang/ArithmeticException") S.2.2.2.1 (cTabE.take 130) (⟨0, 121, 324, 105⟩ : ExceptionTableEntry) (cTabE.drop 131) (htab.trans rfl) hpass_5 (by decide) (by decide) (S.2.2.2.2 _ u303) (va_Nw.use rfl (hg.2.2.2.2.1.1 ("java/lang/ArithmeticException", "java/lang/ArithmeticException") (by decide +kernel))) hc1 hc2 hc3 ?_
      refine lv_astore (lv' := [(5, .ref q), (0, .ref (ad 0 0)), (1, .int 0), (2, .int p2), (3, .int p3), (4, .int p4)]) S.1 S.2.1 dL_call_324 hl (by decide) rfl (fun ls hl => ?_)
      refine lv_sipush (v := (-1006)) S.1 S.2.1 dL_call_326 (by decide) ?_
      exact r_iret (y := yL_call) S hr rfl hlk hS (by show _ ≤ mc; omega) (by show _ ≤ ms; omega) dL_call_329 ⟨_, _, ad, rfl, h9, ⟨rfl, rfl⟩, hw⟩
  · obtain ⟨r1, K1, rfl, h, hw⟩ := hq
    exact r_iret (y := yL_call) S hr rfl hlk hS (by show _ ≤ mc; omega) (by show _ ≤ ms; omega) dL_call_121 ⟨_, _, ad, rfl, h, ⟨rfl, rfl⟩, hw⟩
def wpL_c1 (post : Int32 → KS → Prop) (mc ms : Nat) (K : KS) (p2 p3 p4 : Int32) : Prop := wpX6_make (fun v K => post v K) (fun E K => (E = "java/lang/IndexOutOfBoundsException" ∧ post (-1001) K) ∨ (E = "java/lang/IllegalArgumentException" ∧ post (-1002) K) ∨ (E = "java/lang/IllegalStateException" ∧ post (-1003) K) ∨ (E = "java/lang/UnsupportedOperationException" ∧ post (-1004) K) ∨ (E = "java/util/NoSuchElementException" ∧ post (-1005) K) ∨ (E = "java/lang/ArithmeticException" ∧ post (-1006) K)) mc ms K p2 p3
set_option maxHeartbeats 4000000 in
set_option maxRecDepth 100000 in
theorem mtL_c1 {l : Launch} {D : va_G} {cI : Nat → ClassId} {e0 : Nat} {A : Nat → Prop} {ad : Nat → Nat → Nat} {K M : KS} {ap o : Int64} {od : UInt64} {mc ms : Nat} {p2 p3 p4 : Int32} {post : Int32 → KS → Prop} (hfl : l.stackTraces = false) (h : wpL_c1 post mc ms K p2 p3 p4) : CW l D cI e0 A yL_call cL_call 6 (some .int) cTab 9 366 mc ms [.ref (ad 0 0), .int 1, .int p2, .int p3, .int p4] (HT D cI e0 A ad K M ap o od) (qW D cI e0 A ad M ap o od post) := by
  refine CW.of (by decide) (Nat.le_of_ble_eq_true rfl) (fun p e s m below meth c ls FX hw hS hl => ?_)
  obtain ⟨S, hg, hr, hlk, hnm, htab⟩ := FX
  have hl : lv_has ls 6 [(0, .ref (ad 0 0)), (1, .int 1), (2, .int p2), (3, .int p3), (4, .int p4)] := hl
  unfold wpL_c1 at h
  refine lv_iload_n S.1 S.2.1 dL_call_0 rfl (lv_at hl 1 rfl) ?_
  refine lv_tableIn (off := 121) (tgt := 122) S.1 S.2.1 dL_call_1 (by decide) (by decide) (by decide) (by decide) ?_
  refine lv_aload_n S.1 S.2.1 dL_call_122 rfl (lv_at hl 0 rfl) ?_
  refine lv_iload_n S.1 S.2.1 dL_call_123 rfl (lv_at hl 2 rfl) ?_
  refine lv_iload_n S.1 S.2.1 dL_call_124 rfl (lv_at hl 3 rfl) ?_
  refine r_call (rest := []) S hg hS (mtX6_make (mc := mc) (ms := ms) hfl h) u353 u354 u355 u27 u356 hdX6_make (rv0 hg hw) hw ⟨Nat.le_of_ble_eq_true rfl, Nat.le_of_ble_eq_true rfl⟩ ⟨by show 0 + mc ≤ mc; omega, by show 0 + ms ≤ ms; omega⟩ hl.1 (Nat.le_of_ble_eq_true rfl) rfl dL_call_125 (fun E ce q H locs hx hS hc1 hc2 hc3 => ?_) (fun rv H locs hq hS => ?_)
  · obtain ⟨K, hx1, hw⟩ := hx
    have hpass_1 : ∀ z ∈ cTabE.take 27, covers z 125 = false ∨ (z.catchType ≠ 0 ∧ ∃ nm : String, (Cond.classLink RL z.catchType nm).before #[.ref (ad 0 0), .int 1, .int p2, .int p3, .int p4] s = true ∧ va_Nc "java/lang/IllegalArgumentException" nm s) := by
      have hc : ∀ z ∈ cTabE.take 27, covers z 125 = false ∨ z.catchType = 95 := by decide +kernel
      intro z hz
      rcases hc z hz with h0 | h0
      · exact Or.inl h0
      · exact Or.inr ⟨by rw [h0]; decide, "java/lang/IndexOutOfBoundsException", by rw [h0]; exact S.2.2.2.2 _ u219, hg.2.2.2.2.2.1 ("java/lang/IllegalArgumentException", "java/lang/IndexOutOfBoundsException") (by decide +kernel)⟩
    have hpass_2 : ∀ z ∈ cTabE.take 53, covers z 125 = false ∨ (z.catchType ≠ 0 ∧ ∃ nm : String, (Cond.classLink RL z.catchType nm).before #[.ref (ad 0 0), .int 1, .int p2, .int p3, .int p4] s = true ∧ va_Nc "java/lang/IllegalStateException" nm s) := by
      have hc : ∀ z ∈ cTabE.take 53, covers z 125 = false ∨ z.catchType = 95 ∨ z.catchType = 97 := by decide +kernel
      intro z hz
      rcases hc z hz with h0 | h0 | h0
      · exact Or.inl h0
      · exact Or.inr ⟨by rw [h0]; decide, "java/lang/IndexOutOfBoundsException", by rw [h0]; exact S.2.2.2.2 _ u219, hg.2.2.2.2.2.1 ("java/lang/IllegalStateException", "java/lang/IndexOutOfBoundsException") (by decide +kernel)⟩
      · exact Or.inr ⟨by rw [h0]; decide, "java/lang/IllegalArgumentException", by rw [h0]; exact S.2.2.2.2 _ u299, hg.2.2.2.2.2.1 ("java/lang/IllegalStateException", "java/lang/IllegalArgumentException") (by decide +kernel)⟩
    have hpass_3 : ∀ z ∈ cTabE.take 79, covers z 125 = false ∨ (z.catchType ≠ 0 ∧ ∃ nm : String, (Cond.classLink RL z.catchType nm).before #[.ref (ad 0 0), .int 1, .int p2, .int p3, .int p4] s = true ∧ va_Nc "java/lang/UnsupportedOperationException" nm s) := by
      have hc : ∀ z ∈ cTabE.take 79, covers z 125 = false ∨ z.catchType = 95 ∨ z.catchType = 97 ∨ z.catchType = 99 := by decide +kernel
      intro z hz
      rcases hc z hz with h0 | h0 | h0 | h0
      · exact Or.inl h0
      · exact Or.inr ⟨by rw [h0]; decide, "java/lang/IndexOutOfBoundsException", by rw [h0]; exact S.2.2.2.2 _ u219, hg.2.2.2.2.2.1 ("java/lang/UnsupportedOperationException", "java/lang/IndexOutOfBoundsException") (by decide +kernel)⟩
      · exact Or.inr ⟨by rw [h0]; decide, "java/lang/IllegalArgumentException", by rw [h0]; exact S.2.2.2.2 _ u299, hg.2.2.2.2.2.1 ("java/lang/UnsupportedOperationException", "java/lang/IllegalArgumentException") (by decide +kernel)⟩
      · exact Or.inr ⟨by rw [h0]; decide, "java/lang/IllegalStateException", by rw [h0]; exact S.2.2.2.2 _ u300, hg.2.2.2.2.2.1 ("java/lang/UnsupportedOperationException", "java/lang/IllegalStateException") (by decide +kernel)⟩
    have hpass_4 : ∀ z ∈ cTabE.take 105, covers z 125 = false ∨ (z.catchType ≠ 0 ∧ ∃ nm : String, (Cond.classLink RL z.catchType nm).before #[.ref (ad 0 0), .int 1, .int p2, .int p3, .int p4] s = true ∧ va_Nc "java/util/NoSuchElementException" nm s) := by
      have hc : ∀ z ∈ cTabE.take 105, covers z 125 = false ∨ z.catchType = 95 ∨ z.catchType = 97 ∨ z.catchType = 99 ∨ z.catchType = 101 := by decide +kernel
      intro z hz
      rcases hc z hz with h0 | h0 | h0 | h0 | h0
      · exact Or.inl h0
      · exact Or.inr ⟨by rw [h0]; decide, "java/lang/IndexOutOfBoundsException", by rw [h0]; exact S.2.2.2.2 _ u219, hg.2.2.2.2.2.1 ("java/util/NoSuchElementException", "java/lang/IndexOutOfBoundsException") (by decide +kernel)⟩
      · exact Or.inr ⟨by rw [h0]; decide, "java/lang/IllegalArgumentException", by rw [h0]; exact S.2.2.2.2 _ u299, hg.2.2.2.2.2.1 ("java/util/NoSuchElementException", "java/lang/IllegalArgumentException") (by decide +kernel)⟩
      · exact Or.inr ⟨by rw [h0]; decide, "java/lang/IllegalStateException", by rw [h0]; exact S.2.2.2.2 _ u300, hg.2.2.2.2.2.1 ("java/util/NoSuchElementException", "java/lang/IllegalStateException") (by decide +kernel)⟩
      · exact Or.inr ⟨by rw [h0]; decide, "java/lang/UnsupportedOperationException", by rw [h0]; exact S.2.2.2.2 _ u301, hg.2.2.2.2.2.1 ("java/util/NoSuchElementException", "java/lang/UnsupportedOperationException") (by decide +kernel)⟩
    have hpass_5 : ∀ z ∈ cTabE.take 131, covers z 125 = false ∨ (z.catchType ≠ 0 ∧ ∃ nm : String, (Cond.classLink RL z.catchType nm).before #[.ref (ad 0 0), .int 1, .int p2, .int p3, .int p4] s = true ∧ va_Nc "java/lang/ArithmeticException" nm s) := by
      have hc : ∀ z ∈ cTabE.take 131, covers z 125 = false ∨ z.catchType = 95 ∨ z.catchType = 97 ∨ z.catchType = 99 ∨ z.catchType = 101 ∨ z.catchType = 103 := by decide +kernel
      intro z hz
      rcases hc z hz with h0 | h0 | h0 | h0 | h0 | h0
      · exact Or.inl h0
      · exact Or.inr ⟨by rw [h0]; decide, "java/lang/IndexOutOfBoundsException", by rw [h0]; exact S.2.2.2.2 _ u219, hg.2.2.2.2.2.1 ("java/lang/ArithmeticException", "java/lang/IndexOutOfBoundsException") (by decide +kernel)⟩
      · exact Or.inr ⟨by rw [h0]; decide, "java/lang/IllegalArgumentException", by rw [h0]; exact S.2.2.2.2 _ u299, hg.2.2.2.2.2.1 ("java/lang/ArithmeticException", "java/lang/IllegalArgumentException") (by decide +kernel)⟩
      · exact Or.inr ⟨by rw [h0]; decide, "java/lang/IllegalStateException", by rw [h0]; exact S.2.2.2.2 _ u300, hg.2.2.2.2.2.1 ("java/lang/ArithmeticException", "java/lang/IllegalStateException") (by decide +kernel)⟩
      · exact Or.inr ⟨by rw [h0]; decide, "java/lang/UnsupportedOperationException", by rw [h0]; exact S.2.2.2.2 _ u301, hg.2.2.2.2.2.1 ("java/lang/ArithmeticException", "java/lang/UnsupportedOperationException") (by decide +kernel)⟩
      · exact Or.inr ⟨by rw [h0]; decide, "java/util/NoSuchElementException", by rw [h0]; exact S.2.2.2.2 _ u302, hg.2.2.2.2.2.1 ("java/lang/ArithmeticException", "java/util/NoSuchElementException") (by decide +kernel)⟩
    rcases hx1 with ⟨rfl, h9⟩ | ⟨rfl, h9⟩ | ⟨rfl, h9⟩ | ⟨rfl, h9⟩ | ⟨rfl, h9⟩ | ⟨rfl, h9⟩
    · skip
      have hpass_0 : ∀ z ∈ cTabE.take 1, covers z 125 = false ∨ (z.catchType ≠ 0 ∧ ∃ nm : String, (Cond.classLink RL z.catchType nm).before #[.ref (ad 0 0), .int 1, .int p2, .int p3, .int p4] s = true ∧ va_Nc "java/lang/IndexOutOfBoundsException" nm s) := by
        have hc : ∀ z ∈ cTabE.take 1, covers z 125 = false := by decide +kernel
        exact fun z hz => Or.inl (hc z hz)
      refine vx_catch (name := "java/lang/IndexOutOfBoundsException") S.2.2.2.1 (cTabE.take 1) (⟨122, 128, 294, 95⟩ : ExceptionTableEntry) (cTabE.drop 2) (htab.trans rfl) hpass_0 (by decide) (by decide) (S.2.2.2.2 _ u219) (va_Nw.use rfl (hg.2.2.2.2.1.1 ("java/lang/IndexOutOfBoundsException", "java/lang/IndexOutOfBoundsException") (by decide +kernel))) hc1 hc2 hc3 ?_
      refine lv_astore (lv' := [(5, .ref q), (0, .ref (ad 0 0)), (1, .int 1), (2, .int p2), (3, .int p3), (4, .int p4)]) S.1 S.2.1 dL_call_294 hl (by decide) rfl (fun ls hl => ?_)
      refine lv_sipush (v := (-1001)) S.1 S.2.1 dL_call_296 (by decide) ?_
      exact r_iret (y := yL_call) S hr rfl hlk hS (by show _ ≤ mc; omega) (by show _ ≤ ms; omega) dL_call_299 ⟨_, _, ad, rfl, h9, ⟨rfl, rfl⟩, hw⟩
    · skip
      refine vx_catch (name := "java/lang/IllegalArgumentException") S.2.2.2.1 (cTabE.take 27) (⟨122, 128, 300, 97⟩ : ExceptionTableEntry) (cTabE.drop 28) (htab.trans rfl) hpass_1 (by decide) (by decide) (S.2.2.2.2 _ u299) (va_Nw.use rfl (hg.2.2.2.2.1.1 ("java/lang/IllegalArgumentException", "java/lang/IllegalArgumentException") (by decide +kernel))) hc1 hc2 hc3 ?_
      refine lv_astore (lv' := [(5, .ref q), (0, .ref (ad 0 0)), (1, .int 1), (2, .int p2), (3, .int p3), (4, .int p4)]) S.1 S.2.1 dL_call_300 hl (by decide) rfl (fun ls hl => ?_)
      refine lv_sipush (v := (-1002)) S.1 S.2.1 dL_call_302 (by decide) ?_
      exact r_iret (y := yL_call) S hr rfl hlk hS (by show _ ≤ mc; omega) (by show _ ≤ ms; omega) dL_call_305 ⟨_, _, ad, rfl, h9, ⟨rfl, rfl⟩, hw⟩
    · skip
      refine vx_catch (name := "java/lang/IllegalStateException") S.2.2.2.1 (cTabE.take 53) (⟨122, 128, 306, 99⟩ : ExceptionTableEntry) (cTabE.drop 54) (htab.trans rfl) hpass_2 (by decide) (by decide) (S.2.2.2.2 _ u300) (va_Nw.use rfl (hg.2.2.2.2.1.1 ("java/lang/IllegalStateException", "java/lang/IllegalStateException") (by decide +kernel))) hc1 hc2 hc3 ?_
      refine lv_astore (lv' := [(5, .ref q), (0, .ref (ad 0 0)), (1, .int 1), (2, .int p2), (3, .int p3), (4, .int p4)]) S.1 S.2.1 dL_call_306 hl (by decide) rfl (fun ls hl => ?_)
      refine lv_sipush (v := (-1003)) S.1 S.2.1 dL_call_308 (by decide) ?_
      exact r_iret (y := yL_call) S hr rfl hlk hS (by show _ ≤ mc; omega) (by show _ ≤ ms; omega) dL_call_311 ⟨_, _, ad, rfl, h9, ⟨rfl, rfl⟩, hw⟩
    · skip
      refine vx_catch (name := "java/lang/UnsupportedOperationException") S.2.2.2.1 (cTabE.take 79) (⟨122, 128, 312, 101⟩ : ExceptionTableEntry) (cTabE.drop 80) (htab.trans rfl) hpass_3 (by decide) (by decide) (S.2.2.2.2 _ u301) (va_Nw.use rfl (hg.2.2.2.2.1.1 ("java/lang/UnsupportedOperationException", "java/lang/UnsupportedOperationException") (by decide +kernel))) hc1 hc2 hc3 ?_
      refine lv_astore (lv' := [(5, .ref q), (0, .ref (ad 0 0)), (1, .int 1), (2, .int p2), (3, .int p3), (4, .int p4)]) S.1 S.2.1 dL_call_312 hl (by decide) rfl (fun ls hl => ?_)
      refine lv_sipush (v := (-1004)) S.1 S.2.1 dL_call_314 (by decide) ?_
      exact r_iret (y := yL_call) S hr rfl hlk hS (by show _ ≤ mc; omega) (by show _ ≤ ms; omega) dL_call_317 ⟨_, _, ad, rfl, h9, ⟨rfl, rfl⟩, hw⟩
    · skip
      refine vx_catch (name := "java/util/NoSuchElementException") S.2.2.2.1 (cTabE.take 105) (⟨122, 128, 318, 103⟩ : ExceptionTableEntry) (cTabE.drop 106) (htab.trans rfl) hpass_4 (by decide) (by decide) (S.2.2.2.2 _ u302) (va_Nw.use rfl (hg.2.2.2.2.1.1 ("java/util/NoSuchElementException", "java/util/NoSuchElementException") (by decide +kernel))) hc1 hc2 hc3 ?_
      refine lv_astore (lv' := [(5, .ref q), (0, .ref (ad 0 0)), (1, .int 1), (2, .int p2), (3, .int p3), (4, .int p4)]) S.1 S.2.1 dL_call_318 hl (by decide) rfl (fun ls hl => ?_)
      refine lv_sipush (v := (-1005)) S.1 S.2.1 dL_call_320 (by decide) ?_
      exact r_iret (y := yL_call) S hr rfl hlk hS (by show _ ≤ mc; omega) (by show _ ≤ ms; omega) dL_call_323 ⟨_, _, ad, rfl, h9, ⟨rfl, rfl⟩, hw⟩
    · skip
      refine vx_catch (name := "java/lang/ArithmeticException") S.2.2.2.1 (cTabE.take 131) (⟨122, 128, 324, 105⟩ : ExceptionTableEntry) (cTabE.drop 132) (htab.trans rfl) hpass_5 (by decide) (by decide) (S.2.2.2.2 _ u303) (va_Nw.use rfl (hg.2.2.2.2.1.1 ("java/lang/ArithmeticException", "java/lang/ArithmeticException") (by decide +kernel))) hc1 hc2 hc3 ?_
      refine lv_astore (lv' := [(5, .ref q), (0, .ref (ad 0 0)), (1, .int 1), (2, .int p2), (3, .int p3), (4, .int p4)]) S.1 S.2.1 dL_call_324 hl (by decide) rfl (fun ls hl => ?_)
      refine lv_sipush (v := (-1006)) S.1 S.2.1 dL_call_326 (by decide) ?_
      exact r_iret (y := yL_call) S hr rfl hlk hS (by show _ ≤ mc; omega) (by show _ ≤ ms; omega) dL_call_329 ⟨_, _, ad, rfl, h9, ⟨rfl, rfl⟩, hw⟩
  · obtain ⟨r1, K1, ad1, rfl, h, hA, hw⟩ := hq
    exact r_iret (y := yL_call) S hr rfl hlk hS (by show _ ≤ mc; omega) (by show _ ≤ ms; omega) dL_call_128 ⟨_, _, ad1, rfl, h, hA, hw⟩
def wpL_c2 (post : Int32 → Prop) (mc ms : Nat) (K : KS) (p2 p3 p4 : Int32) : Prop := wpX6_ownerOf (fun v => post v) (fun E => (E = "java/lang/IndexOutOfBoundsException" ∧ post (-1001)) ∨ (E = "java/lang/IllegalArgumentException" ∧ post (-1002)) ∨ (E = "java/lang/IllegalStateException" ∧ post (-1003)) ∨ (E = "java/lang/UnsupportedOperationException" ∧ post (-1004)) ∨ (E = "java/util/NoSuchElementException" ∧ post (-1005)) ∨ (E = "java/lang/ArithmeticException" ∧ post (-1006))) mc ms K p2
set_option maxHeartbeats 4000000 in
set_option maxRecDepth 100000 in
theorem mtL_c2 {l : Launch} {D : va_G} {cI : Nat → ClassId} {e0 : Nat} {A : Nat → Prop} {ad : Nat → Nat → Nat} {K M : KS} {ap o : Int64} {od : UInt64} {mc ms : Nat} {p2 p3 p4 : Int32} {post : Int32 → Prop} (hfl : l.stackTraces = false) (h : wpL_c2 post mc ms K p2 p3 p4) : CW l D cI e0 A yL_call cL_call 6 (some .int) cTab 9 366 mc ms [.ref (ad 0 0), .int 2, .int p2, .int p3, .int p4] (HT D cI e0 A ad K M ap o od) (qP D cI e0 A ad K M ap o od rI post) := by
  refine CW.of (by decide) (Nat.le_of_ble_eq_true rfl) (fun p e s m below meth c ls FX hw hS hl => ?_)
  obtain ⟨S, hg, hr, hlk, hnm, htab⟩ := FX
  have hl : lv_has ls 6 [(0, .ref (ad 0 0)), (1, .int 2), (2, .int p2), (3, .int p3), (4, .int p4)] := hl
  unfold wpL_c2 at h
  refine lv_iload_n S.1 S.2.1 dL_call_0 rfl (lv_at hl 1 rfl) ?_
  refine lv_tableIn (off := 128) (tgt := 129) S.1 S.2.1 dL_call_1 (by decide) (by decide) (by decide) (by decide) ?_
  refine lv_aload_n S.1 S.2.1 dL_call_129 rfl (lv_at hl 0 rfl) ?_
  refine lv_iload_n S.1 S.2.1 dL_call_130 rfl (lv_at hl 2 rfl) ?_
  refine r_call (rest := []) S hg hS (mtX6_ownerOf (mc := mc) (ms := ms) hfl h) u481 u482 u483 u27 u484 hdX6_ownerOf (rv0 hg hw) hw ⟨Nat.le_of_ble_eq_true rfl, Nat.le_of_ble_eq_true rfl⟩ ⟨by show 0 + mc ≤ mc; omega, by show 0 + ms ≤ ms; omega⟩ hl.1 (Nat.le_of_ble_eq_true rfl) rfl dL_call_131 (fun E ce q H locs hx hS hc1 hc2 hc3 => ?_) (fun rv H locs hq hS => ?_)
  · obtain ⟨hx1, hw⟩ := hx
    have hpass_1 : ∀ z ∈ cTabE.take 28, covers z 131 = false ∨ (z.catchType ≠ 0 ∧ ∃ nm : String, (Cond.classLink RL z.catchType nm).before #[.ref (ad 0 0), .int 2, .int p2, .int p3, .int p4] s = true ∧ va_Nc "java/lang/IllegalArgumentException" nm s) := by
      have hc : ∀ z ∈ cTabE.take 28, covers z 131 = false ∨ z.catchType = 95 := by decide +kernel
      intro z hz
      rcases hc z hz with h0 | h0
      · exact Or.inl h0
      · exact Or.inr ⟨by rw [h0]; decide, "java/lang/IndexOutOfBoundsException", by rw [h0]; exact S.2.2.2.2 _ u219, hg.2.2.2.2.2.1 ("java/lang/IllegalArgumentException", "java/lang/IndexOutOfBoundsException") (by decide +kernel)⟩
    have hpass_2 : ∀ z ∈ cTabE.take 54, covers z 131 = false ∨ (z.catchType ≠ 0 ∧ ∃ nm : String, (Cond.classLink RL z.catchType nm).before #[.ref (ad 0 0), .int 2, .int p2, .int p3, .int p4] s = true ∧ va_Nc "java/lang/IllegalStateException" nm s) := by
      have hc : ∀ z ∈ cTabE.take 54, covers z 131 = false ∨ z.catchType = 95 ∨ z.catchType = 97 := by decide +kernel
      intro z hz
      rcases hc z hz with h0 | h0 | h0
      · exact Or.inl h0
      · exact Or.inr ⟨by rw [h0]; decide, "java/lang/IndexOutOfBoundsException", by rw [h0]; exact S.2.2.2.2 _ u219, hg.2.2.2.2.2.1 ("java/lang/IllegalStateException", "java/lang/IndexOutOfBoundsException") (by decide +kernel)⟩
      · exact Or.inr ⟨by rw [h0]; decide, "java/lang/IllegalArgumentException", by rw [h0]; exact S.2.2.2.2 _ u299, hg.2.2.2.2.2.1 ("java/lang/IllegalStateException", "java/lang/IllegalArgumentException") (by decide +kernel)⟩
    have hpass_3 : ∀ z ∈ cTabE.take 80, covers z 131 = false ∨ (z.catchType ≠ 0 ∧ ∃ nm : String, (Cond.classLink RL z.catchType nm).before #[.ref (ad 0 0), .int 2, .int p2, .int p3, .int p4] s = true ∧ va_Nc "java/lang/UnsupportedOperationException" nm s) := by
      have hc : ∀ z ∈ cTabE.take 80, covers z 131 = false ∨ z.catchType = 95 ∨ z.catchType = 97 ∨ z.catchType = 99 := by decide +kernel
      intro z hz
      rcases hc z hz with h0 | h0 | h0 | h0
      · exact Or.inl h0
      · exact Or.inr ⟨by rw [h0]; decide, "java/lang/IndexOutOfBoundsException", by rw [h0]; exact S.2.2.2.2 _ u219, hg.2.2.2.2.2.1 ("java/lang/UnsupportedOperationException", "java/lang/IndexOutOfBoundsException") (by decide +kernel)⟩
      · exact Or.inr ⟨by rw [h0]; decide, "java/lang/IllegalArgumentException", by rw [h0]; exact S.2.2.2.2 _ u299, hg.2.2.2.2.2.1 ("java/lang/UnsupportedOperationException", "java/lang/IllegalArgumentException") (by decide +kernel)⟩
      · exact Or.inr ⟨by rw [h0]; decide, "java/lang/IllegalStateException", by rw [h0]; exact S.2.2.2.2 _ u300, hg.2.2.2.2.2.1 ("java/lang/UnsupportedOperationException", "java/lang/IllegalStateException") (by decide +kernel)⟩
    have hpass_4 : ∀ z ∈ cTabE.take 106, covers z 131 = false ∨ (z.catchType ≠ 0 ∧ ∃ nm : String, (Cond.classLink RL z.catchType nm).before #[.ref (ad 0 0), .int 2, .int p2, .int p3, .int p4] s = true ∧ va_Nc "java/util/NoSuchElementException" nm s) := by
      have hc : ∀ z ∈ cTabE.take 106, covers z 131 = false ∨ z.catchType = 95 ∨ z.catchType = 97 ∨ z.catchType = 99 ∨ z.catchType = 101 := by decide +kernel
      intro z hz
      rcases hc z hz with h0 | h0 | h0 | h0 | h0
      · exact Or.inl h0
      · exact Or.inr ⟨by rw [h0]; decide, "java/lang/IndexOutOfBoundsException", by rw [h0]; exact S.2.2.2.2 _ u219, hg.2.2.2.2.2.1 ("java/util/NoSuchElementException", "java/lang/IndexOutOfBoundsException") (by decide +kernel)⟩
      · exact Or.inr ⟨by rw [h0]; decide, "java/lang/IllegalArgumentException", by rw [h0]; exact S.2.2.2.2 _ u299, hg.2.2.2.2.2.1 ("java/util/NoSuchElementException", "java/lang/IllegalArgumentException") (by decide +kernel)⟩
      · exact Or.inr ⟨by rw [h0]; decide, "java/lang/IllegalStateException", by rw [h0]; exact S.2.2.2.2 _ u300, hg.2.2.2.2.2.1 ("java/util/NoSuchElementException", "java/lang/IllegalStateException") (by decide +kernel)⟩
      · exact Or.inr ⟨by rw [h0]; decide, "java/lang/UnsupportedOperationException", by rw [h0]; exact S.2.2.2.2 _ u301, hg.2.2.2.2.2.1 ("java/util/NoSuchElementException", "java/lang/UnsupportedOperationException") (by decide +kernel)⟩
    have hpass_5 : ∀ z ∈ cTabE.take 132, covers z 131 = false ∨ (z.catchType ≠ 0 ∧ ∃ nm : String, (Cond.classLink RL z.catchType nm).before #[.ref (ad 0 0), .int 2, .int p2, .int p3, .int p4] s = true ∧ va_Nc "java/lang/ArithmeticException" nm s) := by
      have hc : ∀ z ∈ cTabE.take 132, covers z 131 = false ∨ z.catchType = 95 ∨ z.catchType = 97 ∨ z.catchType = 99 ∨ z.catchType = 101 ∨ z.catchType = 103 := by decide +kernel
      intro z hz
      rcases hc z hz with h0 | h0 | h0 | h0 | h0 | h0
      · exact Or.inl h0
      · exact Or.inr ⟨by rw [h0]; decide, "java/lang/IndexOutOfBoundsException", by rw [h0]; exact S.2.2.2.2 _ u219, hg.2.2.2.2.2.1 ("java/lang/ArithmeticException", "java/lang/IndexOutOfBoundsException") (by decide +kernel)⟩
      · exact Or.inr ⟨by rw [h0]; decide, "java/lang/IllegalArgumentException", by rw [h0]; exact S.2.2.2.2 _ u299, hg.2.2.2.2.2.1 ("java/lang/ArithmeticException", "java/lang/IllegalArgumentException") (by decide +kernel)⟩
      · exact Or.inr ⟨by rw [h0]; decide, "java/lang/IllegalStateException", by rw [h0]; exact S.2.2.2.2 _ u300, hg.2.2.2.2.2.1 ("java/lang/ArithmeticException", "java/lang/IllegalStateException") (by decide +kernel)⟩
      · exact Or.inr ⟨by rw [h0]; decide, "java/lang/UnsupportedOperationException", by rw [h0]; exact S.2.2.2.2 _ u301, hg.2.2.2.2.2.1 ("java/lang/ArithmeticException", "java/lang/UnsupportedOperationException") (by decide +kernel)⟩
      · exact Or.inr ⟨by rw [h0]; decide, "java/util/NoSuchElementException", by rw [h0]; exact S.2.2.2.2 _ u302, hg.2.2.2.2.2.1 ("java/lang/ArithmeticException", "java/util/NoSuchElementException") (by decide +kernel)⟩
    rcases hx1 with ⟨rfl, h9⟩ | ⟨rfl, h9⟩ | ⟨rfl, h9⟩ | ⟨rfl, h9⟩ | ⟨rfl, h9⟩ | ⟨rfl, h9⟩
    · skip
      have hpass_0 : ∀ z ∈ cTabE.take 2, covers z 131 = false ∨ (z.catchType ≠ 0 ∧ ∃ nm : String, (Cond.classLink RL z.catchType nm).before #[.ref (ad 0 0), .int 2, .int p2, .int p3, .int p4] s = true ∧ va_Nc "java/lang/IndexOutOfBoundsException" nm s) := by
        have hc : ∀ z ∈ cTabE.take 2, covers z 131 = false := by decide +kernel
        exact fun z hz => Or.inl (hc z hz)
      refine vx_catch (name := "java/lang/IndexOutOfBoundsException") S.2.2.2.1 (cTabE.take 2) (⟨129, 134, 294, 95⟩ : ExceptionTableEntry) (cTabE.drop 3) (htab.trans rfl) hpass_0 (by decide) (by decide) (S.2.2.2.2 _ u219) (va_Nw.use rfl (hg.2.2.2.2.1.1 ("java/lang/IndexOutOfBoundsException", "java/lang/IndexOutOfBoundsException") (by decide +kernel))) hc1 hc2 hc3 ?_
      refine lv_astore (lv' := [(5, .ref q), (0, .ref (ad 0 0)), (1, .int 2), (2, .int p2), (3, .int p3), (4, .int p4)]) S.1 S.2.1 dL_call_294 hl (by decide) rfl (fun ls hl => ?_)
      refine lv_sipush (v := (-1001)) S.1 S.2.1 dL_call_296 (by decide) ?_
      exact r_iret (y := yL_call) S hr rfl hlk hS (by show _ ≤ mc; omega) (by show _ ≤ ms; omega) dL_call_299 ⟨_, rfl, h9, hw⟩
    · skip
      refine vx_catch (name := "java/lang/IllegalArgumentException") S.2.2.2.1 (cTabE.take 28) (⟨129, 134, 300, 97⟩ : ExceptionTableEntry) (cTabE.drop 29) (htab.trans rfl) hpass_1 (by decide) (by decide) (S.2.2.2.2 _ u299) (va_Nw.use rfl (hg.2.2.2.2.1.1 ("java/lang/IllegalArgumentException", "java/lang/IllegalArgumentException") (by decide +kernel))) hc1 hc2 hc3 ?_
      refine lv_astore (lv' := [(5, .ref q), (0, .ref (ad 0 0)), (1, .int 2), (2, .int p2), (3, .int p3), (4, .int p4)]) S.1 S.2.1 dL_call_300 hl (by decide) rfl (fun ls hl => ?_)
      refine lv_sipush (v := (-1002)) S.1 S.2.1 dL_call_302 (by decide) ?_
      exact r_iret (y := yL_call) S hr rfl hlk hS (by show _ ≤ mc; omega) (by show _ ≤ ms; omega) dL_call_305 ⟨_, rfl, h9, hw⟩
    · skip
      refine vx_catch (name := "java/lang/IllegalStateException") S.2.2.2.1 (cTabE.take 54) (⟨129, 134, 306, 99⟩ : ExceptionTableEntry) (cTabE.drop 55) (htab.trans rfl) hpass_2 (by decide) (by decide) (S.2.2.2.2 _ u300) (va_Nw.use rfl (hg.2.2.2.2.1.1 ("java/lang/IllegalStateException", "java/lang/IllegalStateException") (by decide +kernel))) hc1 hc2 hc3 ?_
      refine lv_astore (lv' := [(5, .ref q), (0, .ref (ad 0 0)), (1, .int 2), (2, .int p2), (3, .int p3), (4, .int p4)]) S.1 S.2.1 dL_call_306 hl (by decide) rfl (fun ls hl => ?_)
      refine lv_sipush (v := (-1003)) S.1 S.2.1 dL_call_308 (by decide) ?_
      exact r_iret (y := yL_call) S hr rfl hlk hS (by show _ ≤ mc; omega) (by show _ ≤ ms; omega) dL_call_311 ⟨_, rfl, h9, hw⟩
    · skip
      refine vx_catch (name := "java/lang/UnsupportedOperationException") S.2.2.2.1 (cTabE.take 80) (⟨129, 134, 312, 101⟩ : ExceptionTableEntry) (cTabE.drop 81) (htab.trans rfl) hpass_3 (by decide) (by decide) (S.2.2.2.2 _ u301) (va_Nw.use rfl (hg.2.2.2.2.1.1 ("java/lang/UnsupportedOperationException", "java/lang/UnsupportedOperationException") (by decide +kernel))) hc1 hc2 hc3 ?_
      refine lv_astore (lv' := [(5, .ref q), (0, .ref (ad 0 0)), (1, .int 2), (2, .int p2), (3, .int p3), (4, .int p4)]) S.1 S.2.1 dL_call_312 hl (by decide) rfl (fun ls hl => ?_)
      refine lv_sipush (v := (-1004)) S.1 S.2.1 dL_call_314 (by decide) ?_
      exact r_iret (y := yL_call) S hr rfl hlk hS (by show _ ≤ mc; omega) (by show _ ≤ ms; omega) dL_call_317 ⟨_, rfl, h9, hw⟩
    · skip
      refine vx_catch (name := "java/util/NoSuchElementException") S.2.2.2.1 (cTabE.take 106) (⟨129, 134, 318, 103⟩ : ExceptionTableEntry) (cTabE.drop 107) (htab.trans rfl) hpass_4 (by decide) (by decide) (S.2.2.2.2 _ u302) (va_Nw.use rfl (hg.2.2.2.2.1.1 ("java/util/NoSuchElementException", "java/util/NoSuchElementException") (by decide +kernel))) hc1 hc2 hc3 ?_
      refine lv_astore (lv' := [(5, .ref q), (0, .ref (ad 0 0)), (1, .int 2), (2, .int p2), (3, .int p3), (4, .int p4)]) S.1 S.2.1 dL_call_318 hl (by decide) rfl (fun ls hl => ?_)
      refine lv_sipush (v := (-1005)) S.1 S.2.1 dL_call_320 (by decide) ?_
      exact r_iret (y := yL_call) S hr rfl hlk hS (by show _ ≤ mc; omega) (by show _ ≤ ms; omega) dL_call_323 ⟨_, rfl, h9, hw⟩
    · skip
      refine vx_catch (name := "java/lang/ArithmeticException") S.2.2.2.1 (cTabE.take 132) (⟨129, 134, 324, 105⟩ : ExceptionTableEntry) (cTabE.drop 133) (htab.trans rfl) hpass_5 (by decide) (by decide) (S.2.2.2.2 _ u303) (va_Nw.use rfl (hg.2.2.2.2.1.1 ("java/lang/ArithmeticException", "java/lang/ArithmeticException") (by decide +kernel))) hc1 hc2 hc3 ?_
      refine lv_astore (lv' := [(5, .ref q), (0, .ref (ad 0 0)), (1, .int 2), (2, .int p2), (3, .int p3), (4, .int p4)]) S.1 S.2.1 dL_call_324 hl (by decide) rfl (fun ls hl => ?_)
      refine lv_sipush (v := (-1006)) S.1 S.2.1 dL_call_326 (by decide) ?_
      exact r_iret (y := yL_call) S hr rfl hlk hS (by show _ ≤ mc; omega) (by show _ ≤ ms; omega) dL_call_329 ⟨_, rfl, h9, hw⟩
  · obtain ⟨r1, rfl, h, hw⟩ := hq
    exact r_iret (y := yL_call) S hr rfl hlk hS (by show _ ≤ mc; omega) (by show _ ≤ ms; omega) dL_call_134 ⟨_, rfl, h, hw⟩
def wpL_c3 (post : Int32 → Prop) (mc ms : Nat) (K : KS) (p2 p3 p4 : Int32) : Prop := wpX6_ownerByPostings (fun v => post v) (fun E => (E = "java/lang/IndexOutOfBoundsException" ∧ post (-1001)) ∨ (E = "java/lang/IllegalArgumentException" ∧ post (-1002)) ∨ (E = "java/lang/IllegalStateException" ∧ post (-1003)) ∨ (E = "java/lang/UnsupportedOperationException" ∧ post (-1004)) ∨ (E = "java/util/NoSuchElementException" ∧ post (-1005)) ∨ (E = "java/lang/ArithmeticException" ∧ post (-1006))) mc ms K p2
set_option maxHeartbeats 4000000 in
set_option maxRecDepth 100000 in
theorem mtL_c3 {l : Launch} {D : va_G} {cI : Nat → ClassId} {e0 : Nat} {A : Nat → Prop} {ad : Nat → Nat → Nat} {K M : KS} {ap o : Int64} {od : UInt64} {mc ms : Nat} {p2 p3 p4 : Int32} {post : Int32 → Prop} (hfl : l.stackTraces = false) (h : wpL_c3 post mc ms K p2 p3 p4) : CW l D cI e0 A yL_call cL_call 6 (some .int) cTab 9 366 mc ms [.ref (ad 0 0), .int 3, .int p2, .int p3, .int p4] (HT D cI e0 A ad K M ap o od) (qP D cI e0 A ad K M ap o od rI post) := by
  refine CW.of (by decide) (Nat.le_of_ble_eq_true rfl) (fun p e s m below meth c ls FX hw hS hl => ?_)
  obtain ⟨S, hg, hr, hlk, hnm, htab⟩ := FX
  have hl : lv_has ls 6 [(0, .ref (ad 0 0)), (1, .int 3), (2, .int p2), (3, .int p3), (4, .int p4)] := hl
  unfold wpL_c3 at h
  refine lv_iload_n S.1 S.2.1 dL_call_0 rfl (lv_at hl 1 rfl) ?_
  refine lv_tableIn (off := 134) (tgt := 135) S.1 S.2.1 dL_call_1 (by decide) (by decide) (by decide) (by decide) ?_
  refine lv_aload_n S.1 S.2.1 dL_call_135 rfl (lv_at hl 0 rfl) ?_
  refine lv_iload_n S.1 S.2.1 dL_call_136 rfl (lv_at hl 2 rfl) ?_
  refine r_call (rest := []) S hg hS (mtX6_ownerByPostings (mc := mc) (ms := ms) hfl h) u490 u491 u492 u27 u493 hdX6_ownerByPostings (rv0 hg hw) hw ⟨Nat.le_of_ble_eq_true rfl, Nat.le_of_ble_eq_true rfl⟩ ⟨by show 0 + mc ≤ mc; omega, by show 0 + ms ≤ ms; omega⟩ hl.1 (Nat.le_of_ble_eq_true rfl) rfl dL_call_137 (fun E ce q H locs hx hS hc1 hc2 hc3 => ?_) (fun rv H locs hq hS => ?_)
  · obtain ⟨hx1, hw⟩ := hx
    have hpass_1 : ∀ z ∈ cTabE.take 29, covers z 137 = false ∨ (z.catchType ≠ 0 ∧ ∃ nm : String, (Cond.classLink RL z.catchType nm).before #[.ref (ad 0 0), .int 3, .int p2, .int p3, .int p4] s = true ∧ va_Nc "java/lang/IllegalArgumentException" nm s) := by
      have hc : ∀ z ∈ cTabE.take 29, covers z 137 = false ∨ z.catchType = 95 := by decide +kernel
      intro z hz
      rcases hc z hz with h0 | h0
      · exact Or.inl h0
      · exact Or.inr ⟨by rw [h0]; decide, "java/lang/IndexOutOfBoundsException", by rw [h0]; exact S.2.2.2.2 _ u219, hg.2.2.2.2.2.1 ("java/lang/IllegalArgumentException", "java/lang/IndexOutOfBoundsException") (by decide +kernel)⟩
    have hpass_2 : ∀ z ∈ cTabE.take 55, covers z 137 = false ∨ (z.catchType ≠ 0 ∧ ∃ nm : String, (Cond.classLink RL z.catchType nm).before #[.ref (ad 0 0), .int 3, .int p2, .int p3, .int p4] s = true ∧ va_Nc "java/lang/IllegalStateException" nm s) := by
      have hc : ∀ z ∈ cTabE.take 55, covers z 137 = false ∨ z.catchType = 95 ∨ z.catchType = 97 := by decide +kernel
      intro z hz
      rcases hc z hz with h0 | h0 | h0
      · exact Or.inl h0
      · exact Or.inr ⟨by rw [h0]; decide, "java/lang/IndexOutOfBoundsException", by rw [h0]; exact S.2.2.2.2 _ u219, hg.2.2.2.2.2.1 ("java/lang/IllegalStateException", "java/lang/IndexOutOfBoundsException") (by decide +kernel)⟩
      · exact Or.inr ⟨by rw [h0]; decide, "java/lang/IllegalArgumentException", by rw [h0]; exact S.2.2.2.2 _ u299, hg.2.2.2.2.2.1 ("java/lang/IllegalStateException", "java/lang/IllegalArgumentException") (by decide +kernel)⟩
    have hpass_3 : ∀ z ∈ cTabE.take 81, covers z 137 = false ∨ (z.catchType ≠ 0 ∧ ∃ nm : String, (Cond.classLink RL z.catchType nm).before #[.ref (ad 0 0), .int 3, .int p2, .int p3, .int p4] s = true ∧ va_Nc "java/lang/UnsupportedOperationException" nm s) := by
      have hc : ∀ z ∈ cTabE.take 81, covers z 137 = false ∨ z.catchType = 95 ∨ z.catchType = 97 ∨ z.catchType = 99 := by decide +kernel
      intro z hz
      rcases hc z hz with h0 | h0 | h0 | h0
      · exact Or.inl h0
      · exact Or.inr ⟨by rw [h0]; decide, "java/lang/IndexOutOfBoundsException", by rw [h0]; exact S.2.2.2.2 _ u219, hg.2.2.2.2.2.1 ("java/lang/UnsupportedOperationException", "java/lang/IndexOutOfBoundsException") (by decide +kernel)⟩
      · exact Or.inr ⟨by rw [h0]; decide, "java/lang/IllegalArgumentException", by rw [h0]; exact S.2.2.2.2 _ u299, hg.2.2.2.2.2.1 ("java/lang/UnsupportedOperationException", "java/lang/IllegalArgumentException") (by decide +kernel)⟩
      · exact Or.inr ⟨by rw [h0]; decide, "java/lang/IllegalStateException", by rw [h0]; exact S.2.2.2.2 _ u300, hg.2.2.2.2.2.1 ("java/lang/UnsupportedOperationException", "java/lang/IllegalStateException") (by decide +kernel)⟩
    have hpass_4 : ∀ z ∈ cTabE.take 107, covers z 137 = false ∨ (z.catchType ≠ 0 ∧ ∃ nm : String, (Cond.classLink RL z.catchType nm).before #[.ref (ad 0 0), .int 3, .int p2, .int p3, .int p4] s = true ∧ va_Nc "java/util/NoSuchElementException" nm s) := by
      have hc : ∀ z ∈ cTabE.take 107, covers z 137 = false ∨ z.catchType = 95 ∨ z.catchType = 97 ∨ z.catchType = 99 ∨ z.catchType = 101 := by decide +kernel
      intro z hz
      rcases hc z hz with h0 | h0 | h0 | h0 | h0
      · exact Or.inl h0
      · exact Or.inr ⟨by rw [h0]; decide, "java/lang/IndexOutOfBoundsException", by rw [h0]; exact S.2.2.2.2 _ u219, hg.2.2.2.2.2.1 ("java/util/NoSuchElementException", "java/lang/IndexOutOfBoundsException") (by decide +kernel)⟩
      · exact Or.inr ⟨by rw [h0]; decide, "java/lang/IllegalArgumentException", by rw [h0]; exact S.2.2.2.2 _ u299, hg.2.2.2.2.2.1 ("java/util/NoSuchElementException", "java/lang/IllegalArgumentException") (by decide +kernel)⟩
      · exact Or.inr ⟨by rw [h0]; decide, "java/lang/IllegalStateException", by rw [h0]; exact S.2.2.2.2 _ u300, hg.2.2.2.2.2.1 ("java/util/NoSuchElementException", "java/lang/IllegalStateException") (by decide +kernel)⟩
      · exact Or.inr ⟨by rw [h0]; decide, "java/lang/UnsupportedOperationException", by rw [h0]; exact S.2.2.2.2 _ u301, hg.2.2.2.2.2.1 ("java/util/NoSuchElementException", "java/lang/UnsupportedOperationException") (by decide +kernel)⟩
    have hpass_5 : ∀ z ∈ cTabE.take 133, covers z 137 = false ∨ (z.catchType ≠ 0 ∧ ∃ nm : String, (Cond.classLink RL z.catchType nm).before #[.ref (ad 0 0), .int 3, .int p2, .int p3, .int p4] s = true ∧ va_Nc "java/lang/ArithmeticException" nm s) := by
      have hc : ∀ z ∈ cTabE.take 133, covers z 137 = false ∨ z.catchType = 95 ∨ z.catchType = 97 ∨ z.catchType = 99 ∨ z.catchType = 101 ∨ z.catchType = 103 := by decide +kernel
      intro z hz
      rcases hc z hz with h0 | h0 | h0 | h0 | h0 | h0
      · exact Or.inl h0
      · exact Or.inr ⟨by rw [h0]; decide, "java/lang/IndexOutOfBoundsException", by rw [h0]; exact S.2.2.2.2 _ u219, hg.2.2.2.2.2.1 ("java/lang/ArithmeticException", "java/lang/IndexOutOfBoundsException") (by decide +kernel)⟩
      · exact Or.inr ⟨by rw [h0]; decide, "java/lang/IllegalArgumentException", by rw [h0]; exact S.2.2.2.2 _ u299, hg.2.2.2.2.2.1 ("java/lang/ArithmeticException", "java/lang/IllegalArgumentException") (by decide +kernel)⟩
      · exact Or.inr ⟨by rw [h0]; decide, "java/lang/IllegalStateException", by rw [h0]; exact S.2.2.2.2 _ u300, hg.2.2.2.2.2.1 ("java/lang/ArithmeticException", "java/lang/IllegalStateException") (by decide +kernel)⟩
      · exact Or.inr ⟨by rw [h0]; decide, "java/lang/UnsupportedOperationException", by rw [h0]; exact S.2.2.2.2 _ u301, hg.2.2.2.2.2.1 ("java/lang/ArithmeticException", "java/lang/UnsupportedOperationException") (by decide +kernel)⟩
      · exact Or.inr ⟨by rw [h0]; decide, "java/util/NoSuchElementException", by rw [h0]; exact S.2.2.2.2 _ u302, hg.2.2.2.2.2.1 ("java/lang/ArithmeticException", "java/util/NoSuchElementException") (by decide +kernel)⟩
    rcases hx1 with ⟨rfl, h9⟩ | ⟨rfl, h9⟩ | ⟨rfl, h9⟩ | ⟨rfl, h9⟩ | ⟨rfl, h9⟩ | ⟨rfl, h9⟩
    · skip
      have hpass_0 : ∀ z ∈ cTabE.take 3, covers z 137 = false ∨ (z.catchType ≠ 0 ∧ ∃ nm : String, (Cond.classLink RL z.catchType nm).before #[.ref (ad 0 0), .int 3, .int p2, .int p3, .int p4] s = true ∧ va_Nc "java/lang/IndexOutOfBoundsException" nm s) := by
        have hc : ∀ z ∈ cTabE.take 3, covers z 137 = false := by decide +kernel
        exact fun z hz => Or.inl (hc z hz)
      refine vx_catch (name := "java/lang/IndexOutOfBoundsException") S.2.2.2.1 (cTabE.take 3) (⟨135, 140, 294, 95⟩ : ExceptionTableEntry) (cTabE.drop 4) (htab.trans rfl) hpass_0 (by decide) (by decide) (S.2.2.2.2 _ u219) (va_Nw.use rfl (hg.2.2.2.2.1.1 ("java/lang/IndexOutOfBoundsException", "java/lang/IndexOutOfBoundsException") (by decide +kernel))) hc1 hc2 hc3 ?_
      refine lv_astore (lv' := [(5, .ref q), (0, .ref (ad 0 0)), (1, .int 3), (2, .int p2), (3, .int p3), (4, .int p4)]) S.1 S.2.1 dL_call_294 hl (by decide) rfl (fun ls hl => ?_)
      refine lv_sipush (v := (-1001)) S.1 S.2.1 dL_call_296 (by decide) ?_
      exact r_iret (y := yL_call) S hr rfl hlk hS (by show _ ≤ mc; omega) (by show _ ≤ ms; omega) dL_call_299 ⟨_, rfl, h9, hw⟩
    · skip
      refine vx_catch (name := "java/lang/IllegalArgumentException") S.2.2.2.1 (cTabE.take 29) (⟨135, 140, 300, 97⟩ : ExceptionTableEntry) (cTabE.drop 30) (htab.trans rfl) hpass_1 (by decide) (by decide) (S.2.2.2.2 _ u299) (va_Nw.use rfl (hg.2.2.2.2.1.1 ("java/lang/IllegalArgumentException", "java/lang/IllegalArgumentException") (by decide +kernel))) hc1 hc2 hc3 ?_
      refine lv_astore (lv' := [(5, .ref q), (0, .ref (ad 0 0)), (1, .int 3), (2, .int p2), (3, .int p3), (4, .int p4)]) S.1 S.2.1 dL_call_300 hl (by decide) rfl (fun ls hl => ?_)
      refine lv_sipush (v := (-1002)) S.1 S.2.1 dL_call_302 (by decide) ?_
      exact r_iret (y := yL_call) S hr rfl hlk hS (by show _ ≤ mc; omega) (by show _ ≤ ms; omega) dL_call_305 ⟨_, rfl, h9, hw⟩
    · skip
      refine vx_catch (name := "java/lang/IllegalStateException") S.2.2.2.1 (cTabE.take 55) (⟨135, 140, 306, 99⟩ : ExceptionTableEntry) (cTabE.drop 56) (htab.trans rfl) hpass_2 (by decide) (by decide) (S.2.2.2.2 _ u300) (va_Nw.use rfl (hg.2.2.2.2.1.1 ("java/lang/IllegalStateException", "java/lang/IllegalStateException") (by decide +kernel))) hc1 hc2 hc3 ?_
      refine lv_astore (lv' := [(5, .ref q), (0, .ref (ad 0 0)), (1, .int 3), (2, .int p2), (3, .int p3), (4, .int p4)]) S.1 S.2.1 dL_call_306 hl (by decide) rfl (fun ls hl => ?_)
      refine lv_sipush (v := (-1003)) S.1 S.2.1 dL_call_308 (by decide) ?_
      exact r_iret (y := yL_call) S hr rfl hlk hS (by show _ ≤ mc; omega) (by show _ ≤ ms; omega) dL_call_311 ⟨_, rfl, h9, hw⟩
    · skip
      refine vx_catch (name := "java/lang/UnsupportedOperationException") S.2.2.2.1 (cTabE.take 81) (⟨135, 140, 312, 101⟩ : ExceptionTableEntry) (cTabE.drop 82) (htab.trans rfl) hpass_3 (by decide) (by decide) (S.2.2.2.2 _ u301) (va_Nw.use rfl (hg.2.2.2.2.1.1 ("java/lang/UnsupportedOperationException", "java/lang/UnsupportedOperationException") (by decide +kernel))) hc1 hc2 hc3 ?_
      refine lv_astore (lv' := [(5, .ref q), (0, .ref (ad 0 0)), (1, .int 3), (2, .int p2), (3, .int p3), (4, .int p4)]) S.1 S.2.1 dL_call_312 hl (by decide) rfl (fun ls hl => ?_)
      refine lv_sipush (v := (-1004)) S.1 S.2.1 dL_call_314 (by decide) ?_
      exact r_iret (y := yL_call) S hr rfl hlk hS (by show _ ≤ mc; omega) (by show _ ≤ ms; omega) dL_call_317 ⟨_, rfl, h9, hw⟩
    · skip
      refine vx_catch (name := "java/util/NoSuchElementException") S.2.2.2.1 (cTabE.take 107) (⟨135, 140, 318, 103⟩ : ExceptionTableEntry) (cTabE.drop 108) (htab.trans rfl) hpass_4 (by decide) (by decide) (S.2.2.2.2 _ u302) (va_Nw.use rfl (hg.2.2.2.2.1.1 ("java/util/NoSuchElementException", "java/util/NoSuchElementException") (by decide +kernel))) hc1 hc2 hc3 ?_
      refine lv_astore (lv' := [(5, .ref q), (0, .ref (ad 0 0)), (1, .int 3), (2, .int p2), (3, .int p3), (4, .int p4)]) S.1 S.2.1 dL_call_318 hl (by decide) rfl (fun ls hl => ?_)
      refine lv_sipush (v := (-1005)) S.1 S.2.1 dL_call_320 (by decide) ?_
      exact r_iret (y := yL_call) S hr rfl hlk hS (by show _ ≤ mc; omega) (by show _ ≤ ms; omega) dL_call_323 ⟨_, rfl, h9, hw⟩
    · skip
      refine vx_catch (name := "java/lang/ArithmeticException") S.2.2.2.1 (cTabE.take 133) (⟨135, 140, 324, 105⟩ : ExceptionTableEntry) (cTabE.drop 134) (htab.trans rfl) hpass_5 (by decide) (by decide) (S.2.2.2.2 _ u303) (va_Nw.use rfl (hg.2.2.2.2.1.1 ("java/lang/ArithmeticException", "java/lang/ArithmeticException") (by decide +kernel))) hc1 hc2 hc3 ?_
      refine lv_astore (lv' := [(5, .ref q), (0, .ref (ad 0 0)), (1, .int 3), (2, .int p2), (3, .int p3), (4, .int p4)]) S.1 S.2.1 dL_call_324 hl (by decide) rfl (fun ls hl => ?_)
      refine lv_sipush (v := (-1006)) S.1 S.2.1 dL_call_326 (by decide) ?_
      exact r_iret (y := yL_call) S hr rfl hlk hS (by show _ ≤ mc; omega) (by show _ ≤ ms; omega) dL_call_329 ⟨_, rfl, h9, hw⟩
  · obtain ⟨r1, rfl, h, hw⟩ := hq
    exact r_iret (y := yL_call) S hr rfl hlk hS (by show _ ≤ mc; omega) (by show _ ≤ ms; omega) dL_call_140 ⟨_, rfl, h, hw⟩
def wpL_c4 (post : Int32 → Prop) (mc ms : Nat) (K : KS) (p2 p3 p4 : Int32) : Prop := wpX6_stateOf (fun v => post v) (fun E => (E = "java/lang/IndexOutOfBoundsException" ∧ post (-1001)) ∨ (E = "java/lang/IllegalArgumentException" ∧ post (-1002)) ∨ (E = "java/lang/IllegalStateException" ∧ post (-1003)) ∨ (E = "java/lang/UnsupportedOperationException" ∧ post (-1004)) ∨ (E = "java/util/NoSuchElementException" ∧ post (-1005)) ∨ (E = "java/lang/ArithmeticException" ∧ post (-1006))) mc ms K p2
set_option maxHeartbeats 4000000 in
set_option maxRecDepth 100000 in
theorem mtL_c4 {l : Launch} {D : va_G} {cI : Nat → ClassId} {e0 : Nat} {A : Nat → Prop} {ad : Nat → Nat → Nat} {K M : KS} {ap o : Int64} {od : UInt64} {mc ms : Nat} {p2 p3 p4 : Int32} {post : Int32 → Prop} (hfl : l.stackTraces = false) (h : wpL_c4 post mc ms K p2 p3 p4) : CW l D cI e0 A yL_call cL_call 6 (some .int) cTab 9 366 mc ms [.ref (ad 0 0), .int 4, .int p2, .int p3, .int p4] (HT D cI e0 A ad K M ap o od) (qP D cI e0 A ad K M ap o od rI post) := by
  refine CW.of (by decide) (Nat.le_of_ble_eq_true rfl) (fun p e s m below meth c ls FX hw hS hl => ?_)
  obtain ⟨S, hg, hr, hlk, hnm, htab⟩ := FX
  have hl : lv_has ls 6 [(0, .ref (ad 0 0)), (1, .int 4), (2, .int p2), (3, .int p3), (4, .int p4)] := hl
  unfold wpL_c4 at h
  refine lv_iload_n S.1 S.2.1 dL_call_0 rfl (lv_at hl 1 rfl) ?_
  refine lv_tableIn (off := 140) (tgt := 141) S.1 S.2.1 dL_call_1 (by decide) (by decide) (by decide) (by decide) ?_
  refine lv_aload_n S.1 S.2.1 dL_call_141 rfl (lv_at hl 0 rfl) ?_
  refine lv_iload_n S.1 S.2.1 dL_call_142 rfl (lv_at hl 2 rfl) ?_
  refine r_call (rest := []) S hg hS (mtX6_stateOf (mc := mc) (ms := ms) hfl h) u494 u495 u496 u27 u497 hdX6_stateOf (rv0 hg hw) hw ⟨Nat.le_of_ble_eq_true rfl, Nat.le_of_ble_eq_true rfl⟩ ⟨by show 0 + mc ≤ mc; omega, by show 0 + ms ≤ ms; omega⟩ hl.1 (Nat.le_of_ble_eq_true rfl) rfl dL_call_143 (fun E ce q H locs hx hS hc1 hc2 hc3 => ?_) (fun rv H locs hq hS => ?_)
  · obtain ⟨hx1, hw⟩ := hx
    have hpass_1 : ∀ z ∈ cTabE.take 30, covers z 143 = false ∨ (z.catchType ≠ 0 ∧ ∃ nm : String, (Cond.classLink RL z.catchType nm).before #[.ref (ad 0 0), .int 4, .int p2, .int p3, .int p4] s = true ∧ va_Nc "java/lang/IllegalArgumentException" nm s) := by
      have hc : ∀ z ∈ cTabE.take 30, covers z 143 = false ∨ z.catchType = 95 := by decide +kernel
      intro z hz
      rcases hc z hz with h0 | h0
      · exact Or.inl h0
      · exact Or.inr ⟨by rw [h0]; decide, "java/lang/IndexOutOfBoundsException", by rw [h0]; exact S.2.2.2.2 _ u219, hg.2.2.2.2.2.1 ("java/lang/IllegalArgumentException", "java/lang/IndexOutOfBoundsException") (by decide +kernel)⟩
    have hpass_2 : ∀ z ∈ cTabE.take 56, covers z 143 = false ∨ (z.catchType ≠ 0 ∧ ∃ nm : String, (Cond.classLink RL z.catchType nm).before #[.ref (ad 0 0), .int 4, .int p2, .int p3, .int p4] s = true ∧ va_Nc "java/lang/IllegalStateException" nm s) := by
      have hc : ∀ z ∈ cTabE.take 56, covers z 143 = false ∨ z.catchType = 95 ∨ z.catchType = 97 := by decide +kernel
      intro z hz
      rcases hc z hz with h0 | h0 | h0
      · exact Or.inl h0
      · exact Or.inr ⟨by rw [h0]; decide, "java/lang/IndexOutOfBoundsException", by rw [h0]; exact S.2.2.2.2 _ u219, hg.2.2.2.2.2.1 ("java/lang/IllegalStateException", "java/lang/IndexOutOfBoundsException") (by decide +kernel)⟩
      · exact Or.inr ⟨by rw [h0]; decide, "java/lang/IllegalArgumentException", by rw [h0]; exact S.2.2.2.2 _ u299, hg.2.2.2.2.2.1 ("java/lang/IllegalStateException", "java/lang/IllegalArgumentException") (by decide +kernel)⟩
    have hpass_3 : ∀ z ∈ cTabE.take 82, covers z 143 = false ∨ (z.catchType ≠ 0 ∧ ∃ nm : String, (Cond.classLink RL z.catchType nm).before #[.ref (ad 0 0), .int 4, .int p2, .int p3, .int p4] s = true ∧ va_Nc "java/lang/UnsupportedOperationException" nm s) := by
      have hc : ∀ z ∈ cTabE.take 82, covers z 143 = false ∨ z.catchType = 95 ∨ z.catchType = 97 ∨ z.catchType = 99 := by decide +kernel
      intro z hz
      rcases hc z hz with h0 | h0 | h0 | h0
      · exact Or.inl h0
      · exact Or.inr ⟨by rw [h0]; decide, "java/lang/IndexOutOfBoundsException", by rw [h0]; exact S.2.2.2.2 _ u219, hg.2.2.2.2.2.1 ("java/lang/UnsupportedOperationException", "java/lang/IndexOutOfBoundsException") (by decide +kernel)⟩
      · exact Or.inr ⟨by rw [h0]; decide, "java/lang/IllegalArgumentException", by rw [h0]; exact S.2.2.2.2 _ u299, hg.2.2.2.2.2.1 ("java/lang/UnsupportedOperationException", "java/lang/IllegalArgumentException") (by decide +kernel)⟩
      · exact Or.inr ⟨by rw [h0]; decide, "java/lang/IllegalStateException", by rw [h0]; exact S.2.2.2.2 _ u300, hg.2.2.2.2.2.1 ("java/lang/UnsupportedOperationException", "java/lang/IllegalStateException") (by decide +kernel)⟩
    have hpass_4 : ∀ z ∈ cTabE.take 108, covers z 143 = false ∨ (z.catchType ≠ 0 ∧ ∃ nm : String, (Cond.classLink RL z.catchType nm).before #[.ref (ad 0 0), .int 4, .int p2, .int p3, .int p4] s = true ∧ va_Nc "java/util/NoSuchElementException" nm s) := by
      have hc : ∀ z ∈ cTabE.take 108, covers z 143 = false ∨ z.catchType = 95 ∨ z.catchType = 97 ∨ z.catchType = 99 ∨ z.catchType = 101 := by decide +kernel
      intro z hz
      rcases hc z hz with h0 | h0 | h0 | h0 | h0
      · exact Or.inl h0
      · exact Or.inr ⟨by rw [h0]; decide, "java/lang/IndexOutOfBoundsException", by rw [h0]; exact S.2.2.2.2 _ u219, hg.2.2.2.2.2.1 ("java/util/NoSuchElementException", "java/lang/IndexOutOfBoundsException") (by decide +kernel)⟩
      · exact Or.inr ⟨by rw [h0]; decide, "java/lang/IllegalArgumentException", by rw [h0]; exact S.2.2.2.2 _ u299, hg.2.2.2.2.2.1 ("java/util/NoSuchElementException", "java/lang/IllegalArgumentException") (by decide +kernel)⟩
      · exact Or.inr ⟨by rw [h0]; decide, "java/lang/IllegalStateException", by rw [h0]; exact S.2.2.2.2 _ u300, hg.2.2.2.2.2.1 ("java/util/NoSuchElementException", "java/lang/IllegalStateException") (by decide +kernel)⟩
      · exact Or.inr ⟨by rw [h0]; decide, "java/lang/UnsupportedOperationException", by rw [h0]; exact S.2.2.2.2 _ u301, hg.2.2.2.2.2.1 ("java/util/NoSuchElementException", "java/lang/UnsupportedOperationException") (by decide +kernel)⟩
    have hpass_5 : ∀ z ∈ cTabE.take 134, covers z 143 = false ∨ (z.catchType ≠ 0 ∧ ∃ nm : String, (Cond.classLink RL z.catchType nm).before #[.ref (ad 0 0), .int 4, .int p2, .int p3, .int p4] s = true ∧ va_Nc "java/lang/ArithmeticException" nm s) := by
      have hc : ∀ z ∈ cTabE.take 134, covers z 143 = false ∨ z.catchType = 95 ∨ z.catchType = 97 ∨ z.catchType = 99 ∨ z.catchType = 101 ∨ z.catchType = 103 := by decide +kernel
      intro z hz
      rcases hc z hz with h0 | h0 | h0 | h0 | h0 | h0
      · exact Or.inl h0
      · exact Or.inr ⟨by rw [h0]; decide, "java/lang/IndexOutOfBoundsException", by rw [h0]; exact S.2.2.2.2 _ u219, hg.2.2.2.2.2.1 ("java/lang/ArithmeticException", "java/lang/IndexOutOfBoundsException") (by decide +kernel)⟩
      · exact Or.inr ⟨by rw [h0]; decide, "java/lang/IllegalArgumentException", by rw [h0]; exact S.2.2.2.2 _ u299, hg.2.2.2.2.2.1 ("java/lang/ArithmeticException", "java/lang/IllegalArgumentException") (by decide +kernel)⟩
      · exact Or.inr ⟨by rw [h0]; decide, "java/lang/IllegalStateException", by rw [h0]; exact S.2.2.2.2 _ u300, hg.2.2.2.2.2.1 ("java/lang/ArithmeticException", "java/lang/IllegalStateException") (by decide +kernel)⟩
      · exact Or.inr ⟨by rw [h0]; decide, "java/lang/UnsupportedOperationException", by rw [h0]; exact S.2.2.2.2 _ u301, hg.2.2.2.2.2.1 ("java/lang/ArithmeticException", "java/lang/UnsupportedOperationException") (by decide +kernel)⟩
      · exact Or.inr ⟨by rw [h0]; decide, "java/util/NoSuchElementException", by rw [h0]; exact S.2.2.2.2 _ u302, hg.2.2.2.2.2.1 ("java/lang/ArithmeticException", "java/util/NoSuchElementException") (by decide +kernel)⟩
    rcases hx1 with ⟨rfl, h9⟩ | ⟨rfl, h9⟩ | ⟨rfl, h9⟩ | ⟨rfl, h9⟩ | ⟨rfl, h9⟩ | ⟨rfl, h9⟩
    · skip
      have hpass_0 : ∀ z ∈ cTabE.take 4, covers z 143 = false ∨ (z.catchType ≠ 0 ∧ ∃ nm : String, (Cond.classLink RL z.catchType nm).before #[.ref (ad 0 0), .int 4, .int p2, .int p3, .int p4] s = true ∧ va_Nc "java/lang/IndexOutOfBoundsException" nm s) := by
        have hc : ∀ z ∈ cTabE.take 4, covers z 143 = false := by decide +kernel
        exact fun z hz => Or.inl (hc z hz)
      refine vx_catch (name := "java/lang/IndexOutOfBoundsException") S.2.2.2.1 (cTabE.take 4) (⟨141, 146, 294, 95⟩ : ExceptionTableEntry) (cTabE.drop 5) (htab.trans rfl) hpass_0 (by decide) (by decide) (S.2.2.2.2 _ u219) (va_Nw.use rfl (hg.2.2.2.2.1.1 ("java/lang/IndexOutOfBoundsException", "java/lang/IndexOutOfBoundsException") (by decide +kernel))) hc1 hc2 hc3 ?_
      refine lv_astore (lv' := [(5, .ref q), (0, .ref (ad 0 0)), (1, .int 4), (2, .int p2), (3, .int p3), (4, .int p4)]) S.1 S.2.1 dL_call_294 hl (by decide) rfl (fun ls hl => ?_)
      refine lv_sipush (v := (-1001)) S.1 S.2.1 dL_call_296 (by decide) ?_
      exact r_iret (y := yL_call) S hr rfl hlk hS (by show _ ≤ mc; omega) (by show _ ≤ ms; omega) dL_call_299 ⟨_, rfl, h9, hw⟩
    · skip
      refine vx_catch (name := "java/lang/IllegalArgumentException") S.2.2.2.1 (cTabE.take 30) (⟨141, 146, 300, 97⟩ : ExceptionTableEntry) (cTabE.drop 31) (htab.trans rfl) hpass_1 (by decide) (by decide) (S.2.2.2.2 _ u299) (va_Nw.use rfl (hg.2.2.2.2.1.1 ("java/lang/IllegalArgumentException", "java/lang/IllegalArgumentException") (by decide +kernel))) hc1 hc2 hc3 ?_
      refine lv_astore (lv' := [(5, .ref q), (0, .ref (ad 0 0)), (1, .int 4), (2, .int p2), (3, .int p3), (4, .int p4)]) S.1 S.2.1 dL_call_300 hl (by decide) rfl (fun ls hl => ?_)
      refine lv_sipush (v := (-1002)) S.1 S.2.1 dL_call_302 (by decide) ?_
      exact r_iret (y := yL_call) S hr rfl hlk hS (by show _ ≤ mc; omega) (by show _ ≤ ms; omega) dL_call_305 ⟨_, rfl, h9, hw⟩
    · skip
      refine vx_catch (name := "java/lang/IllegalStateException") S.2.2.2.1 (cTabE.take 56) (⟨141, 146, 306, 99⟩ : ExceptionTableEntry) (cTabE.drop 57) (htab.trans rfl) hpass_2 (by decide) (by decide) (S.2.2.2.2 _ u300) (va_Nw.use rfl (hg.2.2.2.2.1.1 ("java/lang/IllegalStateException", "java/lang/IllegalStateException") (by decide +kernel))) hc1 hc2 hc3 ?_
      refine lv_astore (lv' := [(5, .ref q), (0, .ref (ad 0 0)), (1, .int 4), (2, .int p2), (3, .int p3), (4, .int p4)]) S.1 S.2.1 dL_call_306 hl (by decide) rfl (fun ls hl => ?_)
      refine lv_sipush (v := (-1003)) S.1 S.2.1 dL_call_308 (by decide) ?_
      exact r_iret (y := yL_call) S hr rfl hlk hS (by show _ ≤ mc; omega) (by show _ ≤ ms; omega) dL_call_311 ⟨_, rfl, h9, hw⟩
    · skip
      refine vx_catch (name := "java/lang/UnsupportedOperationException") S.2.2.2.1 (cTabE.take 82) (⟨141, 146, 312, 101⟩ : ExceptionTableEntry) (cTabE.drop 83) (htab.trans rfl) hpass_3 (by decide) (by decide) (S.2.2.2.2 _ u301) (va_Nw.use rfl (hg.2.2.2.2.1.1 ("java/lang/UnsupportedOperationException", "java/lang/UnsupportedOperationException") (by decide +kernel))) hc1 hc2 hc3 ?_
      refine lv_astore (lv' := [(5, .ref q), (0, .ref (ad 0 0)), (1, .int 4), (2, .int p2), (3, .int p3), (4, .int p4)]) S.1 S.2.1 dL_call_312 hl (by decide) rfl (fun ls hl => ?_)
      refine lv_sipush (v := (-1004)) S.1 S.2.1 dL_call_314 (by decide) ?_
      exact r_iret (y := yL_call) S hr rfl hlk hS (by show _ ≤ mc; omega) (by show _ ≤ ms; omega) dL_call_317 ⟨_, rfl, h9, hw⟩
    · skip
      refine vx_catch (name := "java/util/NoSuchElementException") S.2.2.2.1 (cTabE.take 108) (⟨141, 146, 318, 103⟩ : ExceptionTableEntry) (cTabE.drop 109) (htab.trans rfl) hpass_4 (by decide) (by decide) (S.2.2.2.2 _ u302) (va_Nw.use rfl (hg.2.2.2.2.1.1 ("java/util/NoSuchElementException", "java/util/NoSuchElementException") (by decide +kernel))) hc1 hc2 hc3 ?_
      refine lv_astore (lv' := [(5, .ref q), (0, .ref (ad 0 0)), (1, .int 4), (2, .int p2), (3, .int p3), (4, .int p4)]) S.1 S.2.1 dL_call_318 hl (by decide) rfl (fun ls hl => ?_)
      refine lv_sipush (v := (-1005)) S.1 S.2.1 dL_call_320 (by decide) ?_
      exact r_iret (y := yL_call) S hr rfl hlk hS (by show _ ≤ mc; omega) (by show _ ≤ ms; omega) dL_call_323 ⟨_, rfl, h9, hw⟩
    · skip
      refine vx_catch (name := "java/lang/ArithmeticException") S.2.2.2.1 (cTabE.take 134) (⟨141, 146, 324, 105⟩ : ExceptionTableEntry) (cTabE.drop 135) (htab.trans rfl) hpass_5 (by decide) (by decide) (S.2.2.2.2 _ u303) (va_Nw.use rfl (hg.2.2.2.2.1.1 ("java/lang/ArithmeticException", "java/lang/ArithmeticException") (by decide +kernel))) hc1 hc2 hc3 ?_
      refine lv_astore (lv' := [(5, .ref q), (0, .ref (ad 0 0)), (1, .int 4), (2, .int p2), (3, .int p3), (4, .int p4)]) S.1 S.2.1 dL_call_324 hl (by decide) rfl (fun ls hl => ?_)
      refine lv_sipush (v := (-1006)) S.1 S.2.1 dL_call_326 (by decide) ?_
      exact r_iret (y := yL_call) S hr rfl hlk hS (by show _ ≤ mc; omega) (by show _ ≤ ms; omega) dL_call_329 ⟨_, rfl, h9, hw⟩
  · obtain ⟨r1, rfl, h, hw⟩ := hq
    exact r_iret (y := yL_call) S hr rfl hlk hS (by show _ ≤ mc; omega) (by show _ ≤ ms; omega) dL_call_146 ⟨_, rfl, h, hw⟩
def wpL_c5 (post : Int32 → Prop) (mc ms : Nat) (K : KS) (p2 p3 p4 : Int32) : Prop := wpX6_cardsOf (fun v => post v) (fun E => (E = "java/lang/IndexOutOfBoundsException" ∧ post (-1001)) ∨ (E = "java/lang/IllegalArgumentException" ∧ post (-1002)) ∨ (E = "java/lang/IllegalStateException" ∧ post (-1003)) ∨ (E = "java/lang/UnsupportedOperationException" ∧ post (-1004)) ∨ (E = "java/util/NoSuchElementException" ∧ post (-1005)) ∨ (E = "java/lang/ArithmeticException" ∧ post (-1006))) mc ms K p2
set_option maxHeartbeats 4000000 in
set_option maxRecDepth 100000 in
theorem mtL_c5 {l : Launch} {D : va_G} {cI : Nat → ClassId} {e0 : Nat} {A : Nat → Prop} {ad : Nat → Nat → Nat} {K M : KS} {ap o : Int64} {od : UInt64} {mc ms : Nat} {p2 p3 p4 : Int32} {post : Int32 → Prop} (hfl : l.stackTraces = false) (h : wpL_c5 post mc ms K p2 p3 p4) : CW l D cI e0 A yL_call cL_call 6 (some .int) cTab 9 366 mc ms [.ref (ad 0 0), .int 5, .int p2, .int p3, .int p4] (HT D cI e0 A ad K M ap o od) (qP D cI e0 A ad K M ap o od rI post) := by
  refine CW.of (by decide) (Nat.le_of_ble_eq_true rfl) (fun p e s m below meth c ls FX hw hS hl => ?_)
  obtain ⟨S, hg, hr, hlk, hnm, htab⟩ := FX
  have hl : lv_has ls 6 [(0, .ref (ad 0 0)), (1, .int 5), (2, .int p2), (3, .int p3), (4, .int p4)] := hl
  unfold wpL_c5 at h
  refine lv_iload_n S.1 S.2.1 dL_call_0 rfl (lv_at hl 1 rfl) ?_
  refine lv_tableIn (off := 146) (tgt := 147) S.1 S.2.1 dL_call_1 (by decide) (by decide) (by decide) (by decide) ?_
  refine lv_aload_n S.1 S.2.1 dL_call_147 rfl (lv_at hl 0 rfl) ?_
  refine lv_iload_n S.1 S.2.1 dL_call_148 rfl (lv_at hl 2 rfl) ?_
  refine r_call (rest := []) S hg hS (mtX6_cardsOf (mc := mc) (ms := ms) hfl h) u498 u499 u500 u27 u501 hdX6_cardsOf (rv0 hg hw) hw ⟨Nat.le_of_ble_eq_true rfl, Nat.le_of_ble_eq_true rfl⟩ ⟨by show 0 + mc ≤ mc; omega, by show 0 + ms ≤ ms; omega⟩ hl.1 (Nat.le_of_ble_eq_true rfl) rfl dL_call_149 (fun E ce q H locs hx hS hc1 hc2 hc3 => ?_) (fun rv H locs hq hS => ?_)
  · obtain ⟨hx1, hw⟩ := hx
    have hpass_1 : ∀ z ∈ cTabE.take 31, covers z 149 = false ∨ (z.catchType ≠ 0 ∧ ∃ nm : String, (Cond.classLink RL z.catchType nm).before #[.ref (ad 0 0), .int 5, .int p2, .int p3, .int p4] s = true ∧ va_Nc "java/lang/IllegalArgumentException" nm s) := by
      have hc : ∀ z ∈ cTabE.take 31, covers z 149 = false ∨ z.catchType = 95 := by decide +kernel
      intro z hz
      rcases hc z hz with h0 | h0
      · exact Or.inl h0
      · exact Or.inr ⟨by rw [h0]; decide, "java/lang/IndexOutOfBoundsException", by rw [h0]; exact S.2.2.2.2 _ u219, hg.2.2.2.2.2.1 ("java/lang/IllegalArgumentException", "java/lang/IndexOutOfBoundsException") (by decide +kernel)⟩
    have hpass_2 : ∀ z ∈ cTabE.take 57, covers z 149 = false ∨ (z.catchType ≠ 0 ∧ ∃ nm : String, (Cond.classLink RL z.catchType nm).before #[.ref (ad 0 0), .int 5, .int p2, .int p3, .int p4] s = true ∧ va_Nc "java/lang/IllegalStateException" nm s) := by
      have hc : ∀ z ∈ cTabE.take 57, covers z 149 = false ∨ z.catchType = 95 ∨ z.catchType = 97 := by decide +kernel
      intro z hz
      rcases hc z hz with h0 | h0 | h0
      · exact Or.inl h0
      · exact Or.inr ⟨by rw [h0]; decide, "java/lang/IndexOutOfBoundsException", by rw [h0]; exact S.2.2.2.2 _ u219, hg.2.2.2.2.2.1 ("java/lang/IllegalStateException", "java/lang/IndexOutOfBoundsException") (by decide +kernel)⟩
      · exact Or.inr ⟨by rw [h0]; decide, "java/lang/IllegalArgumentException", by rw [h0]; exact S.2.2.2.2 _ u299, hg.2.2.2.2.2.1 ("java/lang/IllegalStateException", "java/lang/IllegalArgumentException") (by decide +kernel)⟩
    have hpass_3 : ∀ z ∈ cTabE.take 83, covers z 149 = false ∨ (z.catchType ≠ 0 ∧ ∃ nm : String, (Cond.classLink RL z.catchType nm).before #[.ref (ad 0 0), .int 5, .int p2, .int p3, .int p4] s = true ∧ va_Nc "java/lang/UnsupportedOperationException" nm s) := by
      have hc : ∀ z ∈ cTabE.take 83, covers z 149 = false ∨ z.catchType = 95 ∨ z.catchType = 97 ∨ z.catchType = 99 := by decide +kernel
      intro z hz
      rcases hc z hz with h0 | h0 | h0 | h0
      · exact Or.inl h0
      · exact Or.inr ⟨by rw [h0]; decide, "java/lang/IndexOutOfBoundsException", by rw [h0]; exact S.2.2.2.2 _ u219, hg.2.2.2.2.2.1 ("java/lang/UnsupportedOperationException", "java/lang/IndexOutOfBoundsException") (by decide +kernel)⟩
      · exact Or.inr ⟨by rw [h0]; decide, "java/lang/IllegalArgumentException", by rw [h0]; exact S.2.2.2.2 _ u299, hg.2.2.2.2.2.1 ("java/lang/UnsupportedOperationException", "java/lang/IllegalArgumentException") (by decide +kernel)⟩
      · exact Or.inr ⟨by rw [h0]; decide, "java/lang/IllegalStateException", by rw [h0]; exact S.2.2.2.2 _ u300, hg.2.2.2.2.2.1 ("java/lang/UnsupportedOperationException", "java/lang/IllegalStateException") (by decide +kernel)⟩
    have hpass_4 : ∀ z ∈ cTabE.take 109, covers z 149 = false ∨ (z.catchType ≠ 0 ∧ ∃ nm : String, (Cond.classLink RL z.catchType nm).before #[.ref (ad 0 0), .int 5, .int p2, .int p3, .int p4] s = true ∧ va_Nc "java/util/NoSuchElementException" nm s) := by
      have hc : ∀ z ∈ cTabE.take 109, covers z 149 = false ∨ z.catchType = 95 ∨ z.catchType = 97 ∨ z.catchType = 99 ∨ z.catchType = 101 := by decide +kernel
      intro z hz
      rcases hc z hz with h0 | h0 | h0 | h0 | h0
      · exact Or.inl h0
      · exact Or.inr ⟨by rw [h0]; decide, "java/lang/IndexOutOfBoundsException", by rw [h0]; exact S.2.2.2.2 _ u219, hg.2.2.2.2.2.1 ("java/util/NoSuchElementException", "java/lang/IndexOutOfBoundsException") (by decide +kernel)⟩
      · exact Or.inr ⟨by rw [h0]; decide, "java/lang/IllegalArgumentException", by rw [h0]; exact S.2.2.2.2 _ u299, hg.2.2.2.2.2.1 ("java/util/NoSuchElementException", "java/lang/IllegalArgumentException") (by decide +kernel)⟩
      · exact Or.inr ⟨by rw [h0]; decide, "java/lang/IllegalStateException", by rw [h0]; exact S.2.2.2.2 _ u300, hg.2.2.2.2.2.1 ("java/util/NoSuchElementException", "java/lang/IllegalStateException") (by decide +kernel)⟩
      · exact Or.inr ⟨by rw [h0]; decide, "java/lang/UnsupportedOperationException", by rw [h0]; exact S.2.2.2.2 _ u301, hg.2.2.2.2.2.1 ("java/util/NoSuchElementException", "java/lang/UnsupportedOperationException") (by decide +kernel)⟩
    have hpass_5 : ∀ z ∈ cTabE.take 135, covers z 149 = false ∨ (z.catchType ≠ 0 ∧ ∃ nm : String, (Cond.classLink RL z.catchType nm).before #[.ref (ad 0 0), .int 5, .int p2, .int p3, .int p4] s = true ∧ va_Nc "java/lang/ArithmeticException" nm s) := by
      have hc : ∀ z ∈ cTabE.take 135, covers z 149 = false ∨ z.catchType = 95 ∨ z.catchType = 97 ∨ z.catchType = 99 ∨ z.catchType = 101 ∨ z.catchType = 103 := by decide +kernel
      intro z hz
      rcases hc z hz with h0 | h0 | h0 | h0 | h0 | h0
      · exact Or.inl h0
      · exact Or.inr ⟨by rw [h0]; decide, "java/lang/IndexOutOfBoundsException", by rw [h0]; exact S.2.2.2.2 _ u219, hg.2.2.2.2.2.1 ("java/lang/ArithmeticException", "java/lang/IndexOutOfBoundsException") (by decide +kernel)⟩
      · exact Or.inr ⟨by rw [h0]; decide, "java/lang/IllegalArgumentException", by rw [h0]; exact S.2.2.2.2 _ u299, hg.2.2.2.2.2.1 ("java/lang/ArithmeticException", "java/lang/IllegalArgumentException") (by decide +kernel)⟩
      · exact Or.inr ⟨by rw [h0]; decide, "java/lang/IllegalStateException", by rw [h0]; exact S.2.2.2.2 _ u300, hg.2.2.2.2.2.1 ("java/lang/ArithmeticException", "java/lang/IllegalStateException") (by decide +kernel)⟩
      · exact Or.inr ⟨by rw [h0]; decide, "java/lang/UnsupportedOperationException", by rw [h0]; exact S.2.2.2.2 _ u301, hg.2.2.2.2.2.1 ("java/lang/ArithmeticException", "java/lang/UnsupportedOperationException") (by decide +kernel)⟩
      · exact Or.inr ⟨by rw [h0]; decide, "java/util/NoSuchElementException", by rw [h0]; exact S.2.2.2.2 _ u302, hg.2.2.2.2.2.1 ("java/lang/ArithmeticException", "java/util/NoSuchElementException") (by decide +kernel)⟩
    rcases hx1 with ⟨rfl, h9⟩ | ⟨rfl, h9⟩ | ⟨rfl, h9⟩ | ⟨rfl, h9⟩ | ⟨rfl, h9⟩ | ⟨rfl, h9⟩
    · skip
      have hpass_0 : ∀ z ∈ cTabE.take 5, covers z 149 = false ∨ (z.catchType ≠ 0 ∧ ∃ nm : String, (Cond.classLink RL z.catchType nm).before #[.ref (ad 0 0), .int 5, .int p2, .int p3, .int p4] s = true ∧ va_Nc "java/lang/IndexOutOfBoundsException" nm s) := by
        have hc : ∀ z ∈ cTabE.take 5, covers z 149 = false := by decide +kernel
        exact fun z hz => Or.inl (hc z hz)
      refine vx_catch (name := "java/lang/IndexOutOfBoundsException") S.2.2.2.1 (cTabE.take 5) (⟨147, 152, 294, 95⟩ : ExceptionTableEntry) (cTabE.drop 6) (htab.trans rfl) hpass_0 (by decide) (by decide) (S.2.2.2.2 _ u219) (va_Nw.use rfl (hg.2.2.2.2.1.1 ("java/lang/IndexOutOfBoundsException", "java/lang/IndexOutOfBoundsException") (by decide +kernel))) hc1 hc2 hc3 ?_
      refine lv_astore (lv' := [(5, .ref q), (0, .ref (ad 0 0)), (1, .int 5), (2, .int p2), (3, .int p3), (4, .int p4)]) S.1 S.2.1 dL_call_294 hl (by decide) rfl (fun ls hl => ?_)
      refine lv_sipush (v := (-1001)) S.1 S.2.1 dL_call_296 (by decide) ?_
      exact r_iret (y := yL_call) S hr rfl hlk hS (by show _ ≤ mc; omega) (by show _ ≤ ms; omega) dL_call_299 ⟨_, rfl, h9, hw⟩
    · skip
      refine vx_catch (name := "java/lang/IllegalArgumentException") S.2.2.2.1 (cTabE.take 31) (⟨147, 152, 300, 97⟩ : ExceptionTableEntry) (cTabE.drop 32) (htab.trans rfl) hpass_1 (by decide) (by decide) (S.2.2.2.2 _ u299) (va_Nw.use rfl (hg.2.2.2.2.1.1 ("java/lang/IllegalArgumentException", "java/lang/IllegalArgumentException") (by decide +kernel))) hc1 hc2 hc3 ?_
      refine lv_astore (lv' := [(5, .ref q), (0, .ref (ad 0 0)), (1, .int 5), (2, .int p2), (3, .int p3), (4, .int p4)]) S.1 S.2.1 dL_call_300 hl (by decide) rfl (fun ls hl => ?_)
      refine lv_sipush (v := (-1002)) S.1 S.2.1 dL_call_302 (by decide) ?_
      exact r_iret (y := yL_call) S hr rfl hlk hS (by show _ ≤ mc; omega) (by show _ ≤ ms; omega) dL_call_305 ⟨_, rfl, h9, hw⟩
    · skip
      refine vx_catch (name := "java/lang/IllegalStateException") S.2.2.2.1 (cTabE.take 57) (⟨147, 152, 306, 99⟩ : ExceptionTableEntry) (cTabE.drop 58) (htab.trans rfl) hpass_2 (by decide) (by decide) (S.2.2.2.2 _ u300) (va_Nw.use rfl (hg.2.2.2.2.1.1 ("java/lang/IllegalStateException", "java/lang/IllegalStateException") (by decide +kernel))) hc1 hc2 hc3 ?_
      refine lv_astore (lv' := [(5, .ref q), (0, .ref (ad 0 0)), (1, .int 5), (2, .int p2), (3, .int p3), (4, .int p4)]) S.1 S.2.1 dL_call_306 hl (by decide) rfl (fun ls hl => ?_)
      refine lv_sipush (v := (-1003)) S.1 S.2.1 dL_call_308 (by decide) ?_
      exact r_iret (y := yL_call) S hr rfl hlk hS (by show _ ≤ mc; omega) (by show _ ≤ ms; omega) dL_call_311 ⟨_, rfl, h9, hw⟩
    · skip
      refine vx_catch (name := "java/lang/UnsupportedOperationException") S.2.2.2.1 (cTabE.take 83) (⟨147, 152, 312, 101⟩ : ExceptionTableEntry) (cTabE.drop 84) (htab.trans rfl) hpass_3 (by decide) (by decide) (S.2.2.2.2 _ u301) (va_Nw.use rfl (hg.2.2.2.2.1.1 ("java/lang/UnsupportedOperationException", "java/lang/UnsupportedOperationException") (by decide +kernel))) hc1 hc2 hc3 ?_
      refine lv_astore (lv' := [(5, .ref q), (0, .ref (ad 0 0)), (1, .int 5), (2, .int p2), (3, .int p3), (4, .int p4)]) S.1 S.2.1 dL_call_312 hl (by decide) rfl (fun ls hl => ?_)
      refine lv_sipush (v := (-1004)) S.1 S.2.1 dL_call_314 (by decide) ?_
      exact r_iret (y := yL_call) S hr rfl hlk hS (by show _ ≤ mc; omega) (by show _ ≤ ms; omega) dL_call_317 ⟨_, rfl, h9, hw⟩
    · skip
      refine vx_catch (name := "java/util/NoSuchElementException") S.2.2.2.1 (cTabE.take 109) (⟨147, 152, 318, 103⟩ : ExceptionTableEntry) (cTabE.drop 110) (htab.trans rfl) hpass_4 (by decide) (by decide) (S.2.2.2.2 _ u302) (va_Nw.use rfl (hg.2.2.2.2.1.1 ("java/util/NoSuchElementException", "java/util/NoSuchElementException") (by decide +kernel))) hc1 hc2 hc3 ?_
      refine lv_astore (lv' := [(5, .ref q), (0, .ref (ad 0 0)), (1, .int 5), (2, .int p2), (3, .int p3), (4, .int p4)]) S.1 S.2.1 dL_call_318 hl (by decide) rfl (fun ls hl => ?_)
      refine lv_sipush (v := (-1005)) S.1 S.2.1 dL_call_320 (by decide) ?_
      exact r_iret (y := yL_call) S hr rfl hlk hS (by show _ ≤ mc; omega) (by show _ ≤ ms; omega) dL_call_323 ⟨_, rfl, h9, hw⟩
    · skip
      refine vx_catch (name := "java/lang/ArithmeticException") S.2.2.2.1 (cTabE.take 135) (⟨147, 152, 324, 105⟩ : ExceptionTableEntry) (cTabE.drop 136) (htab.trans rfl) hpass_5 (by decide) (by decide) (S.2.2.2.2 _ u303) (va_Nw.use rfl (hg.2.2.2.2.1.1 ("java/lang/ArithmeticException", "java/lang/ArithmeticException") (by decide +kernel))) hc1 hc2 hc3 ?_
      refine lv_astore (lv' := [(5, .ref q), (0, .ref (ad 0 0)), (1, .int 5), (2, .int p2), (3, .int p3), (4, .int p4)]) S.1 S.2.1 dL_call_324 hl (by decide) rfl (fun ls hl => ?_)
      refine lv_sipush (v := (-1006)) S.1 S.2.1 dL_call_326 (by decide) ?_
      exact r_iret (y := yL_call) S hr rfl hlk hS (by show _ ≤ mc; omega) (by show _ ≤ ms; omega) dL_call_329 ⟨_, rfl, h9, hw⟩
  · obtain ⟨r1, rfl, h, hw⟩ := hq
    exact r_iret (y := yL_call) S hr rfl hlk hS (by show _ ≤ mc; omega) (by show _ ≤ ms; omega) dL_call_152 ⟨_, rfl, h, hw⟩
def wpL_c6 (post : Int32 → Prop) (mc ms : Nat) (K : KS) (p2 p3 p4 : Int32) : Prop := wpX6_coinsOf (fun v => post v) (fun E => (E = "java/lang/IndexOutOfBoundsException" ∧ post (-1001)) ∨ (E = "java/lang/IllegalArgumentException" ∧ post (-1002)) ∨ (E = "java/lang/IllegalStateException" ∧ post (-1003)) ∨ (E = "java/lang/UnsupportedOperationException" ∧ post (-1004)) ∨ (E = "java/util/NoSuchElementException" ∧ post (-1005)) ∨ (E = "java/lang/ArithmeticException" ∧ post (-1006))) mc ms K p2
set_option maxHeartbeats 4000000 in
set_option maxRecDepth 100000 in
theorem mtL_c6 {l : Launch} {D : va_G} {cI : Nat → ClassId} {e0 : Nat} {A : Nat → Prop} {ad : Nat → Nat → Nat} {K M : KS} {ap o : Int64} {od : UInt64} {mc ms : Nat} {p2 p3 p4 : Int32} {post : Int32 → Prop} (hfl : l.stackTraces = false) (h : wpL_c6 post mc ms K p2 p3 p4) : CW l D cI e0 A yL_call cL_call 6 (some .int) cTab 9 366 mc ms [.ref (ad 0 0), .int 6, .int p2, .int p3, .int p4] (HT D cI e0 A ad K M ap o od) (qP D cI e0 A ad K M ap o od rI post) := by
  refine CW.of (by decide) (Nat.le_of_ble_eq_true rfl) (fun p e s m below meth c ls FX hw hS hl => ?_)
  obtain ⟨S, hg, hr, hlk, hnm, htab⟩ := FX
  have hl : lv_has ls 6 [(0, .ref (ad 0 0)), (1, .int 6), (2, .int p2), (3, .int p3), (4, .int p4)] := hl
  unfold wpL_c6 at h
  refine lv_iload_n S.1 S.2.1 dL_call_0 rfl (lv_at hl 1 rfl) ?_
  refine lv_tableIn (off := 152) (tgt := 153) S.1 S.2.1 dL_call_1 (by decide) (by decide) (by decide) (by decide) ?_
  refine lv_aload_n S.1 S.2.1 dL_call_153 rfl (lv_at hl 0 rfl) ?_
  refine lv_iload_n S.1 S.2.1 dL_call_154 rfl (lv_at hl 2 rfl) ?_
  refine r_call (rest := []) S hg hS (mtX6_coinsOf (mc := mc) (ms := ms) hfl h) u502 u503 u504 u27 u505 hdX6_coinsOf (rv0 hg hw) hw ⟨Nat.le_of_ble_eq_true rfl, Nat.le_of_ble_eq_true rfl⟩ ⟨by show 0 + mc ≤ mc; omega, by show 0 + ms ≤ ms; omega⟩ hl.1 (Nat.le_of_ble_eq_true rfl) rfl dL_call_155 (fun E ce q H locs hx hS hc1 hc2 hc3 => ?_) (fun rv H locs hq hS => ?_)
  · obtain ⟨hx1, hw⟩ := hx
    have hpass_1 : ∀ z ∈ cTabE.take 32, covers z 155 = false ∨ (z.catchType ≠ 0 ∧ ∃ nm : String, (Cond.classLink RL z.catchType nm).before #[.ref (ad 0 0), .int 6, .int p2, .int p3, .int p4] s = true ∧ va_Nc "java/lang/IllegalArgumentException" nm s) := by
      have hc : ∀ z ∈ cTabE.take 32, covers z 155 = false ∨ z.catchType = 95 := by decide +kernel
      intro z hz
      rcases hc z hz with h0 | h0
      · exact Or.inl h0
      · exact Or.inr ⟨by rw [h0]; decide, "java/lang/IndexOutOfBoundsException", by rw [h0]; exact S.2.2.2.2 _ u219, hg.2.2.2.2.2.1 ("java/lang/IllegalArgumentException", "java/lang/IndexOutOfBoundsException") (by decide +kernel)⟩
    have hpass_2 : ∀ z ∈ cTabE.take 58, covers z 155 = false ∨ (z.catchType ≠ 0 ∧ ∃ nm : String, (Cond.classLink RL z.catchType nm).before #[.ref (ad 0 0), .int 6, .int p2, .int p3, .int p4] s = true ∧ va_Nc "java/lang/IllegalStateException" nm s) := by
      have hc : ∀ z ∈ cTabE.take 58, covers z 155 = false ∨ z.catchType = 95 ∨ z.catchType = 97 := by decide +kernel
      intro z hz
      rcases hc z hz with h0 | h0 | h0
      · exact Or.inl h0
      · exact Or.inr ⟨by rw [h0]; decide, "java/lang/IndexOutOfBoundsException", by rw [h0]; exact S.2.2.2.2 _ u219, hg.2.2.2.2.2.1 ("java/lang/IllegalStateException", "java/lang/IndexOutOfBoundsException") (by decide +kernel)⟩
      · exact Or.inr ⟨by rw [h0]; decide, "java/lang/IllegalArgumentException", by rw [h0]; exact S.2.2.2.2 _ u299, hg.2.2.2.2.2.1 ("java/lang/IllegalStateException", "java/lang/IllegalArgumentException") (by decide +kernel)⟩
    have hpass_3 : ∀ z ∈ cTabE.take 84, covers z 155 = false ∨ (z.catchType ≠ 0 ∧ ∃ nm : String, (Cond.classLink RL z.catchType nm).before #[.ref (ad 0 0), .int 6, .int p2, .int p3, .int p4] s = true ∧ va_Nc "java/lang/UnsupportedOperationException" nm s) := by
      have hc : ∀ z ∈ cTabE.take 84, covers z 155 = false ∨ z.catchType = 95 ∨ z.catchType = 97 ∨ z.catchType = 99 := by decide +kernel
      intro z hz
      rcases hc z hz with h0 | h0 | h0 | h0
      · exact Or.inl h0
      · exact Or.inr ⟨by rw [h0]; decide, "java/lang/IndexOutOfBoundsException", by rw [h0]; exact S.2.2.2.2 _ u219, hg.2.2.2.2.2.1 ("java/lang/UnsupportedOperationException", "java/lang/IndexOutOfBoundsException") (by decide +kernel)⟩
      · exact Or.inr ⟨by rw [h0]; decide, "java/lang/IllegalArgumentException", by rw [h0]; exact S.2.2.2.2 _ u299, hg.2.2.2.2.2.1 ("java/lang/UnsupportedOperationException", "java/lang/IllegalArgumentException") (by decide +kernel)⟩
      · exact Or.inr ⟨by rw [h0]; decide, "java/lang/IllegalStateException", by rw [h0]; exact S.2.2.2.2 _ u300, hg.2.2.2.2.2.1 ("java/lang/UnsupportedOperationException", "java/lang/IllegalStateException") (by decide +kernel)⟩
    have hpass_4 : ∀ z ∈ cTabE.take 110, covers z 155 = false ∨ (z.catchType ≠ 0 ∧ ∃ nm : String, (Cond.classLink RL z.catchType nm).before #[.ref (ad 0 0), .int 6, .int p2, .int p3, .int p4] s = true ∧ va_Nc "java/util/NoSuchElementException" nm s) := by
      have hc : ∀ z ∈ cTabE.take 110, covers z 155 = false ∨ z.catchType = 95 ∨ z.catchType = 97 ∨ z.catchType = 99 ∨ z.catchType = 101 := by decide +kernel
      intro z hz
      rcases hc z hz with h0 | h0 | h0 | h0 | h0
      · exact Or.inl h0
      · exact Or.inr ⟨by rw [h0]; decide, "java/lang/IndexOutOfBoundsException", by rw [h0]; exact S.2.2.2.2 _ u219, hg.2.2.2.2.2.1 ("java/util/NoSuchElementException", "java/lang/IndexOutOfBoundsException") (by decide +kernel)⟩
      · exact Or.inr ⟨by rw [h0]; decide, "java/lang/IllegalArgumentException", by rw [h0]; exact S.2.2.2.2 _ u299, hg.2.2.2.2.2.1 ("java/util/NoSuchElementException", "java/lang/IllegalArgumentException") (by decide +kernel)⟩
      · exact Or.inr ⟨by rw [h0]; decide, "java/lang/IllegalStateException", by rw [h0]; exact S.2.2.2.2 _ u300, hg.2.2.2.2.2.1 ("java/util/NoSuchElementException", "java/lang/IllegalStateException") (by decide +kernel)⟩
      · exact Or.inr ⟨by rw [h0]; decide, "java/lang/UnsupportedOperationException", by rw [h0]; exact S.2.2.2.2 _ u301, hg.2.2.2.2.2.1 ("java/util/NoSuchElementException", "java/lang/UnsupportedOperationException") (by decide +kernel)⟩
    have hpass_5 : ∀ z ∈ cTabE.take 136, covers z 155 = false ∨ (z.catchType ≠ 0 ∧ ∃ nm : String, (Cond.classLink RL z.catchType nm).before #[.ref (ad 0 0), .int 6, .int p2, .int p3, .int p4] s = true ∧ va_Nc "java/lang/ArithmeticException" nm s) := by
      have hc : ∀ z ∈ cTabE.take 136, covers z 155 = false ∨ z.catchType = 95 ∨ z.catchType = 97 ∨ z.catchType = 99 ∨ z.catchType = 101 ∨ z.catchType = 103 := by decide +kernel
      intro z hz
      rcases hc z hz with h0 | h0 | h0 | h0 | h0 | h0
      · exact Or.inl h0
      · exact Or.inr ⟨by rw [h0]; decide, "java/lang/IndexOutOfBoundsException", by rw [h0]; exact S.2.2.2.2 _ u219, hg.2.2.2.2.2.1 ("java/lang/ArithmeticException", "java/lang/IndexOutOfBoundsException") (by decide +kernel)⟩
      · exact Or.inr ⟨by rw [h0]; decide, "java/lang/IllegalArgumentException", by rw [h0]; exact S.2.2.2.2 _ u299, hg.2.2.2.2.2.1 ("java/lang/ArithmeticException", "java/lang/IllegalArgumentException") (by decide +kernel)⟩
      · exact Or.inr ⟨by rw [h0]; decide, "java/lang/IllegalStateException", by rw [h0]; exact S.2.2.2.2 _ u300, hg.2.2.2.2.2.1 ("java/lang/ArithmeticException", "java/lang/IllegalStateException") (by decide +kernel)⟩
      · exact Or.inr ⟨by rw [h0]; decide, "java/lang/UnsupportedOperationException", by rw [h0]; exact S.2.2.2.2 _ u301, hg.2.2.2.2.2.1 ("java/lang/ArithmeticException", "java/lang/UnsupportedOperationException") (by decide +kernel)⟩
      · exact Or.inr ⟨by rw [h0]; decide, "java/util/NoSuchElementException", by rw [h0]; exact S.2.2.2.2 _ u302, hg.2.2.2.2.2.1 ("java/lang/ArithmeticException", "java/util/NoSuchElementException") (by decide +kernel)⟩
    rcases hx1 with ⟨rfl, h9⟩ | ⟨rfl, h9⟩ | ⟨rfl, h9⟩ | ⟨rfl, h9⟩ | ⟨rfl, h9⟩ | ⟨rfl, h9⟩
    · skip
      have hpass_0 : ∀ z ∈ cTabE.take 6, covers z 155 = false ∨ (z.catchType ≠ 0 ∧ ∃ nm : String, (Cond.classLink RL z.catchType nm).before #[.ref (ad 0 0), .int 6, .int p2, .int p3, .int p4] s = true ∧ va_Nc "java/lang/IndexOutOfBoundsException" nm s) := by
        have hc : ∀ z ∈ cTabE.take 6, covers z 155 = false := by decide +kernel
        exact fun z hz => Or.inl (hc z hz)
      refine vx_catch (name := "java/lang/IndexOutOfBoundsException") S.2.2.2.1 (cTabE.take 6) (⟨153, 158, 294, 95⟩ : ExceptionTableEntry) (cTabE.drop 7) (htab.trans rfl) hpass_0 (by decide) (by decide) (S.2.2.2.2 _ u219) (va_Nw.use rfl (hg.2.2.2.2.1.1 ("java/lang/IndexOutOfBoundsException", "java/lang/IndexOutOfBoundsException") (by decide +kernel))) hc1 hc2 hc3 ?_
      refine lv_astore (lv' := [(5, .ref q), (0, .ref (ad 0 0)), (1, .int 6), (2, .int p2), (3, .int p3), (4, .int p4)]) S.1 S.2.1 dL_call_294 hl (by decide) rfl (fun ls hl => ?_)
      refine lv_sipush (v := (-1001)) S.1 S.2.1 dL_call_296 (by decide) ?_
      exact r_iret (y := yL_call) S hr rfl hlk hS (by show _ ≤ mc; omega) (by show _ ≤ ms; omega) dL_call_299 ⟨_, rfl, h9, hw⟩
    · skip
      refine vx_catch (name := "java/lang/IllegalArgumentException") S.2.2.2.1 (cTabE.take 32) (⟨153, 158, 300, 97⟩ : ExceptionTableEntry) (cTabE.drop 33) (htab.trans rfl) hpass_1 (by decide) (by decide) (S.2.2.2.2 _ u299) (va_Nw.use rfl (hg.2.2.2.2.1.1 ("java/lang/IllegalArgumentException", "java/lang/IllegalArgumentException") (by decide +kernel))) hc1 hc2 hc3 ?_
      refine lv_astore (lv' := [(5, .ref q), (0, .ref (ad 0 0)), (1, .int 6), (2, .int p2), (3, .int p3), (4, .int p4)]) S.1 S.2.1 dL_call_300 hl (by decide) rfl (fun ls hl => ?_)
      refine lv_sipush (v := (-1002)) S.1 S.2.1 dL_call_302 (by decide) ?_
      exact r_iret (y := yL_call) S hr rfl hlk hS (by show _ ≤ mc; omega) (by show _ ≤ ms; omega) dL_call_305 ⟨_, rfl, h9, hw⟩
    · skip
      refine vx_catch (name := "java/lang/IllegalStateException") S.2.2.2.1 (cTabE.take 58) (⟨153, 158, 306, 99⟩ : ExceptionTableEntry) (cTabE.drop 59) (htab.trans rfl) hpass_2 (by decide) (by decide) (S.2.2.2.2 _ u300) (va_Nw.use rfl (hg.2.2.2.2.1.1 ("java/lang/IllegalStateException", "java/lang/IllegalStateException") (by decide +kernel))) hc1 hc2 hc3 ?_
      refine lv_astore (lv' := [(5, .ref q), (0, .ref (ad 0 0)), (1, .int 6), (2, .int p2), (3, .int p3), (4, .int p4)]) S.1 S.2.1 dL_call_306 hl (by decide) rfl (fun ls hl => ?_)
      refine lv_sipush (v := (-1003)) S.1 S.2.1 dL_call_308 (by decide) ?_
      exact r_iret (y := yL_call) S hr rfl hlk hS (by show _ ≤ mc; omega) (by show _ ≤ ms; omega) dL_call_311 ⟨_, rfl, h9, hw⟩
    · skip
      refine vx_catch (name := "java/lang/UnsupportedOperationException") S.2.2.2.1 (cTabE.take 84) (⟨153, 158, 312, 101⟩ : ExceptionTableEntry) (cTabE.drop 85) (htab.trans rfl) hpass_3 (by decide) (by decide) (S.2.2.2.2 _ u301) (va_Nw.use rfl (hg.2.2.2.2.1.1 ("java/lang/UnsupportedOperationException", "java/lang/UnsupportedOperationException") (by decide +kernel))) hc1 hc2 hc3 ?_
      refine lv_astore (lv' := [(5, .ref q), (0, .ref (ad 0 0)), (1, .int 6), (2, .int p2), (3, .int p3), (4, .int p4)]) S.1 S.2.1 dL_call_312 hl (by decide) rfl (fun ls hl => ?_)
      refine lv_sipush (v := (-1004)) S.1 S.2.1 dL_call_314 (by decide) ?_
      exact r_iret (y := yL_call) S hr rfl hlk hS (by show _ ≤ mc; omega) (by show _ ≤ ms; omega) dL_call_317 ⟨_, rfl, h9, hw⟩
    · skip
      refine vx_catch (name := "java/util/NoSuchElementException") S.2.2.2.1 (cTabE.take 110) (⟨153, 158, 318, 103⟩ : ExceptionTableEntry) (cTabE.drop 111) (htab.trans rfl) hpass_4 (by decide) (by decide) (S.2.2.2.2 _ u302) (va_Nw.use rfl (hg.2.2.2.2.1.1 ("java/util/NoSuchElementException", "java/util/NoSuchElementException") (by decide +kernel))) hc1 hc2 hc3 ?_
      refine lv_astore (lv' := [(5, .ref q), (0, .ref (ad 0 0)), (1, .int 6), (2, .int p2), (3, .int p3), (4, .int p4)]) S.1 S.2.1 dL_call_318 hl (by decide) rfl (fun ls hl => ?_)
      refine lv_sipush (v := (-1005)) S.1 S.2.1 dL_call_320 (by decide) ?_
      exact r_iret (y := yL_call) S hr rfl hlk hS (by show _ ≤ mc; omega) (by show _ ≤ ms; omega) dL_call_323 ⟨_, rfl, h9, hw⟩
    · skip
      refine vx_catch (name := "java/lang/ArithmeticException") S.2.2.2.1 (cTabE.take 136) (⟨153, 158, 324, 105⟩ : ExceptionTableEntry) (cTabE.drop 137) (htab.trans rfl) hpass_5 (by decide) (by decide) (S.2.2.2.2 _ u303) (va_Nw.use rfl (hg.2.2.2.2.1.1 ("java/lang/ArithmeticException", "java/lang/ArithmeticException") (by decide +kernel))) hc1 hc2 hc3 ?_
      refine lv_astore (lv' := [(5, .ref q), (0, .ref (ad 0 0)), (1, .int 6), (2, .int p2), (3, .int p3), (4, .int p4)]) S.1 S.2.1 dL_call_324 hl (by decide) rfl (fun ls hl => ?_)
      refine lv_sipush (v := (-1006)) S.1 S.2.1 dL_call_326 (by decide) ?_
      exact r_iret (y := yL_call) S hr rfl hlk hS (by show _ ≤ mc; omega) (by show _ ≤ ms; omega) dL_call_329 ⟨_, rfl, h9, hw⟩
  · obtain ⟨r1, rfl, h, hw⟩ := hq
    exact r_iret (y := yL_call) S hr rfl hlk hS (by show _ ≤ mc; omega) (by show _ ≤ ms; omega) dL_call_158 ⟨_, rfl, h, hw⟩
def wpL_c8 (post : Int32 → KS → Prop) (mc ms : Nat) (K : KS) (p2 p3 p4 : Int32) : Prop := wpX6_duel (fun v K => post v K) (fun E K => (E = "java/lang/IndexOutOfBoundsException" ∧ post (-1001) K) ∨ (E = "java/lang/IllegalArgumentException" ∧ post (-1002) K) ∨ (E = "java/lang/IllegalStateException" ∧ post (-1003) K) ∨ (E = "java/lang/UnsupportedOperationException" ∧ post (-1004) K) ∨ (E = "java/util/NoSuchElementException" ∧ post (-1005) K) ∨ (E = "java/lang/ArithmeticException" ∧ post (-1006) K)) mc ms K p2 p3
set_option maxHeartbeats 4000000 in
set_option maxRecDepth 100000 in
theorem mtL_c8 {l : Launch} {D : va_G} {cI : Nat → ClassId} {e0 : Nat} {A : Nat → Prop} {ad : Nat → Nat → Nat} {K M : KS} {ap o : Int64} {od : UInt64} {mc ms : Nat} {p2 p3 p4 : Int32} {post : Int32 → KS → Prop} (hfl : l.stackTraces = false) (h : wpL_c8 post mc ms K p2 p3 p4) : CW l D cI e0 A yL_call cL_call 6 (some .int) cTab 9 366 mc ms [.ref (ad 0 0), .int 8, .int p2, .int p3, .int p4] (HT D cI e0 A ad K M ap o od) (qW D cI e0 A ad M ap o od post) := by
  refine CW.of (by decide) (Nat.le_of_ble_eq_true rfl) (fun p e s m below meth c ls FX hw hS hl => ?_)
  obtain ⟨S, hg, hr, hlk, hnm, htab⟩ := FX
  have hl : lv_has ls 6 [(0, .ref (ad 0 0)), (1, .int 8), (2, .int p2), (3, .int p3), (4, .int p4)] := hl
  unfold wpL_c8 at h
  refine lv_iload_n S.1 S.2.1 dL_call_0 rfl (lv_at hl 1 rfl) ?_
  refine lv_tableIn (off := 166) (tgt := 167) S.1 S.2.1 dL_call_1 (by decide) (by decide) (by decide) (by decide) ?_
  refine lv_aload_n S.1 S.2.1 dL_call_167 rfl (lv_at hl 0 rfl) ?_
  refine lv_iload_n S.1 S.2.1 dL_call_168 rfl (lv_at hl 2 rfl) ?_
  refine lv_iload_n S.1 S.2.1 dL_call_169 rfl (lv_at hl 3 rfl) ?_
  refine r_call (rest := []) S hg hS (mtX6_duel (mc := mc) (ms := ms) hfl h) u518 u519 u520 u27 u521 hdX6_duel (rv0 hg hw) hw ⟨Nat.le_of_ble_eq_true rfl, Nat.le_of_ble_eq_true rfl⟩ ⟨by show 0 + mc ≤ mc; omega, by show 0 + ms ≤ ms; omega⟩ hl.1 (Nat.le_of_ble_eq_true rfl) rfl dL_call_170 (fun E ce q H locs hx hS hc1 hc2 hc3 => ?_) (fun rv H locs hq hS => ?_)
  · obtain ⟨K, hx1, hw⟩ := hx
    have hpass_1 : ∀ z ∈ cTabE.take 34, covers z 170 = false ∨ (z.catchType ≠ 0 ∧ ∃ nm : String, (Cond.classLink RL z.catchType nm).before #[.ref (ad 0 0), .int 8, .int p2, .int p3, .int p4] s = true ∧ va_Nc "java/lang/IllegalArgumentException" nm s) := by
      have hc : ∀ z ∈ cTabE.take 34, covers z 170 = false ∨ z.catchType = 95 := by decide +kernel
      intro z hz
      rcases hc z hz with h0 | h0
      · exact Or.inl h0
      · exact Or.inr ⟨by rw [h0]; decide, "java/lang/IndexOutOfBoundsException", by rw [h0]; exact S.2.2.2.2 _ u219, hg.2.2.2.2.2.1 ("java/lang/IllegalArgumentException", "java/lang/IndexOutOfBoundsException") (by decide +kernel)⟩
    have hpass_2 : ∀ z ∈ cTabE.take 60, covers z 170 = false ∨ (z.catchType ≠ 0 ∧ ∃ nm : String, (Cond.classLink RL z.catchType nm).before #[.ref (ad 0 0), .int 8, .int p2, .int p3, .int p4] s = true ∧ va_Nc "java/lang/IllegalStateException" nm s) := by
      have hc : ∀ z ∈ cTabE.take 60, covers z 170 = false ∨ z.catchType = 95 ∨ z.catchType = 97 := by decide +kernel
      intro z hz
      rcases hc z hz with h0 | h0 | h0
      · exact Or.inl h0
      · exact Or.inr ⟨by rw [h0]; decide, "java/lang/IndexOutOfBoundsException", by rw [h0]; exact S.2.2.2.2 _ u219, hg.2.2.2.2.2.1 ("java/lang/IllegalStateException", "java/lang/IndexOutOfBoundsException") (by decide +kernel)⟩
      · exact Or.inr ⟨by rw [h0]; decide, "java/lang/IllegalArgumentException", by rw [h0]; exact S.2.2.2.2 _ u299, hg.2.2.2.2.2.1 ("java/lang/IllegalStateException", "java/lang/IllegalArgumentException") (by decide +kernel)⟩
    have hpass_3 : ∀ z ∈ cTabE.take 86, covers z 170 = false ∨ (z.catchType ≠ 0 ∧ ∃ nm : String, (Cond.classLink RL z.catchType nm).before #[.ref (ad 0 0), .int 8, .int p2, .int p3, .int p4] s = true ∧ va_Nc "java/lang/UnsupportedOperationException" nm s) := by
      have hc : ∀ z ∈ cTabE.take 86, covers z 170 = false ∨ z.catchType = 95 ∨ z.catchType = 97 ∨ z.catchType = 99 := by decide +kernel
      intro z hz
      rcases hc z hz with h0 | h0 | h0 | h0
      · exact Or.inl h0
      · exact Or.inr ⟨by rw [h0]; decide, "java/lang/IndexOutOfBoundsException", by rw [h0]; exact S.2.2.2.2 _ u219, hg.2.2.2.2.2.1 ("java/lang/UnsupportedOperationException", "java/lang/IndexOutOfBoundsException") (by decide +kernel)⟩
      · exact Or.inr ⟨by rw [h0]; decide, "java/lang/IllegalArgumentException", by rw [h0]; exact S.2.2.2.2 _ u299, hg.2.2.2.2.2.1 ("java/lang/UnsupportedOperationException", "java/lang/IllegalArgumentException") (by decide +kernel)⟩
      · exact Or.inr ⟨by rw [h0]; decide, "java/lang/IllegalStateException", by rw [h0]; exact S.2.2.2.2 _ u300, hg.2.2.2.2.2.1 ("java/lang/UnsupportedOperationException", "java/lang/IllegalStateException") (by decide +kernel)⟩
    have hpass_4 : ∀ z ∈ cTabE.take 112, covers z 170 = false ∨ (z.catchType ≠ 0 ∧ ∃ nm : String, (Cond.classLink RL z.catchType nm).before #[.ref (ad 0 0), .int 8, .int p2, .int p3, .int p4] s = true ∧ va_Nc "java/util/NoSuchElementException" nm s) := by
      have hc : ∀ z ∈ cTabE.take 112, covers z 170 = false ∨ z.catchType = 95 ∨ z.catchType = 97 ∨ z.catchType = 99 ∨ z.catchType = 101 := by decide +kernel
      intro z hz
      rcases hc z hz with h0 | h0 | h0 | h0 | h0
      · exact Or.inl h0
      · exact Or.inr ⟨by rw [h0]; decide, "java/lang/IndexOutOfBoundsException", by rw [h0]; exact S.2.2.2.2 _ u219, hg.2.2.2.2.2.1 ("java/util/NoSuchElementException", "java/lang/IndexOutOfBoundsException") (by decide +kernel)⟩
      · exact Or.inr ⟨by rw [h0]; decide, "java/lang/IllegalArgumentException", by rw [h0]; exact S.2.2.2.2 _ u299, hg.2.2.2.2.2.1 ("java/util/NoSuchElementException", "java/lang/IllegalArgumentException") (by decide +kernel)⟩
      · exact Or.inr ⟨by rw [h0]; decide, "java/lang/IllegalStateException", by rw [h0]; exact S.2.2.2.2 _ u300, hg.2.2.2.2.2.1 ("java/util/NoSuchElementException", "java/lang/IllegalStateException") (by decide +kernel)⟩
      · exact Or.inr ⟨by rw [h0]; decide, "java/lang/UnsupportedOperationException", by rw [h0]; exact S.2.2.2.2 _ u301, hg.2.2.2.2.2.1 ("java/util/NoSuchElementException", "java/lang/UnsupportedOperationException") (by decide +kernel)⟩
    have hpass_5 : ∀ z ∈ cTabE.take 138, covers z 170 = false ∨ (z.catchType ≠ 0 ∧ ∃ nm : String, (Cond.classLink RL z.catchType nm).before #[.ref (ad 0 0), .int 8, .int p2, .int p3, .int p4] s = true ∧ va_Nc "java/lang/ArithmeticException" nm s) := by
      have hc : ∀ z ∈ cTabE.take 138, covers z 170 = false ∨ z.catchType = 95 ∨ z.catchType = 97 ∨ z.catchType = 99 ∨ z.catchType = 101 ∨ z.catchType = 103 := by decide +kernel
      intro z hz
      rcases hc z hz with h0 | h0 | h0 | h0 | h0 | h0
      · exact Or.inl h0
      · exact Or.inr ⟨by rw [h0]; decide, "java/lang/IndexOutOfBoundsException", by rw [h0]; exact S.2.2.2.2 _ u219, hg.2.2.2.2.2.1 ("java/lang/ArithmeticException", "java/lang/IndexOutOfBoundsException") (by decide +kernel)⟩
      · exact Or.inr ⟨by rw [h0]; decide, "java/lang/IllegalArgumentException", by rw [h0]; exact S.2.2.2.2 _ u299, hg.2.2.2.2.2.1 ("java/lang/ArithmeticException", "java/lang/IllegalArgumentException") (by decide +kernel)⟩
      · exact Or.inr ⟨by rw [h0]; decide, "java/lang/IllegalStateException", by rw [h0]; exact S.2.2.2.2 _ u300, hg.2.2.2.2.2.1 ("java/lang/ArithmeticException", "java/lang/IllegalStateException") (by decide +kernel)⟩
      · exact Or.inr ⟨by rw [h0]; decide, "java/lang/UnsupportedOperationException", by rw [h0]; exact S.2.2.2.2 _ u301, hg.2.2.2.2.2.1 ("java/lang/ArithmeticException", "java/lang/UnsupportedOperationException") (by decide +kernel)⟩
      · exact Or.inr ⟨by rw [h0]; decide, "java/util/NoSuchElementException", by rw [h0]; exact S.2.2.2.2 _ u302, hg.2.2.2.2.2.1 ("java/lang/ArithmeticException", "java/util/NoSuchElementException") (by decide +kernel)⟩
    rcases hx1 with ⟨rfl, h9⟩ | ⟨rfl, h9⟩ | ⟨rfl, h9⟩ | ⟨rfl, h9⟩ | ⟨rfl, h9⟩ | ⟨rfl, h9⟩
    · skip
      have hpass_0 : ∀ z ∈ cTabE.take 8, covers z 170 = false ∨ (z.catchType ≠ 0 ∧ ∃ nm : String, (Cond.classLink RL z.catchType nm).before #[.ref (ad 0 0), .int 8, .int p2, .int p3, .int p4] s = true ∧ va_Nc "java/lang/IndexOutOfBoundsException" nm s) := by
        have hc : ∀ z ∈ cTabE.take 8, covers z 170 = false := by decide +kernel
        exact fun z hz => Or.inl (hc z hz)
      refine vx_catch (name := "java/lang/IndexOutOfBoundsException") S.2.2.2.1 (cTabE.take 8) (⟨167, 173, 294, 95⟩ : ExceptionTableEntry) (cTabE.drop 9) (htab.trans rfl) hpass_0 (by decide) (by decide) (S.2.2.2.2 _ u219) (va_Nw.use rfl (hg.2.2.2.2.1.1 ("java/lang/IndexOutOfBoundsException", "java/lang/IndexOutOfBoundsException") (by decide +kernel))) hc1 hc2 hc3 ?_
      refine lv_astore (lv' := [(5, .ref q), (0, .ref (ad 0 0)), (1, .int 8), (2, .int p2), (3, .int p3), (4, .int p4)]) S.1 S.2.1 dL_call_294 hl (by decide) rfl (fun ls hl => ?_)
      refine lv_sipush (v := (-1001)) S.1 S.2.1 dL_call_296 (by decide) ?_
      exact r_iret (y := yL_call) S hr rfl hlk hS (by show _ ≤ mc; omega) (by show _ ≤ ms; omega) dL_call_299 ⟨_, _, ad, rfl, h9, ⟨rfl, rfl⟩, hw⟩
    · skip
      refine vx_catch (name := "java/lang/IllegalArgumentException") S.2.2.2.1 (cTabE.take 34) (⟨167, 173, 300, 97⟩ : ExceptionTableEntry) (cTabE.drop 35) (htab.trans rfl) hpass_1 (by decide) (by decide) (S.2.2.2.2 _ u299) (va_Nw.use rfl (hg.2.2.2.2.1.1 ("java/lang/IllegalArgumentException", "java/lang/IllegalArgumentException") (by decide +kernel))) hc1 hc2 hc3 ?_
      refine lv_astore (lv' := [(5, .ref q), (0, .ref (ad 0 0)), (1, .int 8), (2, .int p2), (3, .int p3), (4, .int p4)]) S.1 S.2.1 dL_call_300 hl (by decide) rfl (fun ls hl => ?_)
      refine lv_sipush (v := (-1002)) S.1 S.2.1 dL_call_302 (by decide) ?_
      exact r_iret (y := yL_call) S hr rfl hlk hS (by show _ ≤ mc; omega) (by show _ ≤ ms; omega) dL_call_305 ⟨_, _, ad, rfl, h9, ⟨rfl, rfl⟩, hw⟩
    · skip
      refine vx_catch (name := "java/lang/IllegalStateException") S.2.2.2.1 (cTabE.take 60) (⟨167, 173, 306, 99⟩ : ExceptionTableEntry) (cTabE.drop 61) (htab.trans rfl) hpass_2 (by decide) (by decide) (S.2.2.2.2 _ u300) (va_Nw.use rfl (hg.2.2.2.2.1.1 ("java/lang/IllegalStateException", "java/lang/IllegalStateException") (by decide +kernel))) hc1 hc2 hc3 ?_
      refine lv_astore (lv' := [(5, .ref q), (0, .ref (ad 0 0)), (1, .int 8), (2, .int p2), (3, .int p3), (4, .int p4)]) S.1 S.2.1 dL_call_306 hl (by decide) rfl (fun ls hl => ?_)
      refine lv_sipush (v := (-1003)) S.1 S.2.1 dL_call_308 (by decide) ?_
      exact r_iret (y := yL_call) S hr rfl hlk hS (by show _ ≤ mc; omega) (by show _ ≤ ms; omega) dL_call_311 ⟨_, _, ad, rfl, h9, ⟨rfl, rfl⟩, hw⟩
    · skip
      refine vx_catch (name := "java/lang/UnsupportedOperationException") S.2.2.2.1 (cTabE.take 86) (⟨167, 173, 312, 101⟩ : ExceptionTableEntry) (cTabE.drop 87) (htab.trans rfl) hpass_3 (by decide) (by decide) (S.2.2.2.2 _ u301) (va_Nw.use rfl (hg.2.2.2.2.1.1 ("java/lang/UnsupportedOperationException", "java/lang/UnsupportedOperationException") (by decide +kernel))) hc1 hc2 hc3 ?_
      refine lv_astore (lv' := [(5, .ref q), (0, .ref (ad 0 0)), (1, .int 8), (2, .int p2), (3, .int p3), (4, .int p4)]) S.1 S.2.1 dL_call_312 hl (by decide) rfl (fun ls hl => ?_)
      refine lv_sipush (v := (-1004)) S.1 S.2.1 dL_call_314 (by decide) ?_
      exact r_iret (y := yL_call) S hr rfl hlk hS (by show _ ≤ mc; omega) (by show _ ≤ ms; omega) dL_call_317 ⟨_, _, ad, rfl, h9, ⟨rfl, rfl⟩, hw⟩
    · skip
      refine vx_catch (name := "java/util/NoSuchElementException") S.2.2.2.1 (cTabE.take 112) (⟨167, 173, 318, 103⟩ : ExceptionTableEntry) (cTabE.drop 113) (htab.trans rfl) hpass_4 (by decide) (by decide) (S.2.2.2.2 _ u302) (va_Nw.use rfl (hg.2.2.2.2.1.1 ("java/util/NoSuchElementException", "java/util/NoSuchElementException") (by decide +kernel))) hc1 hc2 hc3 ?_
      refine lv_astore (lv' := [(5, .ref q), (0, .ref (ad 0 0)), (1, .int 8), (2, .int p2), (3, .int p3), (4, .int p4)]) S.1 S.2.1 dL_call_318 hl (by decide) rfl (fun ls hl => ?_)
      refine lv_sipush (v := (-1005)) S.1 S.2.1 dL_call_320 (by decide) ?_
      exact r_iret (y := yL_call) S hr rfl hlk hS (by show _ ≤ mc; omega) (by show _ ≤ ms; omega) dL_call_323 ⟨_, _, ad, rfl, h9, ⟨rfl, rfl⟩, hw⟩
    · skip
      refine vx_catch (name := "java/lang/ArithmeticException") S.2.2.2.1 (cTabE.take 138) (⟨167, 173, 324, 105⟩ : ExceptionTableEntry) (cTabE.drop 139) (htab.trans rfl) hpass_5 (by decide) (by decide) (S.2.2.2.2 _ u303) (va_Nw.use rfl (hg.2.2.2.2.1.1 ("java/lang/ArithmeticException", "java/lang/ArithmeticException") (by decide +kernel))) hc1 hc2 hc3 ?_
      refine lv_astore (lv' := [(5, .ref q), (0, .ref (ad 0 0)), (1, .int 8), (2, .int p2), (3, .int p3), (4, .int p4)]) S.1 S.2.1 dL_call_324 hl (by decide) rfl (fun ls hl => ?_)
      refine lv_sipush (v := (-1006)) S.1 S.2.1 dL_call_326 (by decide) ?_
      exact r_iret (y := yL_call) S hr rfl hlk hS (by show _ ≤ mc; omega) (by show _ ≤ ms; omega) dL_call_329 ⟨_, _, ad, rfl, h9, ⟨rfl, rfl⟩, hw⟩
  · obtain ⟨r1, K1, ad1, rfl, h, hA, hw⟩ := hq
    exact r_iret (y := yL_call) S hr rfl hlk hS (by show _ ≤ mc; omega) (by show _ ≤ ms; omega) dL_call_173 ⟨_, _, ad1, rfl, h, hA, hw⟩
def wpL_c9 (post : Int32 → KS → Prop) (mc ms : Nat) (K : KS) (p2 p3 p4 : Int32) : Prop := wpX6_stake (fun v K => post v K) (fun E K => (E = "java/lang/IndexOutOfBoundsException" ∧ post (-1001) K) ∨ (E = "java/lang/IllegalArgumentException" ∧ post (-1002) K) ∨ (E = "java/lang/IllegalStateException" ∧ post (-1003) K) ∨ (E = "java/lang/UnsupportedOperationException" ∧ post (-1004) K) ∨ (E = "java/util/NoSuchElementException" ∧ post (-1005) K) ∨ (E = "java/lang/ArithmeticException" ∧ post (-1006) K)) mc ms K p2 p3
set_option maxHeartbeats 4000000 in
set_option maxRecDepth 100000 in
theorem mtL_c9 {l : Launch} {D : va_G} {cI : Nat → ClassId} {e0 : Nat} {A : Nat → Prop} {ad : Nat → Nat → Nat} {K M : KS} {ap o : Int64} {od : UInt64} {mc ms : Nat} {p2 p3 p4 : Int32} {post : Int32 → KS → Prop} (hfl : l.stackTraces = false) (h : wpL_c9 post mc ms K p2 p3 p4) : CW l D cI e0 A yL_call cL_call 6 (some .int) cTab 9 366 mc ms [.ref (ad 0 0), .int 9, .int p2, .int p3, .int p4] (HT D cI e0 A ad K M ap o od) (qW D cI e0 A ad M ap o od post) := by
  refine CW.of (by decide) (Nat.le_of_ble_eq_true rfl) (fun p e s m below meth c ls FX hw hS hl => ?_)
  obtain ⟨S, hg, hr, hlk, hnm, htab⟩ := FX
  have hl : lv_has ls 6 [(0, .ref (ad 0 0)), (1, .int 9), (2, .int p2), (3, .int p3), (4, .int p4)] := hl
  unfold wpL_c9 at h
  refine lv_iload_n S.1 S.2.1 dL_call_0 rfl (lv_at hl 1 rfl) ?_
  refine lv_tableIn (off := 173) (tgt := 174) S.1 S.2.1 dL_call_1 (by decide) (by decide) (by decide) (by decide) ?_
  refine lv_aload_n S.1 S.2.1 dL_call_174 rfl (lv_at hl 0 rfl) ?_
  refine lv_iload_n S.1 S.2.1 dL_call_175 rfl (lv_at hl 2 rfl) ?_
  refine lv_iload_n S.1 S.2.1 dL_call_176 rfl (lv_at hl 3 rfl) ?_
  refine r_call (rest := []) S hg hS (mtX6_stake (mc := mc) (ms := ms) hfl h) u614 u615 u616 u27 u617 hdX6_stake (rv0 hg hw) hw ⟨Nat.le_of_ble_eq_true rfl, Nat.le_of_ble_eq_true rfl⟩ ⟨by show 0 + mc ≤ mc; omega, by show 0 + ms ≤ ms; omega⟩ hl.1 (Nat.le_of_ble_eq_true rfl) rfl dL_call_177 (fun E ce q H locs hx hS hc1 hc2 hc3 => ?_) (fun rv H locs hq hS => ?_)
  · obtain ⟨K, hx1, hw⟩ := hx
    have hpass_1 : ∀ z ∈ cTabE.take 35, covers z 177 = false ∨ (z.catchType ≠ 0 ∧ ∃ nm : String, (Cond.classLink RL z.catchType nm).before #[.ref (ad 0 0), .int 9, .int p2, .int p3, .int p4] s = true ∧ va_Nc "java/lang/IllegalArgumentException" nm s) := by
      have hc : ∀ z ∈ cTabE.take 35, covers z 177 = false ∨ z.catchType = 95 := by decide +kernel
      intro z hz
      rcases hc z hz with h0 | h0
      · exact Or.inl h0
      · exact Or.inr ⟨by rw [h0]; decide, "java/lang/IndexOutOfBoundsException", by rw [h0]; exact S.2.2.2.2 _ u219, hg.2.2.2.2.2.1 ("java/lang/IllegalArgumentException", "java/lang/IndexOutOfBoundsException") (by decide +kernel)⟩
    have hpass_2 : ∀ z ∈ cTabE.take 61, covers z 177 = false ∨ (z.catchType ≠ 0 ∧ ∃ nm : String, (Cond.classLink RL z.catchType nm).before #[.ref (ad 0 0), .int 9, .int p2, .int p3, .int p4] s = true ∧ va_Nc "java/lang/IllegalStateException" nm s) := by
      have hc : ∀ z ∈ cTabE.take 61, covers z 177 = false ∨ z.catchType = 95 ∨ z.catchType = 97 := by decide +kernel
      intro z hz
      rcases hc z hz with h0 | h0 | h0
      · exact Or.inl h0
      · exact Or.inr ⟨by rw [h0]; decide, "java/lang/IndexOutOfBoundsException", by rw [h0]; exact S.2.2.2.2 _ u219, hg.2.2.2.2.2.1 ("java/lang/IllegalStateException", "java/lang/IndexOutOfBoundsException") (by decide +kernel)⟩
      · exact Or.inr ⟨by rw [h0]; decide, "java/lang/IllegalArgumentException", by rw [h0]; exact S.2.2.2.2 _ u299, hg.2.2.2.2.2.1 ("java/lang/IllegalStateException", "java/lang/IllegalArgumentException") (by decide +kernel)⟩
    have hpass_3 : ∀ z ∈ cTabE.take 87, covers z 177 = false ∨ (z.catchType ≠ 0 ∧ ∃ nm : String, (Cond.classLink RL z.catchType nm).before #[.ref (ad 0 0), .int 9, .int p2, .int p3, .int p4] s = true ∧ va_Nc "java/lang/UnsupportedOperationException" nm s) := by
      have hc : ∀ z ∈ cTabE.take 87, covers z 177 = false ∨ z.catchType = 95 ∨ z.catchType = 97 ∨ z.catchType = 99 := by decide +kernel
      intro z hz
      rcases hc z hz with h0 | h0 | h0 | h0
      · exact Or.inl h0
      · exact Or.inr ⟨by rw [h0]; decide, "java/lang/IndexOutOfBoundsException", by rw [h0]; exact S.2.2.2.2 _ u219, hg.2.2.2.2.2.1 ("java/lang/UnsupportedOperationException", "java/lang/IndexOutOfBoundsException") (by decide +kernel)⟩
      · exact Or.inr ⟨by rw [h0]; decide, "java/lang/IllegalArgumentException", by rw [h0]; exact S.2.2.2.2 _ u299, hg.2.2.2.2.2.1 ("java/lang/UnsupportedOperationException", "java/lang/IllegalArgumentException") (by decide +kernel)⟩
      · exact Or.inr ⟨by rw [h0]; decide, "java/lang/IllegalStateException", by rw [h0]; exact S.2.2.2.2 _ u300, hg.2.2.2.2.2.1 ("java/lang/UnsupportedOperationException", "java/lang/IllegalStateException") (by decide +kernel)⟩
    have hpass_4 : ∀ z ∈ cTabE.take 113, covers z 177 = false ∨ (z.catchType ≠ 0 ∧ ∃ nm : String, (Cond.classLink RL z.catchType nm).before #[.ref (ad 0 0), .int 9, .int p2, .int p3, .int p4] s = true ∧ va_Nc "java/util/NoSuchElementException" nm s) := by
      have hc : ∀ z ∈ cTabE.take 113, covers z 177 = false ∨ z.catchType = 95 ∨ z.catchType = 97 ∨ z.catchType = 99 ∨ z.catchType = 101 := by decide +kernel
      intro z hz
      rcases hc z hz with h0 | h0 | h0 | h0 | h0
      · exact Or.inl h0
      · exact Or.inr ⟨by rw [h0]; decide, "java/lang/IndexOutOfBoundsException", by rw [h0]; exact S.2.2.2.2 _ u219, hg.2.2.2.2.2.1 ("java/util/NoSuchElementException", "java/lang/IndexOutOfBoundsException") (by decide +kernel)⟩
      · exact Or.inr ⟨by rw [h0]; decide, "java/lang/IllegalArgumentException", by rw [h0]; exact S.2.2.2.2 _ u299, hg.2.2.2.2.2.1 ("java/util/NoSuchElementException", "java/lang/IllegalArgumentException") (by decide +kernel)⟩
      · exact Or.inr ⟨by rw [h0]; decide, "java/lang/IllegalStateException", by rw [h0]; exact S.2.2.2.2 _ u300, hg.2.2.2.2.2.1 ("java/util/NoSuchElementException", "java/lang/IllegalStateException") (by decide +kernel)⟩
      · exact Or.inr ⟨by rw [h0]; decide, "java/lang/UnsupportedOperationException", by rw [h0]; exact S.2.2.2.2 _ u301, hg.2.2.2.2.2.1 ("java/util/NoSuchElementException", "java/lang/UnsupportedOperationException") (by decide +kernel)⟩
    have hpass_5 : ∀ z ∈ cTabE.take 139, covers z 177 = false ∨ (z.catchType ≠ 0 ∧ ∃ nm : String, (Cond.classLink RL z.catchType nm).before #[.ref (ad 0 0), .int 9, .int p2, .int p3, .int p4] s = true ∧ va_Nc "java/lang/ArithmeticException" nm s) := by
      have hc : ∀ z ∈ cTabE.take 139, covers z 177 = false ∨ z.catchType = 95 ∨ z.catchType = 97 ∨ z.catchType = 99 ∨ z.catchType = 101 ∨ z.catchType = 103 := by decide +kernel
      intro z hz
      rcases hc z hz with h0 | h0 | h0 | h0 | h0 | h0
      · exact Or.inl h0
      · exact Or.inr ⟨by rw [h0]; decide, "java/lang/IndexOutOfBoundsException", by rw [h0]; exact S.2.2.2.2 _ u219, hg.2.2.2.2.2.1 ("java/lang/ArithmeticException", "java/lang/IndexOutOfBoundsException") (by decide +kernel)⟩
      · exact Or.inr ⟨by rw [h0]; decide, "java/lang/IllegalArgumentException", by rw [h0]; exact S.2.2.2.2 _ u299, hg.2.2.2.2.2.1 ("java/lang/ArithmeticException", "java/lang/IllegalArgumentException") (by decide +kernel)⟩
      · exact Or.inr ⟨by rw [h0]; decide, "java/lang/IllegalStateException", by rw [h0]; exact S.2.2.2.2 _ u300, hg.2.2.2.2.2.1 ("java/lang/ArithmeticException", "java/lang/IllegalStateException") (by decide +kernel)⟩
      · exact Or.inr ⟨by rw [h0]; decide, "java/lang/UnsupportedOperationException", by rw [h0]; exact S.2.2.2.2 _ u301, hg.2.2.2.2.2.1 ("java/lang/ArithmeticException", "java/lang/UnsupportedOperationException") (by decide +kernel)⟩
      · exact Or.inr ⟨by rw [h0]; decide, "java/util/NoSuchElementException", by rw [h0]; exact S.2.2.2.2 _ u302, hg.2.2.2.2.2.1 ("java/lang/ArithmeticException", "java/util/NoSuchElementException") (by decide +kernel)⟩
    rcases hx1 with ⟨rfl, h9⟩ | ⟨rfl, h9⟩ | ⟨rfl, h9⟩ | ⟨rfl, h9⟩ | ⟨rfl, h9⟩ | ⟨rfl, h9⟩
    · skip
      have hpass_0 : ∀ z ∈ cTabE.take 9, covers z 177 = false ∨ (z.catchType ≠ 0 ∧ ∃ nm : String, (Cond.classLink RL z.catchType nm).before #[.ref (ad 0 0), .int 9, .int p2, .int p3, .int p4] s = true ∧ va_Nc "java/lang/IndexOutOfBoundsException" nm s) := by
        have hc : ∀ z ∈ cTabE.take 9, covers z 177 = false := by decide +kernel
        exact fun z hz => Or.inl (hc z hz)
      refine vx_catch (name := "java/lang/IndexOutOfBoundsException") S.2.2.2.1 (cTabE.take 9) (⟨174, 180, 294, 95⟩ : ExceptionTableEntry) (cTabE.drop 10) (htab.trans rfl) hpass_0 (by decide) (by decide) (S.2.2.2.2 _ u219) (va_Nw.use rfl (hg.2.2.2.2.1.1 ("java/lang/IndexOutOfBoundsException", "java/lang/IndexOutOfBoundsException") (by decide +kernel))) hc1 hc2 hc3 ?_
      refine lv_astore (lv' := [(5, .ref q), (0, .ref (ad 0 0)), (1, .int 9), (2, .int p2), (3, .int p3), (4, .int p4)]) S.1 S.2.1 dL_call_294 hl (by decide) rfl (fun ls hl => ?_)
      refine lv_sipush (v := (-1001)) S.1 S.2.1 dL_call_296 (by decide) ?_
      exact r_iret (y := yL_call) S hr rfl hlk hS (by show _ ≤ mc; omega) (by show _ ≤ ms; omega) dL_call_299 ⟨_, _, ad, rfl, h9, ⟨rfl, rfl⟩, hw⟩
    · skip
      refine vx_catch (name := "java/lang/IllegalArgumentException") S.2.2.2.1 (cTabE.take 35) (⟨174, 180, 300, 97⟩ : ExceptionTableEntry) (cTabE.drop 36) (htab.trans rfl) hpass_1 (by decide) (by decide) (S.2.2.2.2 _ u299) (va_Nw.use rfl (hg.2.2.2.2.1.1 ("java/lang/IllegalArgumentException", "java/lang/IllegalArgumentException") (by decide +kernel))) hc1 hc2 hc3 ?_
      refine lv_astore (lv' := [(5, .ref q), (0, .ref (ad 0 0)), (1, .int 9), (2, .int p2), (3, .int p3), (4, .int p4)]) S.1 S.2.1 dL_call_300 hl (by decide) rfl (fun ls hl => ?_)
      refine lv_sipush (v := (-1002)) S.1 S.2.1 dL_call_302 (by decide) ?_
      exact r_iret (y := yL_call) S hr rfl hlk hS (by show _ ≤ mc; omega) (by show _ ≤ ms; omega) dL_call_305 ⟨_, _, ad, rfl, h9, ⟨rfl, rfl⟩, hw⟩
    · skip
      refine vx_catch (name := "java/lang/IllegalStateException") S.2.2.2.1 (cTabE.take 61) (⟨174, 180, 306, 99⟩ : ExceptionTableEntry) (cTabE.drop 62) (htab.trans rfl) hpass_2 (by decide) (by decide) (S.2.2.2.2 _ u300) (va_Nw.use rfl (hg.2.2.2.2.1.1 ("java/lang/IllegalStateException", "java/lang/IllegalStateException") (by decide +kernel))) hc1 hc2 hc3 ?_
      refine lv_astore (lv' := [(5, .ref q), (0, .ref (ad 0 0)), (1, .int 9), (2, .int p2), (3, .int p3), (4, .int p4)]) S.1 S.2.1 dL_call_306 hl (by decide) rfl (fun ls hl => ?_)
      refine lv_sipush (v := (-1003)) S.1 S.2.1 dL_call_308 (by decide) ?_
      exact r_iret (y := yL_call) S hr rfl hlk hS (by show _ ≤ mc; omega) (by show _ ≤ ms; omega) dL_call_311 ⟨_, _, ad, rfl, h9, ⟨rfl, rfl⟩, hw⟩
    · skip
      refine vx_catch (name := "java/lang/UnsupportedOperationException") S.2.2.2.1 (cTabE.take 87) (⟨174, 180, 312, 101⟩ : ExceptionTableEntry) (cTabE.drop 88) (htab.trans rfl) hpass_3 (by decide) (by decide) (S.2.2.2.2 _ u301) (va_Nw.use rfl (hg.2.2.2.2.1.1 ("java/lang/UnsupportedOperationException", "java/lang/UnsupportedOperationException") (by decide +kernel))) hc1 hc2 hc3 ?_
      refine lv_astore (lv' := [(5, .ref q), (0, .ref (ad 0 0)), (1, .int 9), (2, .int p2), (3, .int p3), (4, .int p4)]) S.1 S.2.1 dL_call_312 hl (by decide) rfl (fun ls hl => ?_)
      refine lv_sipush (v := (-1004)) S.1 S.2.1 dL_call_314 (by decide) ?_
      exact r_iret (y := yL_call) S hr rfl hlk hS (by show _ ≤ mc; omega) (by show _ ≤ ms; omega) dL_call_317 ⟨_, _, ad, rfl, h9, ⟨rfl, rfl⟩, hw⟩
    · skip
      refine vx_catch (name := "java/util/NoSuchElementException") S.2.2.2.1 (cTabE.take 113) (⟨174, 180, 318, 103⟩ : ExceptionTableEntry) (cTabE.drop 114) (htab.trans rfl) hpass_4 (by decide) (by decide) (S.2.2.2.2 _ u302) (va_Nw.use rfl (hg.2.2.2.2.1.1 ("java/util/NoSuchElementException", "java/util/NoSuchElementException") (by decide +kernel))) hc1 hc2 hc3 ?_
      refine lv_astore (lv' := [(5, .ref q), (0, .ref (ad 0 0)), (1, .int 9), (2, .int p2), (3, .int p3), (4, .int p4)]) S.1 S.2.1 dL_call_318 hl (by decide) rfl (fun ls hl => ?_)
      refine lv_sipush (v := (-1005)) S.1 S.2.1 dL_call_320 (by decide) ?_
      exact r_iret (y := yL_call) S hr rfl hlk hS (by show _ ≤ mc; omega) (by show _ ≤ ms; omega) dL_call_323 ⟨_, _, ad, rfl, h9, ⟨rfl, rfl⟩, hw⟩
    · skip
      refine vx_catch (name := "java/lang/ArithmeticException") S.2.2.2.1 (cTabE.take 139) (⟨174, 180, 324, 105⟩ : ExceptionTableEntry) (cTabE.drop 140) (htab.trans rfl) hpass_5 (by decide) (by decide) (S.2.2.2.2 _ u303) (va_Nw.use rfl (hg.2.2.2.2.1.1 ("java/lang/ArithmeticException", "java/lang/ArithmeticException") (by decide +kernel))) hc1 hc2 hc3 ?_
      refine lv_astore (lv' := [(5, .ref q), (0, .ref (ad 0 0)), (1, .int 9), (2, .int p2), (3, .int p3), (4, .int p4)]) S.1 S.2.1 dL_call_324 hl (by decide) rfl (fun ls hl => ?_)
      refine lv_sipush (v := (-1006)) S.1 S.2.1 dL_call_326 (by decide) ?_
      exact r_iret (y := yL_call) S hr rfl hlk hS (by show _ ≤ mc; omega) (by show _ ≤ ms; omega) dL_call_329 ⟨_, _, ad, rfl, h9, ⟨rfl, rfl⟩, hw⟩
  · obtain ⟨r1, K1, rfl, h, hw⟩ := hq
    exact r_iret (y := yL_call) S hr rfl hlk hS (by show _ ≤ mc; omega) (by show _ ≤ ms; omega) dL_call_180 ⟨_, _, ad, rfl, h, ⟨rfl, rfl⟩, hw⟩
def wpL_c10 (post : Int32 → KS → Prop) (mc ms : Nat) (K : KS) (p2 p3 p4 : Int32) : Prop := wpX6_start (fun v K => post v K) (fun E K => (E = "java/lang/IndexOutOfBoundsException" ∧ post (-1001) K) ∨ (E = "java/lang/IllegalArgumentException" ∧ post (-1002) K) ∨ (E = "java/lang/IllegalStateException" ∧ post (-1003) K) ∨ (E = "java/lang/UnsupportedOperationException" ∧ post (-1004) K) ∨ (E = "java/util/NoSuchElementException" ∧ post (-1005) K) ∨ (E = "java/lang/ArithmeticException" ∧ post (-1006) K)) mc ms K p2
set_option maxHeartbeats 4000000 in
set_option maxRecDepth 100000 in
theorem mtL_c10 {l : Launch} {D : va_G} {cI : Nat → ClassId} {e0 : Nat} {A : Nat → Prop} {ad : Nat → Nat → Nat} {K M : KS} {ap o : Int64} {od : UInt64} {mc ms : Nat} {p2 p3 p4 : Int32} {post : Int32 → KS → Prop} (hfl : l.stackTraces = false) (h : wpL_c10 post mc ms K p2 p3 p4) : CW l D cI e0 A yL_call cL_call 6 (some .int) cTab 9 366 mc ms [.ref (ad 0 0), .int 10, .int p2, .int p3, .int p4] (HT D cI e0 A ad K M ap o od) (qW D cI e0 A ad M ap o od post) := by
  refine CW.of (by decide) (Nat.le_of_ble_eq_true rfl) (fun p e s m below meth c ls FX hw hS hl => ?_)
  obtain ⟨S, hg, hr, hlk, hnm, htab⟩ := FX
  have hl : lv_has ls 6 [(0, .ref (ad 0 0)), (1, .int 10), (2, .int p2), (3, .int p3), (4, .int p4)] := hl
  unfold wpL_c10 at h
  refine lv_iload_n S.1 S.2.1 dL_call_0 rfl (lv_at hl 1 rfl) ?_
  refine lv_tableIn (off := 180) (tgt := 181) S.1 S.2.1 dL_call_1 (by decide) (by decide) (by decide) (by decide) ?_
  refine lv_aload_n S.1 S.2.1 dL_call_181 rfl (lv_at hl 0 rfl) ?_
  refine lv_iload_n S.1 S.2.1 dL_call_182 rfl (lv_at hl 2 rfl) ?_
  refine r_call (rest := []) S hg hS (mtX6_start (mc := mc) (ms := ms) hfl h) u644 u645 u646 u27 u647 hdX6_start (rv0 hg hw) hw ⟨Nat.le_of_ble_eq_true rfl, Nat.le_of_ble_eq_true rfl⟩ ⟨by show 0 + mc ≤ mc; omega, by show 0 + ms ≤ ms; omega⟩ hl.1 (Nat.le_of_ble_eq_true rfl) rfl dL_call_183 (fun E ce q H locs hx hS hc1 hc2 hc3 => ?_) (fun rv H locs hq hS => ?_)
  · obtain ⟨K, hx1, hw⟩ := hx
    have hpass_1 : ∀ z ∈ cTabE.take 36, covers z 183 = false ∨ (z.catchType ≠ 0 ∧ ∃ nm : String, (Cond.classLink RL z.catchType nm).before #[.ref (ad 0 0), .int 10, .int p2, .int p3, .int p4] s = true ∧ va_Nc "java/lang/IllegalArgumentException" nm s) := by
      have hc : ∀ z ∈ cTabE.take 36, covers z 183 = false ∨ z.catchType = 95 := by decide +kernel
      intro z hz
      rcases hc z hz with h0 | h0
      · exact Or.inl h0
      · exact Or.inr ⟨by rw [h0]; decide, "java/lang/IndexOutOfBoundsException", by rw [h0]; exact S.2.2.2.2 _ u219, hg.2.2.2.2.2.1 ("java/lang/IllegalArgumentException", "java/lang/IndexOutOfBoundsException") (by decide +kernel)⟩
    have hpass_2 : ∀ z ∈ cTabE.take 62, covers z 183 = false ∨ (z.catchType ≠ 0 ∧ ∃ nm : String, (Cond.classLink RL z.catchType nm).before #[.ref (ad 0 0), .int 10, .int p2, .int p3, .int p4] s = true ∧ va_Nc "java/lang/IllegalStateException" nm s) := by
      have hc : ∀ z ∈ cTabE.take 62, covers z 183 = false ∨ z.catchType = 95 ∨ z.catchType = 97 := by decide +kernel
      intro z hz
      rcases hc z hz with h0 | h0 | h0
      · exact Or.inl h0
      · exact Or.inr ⟨by rw [h0]; decide, "java/lang/IndexOutOfBoundsException", by rw [h0]; exact S.2.2.2.2 _ u219, hg.2.2.2.2.2.1 ("java/lang/IllegalStateException", "java/lang/IndexOutOfBoundsException") (by decide +kernel)⟩
      · exact Or.inr ⟨by rw [h0]; decide, "java/lang/IllegalArgumentException", by rw [h0]; exact S.2.2.2.2 _ u299, hg.2.2.2.2.2.1 ("java/lang/IllegalStateException", "java/lang/IllegalArgumentException") (by decide +kernel)⟩
    have hpass_3 : ∀ z ∈ cTabE.take 88, covers z 183 = false ∨ (z.catchType ≠ 0 ∧ ∃ nm : String, (Cond.classLink RL z.catchType nm).before #[.ref (ad 0 0), .int 10, .int p2, .int p3, .int p4] s = true ∧ va_Nc "java/lang/UnsupportedOperationException" nm s) := by
      have hc : ∀ z ∈ cTabE.take 88, covers z 183 = false ∨ z.catchType = 95 ∨ z.catchType = 97 ∨ z.catchType = 99 := by decide +kernel
      intro z hz
      rcases hc z hz with h0 | h0 | h0 | h0
      · exact Or.inl h0
      · exact Or.inr ⟨by rw [h0]; decide, "java/lang/IndexOutOfBoundsException", by rw [h0]; exact S.2.2.2.2 _ u219, hg.2.2.2.2.2.1 ("java/lang/UnsupportedOperationException", "java/lang/IndexOutOfBoundsException") (by decide +kernel)⟩
      · exact Or.inr ⟨by rw [h0]; decide, "java/lang/IllegalArgumentException", by rw [h0]; exact S.2.2.2.2 _ u299, hg.2.2.2.2.2.1 ("java/lang/UnsupportedOperationException", "java/lang/IllegalArgumentException") (by decide +kernel)⟩
      · exact Or.inr ⟨by rw [h0]; decide, "java/lang/IllegalStateException", by rw [h0]; exact S.2.2.2.2 _ u300, hg.2.2.2.2.2.1 ("java/lang/UnsupportedOperationException", "java/lang/IllegalStateException") (by decide +kernel)⟩
    have hpass_4 : ∀ z ∈ cTabE.take 114, covers z 183 = false ∨ (z.catchType ≠ 0 ∧ ∃ nm : String, (Cond.classLink RL z.catchType nm).before #[.ref (ad 0 0), .int 10, .int p2, .int p3, .int p4] s = true ∧ va_Nc "java/util/NoSuchElementException" nm s) := by
      have hc : ∀ z ∈ cTabE.take 114, covers z 183 = false ∨ z.catchType = 95 ∨ z.catchType = 97 ∨ z.catchType = 99 ∨ z.catchType = 101 := by decide +kernel
      intro z hz
      rcases hc z hz with h0 | h0 | h0 | h0 | h0
      · exact Or.inl h0
      · exact Or.inr ⟨by rw [h0]; decide, "java/lang/IndexOutOfBoundsException", by rw [h0]; exact S.2.2.2.2 _ u219, hg.2.2.2.2.2.1 ("java/util/NoSuchElementException", "java/lang/IndexOutOfBoundsException") (by decide +kernel)⟩
      · exact Or.inr ⟨by rw [h0]; decide, "java/lang/IllegalArgumentException", by rw [h0]; exact S.2.2.2.2 _ u299, hg.2.2.2.2.2.1 ("java/util/NoSuchElementException", "java/lang/IllegalArgumentException") (by decide +kernel)⟩
      · exact Or.inr ⟨by rw [h0]; decide, "java/lang/IllegalStateException", by rw [h0]; exact S.2.2.2.2 _ u300, hg.2.2.2.2.2.1 ("java/util/NoSuchElementException", "java/lang/IllegalStateException") (by decide +kernel)⟩
      · exact Or.inr ⟨by rw [h0]; decide, "java/lang/UnsupportedOperationException", by rw [h0]; exact S.2.2.2.2 _ u301, hg.2.2.2.2.2.1 ("java/util/NoSuchElementException", "java/lang/UnsupportedOperationException") (by decide +kernel)⟩
    have hpass_5 : ∀ z ∈ cTabE.take 140, covers z 183 = false ∨ (z.catchType ≠ 0 ∧ ∃ nm : String, (Cond.classLink RL z.catchType nm).before #[.ref (ad 0 0), .int 10, .int p2, .int p3, .int p4] s = true ∧ va_Nc "java/lang/ArithmeticException" nm s) := by
      have hc : ∀ z ∈ cTabE.take 140, covers z 183 = false ∨ z.catchType = 95 ∨ z.catchType = 97 ∨ z.catchType = 99 ∨ z.catchType = 101 ∨ z.catchType = 103 := by decide +kernel
      intro z hz
      rcases hc z hz with h0 | h0 | h0 | h0 | h0 | h0
      · exact Or.inl h0
      · exact Or.inr ⟨by rw [h0]; decide, "java/lang/IndexOutOfBoundsException", by rw [h0]; exact S.2.2.2.2 _ u219, hg.2.2.2.2.2.1 ("java/lang/ArithmeticException", "java/lang/IndexOutOfBoundsException") (by decide +kernel)⟩
      · exact Or.inr ⟨by rw [h0]; decide, "java/lang/IllegalArgumentException", by rw [h0]; exact S.2.2.2.2 _ u299, hg.2.2.2.2.2.1 ("java/lang/ArithmeticException", "java/lang/IllegalArgumentException") (by decide +kernel)⟩
      · exact Or.inr ⟨by rw [h0]; decide, "java/lang/IllegalStateException", by rw [h0]; exact S.2.2.2.2 _ u300, hg.2.2.2.2.2.1 ("java/lang/ArithmeticException", "java/lang/IllegalStateException") (by decide +kernel)⟩
      · exact Or.inr ⟨by rw [h0]; decide, "java/lang/UnsupportedOperationException", by rw [h0]; exact S.2.2.2.2 _ u301, hg.2.2.2.2.2.1 ("java/lang/ArithmeticException", "java/lang/UnsupportedOperationException") (by decide +kernel)⟩
      · exact Or.inr ⟨by rw [h0]; decide, "java/util/NoSuchElementException", by rw [h0]; exact S.2.2.2.2 _ u302, hg.2.2.2.2.2.1 ("java/lang/ArithmeticException", "java/util/NoSuchElementException") (by decide +kernel)⟩
    rcases hx1 with ⟨rfl, h9⟩ | ⟨rfl, h9⟩ | ⟨rfl, h9⟩ | ⟨rfl, h9⟩ | ⟨rfl, h9⟩ | ⟨rfl, h9⟩
    · skip
      have hpass_0 : ∀ z ∈ cTabE.take 10, covers z 183 = false ∨ (z.catchType ≠ 0 ∧ ∃ nm : String, (Cond.classLink RL z.catchType nm).before #[.ref (ad 0 0), .int 10, .int p2, .int p3, .int p4] s = true ∧ va_Nc "java/lang/IndexOutOfBoundsException" nm s) := by
        have hc : ∀ z ∈ cTabE.take 10, covers z 183 = false := by decide +kernel
        exact fun z hz => Or.inl (hc z hz)
      refine vx_catch (name := "java/lang/IndexOutOfBoundsException") S.2.2.2.1 (cTabE.take 10) (⟨181, 186, 294, 95⟩ : ExceptionTableEntry) (cTabE.drop 11) (htab.trans rfl) hpass_0 (by decide) (by decide) (S.2.2.2.2 _ u219) (va_Nw.use rfl (hg.2.2.2.2.1.1 ("java/lang/IndexOutOfBoundsException", "java/lang/IndexOutOfBoundsException") (by decide +kernel))) hc1 hc2 hc3 ?_
      refine lv_astore (lv' := [(5, .ref q), (0, .ref (ad 0 0)), (1, .int 10), (2, .int p2), (3, .int p3), (4, .int p4)]) S.1 S.2.1 dL_call_294 hl (by decide) rfl (fun ls hl => ?_)
      refine lv_sipush (v := (-1001)) S.1 S.2.1 dL_call_296 (by decide) ?_
      exact r_iret (y := yL_call) S hr rfl hlk hS (by show _ ≤ mc; omega) (by show _ ≤ ms; omega) dL_call_299 ⟨_, _, ad, rfl, h9, ⟨rfl, rfl⟩, hw⟩
    · skip
      refine vx_catch (name := "java/lang/IllegalArgumentException") S.2.2.2.1 (cTabE.take 36) (⟨181, 186, 300, 97⟩ : ExceptionTableEntry) (cTabE.drop 37) (htab.trans rfl) hpass_1 (by decide) (by decide) (S.2.2.2.2 _ u299) (va_Nw.use rfl (hg.2.2.2.2.1.1 ("java/lang/IllegalArgumentException", "java/lang/IllegalArgumentException") (by decide +kernel))) hc1 hc2 hc3 ?_
      refine lv_astore (lv' := [(5, .ref q), (0, .ref (ad 0 0)), (1, .int 10), (2, .int p2), (3, .int p3), (4, .int p4)]) S.1 S.2.1 dL_call_300 hl (by decide) rfl (fun ls hl => ?_)
      refine lv_sipush (v := (-1002)) S.1 S.2.1 dL_call_302 (by decide) ?_
      exact r_iret (y := yL_call) S hr rfl hlk hS (by show _ ≤ mc; omega) (by show _ ≤ ms; omega) dL_call_305 ⟨_, _, ad, rfl, h9, ⟨rfl, rfl⟩, hw⟩
    · skip
      refine vx_catch (name := "java/lang/IllegalStateException") S.2.2.2.1 (cTabE.take 62) (⟨181, 186, 306, 99⟩ : ExceptionTableEntry) (cTabE.drop 63) (htab.trans rfl) hpass_2 (by decide) (by decide) (S.2.2.2.2 _ u300) (va_Nw.use rfl (hg.2.2.2.2.1.1 ("java/lang/IllegalStateException", "java/lang/IllegalStateException") (by decide +kernel))) hc1 hc2 hc3 ?_
      refine lv_astore (lv' := [(5, .ref q), (0, .ref (ad 0 0)), (1, .int 10), (2, .int p2), (3, .int p3), (4, .int p4)]) S.1 S.2.1 dL_call_306 hl (by decide) rfl (fun ls hl => ?_)
      refine lv_sipush (v := (-1003)) S.1 S.2.1 dL_call_308 (by decide) ?_
      exact r_iret (y := yL_call) S hr rfl hlk hS (by show _ ≤ mc; omega) (by show _ ≤ ms; omega) dL_call_311 ⟨_, _, ad, rfl, h9, ⟨rfl, rfl⟩, hw⟩
    · skip
      refine vx_catch (name := "java/lang/UnsupportedOperationException") S.2.2.2.1 (cTabE.take 88) (⟨181, 186, 312, 101⟩ : ExceptionTableEntry) (cTabE.drop 89) (htab.trans rfl) hpass_3 (by decide) (by decide) (S.2.2.2.2 _ u301) (va_Nw.use rfl (hg.2.2.2.2.1.1 ("java/lang/UnsupportedOperationException", "java/lang/UnsupportedOperationException") (by decide +kernel))) hc1 hc2 hc3 ?_
      refine lv_astore (lv' := [(5, .ref q), (0, .ref (ad 0 0)), (1, .int 10), (2, .int p2), (3, .int p3), (4, .int p4)]) S.1 S.2.1 dL_call_312 hl (by decide) rfl (fun ls hl => ?_)
      refine lv_sipush (v := (-1004)) S.1 S.2.1 dL_call_314 (by decide) ?_
      exact r_iret (y := yL_call) S hr rfl hlk hS (by show _ ≤ mc; omega) (by show _ ≤ ms; omega) dL_call_317 ⟨_, _, ad, rfl, h9, ⟨rfl, rfl⟩, hw⟩
    · skip
      refine vx_catch (name := "java/util/NoSuchElementException") S.2.2.2.1 (cTabE.take 114) (⟨181, 186, 318, 103⟩ : ExceptionTableEntry) (cTabE.drop 115) (htab.trans rfl) hpass_4 (by decide) (by decide) (S.2.2.2.2 _ u302) (va_Nw.use rfl (hg.2.2.2.2.1.1 ("java/util/NoSuchElementException", "java/util/NoSuchElementException") (by decide +kernel))) hc1 hc2 hc3 ?_
      refine lv_astore (lv' := [(5, .ref q), (0, .ref (ad 0 0)), (1, .int 10), (2, .int p2), (3, .int p3), (4, .int p4)]) S.1 S.2.1 dL_call_318 hl (by decide) rfl (fun ls hl => ?_)
      refine lv_sipush (v := (-1005)) S.1 S.2.1 dL_call_320 (by decide) ?_
      exact r_iret (y := yL_call) S hr rfl hlk hS (by show _ ≤ mc; omega) (by show _ ≤ ms; omega) dL_call_323 ⟨_, _, ad, rfl, h9, ⟨rfl, rfl⟩, hw⟩
    · skip
      refine vx_catch (name := "java/lang/ArithmeticException") S.2.2.2.1 (cTabE.take 140) (⟨181, 186, 324, 105⟩ : ExceptionTableEntry) (cTabE.drop 141) (htab.trans rfl) hpass_5 (by decide) (by decide) (S.2.2.2.2 _ u303) (va_Nw.use rfl (hg.2.2.2.2.1.1 ("java/lang/ArithmeticException", "java/lang/ArithmeticException") (by decide +kernel))) hc1 hc2 hc3 ?_
      refine lv_astore (lv' := [(5, .ref q), (0, .ref (ad 0 0)), (1, .int 10), (2, .int p2), (3, .int p3), (4, .int p4)]) S.1 S.2.1 dL_call_324 hl (by decide) rfl (fun ls hl => ?_)
      refine lv_sipush (v := (-1006)) S.1 S.2.1 dL_call_326 (by decide) ?_
      exact r_iret (y := yL_call) S hr rfl hlk hS (by show _ ≤ mc; omega) (by show _ ≤ ms; omega) dL_call_329 ⟨_, _, ad, rfl, h9, ⟨rfl, rfl⟩, hw⟩
  · obtain ⟨r1, K1, rfl, h, hw⟩ := hq
    exact r_iret (y := yL_call) S hr rfl hlk hS (by show _ ≤ mc; omega) (by show _ ≤ ms; omega) dL_call_186 ⟨_, _, ad, rfl, h, ⟨rfl, rfl⟩, hw⟩
def wpL_c11 (post : Int32 → KS → Prop) (mc ms : Nat) (K : KS) (p2 p3 p4 : Int32) : Prop := wpX6_play (fun v K => post v K) (fun E K => (E = "java/lang/IndexOutOfBoundsException" ∧ post (-1001) K) ∨ (E = "java/lang/IllegalArgumentException" ∧ post (-1002) K) ∨ (E = "java/lang/IllegalStateException" ∧ post (-1003) K) ∨ (E = "java/lang/UnsupportedOperationException" ∧ post (-1004) K) ∨ (E = "java/util/NoSuchElementException" ∧ post (-1005) K) ∨ (E = "java/lang/ArithmeticException" ∧ post (-1006) K)) mc ms K p2 p3
set_option maxHeartbeats 4000000 in
set_option maxRecDepth 100000 in
theorem mtL_c11 {l : Launch} {D : va_G} {cI : Nat → ClassId} {e0 : Nat} {A : Nat → Prop} {ad : Nat → Nat → Nat} {K M : KS} {ap o : Int64} {od : UInt64} {mc ms : Nat} {p2 p3 p4 : Int32} {post : Int32 → KS → Prop} (hfl : l.stackTraces = false) (h : wpL_c11 post mc ms K p2 p3 p4) : CW l D cI e0 A yL_call cL_call 6 (some .int) cTab 9 366 mc ms [.ref (ad 0 0), .int 11, .int p2, .int p3, .int p4] (HT D cI e0 A ad K M ap o od) (qW D cI e0 A ad M ap o od post) := by
  refine CW.of (by decide) (Nat.le_of_ble_eq_true rfl) (fun p e s m below meth c ls FX hw hS hl => ?_)
  obtain ⟨S, hg, hr, hlk, hnm, htab⟩ := FX
  have hl : lv_has ls 6 [(0, .ref (ad 0 0)), (1, .int 11), (2, .int p2), (3, .int p3), (4, .int p4)] := hl
  unfold wpL_c11 at h
  refine lv_iload_n S.1 S.2.1 dL_call_0 rfl (lv_at hl 1 rfl) ?_
  refine lv_tableIn (off := 186) (tgt := 187) S.1 S.2.1 dL_call_1 (by decide) (by decide) (by decide) (by decide) ?_
  refine lv_aload_n S.1 S.2.1 dL_call_187 rfl (lv_at hl 0 rfl) ?_
  refine lv_iload_n S.1 S.2.1 dL_call_188 rfl (lv_at hl 2 rfl) ?_
  refine lv_iload_n S.1 S.2.1 dL_call_189 rfl (lv_at hl 3 rfl) ?_
  refine r_call (rest := []) S hg hS (mtX6_play (mc := mc) (ms := ms) hfl h) u659 u660 u661 u27 u662 hdX6_play (rv0 hg hw) hw ⟨Nat.le_of_ble_eq_true rfl, Nat.le_of_ble_eq_true rfl⟩ ⟨by show 0 + mc ≤ mc; omega, by show 0 + ms ≤ ms; omega⟩ hl.1 (Nat.le_of_ble_eq_true rfl) rfl dL_call_190 (fun E ce q H locs hx hS hc1 hc2 hc3 => ?_) (fun rv H locs hq hS => ?_)
  · obtain ⟨K, hx1, hw⟩ := hx
    have hpass_1 : ∀ z ∈ cTabE.take 37, covers z 190 = false ∨ (z.catchType ≠ 0 ∧ ∃ nm : String, (Cond.classLink RL z.catchType nm).before #[.ref (ad 0 0), .int 11, .int p2, .int p3, .int p4] s = true ∧ va_Nc "java/lang/IllegalArgumentException" nm s) := by
      have hc : ∀ z ∈ cTabE.take 37, covers z 190 = false ∨ z.catchType = 95 := by decide +kernel
      intro z hz
      rcases hc z hz with h0 | h0
      · exact Or.inl h0
      · exact Or.inr ⟨by rw [h0]; decide, "java/lang/IndexOutOfBoundsException", by rw [h0]; exact S.2.2.2.2 _ u219, hg.2.2.2.2.2.1 ("java/lang/IllegalArgumentException", "java/lang/IndexOutOfBoundsException") (by decide +kernel)⟩
    have hpass_2 : ∀ z ∈ cTabE.take 63, covers z 190 = false ∨ (z.catchType ≠ 0 ∧ ∃ nm : String, (Cond.classLink RL z.catchType nm).before #[.ref (ad 0 0), .int 11, .int p2, .int p3, .int p4] s = true ∧ va_Nc "java/lang/IllegalStateException" nm s) := by
      have hc : ∀ z ∈ cTabE.take 63, covers z 190 = false ∨ z.catchType = 95 ∨ z.catchType = 97 := by decide +kernel
      intro z hz
      rcases hc z hz with h0 | h0 | h0
      · exact Or.inl h0
      · exact Or.inr ⟨by rw [h0]; decide, "java/lang/IndexOutOfBoundsException", by rw [h0]; exact S.2.2.2.2 _ u219, hg.2.2.2.2.2.1 ("java/lang/IllegalStateException", "java/lang/IndexOutOfBoundsException") (by decide +kernel)⟩
      · exact Or.inr ⟨by rw [h0]; decide, "java/lang/IllegalArgumentException", by rw [h0]; exact S.2.2.2.2 _ u299, hg.2.2.2.2.2.1 ("java/lang/IllegalStateException", "java/lang/IllegalArgumentException") (by decide +kernel)⟩
    have hpass_3 : ∀ z ∈ cTabE.take 89, covers z 190 = false ∨ (z.catchType ≠ 0 ∧ ∃ nm : String, (Cond.classLink RL z.catchType nm).before #[.ref (ad 0 0), .int 11, .int p2, .int p3, .int p4] s = true ∧ va_Nc "java/lang/UnsupportedOperationException" nm s) := by
      have hc : ∀ z ∈ cTabE.take 89, covers z 190 = false ∨ z.catchType = 95 ∨ z.catchType = 97 ∨ z.catchType = 99 := by decide +kernel
      intro z hz
      rcases hc z hz with h0 | h0 | h0 | h0
      · exact Or.inl h0
      · exact Or.inr ⟨by rw [h0]; decide, "java/lang/IndexOutOfBoundsException", by rw [h0]; exact S.2.2.2.2 _ u219, hg.2.2.2.2.2.1 ("java/lang/UnsupportedOperationException", "java/lang/IndexOutOfBoundsException") (by decide +kernel)⟩
      · exact Or.inr ⟨by rw [h0]; decide, "java/lang/IllegalArgumentException", by rw [h0]; exact S.2.2.2.2 _ u299, hg.2.2.2.2.2.1 ("java/lang/UnsupportedOperationException", "java/lang/IllegalArgumentException") (by decide +kernel)⟩
      · exact Or.inr ⟨by rw [h0]; decide, "java/lang/IllegalStateException", by rw [h0]; exact S.2.2.2.2 _ u300, hg.2.2.2.2.2.1 ("java/lang/UnsupportedOperationException", "java/lang/IllegalStateException") (by decide +kernel)⟩
    have hpass_4 : ∀ z ∈ cTabE.take 115, covers z 190 = false ∨ (z.catchType ≠ 0 ∧ ∃ nm : String, (Cond.classLink RL z.catchType nm).before #[.ref (ad 0 0), .int 11, .int p2, .int p3, .int p4] s = true ∧ va_Nc "java/util/NoSuchElementException" nm s) := by
      have hc : ∀ z ∈ cTabE.take 115, covers z 190 = false ∨ z.catchType = 95 ∨ z.catchType = 97 ∨ z.catchType = 99 ∨ z.catchType = 101 := by decide +kernel
      intro z hz
      rcases hc z hz with h0 | h0 | h0 | h0 | h0
      · exact Or.inl h0
      · exact Or.inr ⟨by rw [h0]; decide, "java/lang/IndexOutOfBoundsException", by rw [h0]; exact S.2.2.2.2 _ u219, hg.2.2.2.2.2.1 ("java/util/NoSuchElementException", "java/lang/IndexOutOfBoundsException") (by decide +kernel)⟩
      · exact Or.inr ⟨by rw [h0]; decide, "java/lang/IllegalArgumentException", by rw [h0]; exact S.2.2.2.2 _ u299, hg.2.2.2.2.2.1 ("java/util/NoSuchElementException", "java/lang/IllegalArgumentException") (by decide +kernel)⟩
      · exact Or.inr ⟨by rw [h0]; decide, "java/lang/IllegalStateException", by rw [h0]; exact S.2.2.2.2 _ u300, hg.2.2.2.2.2.1 ("java/util/NoSuchElementException", "java/lang/IllegalStateException") (by decide +kernel)⟩
      · exact Or.inr ⟨by rw [h0]; decide, "java/lang/UnsupportedOperationException", by rw [h0]; exact S.2.2.2.2 _ u301, hg.2.2.2.2.2.1 ("java/util/NoSuchElementException", "java/lang/UnsupportedOperationException") (by decide +kernel)⟩
    have hpass_5 : ∀ z ∈ cTabE.take 141, covers z 190 = false ∨ (z.catchType ≠ 0 ∧ ∃ nm : String, (Cond.classLink RL z.catchType nm).before #[.ref (ad 0 0), .int 11, .int p2, .int p3, .int p4] s = true ∧ va_Nc "java/lang/ArithmeticException" nm s) := by
      have hc : ∀ z ∈ cTabE.take 141, covers z 190 = false ∨ z.catchType = 95 ∨ z.catchType = 97 ∨ z.catchType = 99 ∨ z.catchType = 101 ∨ z.catchType = 103 := by decide +kernel
      intro z hz
      rcases hc z hz with h0 | h0 | h0 | h0 | h0 | h0
      · exact Or.inl h0
      · exact Or.inr ⟨by rw [h0]; decide, "java/lang/IndexOutOfBoundsException", by rw [h0]; exact S.2.2.2.2 _ u219, hg.2.2.2.2.2.1 ("java/lang/ArithmeticException", "java/lang/IndexOutOfBoundsException") (by decide +kernel)⟩
      · exact Or.inr ⟨by rw [h0]; decide, "java/lang/IllegalArgumentException", by rw [h0]; exact S.2.2.2.2 _ u299, hg.2.2.2.2.2.1 ("java/lang/ArithmeticException", "java/lang/IllegalArgumentException") (by decide +kernel)⟩
      · exact Or.inr ⟨by rw [h0]; decide, "java/lang/IllegalStateException", by rw [h0]; exact S.2.2.2.2 _ u300, hg.2.2.2.2.2.1 ("java/lang/ArithmeticException", "java/lang/IllegalStateException") (by decide +kernel)⟩
      · exact Or.inr ⟨by rw [h0]; decide, "java/lang/UnsupportedOperationException", by rw [h0]; exact S.2.2.2.2 _ u301, hg.2.2.2.2.2.1 ("java/lang/ArithmeticException", "java/lang/UnsupportedOperationException") (by decide +kernel)⟩
      · exact Or.inr ⟨by rw [h0]; decide, "java/util/NoSuchElementException", by rw [h0]; exact S.2.2.2.2 _ u302, hg.2.2.2.2.2.1 ("java/lang/ArithmeticException", "java/util/NoSuchElementException") (by decide +kernel)⟩
    rcases hx1 with ⟨rfl, h9⟩ | ⟨rfl, h9⟩ | ⟨rfl, h9⟩ | ⟨rfl, h9⟩ | ⟨rfl, h9⟩ | ⟨rfl, h9⟩
    · skip
      have hpass_0 : ∀ z ∈ cTabE.take 11, covers z 190 = false ∨ (z.catchType ≠ 0 ∧ ∃ nm : String, (Cond.classLink RL z.catchType nm).before #[.ref (ad 0 0), .int 11, .int p2, .int p3, .int p4] s = true ∧ va_Nc "java/lang/IndexOutOfBoundsException" nm s) := by
        have hc : ∀ z ∈ cTabE.take 11, covers z 190 = false := by decide +kernel
        exact fun z hz => Or.inl (hc z hz)
      refine vx_catch (name := "java/lang/IndexOutOfBoundsException") S.2.2.2.1 (cTabE.take 11) (⟨187, 193, 294, 95⟩ : ExceptionTableEntry) (cTabE.drop 12) (htab.trans rfl) hpass_0 (by decide) (by decide) (S.2.2.2.2 _ u219) (va_Nw.use rfl (hg.2.2.2.2.1.1 ("java/lang/IndexOutOfBoundsException", "java/lang/IndexOutOfBoundsException") (by decide +kernel))) hc1 hc2 hc3 ?_
      refine lv_astore (lv' := [(5, .ref q), (0, .ref (ad 0 0)), (1, .int 11), (2, .int p2), (3, .int p3), (4, .int p4)]) S.1 S.2.1 dL_call_294 hl (by decide) rfl (fun ls hl => ?_)
      refine lv_sipush (v := (-1001)) S.1 S.2.1 dL_call_296 (by decide) ?_
      exact r_iret (y := yL_call) S hr rfl hlk hS (by show _ ≤ mc; omega) (by show _ ≤ ms; omega) dL_call_299 ⟨_, _, ad, rfl, h9, ⟨rfl, rfl⟩, hw⟩
    · skip
      refine vx_catch (name := "java/lang/IllegalArgumentException") S.2.2.2.1 (cTabE.take 37) (⟨187, 193, 300, 97⟩ : ExceptionTableEntry) (cTabE.drop 38) (htab.trans rfl) hpass_1 (by decide) (by decide) (S.2.2.2.2 _ u299) (va_Nw.use rfl (hg.2.2.2.2.1.1 ("java/lang/IllegalArgumentException", "java/lang/IllegalArgumentException") (by decide +kernel))) hc1 hc2 hc3 ?_
      refine lv_astore (lv' := [(5, .ref q), (0, .ref (ad 0 0)), (1, .int 11), (2, .int p2), (3, .int p3), (4, .int p4)]) S.1 S.2.1 dL_call_300 hl (by decide) rfl (fun ls hl => ?_)
      refine lv_sipush (v := (-1002)) S.1 S.2.1 dL_call_302 (by decide) ?_
      exact r_iret (y := yL_call) S hr rfl hlk hS (by show _ ≤ mc; omega) (by show _ ≤ ms; omega) dL_call_305 ⟨_, _, ad, rfl, h9, ⟨rfl, rfl⟩, hw⟩
    · skip
      refine vx_catch (name := "java/lang/IllegalStateException") S.2.2.2.1 (cTabE.take 63) (⟨187, 193, 306, 99⟩ : ExceptionTableEntry) (cTabE.drop 64) (htab.trans rfl) hpass_2 (by decide) (by decide) (S.2.2.2.2 _ u300) (va_Nw.use rfl (hg.2.2.2.2.1.1 ("java/lang/IllegalStateException", "java/lang/IllegalStateException") (by decide +kernel))) hc1 hc2 hc3 ?_
      refine lv_astore (lv' := [(5, .ref q), (0, .ref (ad 0 0)), (1, .int 11), (2, .int p2), (3, .int p3), (4, .int p4)]) S.1 S.2.1 dL_call_306 hl (by decide) rfl (fun ls hl => ?_)
      refine lv_sipush (v := (-1003)) S.1 S.2.1 dL_call_308 (by decide) ?_
      exact r_iret (y := yL_call) S hr rfl hlk hS (by show _ ≤ mc; omega) (by show _ ≤ ms; omega) dL_call_311 ⟨_, _, ad, rfl, h9, ⟨rfl, rfl⟩, hw⟩
    · skip
      refine vx_catch (name := "java/lang/UnsupportedOperationException") S.2.2.2.1 (cTabE.take 89) (⟨187, 193, 312, 101⟩ : ExceptionTableEntry) (cTabE.drop 90) (htab.trans rfl) hpass_3 (by decide) (by decide) (S.2.2.2.2 _ u301) (va_Nw.use rfl (hg.2.2.2.2.1.1 ("java/lang/UnsupportedOperationException", "java/lang/UnsupportedOperationException") (by decide +kernel))) hc1 hc2 hc3 ?_
      refine lv_astore (lv' := [(5, .ref q), (0, .ref (ad 0 0)), (1, .int 11), (2, .int p2), (3, .int p3), (4, .int p4)]) S.1 S.2.1 dL_call_312 hl (by decide) rfl (fun ls hl => ?_)
      refine lv_sipush (v := (-1004)) S.1 S.2.1 dL_call_314 (by decide) ?_
      exact r_iret (y := yL_call) S hr rfl hlk hS (by show _ ≤ mc; omega) (by show _ ≤ ms; omega) dL_call_317 ⟨_, _, ad, rfl, h9, ⟨rfl, rfl⟩, hw⟩
    · skip
      refine vx_catch (name := "java/util/NoSuchElementException") S.2.2.2.1 (cTabE.take 115) (⟨187, 193, 318, 103⟩ : ExceptionTableEntry) (cTabE.drop 116) (htab.trans rfl) hpass_4 (by decide) (by decide) (S.2.2.2.2 _ u302) (va_Nw.use rfl (hg.2.2.2.2.1.1 ("java/util/NoSuchElementException", "java/util/NoSuchElementException") (by decide +kernel))) hc1 hc2 hc3 ?_
      refine lv_astore (lv' := [(5, .ref q), (0, .ref (ad 0 0)), (1, .int 11), (2, .int p2), (3, .int p3), (4, .int p4)]) S.1 S.2.1 dL_call_318 hl (by decide) rfl (fun ls hl => ?_)
      refine lv_sipush (v := (-1005)) S.1 S.2.1 dL_call_320 (by decide) ?_
      exact r_iret (y := yL_call) S hr rfl hlk hS (by show _ ≤ mc; omega) (by show _ ≤ ms; omega) dL_call_323 ⟨_, _, ad, rfl, h9, ⟨rfl, rfl⟩, hw⟩
    · skip
      refine vx_catch (name := "java/lang/ArithmeticException") S.2.2.2.1 (cTabE.take 141) (⟨187, 193, 324, 105⟩ : ExceptionTableEntry) (cTabE.drop 142) (htab.trans rfl) hpass_5 (by decide) (by decide) (S.2.2.2.2 _ u303) (va_Nw.use rfl (hg.2.2.2.2.1.1 ("java/lang/ArithmeticException", "java/lang/ArithmeticException") (by decide +kernel))) hc1 hc2 hc3 ?_
      refine lv_astore (lv' := [(5, .ref q), (0, .ref (ad 0 0)), (1, .int 11), (2, .int p2), (3, .int p3), (4, .int p4)]) S.1 S.2.1 dL_call_324 hl (by decide) rfl (fun ls hl => ?_)
      refine lv_sipush (v := (-1006)) S.1 S.2.1 dL_call_326 (by decide) ?_
      exact r_iret (y := yL_call) S hr rfl hlk hS (by show _ ≤ mc; omega) (by show _ ≤ ms; omega) dL_call_329 ⟨_, _, ad, rfl, h9, ⟨rfl, rfl⟩, hw⟩
  · obtain ⟨r1, K1, rfl, h, hw⟩ := hq
    exact r_iret (y := yL_call) S hr rfl hlk hS (by show _ ≤ mc; omega) (by show _ ≤ ms; omega) dL_call_193 ⟨_, _, ad, rfl, h, ⟨rfl, rfl⟩, hw⟩
def wpL_c12 (post : Int32 → KS → Prop) (mc ms : Nat) (K : KS) (p2 p3 p4 : Int32) : Prop := wpX6_endTurn (fun v K => post v K) (fun E K => (E = "java/lang/IndexOutOfBoundsException" ∧ post (-1001) K) ∨ (E = "java/lang/IllegalArgumentException" ∧ post (-1002) K) ∨ (E = "java/lang/IllegalStateException" ∧ post (-1003) K) ∨ (E = "java/lang/UnsupportedOperationException" ∧ post (-1004) K) ∨ (E = "java/util/NoSuchElementException" ∧ post (-1005) K) ∨ (E = "java/lang/ArithmeticException" ∧ post (-1006) K)) mc ms K p2
set_option maxHeartbeats 4000000 in
set_option maxRecDepth 100000 in
theorem mtL_c12 {l : Launch} {D : va_G} {cI : Nat → ClassId} {e0 : Nat} {A : Nat → Prop} {ad : Nat → Nat → Nat} {K M : KS} {ap o : Int64} {od : UInt64} {mc ms : Nat} {p2 p3 p4 : Int32} {post : Int32 → KS → Prop} (hfl : l.stackTraces = false) (h : wpL_c12 post mc ms K p2 p3 p4) : CW l D cI e0 A yL_call cL_call 6 (some .int) cTab 9 366 mc ms [.ref (ad 0 0), .int 12, .int p2, .int p3, .int p4] (HT D cI e0 A ad K M ap o od) (qW D cI e0 A ad M ap o od post) := by
  refine CW.of (by decide) (Nat.le_of_ble_eq_true rfl) (fun p e s m below meth c ls FX hw hS hl => ?_)
  obtain ⟨S, hg, hr, hlk, hnm, htab⟩ := FX
  have hl : lv_has ls 6 [(0, .ref (ad 0 0)), (1, .int 12), (2, .int p2), (3, .int p3), (4, .int p4)] := hl
  unfold wpL_c12 at h
  refine lv_iload_n S.1 S.2.1 dL_call_0 rfl (lv_at hl 1 rfl) ?_
  refine lv_tableIn (off := 193) (tgt := 194) S.1 S.2.1 dL_call_1 (by decide) (by decide) (by decide) (by decide) ?_
  refine lv_aload_n S.1 S.2.1 dL_call_194 rfl (lv_at hl 0 rfl) ?_
  refine lv_iload_n S.1 S.2.1 dL_call_195 rfl (lv_at hl 2 rfl) ?_
  refine r_call (rest := []) S hg hS (mtX6_endTurn (mc := mc) (ms := ms) hfl h) u698 u699 u700 u27 u701 hdX6_endTurn (rv0 hg hw) hw ⟨Nat.le_of_ble_eq_true rfl, Nat.le_of_ble_eq_true rfl⟩ ⟨by show 0 + mc ≤ mc; omega, by show 0 + ms ≤ ms; omega⟩ hl.1 (Nat.le_of_ble_eq_true rfl) rfl dL_call_196 (fun E ce q H locs hx hS hc1 hc2 hc3 => ?_) (fun rv H locs hq hS => ?_)
  · obtain ⟨K, hx1, hw⟩ := hx
    have hpass_1 : ∀ z ∈ cTabE.take 38, covers z 196 = false ∨ (z.catchType ≠ 0 ∧ ∃ nm : String, (Cond.classLink RL z.catchType nm).before #[.ref (ad 0 0), .int 12, .int p2, .int p3, .int p4] s = true ∧ va_Nc "java/lang/IllegalArgumentException" nm s) := by
      have hc : ∀ z ∈ cTabE.take 38, covers z 196 = false ∨ z.catchType = 95 := by decide +kernel
      intro z hz
      rcases hc z hz with h0 | h0
      · exact Or.inl h0
      · exact Or.inr ⟨by rw [h0]; decide, "java/lang/IndexOutOfBoundsException", by rw [h0]; exact S.2.2.2.2 _ u219, hg.2.2.2.2.2.1 ("java/lang/IllegalArgumentException", "java/lang/IndexOutOfBoundsException") (by decide +kernel)⟩
    have hpass_2 : ∀ z ∈ cTabE.take 64, covers z 196 = false ∨ (z.catchType ≠ 0 ∧ ∃ nm : String, (Cond.classLink RL z.catchType nm).before #[.ref (ad 0 0), .int 12, .int p2, .int p3, .int p4] s = true ∧ va_Nc "java/lang/IllegalStateException" nm s) := by
      have hc : ∀ z ∈ cTabE.take 64, covers z 196 = false ∨ z.catchType = 95 ∨ z.catchType = 97 := by decide +kernel
      intro z hz
      rcases hc z hz with h0 | h0 | h0
      · exact Or.inl h0
      · exact Or.inr ⟨by rw [h0]; decide, "java/lang/IndexOutOfBoundsException", by rw [h0]; exact S.2.2.2.2 _ u219, hg.2.2.2.2.2.1 ("java/lang/IllegalStateException", "java/lang/IndexOutOfBoundsException") (by decide +kernel)⟩
      · exact Or.inr ⟨by rw [h0]; decide, "java/lang/IllegalArgumentException", by rw [h0]; exact S.2.2.2.2 _ u299, hg.2.2.2.2.2.1 ("java/lang/IllegalStateException", "java/lang/IllegalArgumentException") (by decide +kernel)⟩
    have hpass_3 : ∀ z ∈ cTabE.take 90, covers z 196 = false ∨ (z.catchType ≠ 0 ∧ ∃ nm : String, (Cond.classLink RL z.catchType nm).before #[.ref (ad 0 0), .int 12, .int p2, .int p3, .int p4] s = true ∧ va_Nc "java/lang/UnsupportedOperationException" nm s) := by
      have hc : ∀ z ∈ cTabE.take 90, covers z 196 = false ∨ z.catchType = 95 ∨ z.catchType = 97 ∨ z.catchType = 99 := by decide +kernel
      intro z hz
      rcases hc z hz with h0 | h0 | h0 | h0
      · exact Or.inl h0
      · exact Or.inr ⟨by rw [h0]; decide, "java/lang/IndexOutOfBoundsException", by rw [h0]; exact S.2.2.2.2 _ u219, hg.2.2.2.2.2.1 ("java/lang/UnsupportedOperationException", "java/lang/IndexOutOfBoundsException") (by decide +kernel)⟩
      · exact Or.inr ⟨by rw [h0]; decide, "java/lang/IllegalArgumentException", by rw [h0]; exact S.2.2.2.2 _ u299, hg.2.2.2.2.2.1 ("java/lang/UnsupportedOperationException", "java/lang/IllegalArgumentException") (by decide +kernel)⟩
      · exact Or.inr ⟨by rw [h0]; decide, "java/lang/IllegalStateException", by rw [h0]; exact S.2.2.2.2 _ u300, hg.2.2.2.2.2.1 ("java/lang/UnsupportedOperationException", "java/lang/IllegalStateException") (by decide +kernel)⟩
    have hpass_4 : ∀ z ∈ cTabE.take 116, covers z 196 = false ∨ (z.catchType ≠ 0 ∧ ∃ nm : String, (Cond.classLink RL z.catchType nm).before #[.ref (ad 0 0), .int 12, .int p2, .int p3, .int p4] s = true ∧ va_Nc "java/util/NoSuchElementException" nm s) := by
      have hc : ∀ z ∈ cTabE.take 116, covers z 196 = false ∨ z.catchType = 95 ∨ z.catchType = 97 ∨ z.catchType = 99 ∨ z.catchType = 101 := by decide +kernel
      intro z hz
      rcases hc z hz with h0 | h0 | h0 | h0 | h0
      · exact Or.inl h0
      · exact Or.inr ⟨by rw [h0]; decide, "java/lang/IndexOutOfBoundsException", by rw [h0]; exact S.2.2.2.2 _ u219, hg.2.2.2.2.2.1 ("java/util/NoSuchElementException", "java/lang/IndexOutOfBoundsException") (by decide +kernel)⟩
      · exact Or.inr ⟨by rw [h0]; decide, "java/lang/IllegalArgumentException", by rw [h0]; exact S.2.2.2.2 _ u299, hg.2.2.2.2.2.1 ("java/util/NoSuchElementException", "java/lang/IllegalArgumentException") (by decide +kernel)⟩
      · exact Or.inr ⟨by rw [h0]; decide, "java/lang/IllegalStateException", by rw [h0]; exact S.2.2.2.2 _ u300, hg.2.2.2.2.2.1 ("java/util/NoSuchElementException", "java/lang/IllegalStateException") (by decide +kernel)⟩
      · exact Or.inr ⟨by rw [h0]; decide, "java/lang/UnsupportedOperationException", by rw [h0]; exact S.2.2.2.2 _ u301, hg.2.2.2.2.2.1 ("java/util/NoSuchElementException", "java/lang/UnsupportedOperationException") (by decide +kernel)⟩
    have hpass_5 : ∀ z ∈ cTabE.take 142, covers z 196 = false ∨ (z.catchType ≠ 0 ∧ ∃ nm : String, (Cond.classLink RL z.catchType nm).before #[.ref (ad 0 0), .int 12, .int p2, .int p3, .int p4] s = true ∧ va_Nc "java/lang/ArithmeticException" nm s) := by
      have hc : ∀ z ∈ cTabE.take 142, covers z 196 = false ∨ z.catchType = 95 ∨ z.catchType = 97 ∨ z.catchType = 99 ∨ z.catchType = 101 ∨ z.catchType = 103 := by decide +kernel
      intro z hz
      rcases hc z hz with h0 | h0 | h0 | h0 | h0 | h0
      · exact Or.inl h0
      · exact Or.inr ⟨by rw [h0]; decide, "java/lang/IndexOutOfBoundsException", by rw [h0]; exact S.2.2.2.2 _ u219, hg.2.2.2.2.2.1 ("java/lang/ArithmeticException", "java/lang/IndexOutOfBoundsException") (by decide +kernel)⟩
      · exact Or.inr ⟨by rw [h0]; decide, "java/lang/IllegalArgumentException", by rw [h0]; exact S.2.2.2.2 _ u299, hg.2.2.2.2.2.1 ("java/lang/ArithmeticException", "java/lang/IllegalArgumentException") (by decide +kernel)⟩
      · exact Or.inr ⟨by rw [h0]; decide, "java/lang/IllegalStateException", by rw [h0]; exact S.2.2.2.2 _ u300, hg.2.2.2.2.2.1 ("java/lang/ArithmeticException", "java/lang/IllegalStateException") (by decide +kernel)⟩
      · exact Or.inr ⟨by rw [h0]; decide, "java/lang/UnsupportedOperationException", by rw [h0]; exact S.2.2.2.2 _ u301, hg.2.2.2.2.2.1 ("java/lang/ArithmeticException", "java/lang/UnsupportedOperationException") (by decide +kernel)⟩
      · exact Or.inr ⟨by rw [h0]; decide, "java/util/NoSuchElementException", by rw [h0]; exact S.2.2.2.2 _ u302, hg.2.2.2.2.2.1 ("java/lang/ArithmeticException", "java/util/NoSuchElementException") (by decide +kernel)⟩
    rcases hx1 with ⟨rfl, h9⟩ | ⟨rfl, h9⟩ | ⟨rfl, h9⟩ | ⟨rfl, h9⟩ | ⟨rfl, h9⟩ | ⟨rfl, h9⟩
    · skip
      have hpass_0 : ∀ z ∈ cTabE.take 12, covers z 196 = false ∨ (z.catchType ≠ 0 ∧ ∃ nm : String, (Cond.classLink RL z.catchType nm).before #[.ref (ad 0 0), .int 12, .int p2, .int p3, .int p4] s = true ∧ va_Nc "java/lang/IndexOutOfBoundsException" nm s) := by
        have hc : ∀ z ∈ cTabE.take 12, covers z 196 = false := by decide +kernel
        exact fun z hz => Or.inl (hc z hz)
      refine vx_catch (name := "java/lang/IndexOutOfBoundsException") S.2.2.2.1 (cTabE.take 12) (⟨194, 199, 294, 95⟩ : ExceptionTableEntry) (cTabE.drop 13) (htab.trans rfl) hpass_0 (by decide) (by decide) (S.2.2.2.2 _ u219) (va_Nw.use rfl (hg.2.2.2.2.1.1 ("java/lang/IndexOutOfBoundsException", "java/lang/IndexOutOfBoundsException") (by decide +kernel))) hc1 hc2 hc3 ?_
      refine lv_astore (lv' := [(5, .ref q), (0, .ref (ad 0 0)), (1, .int 12), (2, .int p2), (3, .int p3), (4, .int p4)]) S.1 S.2.1 dL_call_294 hl (by decide) rfl (fun ls hl => ?_)
      refine lv_sipush (v := (-1001)) S.1 S.2.1 dL_call_296 (by decide) ?_
      exact r_iret (y := yL_call) S hr rfl hlk hS (by show _ ≤ mc; omega) (by show _ ≤ ms; omega) dL_call_299 ⟨_, _, ad, rfl, h9, ⟨rfl, rfl⟩, hw⟩
    · skip
      refine vx_catch (name := "java/lang/IllegalArgumentException") S.2.2.2.1 (cTabE.take 38) (⟨194, 199, 300, 97⟩ : ExceptionTableEntry) (cTabE.drop 39) (htab.trans rfl) hpass_1 (by decide) (by decide) (S.2.2.2.2 _ u299) (va_Nw.use rfl (hg.2.2.2.2.1.1 ("java/lang/IllegalArgumentException", "java/lang/IllegalArgumentException") (by decide +kernel))) hc1 hc2 hc3 ?_
      refine lv_astore (lv' := [(5, .ref q), (0, .ref (ad 0 0)), (1, .int 12), (2, .int p2), (3, .int p3), (4, .int p4)]) S.1 S.2.1 dL_call_300 hl (by decide) rfl (fun ls hl => ?_)
      refine lv_sipush (v := (-1002)) S.1 S.2.1 dL_call_302 (by decide) ?_
      exact r_iret (y := yL_call) S hr rfl hlk hS (by show _ ≤ mc; omega) (by show _ ≤ ms; omega) dL_call_305 ⟨_, _, ad, rfl, h9, ⟨rfl, rfl⟩, hw⟩
    · skip
      refine vx_catch (name := "java/lang/IllegalStateException") S.2.2.2.1 (cTabE.take 64) (⟨194, 199, 306, 99⟩ : ExceptionTableEntry) (cTabE.drop 65) (htab.trans rfl) hpass_2 (by decide) (by decide) (S.2.2.2.2 _ u300) (va_Nw.use rfl (hg.2.2.2.2.1.1 ("java/lang/IllegalStateException", "java/lang/IllegalStateException") (by decide +kernel))) hc1 hc2 hc3 ?_
      refine lv_astore (lv' := [(5, .ref q), (0, .ref (ad 0 0)), (1, .int 12), (2, .int p2), (3, .int p3), (4, .int p4)]) S.1 S.2.1 dL_call_306 hl (by decide) rfl (fun ls hl => ?_)
      refine lv_sipush (v := (-1003)) S.1 S.2.1 dL_call_308 (by decide) ?_
      exact r_iret (y := yL_call) S hr rfl hlk hS (by show _ ≤ mc; omega) (by show _ ≤ ms; omega) dL_call_311 ⟨_, _, ad, rfl, h9, ⟨rfl, rfl⟩, hw⟩
    · skip
      refine vx_catch (name := "java/lang/UnsupportedOperationException") S.2.2.2.1 (cTabE.take 90) (⟨194, 199, 312, 101⟩ : ExceptionTableEntry) (cTabE.drop 91) (htab.trans rfl) hpass_3 (by decide) (by decide) (S.2.2.2.2 _ u301) (va_Nw.use rfl (hg.2.2.2.2.1.1 ("java/lang/UnsupportedOperationException", "java/lang/UnsupportedOperationException") (by decide +kernel))) hc1 hc2 hc3 ?_
      refine lv_astore (lv' := [(5, .ref q), (0, .ref (ad 0 0)), (1, .int 12), (2, .int p2), (3, .int p3), (4, .int p4)]) S.1 S.2.1 dL_call_312 hl (by decide) rfl (fun ls hl => ?_)
      refine lv_sipush (v := (-1004)) S.1 S.2.1 dL_call_314 (by decide) ?_
      exact r_iret (y := yL_call) S hr rfl hlk hS (by show _ ≤ mc; omega) (by show _ ≤ ms; omega) dL_call_317 ⟨_, _, ad, rfl, h9, ⟨rfl, rfl⟩, hw⟩
    · skip
      refine vx_catch (name := "java/util/NoSuchElementException") S.2.2.2.1 (cTabE.take 116) (⟨194, 199, 318, 103⟩ : ExceptionTableEntry) (cTabE.drop 117) (htab.trans rfl) hpass_4 (by decide) (by decide) (S.2.2.2.2 _ u302) (va_Nw.use rfl (hg.2.2.2.2.1.1 ("java/util/NoSuchElementException", "java/util/NoSuchElementException") (by decide +kernel))) hc1 hc2 hc3 ?_
      refine lv_astore (lv' := [(5, .ref q), (0, .ref (ad 0 0)), (1, .int 12), (2, .int p2), (3, .int p3), (4, .int p4)]) S.1 S.2.1 dL_call_318 hl (by decide) rfl (fun ls hl => ?_)
      refine lv_sipush (v := (-1005)) S.1 S.2.1 dL_call_320 (by decide) ?_
      exact r_iret (y := yL_call) S hr rfl hlk hS (by show _ ≤ mc; omega) (by show _ ≤ ms; omega) dL_call_323 ⟨_, _, ad, rfl, h9, ⟨rfl, rfl⟩, hw⟩
    · skip
      refine vx_catch (name := "java/lang/ArithmeticException") S.2.2.2.1 (cTabE.take 142) (⟨194, 199, 324, 105⟩ : ExceptionTableEntry) (cTabE.drop 143) (htab.trans rfl) hpass_5 (by decide) (by decide) (S.2.2.2.2 _ u303) (va_Nw.use rfl (hg.2.2.2.2.1.1 ("java/lang/ArithmeticException", "java/lang/ArithmeticException") (by decide +kernel))) hc1 hc2 hc3 ?_
      refine lv_astore (lv' := [(5, .ref q), (0, .ref (ad 0 0)), (1, .int 12), (2, .int p2), (3, .int p3), (4, .int p4)]) S.1 S.2.1 dL_call_324 hl (by decide) rfl (fun ls hl => ?_)
      refine lv_sipush (v := (-1006)) S.1 S.2.1 dL_call_326 (by decide) ?_
      exact r_iret (y := yL_call) S hr rfl hlk hS (by show _ ≤ mc; omega) (by show _ ≤ ms; omega) dL_call_329 ⟨_, _, ad, rfl, h9, ⟨rfl, rfl⟩, hw⟩
  · obtain ⟨r1, K1, rfl, h, hw⟩ := hq
    exact r_iret (y := yL_call) S hr rfl hlk hS (by show _ ≤ mc; omega) (by show _ ≤ ms; omega) dL_call_199 ⟨_, _, ad, rfl, h, ⟨rfl, rfl⟩, hw⟩
def wpL_c13 (post : Int32 → Prop) (mc ms : Nat) (K : KS) (p2 p3 p4 : Int32) : Prop := wpX6_duelState (fun v => post v) (fun E => (E = "java/lang/IndexOutOfBoundsException" ∧ post (-1001)) ∨ (E = "java/lang/IllegalArgumentException" ∧ post (-1002)) ∨ (E = "java/lang/IllegalStateException" ∧ post (-1003)) ∨ (E = "java/lang/UnsupportedOperationException" ∧ post (-1004)) ∨ (E = "java/util/NoSuchElementException" ∧ post (-1005)) ∨ (E = "java/lang/ArithmeticException" ∧ post (-1006))) mc ms K p2
set_option maxHeartbeats 4000000 in
set_option maxRecDepth 100000 in
theorem mtL_c13 {l : Launch} {D : va_G} {cI : Nat → ClassId} {e0 : Nat} {A : Nat → Prop} {ad : Nat → Nat → Nat} {K M : KS} {ap o : Int64} {od : UInt64} {mc ms : Nat} {p2 p3 p4 : Int32} {post : Int32 → Prop} (hfl : l.stackTraces = false) (h : wpL_c13 post mc ms K p2 p3 p4) : CW l D cI e0 A yL_call cL_call 6 (some .int) cTab 9 366 mc ms [.ref (ad 0 0), .int 13, .int p2, .int p3, .int p4] (HT D cI e0 A ad K M ap o od) (qP D cI e0 A ad K M ap o od rI post) := by
  refine CW.of (by decide) (Nat.le_of_ble_eq_true rfl) (fun p e s m below meth c ls FX hw hS hl => ?_)
  obtain ⟨S, hg, hr, hlk, hnm, htab⟩ := FX
  have hl : lv_has ls 6 [(0, .ref (ad 0 0)), (1, .int 13), (2, .int p2), (3, .int p3), (4, .int p4)] := hl
  unfold wpL_c13 at h
  refine lv_iload_n S.1 S.2.1 dL_call_0 rfl (lv_at hl 1 rfl) ?_
  refine lv_tableIn (off := 199) (tgt := 200) S.1 S.2.1 dL_call_1 (by decide) (by decide) (by decide) (by decide) ?_
  refine lv_aload_n S.1 S.2.1 dL_call_200 rfl (lv_at hl 0 rfl) ?_
  refine lv_iload_n S.1 S.2.1 dL_call_201 rfl (lv_at hl 2 rfl) ?_
  refine r_call (rest := []) S hg hS (mtX6_duelState (mc := mc) (ms := ms) hfl h) u740 u741 u742 u27 u743 hdX6_duelState (rv0 hg hw) hw ⟨Nat.le_of_ble_eq_true rfl, Nat.le_of_ble_eq_true rfl⟩ ⟨by show 0 + mc ≤ mc; omega, by show 0 + ms ≤ ms; omega⟩ hl.1 (Nat.le_of_ble_eq_true rfl) rfl dL_call_202 (fun E ce q H locs hx hS hc1 hc2 hc3 => ?_) (fun rv H locs hq hS => ?_)
  · obtain ⟨hx1, hw⟩ := hx
    have hpass_1 : ∀ z ∈ cTabE.take 39, covers z 202 = false ∨ (z.catchType ≠ 0 ∧ ∃ nm : String, (Cond.classLink RL z.catchType nm).before #[.ref (ad 0 0), .int 13, .int p2, .int p3, .int p4] s = true ∧ va_Nc "java/lang/IllegalArgumentException" nm s) := by
      have hc : ∀ z ∈ cTabE.take 39, covers z 202 = false ∨ z.catchType = 95 := by decide +kernel
      intro z hz
      rcases hc z hz with h0 | h0
      · exact Or.inl h0
      · exact Or.inr ⟨by rw [h0]; decide, "java/lang/IndexOutOfBoundsException", by rw [h0]; exact S.2.2.2.2 _ u219, hg.2.2.2.2.2.1 ("java/lang/IllegalArgumentException", "java/lang/IndexOutOfBoundsException") (by decide +kernel)⟩
    have hpass_2 : ∀ z ∈ cTabE.take 65, covers z 202 = false ∨ (z.catchType ≠ 0 ∧ ∃ nm : String, (Cond.classLink RL z.catchType nm).before #[.ref (ad 0 0), .int 13, .int p2, .int p3, .int p4] s = true ∧ va_Nc "java/lang/IllegalStateException" nm s) := by
      have hc : ∀ z ∈ cTabE.take 65, covers z 202 = false ∨ z.catchType = 95 ∨ z.catchType = 97 := by decide +kernel
      intro z hz
      rcases hc z hz with h0 | h0 | h0
      · exact Or.inl h0
      · exact Or.inr ⟨by rw [h0]; decide, "java/lang/IndexOutOfBoundsException", by rw [h0]; exact S.2.2.2.2 _ u219, hg.2.2.2.2.2.1 ("java/lang/IllegalStateException", "java/lang/IndexOutOfBoundsException") (by decide +kernel)⟩
      · exact Or.inr ⟨by rw [h0]; decide, "java/lang/IllegalArgumentException", by rw [h0]; exact S.2.2.2.2 _ u299, hg.2.2.2.2.2.1 ("java/lang/IllegalStateException", "java/lang/IllegalArgumentException") (by decide +kernel)⟩
    have hpass_3 : ∀ z ∈ cTabE.take 91, covers z 202 = false ∨ (z.catchType ≠ 0 ∧ ∃ nm : String, (Cond.classLink RL z.catchType nm).before #[.ref (ad 0 0), .int 13, .int p2, .int p3, .int p4] s = true ∧ va_Nc "java/lang/UnsupportedOperationException" nm s) := by
      have hc : ∀ z ∈ cTabE.take 91, covers z 202 = false ∨ z.catchType = 95 ∨ z.catchType = 97 ∨ z.catchType = 99 := by decide +kernel
      intro z hz
      rcases hc z hz with h0 | h0 | h0 | h0
      · exact Or.inl h0
      · exact Or.inr ⟨by rw [h0]; decide, "java/lang/IndexOutOfBoundsException", by rw [h0]; exact S.2.2.2.2 _ u219, hg.2.2.2.2.2.1 ("java/lang/UnsupportedOperationException", "java/lang/IndexOutOfBoundsException") (by decide +kernel)⟩
      · exact Or.inr ⟨by rw [h0]; decide, "java/lang/IllegalArgumentException", by rw [h0]; exact S.2.2.2.2 _ u299, hg.2.2.2.2.2.1 ("java/lang/UnsupportedOperationException", "java/lang/IllegalArgumentException") (by decide +kernel)⟩
      · exact Or.inr ⟨by rw [h0]; decide, "java/lang/IllegalStateException", by rw [h0]; exact S.2.2.2.2 _ u300, hg.2.2.2.2.2.1 ("java/lang/UnsupportedOperationException", "java/lang/IllegalStateException") (by decide +kernel)⟩
    have hpass_4 : ∀ z ∈ cTabE.take 117, covers z 202 = false ∨ (z.catchType ≠ 0 ∧ ∃ nm : String, (Cond.classLink RL z.catchType nm).before #[.ref (ad 0 0), .int 13, .int p2, .int p3, .int p4] s = true ∧ va_Nc "java/util/NoSuchElementException" nm s) := by
      have hc : ∀ z ∈ cTabE.take 117, covers z 202 = false ∨ z.catchType = 95 ∨ z.catchType = 97 ∨ z.catchType = 99 ∨ z.catchType = 101 := by decide +kernel
      intro z hz
      rcases hc z hz with h0 | h0 | h0 | h0 | h0
      · exact Or.inl h0
      · exact Or.inr ⟨by rw [h0]; decide, "java/lang/IndexOutOfBoundsException", by rw [h0]; exact S.2.2.2.2 _ u219, hg.2.2.2.2.2.1 ("java/util/NoSuchElementException", "java/lang/IndexOutOfBoundsException") (by decide +kernel)⟩
      · exact Or.inr ⟨by rw [h0]; decide, "java/lang/IllegalArgumentException", by rw [h0]; exact S.2.2.2.2 _ u299, hg.2.2.2.2.2.1 ("java/util/NoSuchElementException", "java/lang/IllegalArgumentException") (by decide +kernel)⟩
      · exact Or.inr ⟨by rw [h0]; decide, "java/lang/IllegalStateException", by rw [h0]; exact S.2.2.2.2 _ u300, hg.2.2.2.2.2.1 ("java/util/NoSuchElementException", "java/lang/IllegalStateException") (by decide +kernel)⟩
      · exact Or.inr ⟨by rw [h0]; decide, "java/lang/UnsupportedOperationException", by rw [h0]; exact S.2.2.2.2 _ u301, hg.2.2.2.2.2.1 ("java/util/NoSuchElementException", "java/lang/UnsupportedOperationException") (by decide +kernel)⟩
    have hpass_5 : ∀ z ∈ cTabE.take 143, covers z 202 = false ∨ (z.catchType ≠ 0 ∧ ∃ nm : String, (Cond.classLink RL z.catchType nm).before #[.ref (ad 0 0), .int 13, .int p2, .int p3, .int p4] s = true ∧ va_Nc "java/lang/ArithmeticException" nm s) := by
      have hc : ∀ z ∈ cTabE.take 143, covers z 202 = false ∨ z.catchType = 95 ∨ z.catchType = 97 ∨ z.catchType = 99 ∨ z.catchType = 101 ∨ z.catchType = 103 := by decide +kernel
      intro z hz
      rcases hc z hz with h0 | h0 | h0 | h0 | h0 | h0
      · exact Or.inl h0
      · exact Or.inr ⟨by rw [h0]; decide, "java/lang/IndexOutOfBoundsException", by rw [h0]; exact S.2.2.2.2 _ u219, hg.2.2.2.2.2.1 ("java/lang/ArithmeticException", "java/lang/IndexOutOfBoundsException") (by decide +kernel)⟩
      · exact Or.inr ⟨by rw [h0]; decide, "java/lang/IllegalArgumentException", by rw [h0]; exact S.2.2.2.2 _ u299, hg.2.2.2.2.2.1 ("java/lang/ArithmeticException", "java/lang/IllegalArgumentException") (by decide +kernel)⟩
      · exact Or.inr ⟨by rw [h0]; decide, "java/lang/IllegalStateException", by rw [h0]; exact S.2.2.2.2 _ u300, hg.2.2.2.2.2.1 ("java/lang/ArithmeticException", "java/lang/IllegalStateException") (by decide +kernel)⟩
      · exact Or.inr ⟨by rw [h0]; decide, "java/lang/UnsupportedOperationException", by rw [h0]; exact S.2.2.2.2 _ u301, hg.2.2.2.2.2.1 ("java/lang/ArithmeticException", "java/lang/UnsupportedOperationException") (by decide +kernel)⟩
      · exact Or.inr ⟨by rw [h0]; decide, "java/util/NoSuchElementException", by rw [h0]; exact S.2.2.2.2 _ u302, hg.2.2.2.2.2.1 ("java/lang/ArithmeticException", "java/util/NoSuchElementException") (by decide +kernel)⟩
    rcases hx1 with ⟨rfl, h9⟩ | ⟨rfl, h9⟩ | ⟨rfl, h9⟩ | ⟨rfl, h9⟩ | ⟨rfl, h9⟩ | ⟨rfl, h9⟩
    · skip
      have hpass_0 : ∀ z ∈ cTabE.take 13, covers z 202 = false ∨ (z.catchType ≠ 0 ∧ ∃ nm : String, (Cond.classLink RL z.catchType nm).before #[.ref (ad 0 0), .int 13, .int p2, .int p3, .int p4] s = true ∧ va_Nc "java/lang/IndexOutOfBoundsException" nm s) := by
        have hc : ∀ z ∈ cTabE.take 13, covers z 202 = false := by decide +kernel
        exact fun z hz => Or.inl (hc z hz)
      refine vx_catch (name := "java/lang/IndexOutOfBoundsException") S.2.2.2.1 (cTabE.take 13) (⟨200, 205, 294, 95⟩ : ExceptionTableEntry) (cTabE.drop 14) (htab.trans rfl) hpass_0 (by decide) (by decide) (S.2.2.2.2 _ u219) (va_Nw.use rfl (hg.2.2.2.2.1.1 ("java/lang/IndexOutOfBoundsException", "java/lang/IndexOutOfBoundsException") (by decide +kernel))) hc1 hc2 hc3 ?_
      refine lv_astore (lv' := [(5, .ref q), (0, .ref (ad 0 0)), (1, .int 13), (2, .int p2), (3, .int p3), (4, .int p4)]) S.1 S.2.1 dL_call_294 hl (by decide) rfl (fun ls hl => ?_)
      refine lv_sipush (v := (-1001)) S.1 S.2.1 dL_call_296 (by decide) ?_
      exact r_iret (y := yL_call) S hr rfl hlk hS (by show _ ≤ mc; omega) (by show _ ≤ ms; omega) dL_call_299 ⟨_, rfl, h9, hw⟩
    · skip
      refine vx_catch (name := "java/lang/IllegalArgumentException") S.2.2.2.1 (cTabE.take 39) (⟨200, 205, 300, 97⟩ : ExceptionTableEntry) (cTabE.drop 40) (htab.trans rfl) hpass_1 (by decide) (by decide) (S.2.2.2.2 _ u299) (va_Nw.use rfl (hg.2.2.2.2.1.1 ("java/lang/IllegalArgumentException", "java/lang/IllegalArgumentException") (by decide +kernel))) hc1 hc2 hc3 ?_
      refine lv_astore (lv' := [(5, .ref q), (0, .ref (ad 0 0)), (1, .int 13), (2, .int p2), (3, .int p3), (4, .int p4)]) S.1 S.2.1 dL_call_300 hl (by decide) rfl (fun ls hl => ?_)
      refine lv_sipush (v := (-1002)) S.1 S.2.1 dL_call_302 (by decide) ?_
      exact r_iret (y := yL_call) S hr rfl hlk hS (by show _ ≤ mc; omega) (by show _ ≤ ms; omega) dL_call_305 ⟨_, rfl, h9, hw⟩
    · skip
      refine vx_catch (name := "java/lang/IllegalStateException") S.2.2.2.1 (cTabE.take 65) (⟨200, 205, 306, 99⟩ : ExceptionTableEntry) (cTabE.drop 66) (htab.trans rfl) hpass_2 (by decide) (by decide) (S.2.2.2.2 _ u300) (va_Nw.use rfl (hg.2.2.2.2.1.1 ("java/lang/IllegalStateException", "java/lang/IllegalStateException") (by decide +kernel))) hc1 hc2 hc3 ?_
      refine lv_astore (lv' := [(5, .ref q), (0, .ref (ad 0 0)), (1, .int 13), (2, .int p2), (3, .int p3), (4, .int p4)]) S.1 S.2.1 dL_call_306 hl (by decide) rfl (fun ls hl => ?_)
      refine lv_sipush (v := (-1003)) S.1 S.2.1 dL_call_308 (by decide) ?_
      exact r_iret (y := yL_call) S hr rfl hlk hS (by show _ ≤ mc; omega) (by show _ ≤ ms; omega) dL_call_311 ⟨_, rfl, h9, hw⟩
    · skip
      refine vx_catch (name := "java/lang/UnsupportedOperationException") S.2.2.2.1 (cTabE.take 91) (⟨200, 205, 312, 101⟩ : ExceptionTableEntry) (cTabE.drop 92) (htab.trans rfl) hpass_3 (by decide) (by decide) (S.2.2.2.2 _ u301) (va_Nw.use rfl (hg.2.2.2.2.1.1 ("java/lang/UnsupportedOperationException", "java/lang/UnsupportedOperationException") (by decide +kernel))) hc1 hc2 hc3 ?_
      refine lv_astore (lv' := [(5, .ref q), (0, .ref (ad 0 0)), (1, .int 13), (2, .int p2), (3, .int p3), (4, .int p4)]) S.1 S.2.1 dL_call_312 hl (by decide) rfl (fun ls hl => ?_)
      refine lv_sipush (v := (-1004)) S.1 S.2.1 dL_call_314 (by decide) ?_
      exact r_iret (y := yL_call) S hr rfl hlk hS (by show _ ≤ mc; omega) (by show _ ≤ ms; omega) dL_call_317 ⟨_, rfl, h9, hw⟩
    · skip
      refine vx_catch (name := "java/util/NoSuchElementException") S.2.2.2.1 (cTabE.take 117) (⟨200, 205, 318, 103⟩ : ExceptionTableEntry) (cTabE.drop 118) (htab.trans rfl) hpass_4 (by decide) (by decide) (S.2.2.2.2 _ u302) (va_Nw.use rfl (hg.2.2.2.2.1.1 ("java/util/NoSuchElementException", "java/util/NoSuchElementException") (by decide +kernel))) hc1 hc2 hc3 ?_
      refine lv_astore (lv' := [(5, .ref q), (0, .ref (ad 0 0)), (1, .int 13), (2, .int p2), (3, .int p3), (4, .int p4)]) S.1 S.2.1 dL_call_318 hl (by decide) rfl (fun ls hl => ?_)
      refine lv_sipush (v := (-1005)) S.1 S.2.1 dL_call_320 (by decide) ?_
      exact r_iret (y := yL_call) S hr rfl hlk hS (by show _ ≤ mc; omega) (by show _ ≤ ms; omega) dL_call_323 ⟨_, rfl, h9, hw⟩
    · skip
      refine vx_catch (name := "java/lang/ArithmeticException") S.2.2.2.1 (cTabE.take 143) (⟨200, 205, 324, 105⟩ : ExceptionTableEntry) (cTabE.drop 144) (htab.trans rfl) hpass_5 (by decide) (by decide) (S.2.2.2.2 _ u303) (va_Nw.use rfl (hg.2.2.2.2.1.1 ("java/lang/ArithmeticException", "java/lang/ArithmeticException") (by decide +kernel))) hc1 hc2 hc3 ?_
      refine lv_astore (lv' := [(5, .ref q), (0, .ref (ad 0 0)), (1, .int 13), (2, .int p2), (3, .int p3), (4, .int p4)]) S.1 S.2.1 dL_call_324 hl (by decide) rfl (fun ls hl => ?_)
      refine lv_sipush (v := (-1006)) S.1 S.2.1 dL_call_326 (by decide) ?_
      exact r_iret (y := yL_call) S hr rfl hlk hS (by show _ ≤ mc; omega) (by show _ ≤ ms; omega) dL_call_329 ⟨_, rfl, h9, hw⟩
  · obtain ⟨r1, rfl, h, hw⟩ := hq
    exact r_iret (y := yL_call) S hr rfl hlk hS (by show _ ≤ mc; omega) (by show _ ≤ ms; omega) dL_call_205 ⟨_, rfl, h, hw⟩
def wpL_c14_0 (post : Int32 → Prop) (mc ms : Nat) (K : KS) (p2 p4 : Int32) : Prop := wpX6_life (fun v => post v) (fun E => (E = "java/lang/IndexOutOfBoundsException" ∧ post (-1001)) ∨ (E = "java/lang/IllegalArgumentException" ∧ post (-1002)) ∨ (E = "java/lang/IllegalStateException" ∧ post (-1003)) ∨ (E = "java/lang/UnsupportedOperationException" ∧ post (-1004)) ∨ (E = "java/util/NoSuchElementException" ∧ post (-1005)) ∨ (E = "java/lang/ArithmeticException" ∧ post (-1006))) mc ms K p2 0
set_option maxHeartbeats 4000000 in
set_option maxRecDepth 100000 in
theorem mtL_c14_0 {l : Launch} {D : va_G} {cI : Nat → ClassId} {e0 : Nat} {A : Nat → Prop} {ad : Nat → Nat → Nat} {K M : KS} {ap o : Int64} {od : UInt64} {mc ms : Nat} {p2 p4 : Int32} {post : Int32 → Prop} (hfl : l.stackTraces = false) (h : wpL_c14_0 post mc ms K p2 p4) : CW l D cI e0 A yL_call cL_call 6 (some .int) cTab 9 366 mc ms [.ref (ad 0 0), .int 14, .int p2, .int 0, .int p4] (HT D cI e0 A ad K M ap o od) (qP D cI e0 A ad K M ap o od rI post) := by
  refine CW.of (by decide) (Nat.le_of_ble_eq_true rfl) (fun p e s m below meth c ls FX hw hS hl => ?_)
  obtain ⟨S, hg, hr, hlk, hnm, htab⟩ := FX
  have hl : lv_has ls 6 [(0, .ref (ad 0 0)), (1, .int 14), (2, .int p2), (3, .int 0), (4, .int p4)] := hl
  unfold wpL_c14_0 at h
  refine lv_iload_n S.1 S.2.1 dL_call_0 rfl (lv_at hl 1 rfl) ?_
  refine lv_tableIn (off := 205) (tgt := 206) S.1 S.2.1 dL_call_1 (by decide) (by decide) (by decide) (by decide) ?_
  refine lv_aload_n S.1 S.2.1 dL_call_206 rfl (lv_at hl 0 rfl) ?_
  refine lv_iload_n S.1 S.2.1 dL_call_207 rfl (lv_at hl 2 rfl) ?_
  refine lv_iload_n S.1 S.2.1 dL_call_208 rfl (lv_at hl 3 rfl) ?_
  refine lv_iconst (v := 1) S.1 S.2.1 dL_call_209 (by decide) ?_
  refine lv_icmp_ne (tgt := 217) S.1 S.2.1 dL_call_210 (by decide) (fun c1 => ?_) (fun c1 => absurd c1 (by decide))
  refine lv_iconst (v := 0) S.1 S.2.1 dL_call_217 (by decide) ?_
  refine r_call (rest := []) S hg hS (mtX6_life (mc := mc) (ms := ms) hfl h) u744 u745 u746 u27 u747 hdX6_life (rv0 hg hw) hw ⟨Nat.le_of_ble_eq_true rfl, Nat.le_of_ble_eq_true rfl⟩ ⟨by show 0 + mc ≤ mc; omega, by show 0 + ms ≤ ms; omega⟩ hl.1 (Nat.le_of_ble_eq_true rfl) rfl dL_call_218 (fun E ce q H locs hx hS hc1 hc2 hc3 => ?_) (fun rv H locs hq hS => ?_)
  · obtain ⟨hx1, hw⟩ := hx
    have hpass_1 : ∀ z ∈ cTabE.take 40, covers z 218 = false ∨ (z.catchType ≠ 0 ∧ ∃ nm : String, (Cond.classLink RL z.catchType nm).before #[.ref (ad 0 0), .int 14, .int p2, .int 0, .int p4] s = true ∧ va_Nc "java/lang/IllegalArgumentException" nm s) := by
      have hc : ∀ z ∈ cTabE.take 40, covers z 218 = false ∨ z.catchType = 95 := by decide +kernel
      intro z hz
      rcases hc z hz with h0 | h0
      · exact Or.inl h0
      · exact Or.inr ⟨by rw [h0]; decide, "java/lang/IndexOutOfBoundsException", by rw [h0]; exact S.2.2.2.2 _ u219, hg.2.2.2.2.2.1 ("java/lang/IllegalArgumentException", "java/lang/IndexOutOfBoundsException") (by decide +kernel)⟩
    have hpass_2 : ∀ z ∈ cTabE.take 66, covers z 218 = false ∨ (z.catchType ≠ 0 ∧ ∃ nm : String, (Cond.classLink RL z.catchType nm).before #[.ref (ad 0 0), .int 14, .int p2, .int 0, .int p4] s = true ∧ va_Nc "java/lang/IllegalStateException" nm s) := by
      have hc : ∀ z ∈ cTabE.take 66, covers z 218 = false ∨ z.catchType = 95 ∨ z.catchType = 97 := by decide +kernel
      intro z hz
      rcases hc z hz with h0 | h0 | h0
      · exact Or.inl h0
      · exact Or.inr ⟨by rw [h0]; decide, "java/lang/IndexOutOfBoundsException", by rw [h0]; exact S.2.2.2.2 _ u219, hg.2.2.2.2.2.1 ("java/lang/IllegalStateException", "java/lang/IndexOutOfBoundsException") (by decide +kernel)⟩
      · exact Or.inr ⟨by rw [h0]; decide, "java/lang/IllegalArgumentException", by rw [h0]; exact S.2.2.2.2 _ u299, hg.2.2.2.2.2.1 ("java/lang/IllegalStateException", "java/lang/IllegalArgumentException") (by decide +kernel)⟩
    have hpass_3 : ∀ z ∈ cTabE.take 92, covers z 218 = false ∨ (z.catchType ≠ 0 ∧ ∃ nm : String, (Cond.classLink RL z.catchType nm).before #[.ref (ad 0 0), .int 14, .int p2, .int 0, .int p4] s = true ∧ va_Nc "java/lang/UnsupportedOperationException" nm s) := by
      have hc : ∀ z ∈ cTabE.take 92, covers z 218 = false ∨ z.catchType = 95 ∨ z.catchType = 97 ∨ z.catchType = 99 := by decide +kernel
      intro z hz
      rcases hc z hz with h0 | h0 | h0 | h0
      · exact Or.inl h0
      · exact Or.inr ⟨by rw [h0]; decide, "java/lang/IndexOutOfBoundsException", by rw [h0]; exact S.2.2.2.2 _ u219, hg.2.2.2.2.2.1 ("java/lang/UnsupportedOperationException", "java/lang/IndexOutOfBoundsException") (by decide +kernel)⟩
      · exact Or.inr ⟨by rw [h0]; decide, "java/lang/IllegalArgumentException", by rw [h0]; exact S.2.2.2.2 _ u299, hg.2.2.2.2.2.1 ("java/lang/UnsupportedOperationException", "java/lang/IllegalArgumentException") (by decide +kernel)⟩
      · exact Or.inr ⟨by rw [h0]; decide, "java/lang/IllegalStateException", by rw [h0]; exact S.2.2.2.2 _ u300, hg.2.2.2.2.2.1 ("java/lang/UnsupportedOperationException", "java/lang/IllegalStateException") (by decide +kernel)⟩
    have hpass_4 : ∀ z ∈ cTabE.take 118, covers z 218 = false ∨ (z.catchType ≠ 0 ∧ ∃ nm : String, (Cond.classLink RL z.catchType nm).before #[.ref (ad 0 0), .int 14, .int p2, .int 0, .int p4] s = true ∧ va_Nc "java/util/NoSuchElementException" nm s) := by
      have hc : ∀ z ∈ cTabE.take 118, covers z 218 = false ∨ z.catchType = 95 ∨ z.catchType = 97 ∨ z.catchType = 99 ∨ z.catchType = 101 := by decide +kernel
      intro z hz
      rcases hc z hz with h0 | h0 | h0 | h0 | h0
      · exact Or.inl h0
      · exact Or.inr ⟨by rw [h0]; decide, "java/lang/IndexOutOfBoundsException", by rw [h0]; exact S.2.2.2.2 _ u219, hg.2.2.2.2.2.1 ("java/util/NoSuchElementException", "java/lang/IndexOutOfBoundsException") (by decide +kernel)⟩
      · exact Or.inr ⟨by rw [h0]; decide, "java/lang/IllegalArgumentException", by rw [h0]; exact S.2.2.2.2 _ u299, hg.2.2.2.2.2.1 ("java/util/NoSuchElementException", "java/lang/IllegalArgumentException") (by decide +kernel)⟩
      · exact Or.inr ⟨by rw [h0]; decide, "java/lang/IllegalStateException", by rw [h0]; exact S.2.2.2.2 _ u300, hg.2.2.2.2.2.1 ("java/util/NoSuchElementException", "java/lang/IllegalStateException") (by decide +kernel)⟩
      · exact Or.inr ⟨by rw [h0]; decide, "java/lang/UnsupportedOperationException", by rw [h0]; exact S.2.2.2.2 _ u301, hg.2.2.2.2.2.1 ("java/util/NoSuchElementException", "java/lang/UnsupportedOperationException") (by decide +kernel)⟩
    have hpass_5 : ∀ z ∈ cTabE.take 144, covers z 218 = false ∨ (z.catchType ≠ 0 ∧ ∃ nm : String, (Cond.classLink RL z.catchType nm).before #[.ref (ad 0 0), .int 14, .int p2, .int 0, .int p4] s = true ∧ va_Nc "java/lang/ArithmeticException" nm s) := by
      have hc : ∀ z ∈ cTabE.take 144, covers z 218 = false ∨ z.catchType = 95 ∨ z.catchType = 97 ∨ z.catchType = 99 ∨ z.catchType = 101 ∨ z.catchType = 103 := by decide +kernel
      intro z hz
      rcases hc z hz with h0 | h0 | h0 | h0 | h0 | h0
      · exact Or.inl h0
      · exact Or.inr ⟨by rw [h0]; decide, "java/lang/IndexOutOfBoundsException", by rw [h0]; exact S.2.2.2.2 _ u219, hg.2.2.2.2.2.1 ("java/lang/ArithmeticException", "java/lang/IndexOutOfBoundsException") (by decide +kernel)⟩
      · exact Or.inr ⟨by rw [h0]; decide, "java/lang/IllegalArgumentException", by rw [h0]; exact S.2.2.2.2 _ u299, hg.2.2.2.2.2.1 ("java/lang/ArithmeticException", "java/lang/IllegalArgumentException") (by decide +kernel)⟩
      · exact Or.inr ⟨by rw [h0]; decide, "java/lang/IllegalStateException", by rw [h0]; exact S.2.2.2.2 _ u300, hg.2.2.2.2.2.1 ("java/lang/ArithmeticException", "java/lang/IllegalStateException") (by decide +kernel)⟩
      · exact Or.inr ⟨by rw [h0]; decide, "java/lang/UnsupportedOperationException", by rw [h0]; exact S.2.2.2.2 _ u301, hg.2.2.2.2.2.1 ("java/lang/ArithmeticException", "java/lang/UnsupportedOperationException") (by decide +kernel)⟩
      · exact Or.inr ⟨by rw [h0]; decide, "java/util/NoSuchElementException", by rw [h0]; exact S.2.2.2.2 _ u302, hg.2.2.2.2.2.1 ("java/lang/ArithmeticException", "java/util/NoSuchElementException") (by decide +kernel)⟩
    rcases hx1 with ⟨rfl, h9⟩ | ⟨rfl, h9⟩ | ⟨rfl, h9⟩ | ⟨rfl, h9⟩ | ⟨rfl, h9⟩ | ⟨rfl, h9⟩
    · skip
      have hpass_0 : ∀ z ∈ cTabE.take 14, covers z 218 = false ∨ (z.catchType ≠ 0 ∧ ∃ nm : String, (Cond.classLink RL z.catchType nm).before #[.ref (ad 0 0), .int 14, .int p2, .int 0, .int p4] s = true ∧ va_Nc "java/lang/IndexOutOfBoundsException" nm s) := by
        have hc : ∀ z ∈ cTabE.take 14, covers z 218 = false := by decide +kernel
        exact fun z hz => Or.inl (hc z hz)
      refine vx_catch (name := "java/lang/IndexOutOfBoundsException") S.2.2.2.1 (cTabE.take 14) (⟨206, 221, 294, 95⟩ : ExceptionTableEntry) (cTabE.drop 15) (htab.trans rfl) hpass_0 (by decide) (by decide) (S.2.2.2.2 _ u219) (va_Nw.use rfl (hg.2.2.2.2.1.1 ("java/lang/IndexOutOfBoundsException", "java/lang/IndexOutOfBoundsException") (by decide +kernel))) hc1 hc2 hc3 ?_
      refine lv_astore (lv' := [(5, .ref q), (0, .ref (ad 0 0)), (1, .int 14), (2, .int p2), (3, .int 0), (4, .int p4)]) S.1 S.2.1 dL_call_294 hl (by decide) rfl (fun ls hl => ?_)
      refine lv_sipush (v := (-1001)) S.1 S.2.1 dL_call_296 (by decide) ?_
      exact r_iret (y := yL_call) S hr rfl hlk hS (by show _ ≤ mc; omega) (by show _ ≤ ms; omega) dL_call_299 ⟨_, rfl, h9, hw⟩
    · skip
      refine vx_catch (name := "java/lang/IllegalArgumentException") S.2.2.2.1 (cTabE.take 40) (⟨206, 221, 300, 97⟩ : ExceptionTableEntry) (cTabE.drop 41) (htab.trans rfl) hpass_1 (by decide) (by decide) (S.2.2.2.2 _ u299) (va_Nw.use rfl (hg.2.2.2.2.1.1 ("java/lang/IllegalArgumentException", "java/lang/IllegalArgumentException") (by decide +kernel))) hc1 hc2 hc3 ?_
      refine lv_astore (lv' := [(5, .ref q), (0, .ref (ad 0 0)), (1, .int 14), (2, .int p2), (3, .int 0), (4, .int p4)]) S.1 S.2.1 dL_call_300 hl (by decide) rfl (fun ls hl => ?_)
      refine lv_sipush (v := (-1002)) S.1 S.2.1 dL_call_302 (by decide) ?_
      exact r_iret (y := yL_call) S hr rfl hlk hS (by show _ ≤ mc; omega) (by show _ ≤ ms; omega) dL_call_305 ⟨_, rfl, h9, hw⟩
    · skip
      refine vx_catch (name := "java/lang/IllegalStateException") S.2.2.2.1 (cTabE.take 66) (⟨206, 221, 306, 99⟩ : ExceptionTableEntry) (cTabE.drop 67) (htab.trans rfl) hpass_2 (by decide) (by decide) (S.2.2.2.2 _ u300) (va_Nw.use rfl (hg.2.2.2.2.1.1 ("java/lang/IllegalStateException", "java/lang/IllegalStateException") (by decide +kernel))) hc1 hc2 hc3 ?_
      refine lv_astore (lv' := [(5, .ref q), (0, .ref (ad 0 0)), (1, .int 14), (2, .int p2), (3, .int 0), (4, .int p4)]) S.1 S.2.1 dL_call_306 hl (by decide) rfl (fun ls hl => ?_)
      refine lv_sipush (v := (-1003)) S.1 S.2.1 dL_call_308 (by decide) ?_
      exact r_iret (y := yL_call) S hr rfl hlk hS (by show _ ≤ mc; omega) (by show _ ≤ ms; omega) dL_call_311 ⟨_, rfl, h9, hw⟩
    · skip
      refine vx_catch (name := "java/lang/UnsupportedOperationException") S.2.2.2.1 (cTabE.take 92) (⟨206, 221, 312, 101⟩ : ExceptionTableEntry) (cTabE.drop 93) (htab.trans rfl) hpass_3 (by decide) (by decide) (S.2.2.2.2 _ u301) (va_Nw.use rfl (hg.2.2.2.2.1.1 ("java/lang/UnsupportedOperationException", "java/lang/UnsupportedOperationException") (by decide +kernel))) hc1 hc2 hc3 ?_
      refine lv_astore (lv' := [(5, .ref q), (0, .ref (ad 0 0)), (1, .int 14), (2, .int p2), (3, .int 0), (4, .int p4)]) S.1 S.2.1 dL_call_312 hl (by decide) rfl (fun ls hl => ?_)
      refine lv_sipush (v := (-1004)) S.1 S.2.1 dL_call_314 (by decide) ?_
      exact r_iret (y := yL_call) S hr rfl hlk hS (by show _ ≤ mc; omega) (by show _ ≤ ms; omega) dL_call_317 ⟨_, rfl, h9, hw⟩
    · skip
      refine vx_catch (name := "java/util/NoSuchElementException") S.2.2.2.1 (cTabE.take 118) (⟨206, 221, 318, 103⟩ : ExceptionTableEntry) (cTabE.drop 119) (htab.trans rfl) hpass_4 (by decide) (by decide) (S.2.2.2.2 _ u302) (va_Nw.use rfl (hg.2.2.2.2.1.1 ("java/util/NoSuchElementException", "java/util/NoSuchElementException") (by decide +kernel))) hc1 hc2 hc3 ?_
      refine lv_astore (lv' := [(5, .ref q), (0, .ref (ad 0 0)), (1, .int 14), (2, .int p2), (3, .int 0), (4, .int p4)]) S.1 S.2.1 dL_call_318 hl (by decide) rfl (fun ls hl => ?_)
      refine lv_sipush (v := (-1005)) S.1 S.2.1 dL_call_320 (by decide) ?_
      exact r_iret (y := yL_call) S hr rfl hlk hS (by show _ ≤ mc; omega) (by show _ ≤ ms; omega) dL_call_323 ⟨_, rfl, h9, hw⟩
    · skip
      refine vx_catch (name := "java/lang/ArithmeticException") S.2.2.2.1 (cTabE.take 144) (⟨206, 221, 324, 105⟩ : ExceptionTableEntry) (cTabE.drop 145) (htab.trans rfl) hpass_5 (by decide) (by decide) (S.2.2.2.2 _ u303) (va_Nw.use rfl (hg.2.2.2.2.1.1 ("java/lang/ArithmeticException", "java/lang/ArithmeticException") (by decide +kernel))) hc1 hc2 hc3 ?_
      refine lv_astore (lv' := [(5, .ref q), (0, .ref (ad 0 0)), (1, .int 14), (2, .int p2), (3, .int 0), (4, .int p4)]) S.1 S.2.1 dL_call_324 hl (by decide) rfl (fun ls hl => ?_)
      refine lv_sipush (v := (-1006)) S.1 S.2.1 dL_call_326 (by decide) ?_
      exact r_iret (y := yL_call) S hr rfl hlk hS (by show _ ≤ mc; omega) (by show _ ≤ ms; omega) dL_call_329 ⟨_, rfl, h9, hw⟩
  · obtain ⟨r1, rfl, h, hw⟩ := hq
    exact r_iret (y := yL_call) S hr rfl hlk hS (by show _ ≤ mc; omega) (by show _ ≤ ms; omega) dL_call_221 ⟨_, rfl, h, hw⟩
def wpL_c14_1 (post : Int32 → Prop) (mc ms : Nat) (K : KS) (p2 p4 : Int32) : Prop := wpX6_life (fun v => post v) (fun E => (E = "java/lang/IndexOutOfBoundsException" ∧ post (-1001)) ∨ (E = "java/lang/IllegalArgumentException" ∧ post (-1002)) ∨ (E = "java/lang/IllegalStateException" ∧ post (-1003)) ∨ (E = "java/lang/UnsupportedOperationException" ∧ post (-1004)) ∨ (E = "java/util/NoSuchElementException" ∧ post (-1005)) ∨ (E = "java/lang/ArithmeticException" ∧ post (-1006))) mc ms K p2 1
set_option maxHeartbeats 4000000 in
set_option maxRecDepth 100000 in
theorem mtL_c14_1 {l : Launch} {D : va_G} {cI : Nat → ClassId} {e0 : Nat} {A : Nat → Prop} {ad : Nat → Nat → Nat} {K M : KS} {ap o : Int64} {od : UInt64} {mc ms : Nat} {p2 p4 : Int32} {post : Int32 → Prop} (hfl : l.stackTraces = false) (h : wpL_c14_1 post mc ms K p2 p4) : CW l D cI e0 A yL_call cL_call 6 (some .int) cTab 9 366 mc ms [.ref (ad 0 0), .int 14, .int p2, .int 1, .int p4] (HT D cI e0 A ad K M ap o od) (qP D cI e0 A ad K M ap o od rI post) := by
  refine CW.of (by decide) (Nat.le_of_ble_eq_true rfl) (fun p e s m below meth c ls FX hw hS hl => ?_)
  obtain ⟨S, hg, hr, hlk, hnm, htab⟩ := FX
  have hl : lv_has ls 6 [(0, .ref (ad 0 0)), (1, .int 14), (2, .int p2), (3, .int 1), (4, .int p4)] := hl
  unfold wpL_c14_1 at h
  refine lv_iload_n S.1 S.2.1 dL_call_0 rfl (lv_at hl 1 rfl) ?_
  refine lv_tableIn (off := 205) (tgt := 206) S.1 S.2.1 dL_call_1 (by decide) (by decide) (by decide) (by decide) ?_
  refine lv_aload_n S.1 S.2.1 dL_call_206 rfl (lv_at hl 0 rfl) ?_
  refine lv_iload_n S.1 S.2.1 dL_call_207 rfl (lv_at hl 2 rfl) ?_
  refine lv_iload_n S.1 S.2.1 dL_call_208 rfl (lv_at hl 3 rfl) ?_
  refine lv_iconst (v := 1) S.1 S.2.1 dL_call_209 (by decide) ?_
  refine lv_icmp_ne (tgt := 217) S.1 S.2.1 dL_call_210 (by decide) (fun c1 => absurd rfl c1) (fun c1 => ?_)
  refine lv_iconst (v := 1) S.1 S.2.1 dL_call_213 (by decide) ?_
  refine lv_goto (tgt := 218) S.1 S.2.1 dL_call_214 (by decide) ?_
  refine r_call (rest := []) S hg hS (mtX6_life (mc := mc) (ms := ms) hfl h) u744 u745 u746 u27 u747 hdX6_life (rv0 hg hw) hw ⟨Nat.le_of_ble_eq_true rfl, Nat.le_of_ble_eq_true rfl⟩ ⟨by show 0 + mc ≤ mc; omega, by show 0 + ms ≤ ms; omega⟩ hl.1 (Nat.le_of_ble_eq_true rfl) rfl dL_call_218 (fun E ce q H locs hx hS hc1 hc2 hc3 => ?_) (fun rv H locs hq hS => ?_)
  · obtain ⟨hx1, hw⟩ := hx
    have hpass_1 : ∀ z ∈ cTabE.take 40, covers z 218 = false ∨ (z.catchType ≠ 0 ∧ ∃ nm : String, (Cond.classLink RL z.catchType nm).before #[.ref (ad 0 0), .int 14, .int p2, .int 1, .int p4] s = true ∧ va_Nc "java/lang/IllegalArgumentException" nm s) := by
      have hc : ∀ z ∈ cTabE.take 40, covers z 218 = false ∨ z.catchType = 95 := by decide +kernel
      intro z hz
      rcases hc z hz with h0 | h0
      · exact Or.inl h0
      · exact Or.inr ⟨by rw [h0]; decide, "java/lang/IndexOutOfBoundsException", by rw [h0]; exact S.2.2.2.2 _ u219, hg.2.2.2.2.2.1 ("java/lang/IllegalArgumentException", "java/lang/IndexOutOfBoundsException") (by decide +kernel)⟩
    have hpass_2 : ∀ z ∈ cTabE.take 66, covers z 218 = false ∨ (z.catchType ≠ 0 ∧ ∃ nm : String, (Cond.classLink RL z.catchType nm).before #[.ref (ad 0 0), .int 14, .int p2, .int 1, .int p4] s = true ∧ va_Nc "java/lang/IllegalStateException" nm s) := by
      have hc : ∀ z ∈ cTabE.take 66, covers z 218 = false ∨ z.catchType = 95 ∨ z.catchType = 97 := by decide +kernel
      intro z hz
      rcases hc z hz with h0 | h0 | h0
      · exact Or.inl h0
      · exact Or.inr ⟨by rw [h0]; decide, "java/lang/IndexOutOfBoundsException", by rw [h0]; exact S.2.2.2.2 _ u219, hg.2.2.2.2.2.1 ("java/lang/IllegalStateException", "java/lang/IndexOutOfBoundsException") (by decide +kernel)⟩
      · exact Or.inr ⟨by rw [h0]; decide, "java/lang/IllegalArgumentException", by rw [h0]; exact S.2.2.2.2 _ u299, hg.2.2.2.2.2.1 ("java/lang/IllegalStateException", "java/lang/IllegalArgumentException") (by decide +kernel)⟩
    have hpass_3 : ∀ z ∈ cTabE.take 92, covers z 218 = false ∨ (z.catchType ≠ 0 ∧ ∃ nm : String, (Cond.classLink RL z.catchType nm).before #[.ref (ad 0 0), .int 14, .int p2, .int 1, .int p4] s = true ∧ va_Nc "java/lang/UnsupportedOperationException" nm s) := by
      have hc : ∀ z ∈ cTabE.take 92, covers z 218 = false ∨ z.catchType = 95 ∨ z.catchType = 97 ∨ z.catchType = 99 := by decide +kernel
      intro z hz
      rcases hc z hz with h0 | h0 | h0 | h0
      · exact Or.inl h0
      · exact Or.inr ⟨by rw [h0]; decide, "java/lang/IndexOutOfBoundsException", by rw [h0]; exact S.2.2.2.2 _ u219, hg.2.2.2.2.2.1 ("java/lang/UnsupportedOperationException", "java/lang/IndexOutOfBoundsException") (by decide +kernel)⟩
      · exact Or.inr ⟨by rw [h0]; decide, "java/lang/IllegalArgumentException", by rw [h0]; exact S.2.2.2.2 _ u299, hg.2.2.2.2.2.1 ("java/lang/UnsupportedOperationException", "java/lang/IllegalArgumentException") (by decide +kernel)⟩
      · exact Or.inr ⟨by rw [h0]; decide, "java/lang/IllegalStateException", by rw [h0]; exact S.2.2.2.2 _ u300, hg.2.2.2.2.2.1 ("java/lang/UnsupportedOperationException", "java/lang/IllegalStateException") (by decide +kernel)⟩
    have hpass_4 : ∀ z ∈ cTabE.take 118, covers z 218 = false ∨ (z.catchType ≠ 0 ∧ ∃ nm : String, (Cond.classLink RL z.catchType nm).before #[.ref (ad 0 0), .int 14, .int p2, .int 1, .int p4] s = true ∧ va_Nc "java/util/NoSuchElementException" nm s) := by
      have hc : ∀ z ∈ cTabE.take 118, covers z 218 = false ∨ z.catchType = 95 ∨ z.catchType = 97 ∨ z.catchType = 99 ∨ z.catchType = 101 := by decide +kernel
      intro z hz
      rcases hc z hz with h0 | h0 | h0 | h0 | h0
      · exact Or.inl h0
      · exact Or.inr ⟨by rw [h0]; decide, "java/lang/IndexOutOfBoundsException", by rw [h0]; exact S.2.2.2.2 _ u219, hg.2.2.2.2.2.1 ("java/util/NoSuchElementException", "java/lang/IndexOutOfBoundsException") (by decide +kernel)⟩
      · exact Or.inr ⟨by rw [h0]; decide, "java/lang/IllegalArgumentException", by rw [h0]; exact S.2.2.2.2 _ u299, hg.2.2.2.2.2.1 ("java/util/NoSuchElementException", "java/lang/IllegalArgumentException") (by decide +kernel)⟩
      · exact Or.inr ⟨by rw [h0]; decide, "java/lang/IllegalStateException", by rw [h0]; exact S.2.2.2.2 _ u300, hg.2.2.2.2.2.1 ("java/util/NoSuchElementException", "java/lang/IllegalStateException") (by decide +kernel)⟩
      · exact Or.inr ⟨by rw [h0]; decide, "java/lang/UnsupportedOperationException", by rw [h0]; exact S.2.2.2.2 _ u301, hg.2.2.2.2.2.1 ("java/util/NoSuchElementException", "java/lang/UnsupportedOperationException") (by decide +kernel)⟩
    have hpass_5 : ∀ z ∈ cTabE.take 144, covers z 218 = false ∨ (z.catchType ≠ 0 ∧ ∃ nm : String, (Cond.classLink RL z.catchType nm).before #[.ref (ad 0 0), .int 14, .int p2, .int 1, .int p4] s = true ∧ va_Nc "java/lang/ArithmeticException" nm s) := by
      have hc : ∀ z ∈ cTabE.take 144, covers z 218 = false ∨ z.catchType = 95 ∨ z.catchType = 97 ∨ z.catchType = 99 ∨ z.catchType = 101 ∨ z.catchType = 103 := by decide +kernel
      intro z hz
      rcases hc z hz with h0 | h0 | h0 | h0 | h0 | h0
      · exact Or.inl h0
      · exact Or.inr ⟨by rw [h0]; decide, "java/lang/IndexOutOfBoundsException", by rw [h0]; exact S.2.2.2.2 _ u219, hg.2.2.2.2.2.1 ("java/lang/ArithmeticException", "java/lang/IndexOutOfBoundsException") (by decide +kernel)⟩
      · exact Or.inr ⟨by rw [h0]; decide, "java/lang/IllegalArgumentException", by rw [h0]; exact S.2.2.2.2 _ u299, hg.2.2.2.2.2.1 ("java/lang/ArithmeticException", "java/lang/IllegalArgumentException") (by decide +kernel)⟩
      · exact Or.inr ⟨by rw [h0]; decide, "java/lang/IllegalStateException", by rw [h0]; exact S.2.2.2.2 _ u300, hg.2.2.2.2.2.1 ("java/lang/ArithmeticException", "java/lang/IllegalStateException") (by decide +kernel)⟩
      · exact Or.inr ⟨by rw [h0]; decide, "java/lang/UnsupportedOperationException", by rw [h0]; exact S.2.2.2.2 _ u301, hg.2.2.2.2.2.1 ("java/lang/ArithmeticException", "java/lang/UnsupportedOperationException") (by decide +kernel)⟩
      · exact Or.inr ⟨by rw [h0]; decide, "java/util/NoSuchElementException", by rw [h0]; exact S.2.2.2.2 _ u302, hg.2.2.2.2.2.1 ("java/lang/ArithmeticException", "java/util/NoSuchElementException") (by decide +kernel)⟩
    rcases hx1 with ⟨rfl, h9⟩ | ⟨rfl, h9⟩ | ⟨rfl, h9⟩ | ⟨rfl, h9⟩ | ⟨rfl, h9⟩ | ⟨rfl, h9⟩
    · skip
      have hpass_0 : ∀ z ∈ cTabE.take 14, covers z 218 = false ∨ (z.catchType ≠ 0 ∧ ∃ nm : String, (Cond.classLink RL z.catchType nm).before #[.ref (ad 0 0), .int 14, .int p2, .int 1, .int p4] s = true ∧ va_Nc "java/lang/IndexOutOfBoundsException" nm s) := by
        have hc : ∀ z ∈ cTabE.take 14, covers z 218 = false := by decide +kernel
        exact fun z hz => Or.inl (hc z hz)
      refine vx_catch (name := "java/lang/IndexOutOfBoundsException") S.2.2.2.1 (cTabE.take 14) (⟨206, 221, 294, 95⟩ : ExceptionTableEntry) (cTabE.drop 15) (htab.trans rfl) hpass_0 (by decide) (by decide) (S.2.2.2.2 _ u219) (va_Nw.use rfl (hg.2.2.2.2.1.1 ("java/lang/IndexOutOfBoundsException", "java/lang/IndexOutOfBoundsException") (by decide +kernel))) hc1 hc2 hc3 ?_
      refine lv_astore (lv' := [(5, .ref q), (0, .ref (ad 0 0)), (1, .int 14), (2, .int p2), (3, .int 1), (4, .int p4)]) S.1 S.2.1 dL_call_294 hl (by decide) rfl (fun ls hl => ?_)
      refine lv_sipush (v := (-1001)) S.1 S.2.1 dL_call_296 (by decide) ?_
      exact r_iret (y := yL_call) S hr rfl hlk hS (by show _ ≤ mc; omega) (by show _ ≤ ms; omega) dL_call_299 ⟨_, rfl, h9, hw⟩
    · skip
      refine vx_catch (name := "java/lang/IllegalArgumentException") S.2.2.2.1 (cTabE.take 40) (⟨206, 221, 300, 97⟩ : ExceptionTableEntry) (cTabE.drop 41) (htab.trans rfl) hpass_1 (by decide) (by decide) (S.2.2.2.2 _ u299) (va_Nw.use rfl (hg.2.2.2.2.1.1 ("java/lang/IllegalArgumentException", "java/lang/IllegalArgumentException") (by decide +kernel))) hc1 hc2 hc3 ?_
      refine lv_astore (lv' := [(5, .ref q), (0, .ref (ad 0 0)), (1, .int 14), (2, .int p2), (3, .int 1), (4, .int p4)]) S.1 S.2.1 dL_call_300 hl (by decide) rfl (fun ls hl => ?_)
      refine lv_sipush (v := (-1002)) S.1 S.2.1 dL_call_302 (by decide) ?_
      exact r_iret (y := yL_call) S hr rfl hlk hS (by show _ ≤ mc; omega) (by show _ ≤ ms; omega) dL_call_305 ⟨_, rfl, h9, hw⟩
    · skip
      refine vx_catch (name := "java/lang/IllegalStateException") S.2.2.2.1 (cTabE.take 66) (⟨206, 221, 306, 99⟩ : ExceptionTableEntry) (cTabE.drop 67) (htab.trans rfl) hpass_2 (by decide) (by decide) (S.2.2.2.2 _ u300) (va_Nw.use rfl (hg.2.2.2.2.1.1 ("java/lang/IllegalStateException", "java/lang/IllegalStateException") (by decide +kernel))) hc1 hc2 hc3 ?_
      refine lv_astore (lv' := [(5, .ref q), (0, .ref (ad 0 0)), (1, .int 14), (2, .int p2), (3, .int 1), (4, .int p4)]) S.1 S.2.1 dL_call_306 hl (by decide) rfl (fun ls hl => ?_)
      refine lv_sipush (v := (-1003)) S.1 S.2.1 dL_call_308 (by decide) ?_
      exact r_iret (y := yL_call) S hr rfl hlk hS (by show _ ≤ mc; omega) (by show _ ≤ ms; omega) dL_call_311 ⟨_, rfl, h9, hw⟩
    · skip
      refine vx_catch (name := "java/lang/UnsupportedOperationException") S.2.2.2.1 (cTabE.take 92) (⟨206, 221, 312, 101⟩ : ExceptionTableEntry) (cTabE.drop 93) (htab.trans rfl) hpass_3 (by decide) (by decide) (S.2.2.2.2 _ u301) (va_Nw.use rfl (hg.2.2.2.2.1.1 ("java/lang/UnsupportedOperationException", "java/lang/UnsupportedOperationException") (by decide +kernel))) hc1 hc2 hc3 ?_
      refine lv_astore (lv' := [(5, .ref q), (0, .ref (ad 0 0)), (1, .int 14), (2, .int p2), (3, .int 1), (4, .int p4)]) S.1 S.2.1 dL_call_312 hl (by decide) rfl (fun ls hl => ?_)
      refine lv_sipush (v := (-1004)) S.1 S.2.1 dL_call_314 (by decide) ?_
      exact r_iret (y := yL_call) S hr rfl hlk hS (by show _ ≤ mc; omega) (by show _ ≤ ms; omega) dL_call_317 ⟨_, rfl, h9, hw⟩
    · skip
      refine vx_catch (name := "java/util/NoSuchElementException") S.2.2.2.1 (cTabE.take 118) (⟨206, 221, 318, 103⟩ : ExceptionTableEntry) (cTabE.drop 119) (htab.trans rfl) hpass_4 (by decide) (by decide) (S.2.2.2.2 _ u302) (va_Nw.use rfl (hg.2.2.2.2.1.1 ("java/util/NoSuchElementException", "java/util/NoSuchElementException") (by decide +kernel))) hc1 hc2 hc3 ?_
      refine lv_astore (lv' := [(5, .ref q), (0, .ref (ad 0 0)), (1, .int 14), (2, .int p2), (3, .int 1), (4, .int p4)]) S.1 S.2.1 dL_call_318 hl (by decide) rfl (fun ls hl => ?_)
      refine lv_sipush (v := (-1005)) S.1 S.2.1 dL_call_320 (by decide) ?_
      exact r_iret (y := yL_call) S hr rfl hlk hS (by show _ ≤ mc; omega) (by show _ ≤ ms; omega) dL_call_323 ⟨_, rfl, h9, hw⟩
    · skip
      refine vx_catch (name := "java/lang/ArithmeticException") S.2.2.2.1 (cTabE.take 144) (⟨206, 221, 324, 105⟩ : ExceptionTableEntry) (cTabE.drop 145) (htab.trans rfl) hpass_5 (by decide) (by decide) (S.2.2.2.2 _ u303) (va_Nw.use rfl (hg.2.2.2.2.1.1 ("java/lang/ArithmeticException", "java/lang/ArithmeticException") (by decide +kernel))) hc1 hc2 hc3 ?_
      refine lv_astore (lv' := [(5, .ref q), (0, .ref (ad 0 0)), (1, .int 14), (2, .int p2), (3, .int 1), (4, .int p4)]) S.1 S.2.1 dL_call_324 hl (by decide) rfl (fun ls hl => ?_)
      refine lv_sipush (v := (-1006)) S.1 S.2.1 dL_call_326 (by decide) ?_
      exact r_iret (y := yL_call) S hr rfl hlk hS (by show _ ≤ mc; omega) (by show _ ≤ ms; omega) dL_call_329 ⟨_, rfl, h9, hw⟩
  · obtain ⟨r1, rfl, h, hw⟩ := hq
    exact r_iret (y := yL_call) S hr rfl hlk hS (by show _ ≤ mc; omega) (by show _ ≤ ms; omega) dL_call_221 ⟨_, rfl, h, hw⟩
def wpL_c15 (post : Int32 → Prop) (mc ms : Nat) (K : KS) (p2 p3 p4 : Int32) : Prop := wpX6_mana (fun v => post v) (fun E => (E = "java/lang/IndexOutOfBoundsException" ∧ post (-1001)) ∨ (E = "java/lang/IllegalArgumentException" ∧ post (-1002)) ∨ (E = "java/lang/IllegalStateException" ∧ post (-1003)) ∨ (E = "java/lang/UnsupportedOperationException" ∧ post (-1004)) ∨ (E = "java/util/NoSuchElementException" ∧ post (-1005)) ∨ (E = "java/lang/ArithmeticException" ∧ post (-1006))) mc ms K p2
set_option maxHeartbeats 4000000 in
set_option maxRecDepth 100000 in
theorem mtL_c15 {l : Launch} {D : va_G} {cI : Nat → ClassId} {e0 : Nat} {A : Nat → Prop} {ad : Nat → Nat → Nat} {K M : KS} {ap o : Int64} {od : UInt64} {mc ms : Nat} {p2 p3 p4 : Int32} {post : Int32 → Prop} (hfl : l.stackTraces = false) (h : wpL_c15 post mc ms K p2 p3 p4) : CW l D cI e0 A yL_call cL_call 6 (some .int) cTab 9 366 mc ms [.ref (ad 0 0), .int 15, .int p2, .int p3, .int p4] (HT D cI e0 A ad K M ap o od) (qP D cI e0 A ad K M ap o od rI post) := by
  refine CW.of (by decide) (Nat.le_of_ble_eq_true rfl) (fun p e s m below meth c ls FX hw hS hl => ?_)
  obtain ⟨S, hg, hr, hlk, hnm, htab⟩ := FX
  have hl : lv_has ls 6 [(0, .ref (ad 0 0)), (1, .int 15), (2, .int p2), (3, .int p3), (4, .int p4)] := hl
  unfold wpL_c15 at h
  refine lv_iload_n S.1 S.2.1 dL_call_0 rfl (lv_at hl 1 rfl) ?_
  refine lv_tableIn (off := 221) (tgt := 222) S.1 S.2.1 dL_call_1 (by decide) (by decide) (by decide) (by decide) ?_
  refine lv_aload_n S.1 S.2.1 dL_call_222 rfl (lv_at hl 0 rfl) ?_
  refine lv_iload_n S.1 S.2.1 dL_call_223 rfl (lv_at hl 2 rfl) ?_
  refine r_call (rest := []) S hg hS (mtX6_mana (mc := mc) (ms := ms) hfl h) u748 u749 u750 u27 u751 hdX6_mana (rv0 hg hw) hw ⟨Nat.le_of_ble_eq_true rfl, Nat.le_of_ble_eq_true rfl⟩ ⟨by show 0 + mc ≤ mc; omega, by show 0 + ms ≤ ms; omega⟩ hl.1 (Nat.le_of_ble_eq_true rfl) rfl dL_call_224 (fun E ce q H locs hx hS hc1 hc2 hc3 => ?_) (fun rv H locs hq hS => ?_)
  · obtain ⟨hx1, hw⟩ := hx
    have hpass_1 : ∀ z ∈ cTabE.take 41, covers z 224 = false ∨ (z.catchType ≠ 0 ∧ ∃ nm : String, (Cond.classLink RL z.catchType nm).before #[.ref (ad 0 0), .int 15, .int p2, .int p3, .int p4] s = true ∧ va_Nc "java/lang/IllegalArgumentException" nm s) := by
      have hc : ∀ z ∈ cTabE.take 41, covers z 224 = false ∨ z.catchType = 95 := by decide +kernel
      intro z hz
      rcases hc z hz with h0 | h0
      · exact Or.inl h0
      · exact Or.inr ⟨by rw [h0]; decide, "java/lang/IndexOutOfBoundsException", by rw [h0]; exact S.2.2.2.2 _ u219, hg.2.2.2.2.2.1 ("java/lang/IllegalArgumentException", "java/lang/IndexOutOfBoundsException") (by decide +kernel)⟩
    have hpass_2 : ∀ z ∈ cTabE.take 67, covers z 224 = false ∨ (z.catchType ≠ 0 ∧ ∃ nm : String, (Cond.classLink RL z.catchType nm).before #[.ref (ad 0 0), .int 15, .int p2, .int p3, .int p4] s = true ∧ va_Nc "java/lang/IllegalStateException" nm s) := by
      have hc : ∀ z ∈ cTabE.take 67, covers z 224 = false ∨ z.catchType = 95 ∨ z.catchType = 97 := by decide +kernel
      intro z hz
      rcases hc z hz with h0 | h0 | h0
      · exact Or.inl h0
      · exact Or.inr ⟨by rw [h0]; decide, "java/lang/IndexOutOfBoundsException", by rw [h0]; exact S.2.2.2.2 _ u219, hg.2.2.2.2.2.1 ("java/lang/IllegalStateException", "java/lang/IndexOutOfBoundsException") (by decide +kernel)⟩
      · exact Or.inr ⟨by rw [h0]; decide, "java/lang/IllegalArgumentException", by rw [h0]; exact S.2.2.2.2 _ u299, hg.2.2.2.2.2.1 ("java/lang/IllegalStateException", "java/lang/IllegalArgumentException") (by decide +kernel)⟩
    have hpass_3 : ∀ z ∈ cTabE.take 93, covers z 224 = false ∨ (z.catchType ≠ 0 ∧ ∃ nm : String, (Cond.classLink RL z.catchType nm).before #[.ref (ad 0 0), .int 15, .int p2, .int p3, .int p4] s = true ∧ va_Nc "java/lang/UnsupportedOperationException" nm s) := by
      have hc : ∀ z ∈ cTabE.take 93, covers z 224 = false ∨ z.catchType = 95 ∨ z.catchType = 97 ∨ z.catchType = 99 := by decide +kernel
      intro z hz
      rcases hc z hz with h0 | h0 | h0 | h0
      · exact Or.inl h0
      · exact Or.inr ⟨by rw [h0]; decide, "java/lang/IndexOutOfBoundsException", by rw [h0]; exact S.2.2.2.2 _ u219, hg.2.2.2.2.2.1 ("java/lang/UnsupportedOperationException", "java/lang/IndexOutOfBoundsException") (by decide +kernel)⟩
      · exact Or.inr ⟨by rw [h0]; decide, "java/lang/IllegalArgumentException", by rw [h0]; exact S.2.2.2.2 _ u299, hg.2.2.2.2.2.1 ("java/lang/UnsupportedOperationException", "java/lang/IllegalArgumentException") (by decide +kernel)⟩
      · exact Or.inr ⟨by rw [h0]; decide, "java/lang/IllegalStateException", by rw [h0]; exact S.2.2.2.2 _ u300, hg.2.2.2.2.2.1 ("java/lang/UnsupportedOperationException", "java/lang/IllegalStateException") (by decide +kernel)⟩
    have hpass_4 : ∀ z ∈ cTabE.take 119, covers z 224 = false ∨ (z.catchType ≠ 0 ∧ ∃ nm : String, (Cond.classLink RL z.catchType nm).before #[.ref (ad 0 0), .int 15, .int p2, .int p3, .int p4] s = true ∧ va_Nc "java/util/NoSuchElementException" nm s) := by
      have hc : ∀ z ∈ cTabE.take 119, covers z 224 = false ∨ z.catchType = 95 ∨ z.catchType = 97 ∨ z.catchType = 99 ∨ z.catchType = 101 := by decide +kernel
      intro z hz
      rcases hc z hz with h0 | h0 | h0 | h0 | h0
      · exact Or.inl h0
      · exact Or.inr ⟨by rw [h0]; decide, "java/lang/IndexOutOfBoundsException", by rw [h0]; exact S.2.2.2.2 _ u219, hg.2.2.2.2.2.1 ("java/util/NoSuchElementException", "java/lang/IndexOutOfBoundsException") (by decide +kernel)⟩
      · exact Or.inr ⟨by rw [h0]; decide, "java/lang/IllegalArgumentException", by rw [h0]; exact S.2.2.2.2 _ u299, hg.2.2.2.2.2.1 ("java/util/NoSuchElementException", "java/lang/IllegalArgumentException") (by decide +kernel)⟩
      · exact Or.inr ⟨by rw [h0]; decide, "java/lang/IllegalStateException", by rw [h0]; exact S.2.2.2.2 _ u300, hg.2.2.2.2.2.1 ("java/util/NoSuchElementException", "java/lang/IllegalStateException") (by decide +kernel)⟩
      · exact Or.inr ⟨by rw [h0]; decide, "java/lang/UnsupportedOperationException", by rw [h0]; exact S.2.2.2.2 _ u301, hg.2.2.2.2.2.1 ("java/util/NoSuchElementException", "java/lang/UnsupportedOperationException") (by decide +kernel)⟩
    have hpass_5 : ∀ z ∈ cTabE.take 145, covers z 224 = false ∨ (z.catchType ≠ 0 ∧ ∃ nm : String, (Cond.classLink RL z.catchType nm).before #[.ref (ad 0 0), .int 15, .int p2, .int p3, .int p4] s = true ∧ va_Nc "java/lang/ArithmeticException" nm s) := by
      have hc : ∀ z ∈ cTabE.take 145, covers z 224 = false ∨ z.catchType = 95 ∨ z.catchType = 97 ∨ z.catchType = 99 ∨ z.catchType = 101 ∨ z.catchType = 103 := by decide +kernel
      intro z hz
      rcases hc z hz with h0 | h0 | h0 | h0 | h0 | h0
      · exact Or.inl h0
      · exact Or.inr ⟨by rw [h0]; decide, "java/lang/IndexOutOfBoundsException", by rw [h0]; exact S.2.2.2.2 _ u219, hg.2.2.2.2.2.1 ("java/lang/ArithmeticException", "java/lang/IndexOutOfBoundsException") (by decide +kernel)⟩
      · exact Or.inr ⟨by rw [h0]; decide, "java/lang/IllegalArgumentException", by rw [h0]; exact S.2.2.2.2 _ u299, hg.2.2.2.2.2.1 ("java/lang/ArithmeticException", "java/lang/IllegalArgumentException") (by decide +kernel)⟩
      · exact Or.inr ⟨by rw [h0]; decide, "java/lang/IllegalStateException", by rw [h0]; exact S.2.2.2.2 _ u300, hg.2.2.2.2.2.1 ("java/lang/ArithmeticException", "java/lang/IllegalStateException") (by decide +kernel)⟩
      · exact Or.inr ⟨by rw [h0]; decide, "java/lang/UnsupportedOperationException", by rw [h0]; exact S.2.2.2.2 _ u301, hg.2.2.2.2.2.1 ("java/lang/ArithmeticException", "java/lang/UnsupportedOperationException") (by decide +kernel)⟩
      · exact Or.inr ⟨by rw [h0]; decide, "java/util/NoSuchElementException", by rw [h0]; exact S.2.2.2.2 _ u302, hg.2.2.2.2.2.1 ("java/lang/ArithmeticException", "java/util/NoSuchElementException") (by decide +kernel)⟩
    rcases hx1 with ⟨rfl, h9⟩ | ⟨rfl, h9⟩ | ⟨rfl, h9⟩ | ⟨rfl, h9⟩ | ⟨rfl, h9⟩ | ⟨rfl, h9⟩
    · skip
      have hpass_0 : ∀ z ∈ cTabE.take 15, covers z 224 = false ∨ (z.catchType ≠ 0 ∧ ∃ nm : String, (Cond.classLink RL z.catchType nm).before #[.ref (ad 0 0), .int 15, .int p2, .int p3, .int p4] s = true ∧ va_Nc "java/lang/IndexOutOfBoundsException" nm s) := by
        have hc : ∀ z ∈ cTabE.take 15, covers z 224 = false := by decide +kernel
        exact fun z hz => Or.inl (hc z hz)
      refine vx_catch (name := "java/lang/IndexOutOfBoundsException") S.2.2.2.1 (cTabE.take 15) (⟨222, 227, 294, 95⟩ : ExceptionTableEntry) (cTabE.drop 16) (htab.trans rfl) hpass_0 (by decide) (by decide) (S.2.2.2.2 _ u219) (va_Nw.use rfl (hg.2.2.2.2.1.1 ("java/lang/IndexOutOfBoundsException", "java/lang/IndexOutOfBoundsException") (by decide +kernel))) hc1 hc2 hc3 ?_
      refine lv_astore (lv' := [(5, .ref q), (0, .ref (ad 0 0)), (1, .int 15), (2, .int p2), (3, .int p3), (4, .int p4)]) S.1 S.2.1 dL_call_294 hl (by decide) rfl (fun ls hl => ?_)
      refine lv_sipush (v := (-1001)) S.1 S.2.1 dL_call_296 (by decide) ?_
      exact r_iret (y := yL_call) S hr rfl hlk hS (by show _ ≤ mc; omega) (by show _ ≤ ms; omega) dL_call_299 ⟨_, rfl, h9, hw⟩
    · skip
      refine vx_catch (name := "java/lang/IllegalArgumentException") S.2.2.2.1 (cTabE.take 41) (⟨222, 227, 300, 97⟩ : ExceptionTableEntry) (cTabE.drop 42) (htab.trans rfl) hpass_1 (by decide) (by decide) (S.2.2.2.2 _ u299) (va_Nw.use rfl (hg.2.2.2.2.1.1 ("java/lang/IllegalArgumentException", "java/lang/IllegalArgumentException") (by decide +kernel))) hc1 hc2 hc3 ?_
      refine lv_astore (lv' := [(5, .ref q), (0, .ref (ad 0 0)), (1, .int 15), (2, .int p2), (3, .int p3), (4, .int p4)]) S.1 S.2.1 dL_call_300 hl (by decide) rfl (fun ls hl => ?_)
      refine lv_sipush (v := (-1002)) S.1 S.2.1 dL_call_302 (by decide) ?_
      exact r_iret (y := yL_call) S hr rfl hlk hS (by show _ ≤ mc; omega) (by show _ ≤ ms; omega) dL_call_305 ⟨_, rfl, h9, hw⟩
    · skip
      refine vx_catch (name := "java/lang/IllegalStateException") S.2.2.2.1 (cTabE.take 67) (⟨222, 227, 306, 99⟩ : ExceptionTableEntry) (cTabE.drop 68) (htab.trans rfl) hpass_2 (by decide) (by decide) (S.2.2.2.2 _ u300) (va_Nw.use rfl (hg.2.2.2.2.1.1 ("java/lang/IllegalStateException", "java/lang/IllegalStateException") (by decide +kernel))) hc1 hc2 hc3 ?_
      refine lv_astore (lv' := [(5, .ref q), (0, .ref (ad 0 0)), (1, .int 15), (2, .int p2), (3, .int p3), (4, .int p4)]) S.1 S.2.1 dL_call_306 hl (by decide) rfl (fun ls hl => ?_)
      refine lv_sipush (v := (-1003)) S.1 S.2.1 dL_call_308 (by decide) ?_
      exact r_iret (y := yL_call) S hr rfl hlk hS (by show _ ≤ mc; omega) (by show _ ≤ ms; omega) dL_call_311 ⟨_, rfl, h9, hw⟩
    · skip
      refine vx_catch (name := "java/lang/UnsupportedOperationException") S.2.2.2.1 (cTabE.take 93) (⟨222, 227, 312, 101⟩ : ExceptionTableEntry) (cTabE.drop 94) (htab.trans rfl) hpass_3 (by decide) (by decide) (S.2.2.2.2 _ u301) (va_Nw.use rfl (hg.2.2.2.2.1.1 ("java/lang/UnsupportedOperationException", "java/lang/UnsupportedOperationException") (by decide +kernel))) hc1 hc2 hc3 ?_
      refine lv_astore (lv' := [(5, .ref q), (0, .ref (ad 0 0)), (1, .int 15), (2, .int p2), (3, .int p3), (4, .int p4)]) S.1 S.2.1 dL_call_312 hl (by decide) rfl (fun ls hl => ?_)
      refine lv_sipush (v := (-1004)) S.1 S.2.1 dL_call_314 (by decide) ?_
      exact r_iret (y := yL_call) S hr rfl hlk hS (by show _ ≤ mc; omega) (by show _ ≤ ms; omega) dL_call_317 ⟨_, rfl, h9, hw⟩
    · skip
      refine vx_catch (name := "java/util/NoSuchElementException") S.2.2.2.1 (cTabE.take 119) (⟨222, 227, 318, 103⟩ : ExceptionTableEntry) (cTabE.drop 120) (htab.trans rfl) hpass_4 (by decide) (by decide) (S.2.2.2.2 _ u302) (va_Nw.use rfl (hg.2.2.2.2.1.1 ("java/util/NoSuchElementException", "java/util/NoSuchElementException") (by decide +kernel))) hc1 hc2 hc3 ?_
      refine lv_astore (lv' := [(5, .ref q), (0, .ref (ad 0 0)), (1, .int 15), (2, .int p2), (3, .int p3), (4, .int p4)]) S.1 S.2.1 dL_call_318 hl (by decide) rfl (fun ls hl => ?_)
      refine lv_sipush (v := (-1005)) S.1 S.2.1 dL_call_320 (by decide) ?_
      exact r_iret (y := yL_call) S hr rfl hlk hS (by show _ ≤ mc; omega) (by show _ ≤ ms; omega) dL_call_323 ⟨_, rfl, h9, hw⟩
    · skip
      refine vx_catch (name := "java/lang/ArithmeticException") S.2.2.2.1 (cTabE.take 145) (⟨222, 227, 324, 105⟩ : ExceptionTableEntry) (cTabE.drop 146) (htab.trans rfl) hpass_5 (by decide) (by decide) (S.2.2.2.2 _ u303) (va_Nw.use rfl (hg.2.2.2.2.1.1 ("java/lang/ArithmeticException", "java/lang/ArithmeticException") (by decide +kernel))) hc1 hc2 hc3 ?_
      refine lv_astore (lv' := [(5, .ref q), (0, .ref (ad 0 0)), (1, .int 15), (2, .int p2), (3, .int p3), (4, .int p4)]) S.1 S.2.1 dL_call_324 hl (by decide) rfl (fun ls hl => ?_)
      refine lv_sipush (v := (-1006)) S.1 S.2.1 dL_call_326 (by decide) ?_
      exact r_iret (y := yL_call) S hr rfl hlk hS (by show _ ≤ mc; omega) (by show _ ≤ ms; omega) dL_call_329 ⟨_, rfl, h9, hw⟩
  · obtain ⟨r1, rfl, h, hw⟩ := hq
    exact r_iret (y := yL_call) S hr rfl hlk hS (by show _ ≤ mc; omega) (by show _ ≤ ms; omega) dL_call_227 ⟨_, rfl, h, hw⟩
def wpL_c16 (post : Int32 → Prop) (mc ms : Nat) (K : KS) (p2 p3 p4 : Int32) : Prop := wpX6_depth (fun v => post v) (fun E => (E = "java/lang/IndexOutOfBoundsException" ∧ post (-1001)) ∨ (E = "java/lang/IllegalArgumentException" ∧ post (-1002)) ∨ (E = "java/lang/IllegalStateException" ∧ post (-1003)) ∨ (E = "java/lang/UnsupportedOperationException" ∧ post (-1004)) ∨ (E = "java/util/NoSuchElementException" ∧ post (-1005)) ∨ (E = "java/lang/ArithmeticException" ∧ post (-1006))) mc ms K p2
set_option maxHeartbeats 4000000 in
set_option maxRecDepth 100000 in
theorem mtL_c16 {l : Launch} {D : va_G} {cI : Nat → ClassId} {e0 : Nat} {A : Nat → Prop} {ad : Nat → Nat → Nat} {K M : KS} {ap o : Int64} {od : UInt64} {mc ms : Nat} {p2 p3 p4 : Int32} {post : Int32 → Prop} (hfl : l.stackTraces = false) (h : wpL_c16 post mc ms K p2 p3 p4) : CW l D cI e0 A yL_call cL_call 6 (some .int) cTab 9 366 mc ms [.ref (ad 0 0), .int 16, .int p2, .int p3, .int p4] (HT D cI e0 A ad K M ap o od) (qP D cI e0 A ad K M ap o od rI post) := by
  refine CW.of (by decide) (Nat.le_of_ble_eq_true rfl) (fun p e s m below meth c ls FX hw hS hl => ?_)
  obtain ⟨S, hg, hr, hlk, hnm, htab⟩ := FX
  have hl : lv_has ls 6 [(0, .ref (ad 0 0)), (1, .int 16), (2, .int p2), (3, .int p3), (4, .int p4)] := hl
  unfold wpL_c16 at h
  refine lv_iload_n S.1 S.2.1 dL_call_0 rfl (lv_at hl 1 rfl) ?_
  refine lv_tableIn (off := 227) (tgt := 228) S.1 S.2.1 dL_call_1 (by decide) (by decide) (by decide) (by decide) ?_
  refine lv_aload_n S.1 S.2.1 dL_call_228 rfl (lv_at hl 0 rfl) ?_
  refine lv_iload_n S.1 S.2.1 dL_call_229 rfl (lv_at hl 2 rfl) ?_
  refine r_call (rest := []) S hg hS (mtX6_depth (mc := mc) (ms := ms) hfl h) u752 u753 u754 u27 u755 hdX6_depth (rv0 hg hw) hw ⟨Nat.le_of_ble_eq_true rfl, Nat.le_of_ble_eq_true rfl⟩ ⟨by show 0 + mc ≤ mc; omega, by show 0 + ms ≤ ms; omega⟩ hl.1 (Nat.le_of_ble_eq_true rfl) rfl dL_call_230 (fun E ce q H locs hx hS hc1 hc2 hc3 => ?_) (fun rv H locs hq hS => ?_)
  · obtain ⟨hx1, hw⟩ := hx
    have hpass_1 : ∀ z ∈ cTabE.take 42, covers z 230 = false ∨ (z.catchType ≠ 0 ∧ ∃ nm : String, (Cond.classLink RL z.catchType nm).before #[.ref (ad 0 0), .int 16, .int p2, .int p3, .int p4] s = true ∧ va_Nc "java/lang/IllegalArgumentException" nm s) := by
      have hc : ∀ z ∈ cTabE.take 42, covers z 230 = false ∨ z.catchType = 95 := by decide +kernel
      intro z hz
      rcases hc z hz with h0 | h0
      · exact Or.inl h0
      · exact Or.inr ⟨by rw [h0]; decide, "java/lang/IndexOutOfBoundsException", by rw [h0]; exact S.2.2.2.2 _ u219, hg.2.2.2.2.2.1 ("java/lang/IllegalArgumentException", "java/lang/IndexOutOfBoundsException") (by decide +kernel)⟩
    have hpass_2 : ∀ z ∈ cTabE.take 68, covers z 230 = false ∨ (z.catchType ≠ 0 ∧ ∃ nm : String, (Cond.classLink RL z.catchType nm).before #[.ref (ad 0 0), .int 16, .int p2, .int p3, .int p4] s = true ∧ va_Nc "java/lang/IllegalStateException" nm s) := by
      have hc : ∀ z ∈ cTabE.take 68, covers z 230 = false ∨ z.catchType = 95 ∨ z.catchType = 97 := by decide +kernel
      intro z hz
      rcases hc z hz with h0 | h0 | h0
      · exact Or.inl h0
      · exact Or.inr ⟨by rw [h0]; decide, "java/lang/IndexOutOfBoundsException", by rw [h0]; exact S.2.2.2.2 _ u219, hg.2.2.2.2.2.1 ("java/lang/IllegalStateException", "java/lang/IndexOutOfBoundsException") (by decide +kernel)⟩
      · exact Or.inr ⟨by rw [h0]; decide, "java/lang/IllegalArgumentException", by rw [h0]; exact S.2.2.2.2 _ u299, hg.2.2.2.2.2.1 ("java/lang/IllegalStateException", "java/lang/IllegalArgumentException") (by decide +kernel)⟩
    have hpass_3 : ∀ z ∈ cTabE.take 94, covers z 230 = false ∨ (z.catchType ≠ 0 ∧ ∃ nm : String, (Cond.classLink RL z.catchType nm).before #[.ref (ad 0 0), .int 16, .int p2, .int p3, .int p4] s = true ∧ va_Nc "java/lang/UnsupportedOperationException" nm s) := by
      have hc : ∀ z ∈ cTabE.take 94, covers z 230 = false ∨ z.catchType = 95 ∨ z.catchType = 97 ∨ z.catchType = 99 := by decide +kernel
      intro z hz
      rcases hc z hz with h0 | h0 | h0 | h0
      · exact Or.inl h0
      · exact Or.inr ⟨by rw [h0]; decide, "java/lang/IndexOutOfBoundsException", by rw [h0]; exact S.2.2.2.2 _ u219, hg.2.2.2.2.2.1 ("java/lang/UnsupportedOperationException", "java/lang/IndexOutOfBoundsException") (by decide +kernel)⟩
      · exact Or.inr ⟨by rw [h0]; decide, "java/lang/IllegalArgumentException", by rw [h0]; exact S.2.2.2.2 _ u299, hg.2.2.2.2.2.1 ("java/lang/UnsupportedOperationException", "java/lang/IllegalArgumentException") (by decide +kernel)⟩
      · exact Or.inr ⟨by rw [h0]; decide, "java/lang/IllegalStateException", by rw [h0]; exact S.2.2.2.2 _ u300, hg.2.2.2.2.2.1 ("java/lang/UnsupportedOperationException", "java/lang/IllegalStateException") (by decide +kernel)⟩
    have hpass_4 : ∀ z ∈ cTabE.take 120, covers z 230 = false ∨ (z.catchType ≠ 0 ∧ ∃ nm : String, (Cond.classLink RL z.catchType nm).before #[.ref (ad 0 0), .int 16, .int p2, .int p3, .int p4] s = true ∧ va_Nc "java/util/NoSuchElementException" nm s) := by
      have hc : ∀ z ∈ cTabE.take 120, covers z 230 = false ∨ z.catchType = 95 ∨ z.catchType = 97 ∨ z.catchType = 99 ∨ z.catchType = 101 := by decide +kernel
      intro z hz
      rcases hc z hz with h0 | h0 | h0 | h0 | h0
      · exact Or.inl h0
      · exact Or.inr ⟨by rw [h0]; decide, "java/lang/IndexOutOfBoundsException", by rw [h0]; exact S.2.2.2.2 _ u219, hg.2.2.2.2.2.1 ("java/util/NoSuchElementException", "java/lang/IndexOutOfBoundsException") (by decide +kernel)⟩
      · exact Or.inr ⟨by rw [h0]; decide, "java/lang/IllegalArgumentException", by rw [h0]; exact S.2.2.2.2 _ u299, hg.2.2.2.2.2.1 ("java/util/NoSuchElementException", "java/lang/IllegalArgumentException") (by decide +kernel)⟩
      · exact Or.inr ⟨by rw [h0]; decide, "java/lang/IllegalStateException", by rw [h0]; exact S.2.2.2.2 _ u300, hg.2.2.2.2.2.1 ("java/util/NoSuchElementException", "java/lang/IllegalStateException") (by decide +kernel)⟩
      · exact Or.inr ⟨by rw [h0]; decide, "java/lang/UnsupportedOperationException", by rw [h0]; exact S.2.2.2.2 _ u301, hg.2.2.2.2.2.1 ("java/util/NoSuchElementException", "java/lang/UnsupportedOperationException") (by decide +kernel)⟩
    have hpass_5 : ∀ z ∈ cTabE.take 146, covers z 230 = false ∨ (z.catchType ≠ 0 ∧ ∃ nm : String, (Cond.classLink RL z.catchType nm).before #[.ref (ad 0 0), .int 16, .int p2, .int p3, .int p4] s = true ∧ va_Nc "java/lang/ArithmeticException" nm s) := by
      have hc : ∀ z ∈ cTabE.take 146, covers z 230 = false ∨ z.catchType = 95 ∨ z.catchType = 97 ∨ z.catchType = 99 ∨ z.catchType = 101 ∨ z.catchType = 103 := by decide +kernel
      intro z hz
      rcases hc z hz with h0 | h0 | h0 | h0 | h0 | h0
      · exact Or.inl h0
      · exact Or.inr ⟨by rw [h0]; decide, "java/lang/IndexOutOfBoundsException", by rw [h0]; exact S.2.2.2.2 _ u219, hg.2.2.2.2.2.1 ("java/lang/ArithmeticException", "java/lang/IndexOutOfBoundsException") (by decide +kernel)⟩
      · exact Or.inr ⟨by rw [h0]; decide, "java/lang/IllegalArgumentException", by rw [h0]; exact S.2.2.2.2 _ u299, hg.2.2.2.2.2.1 ("java/lang/ArithmeticException", "java/lang/IllegalArgumentException") (by decide +kernel)⟩
      · exact Or.inr ⟨by rw [h0]; decide, "java/lang/IllegalStateException", by rw [h0]; exact S.2.2.2.2 _ u300, hg.2.2.2.2.2.1 ("java/lang/ArithmeticException", "java/lang/IllegalStateException") (by decide +kernel)⟩
      · exact Or.inr ⟨by rw [h0]; decide, "java/lang/UnsupportedOperationException", by rw [h0]; exact S.2.2.2.2 _ u301, hg.2.2.2.2.2.1 ("java/lang/ArithmeticException", "java/lang/UnsupportedOperationException") (by decide +kernel)⟩
      · exact Or.inr ⟨by rw [h0]; decide, "java/util/NoSuchElementException", by rw [h0]; exact S.2.2.2.2 _ u302, hg.2.2.2.2.2.1 ("java/lang/ArithmeticException", "java/util/NoSuchElementException") (by decide +kernel)⟩
    rcases hx1 with ⟨rfl, h9⟩ | ⟨rfl, h9⟩ | ⟨rfl, h9⟩ | ⟨rfl, h9⟩ | ⟨rfl, h9⟩ | ⟨rfl, h9⟩
    · skip
      have hpass_0 : ∀ z ∈ cTabE.take 16, covers z 230 = false ∨ (z.catchType ≠ 0 ∧ ∃ nm : String, (Cond.classLink RL z.catchType nm).before #[.ref (ad 0 0), .int 16, .int p2, .int p3, .int p4] s = true ∧ va_Nc "java/lang/IndexOutOfBoundsException" nm s) := by
        have hc : ∀ z ∈ cTabE.take 16, covers z 230 = false := by decide +kernel
        exact fun z hz => Or.inl (hc z hz)
      refine vx_catch (name := "java/lang/IndexOutOfBoundsException") S.2.2.2.1 (cTabE.take 16) (⟨228, 233, 294, 95⟩ : ExceptionTableEntry) (cTabE.drop 17) (htab.trans rfl) hpass_0 (by decide) (by decide) (S.2.2.2.2 _ u219) (va_Nw.use rfl (hg.2.2.2.2.1.1 ("java/lang/IndexOutOfBoundsException", "java/lang/IndexOutOfBoundsException") (by decide +kernel))) hc1 hc2 hc3 ?_
      refine lv_astore (lv' := [(5, .ref q), (0, .ref (ad 0 0)), (1, .int 16), (2, .int p2), (3, .int p3), (4, .int p4)]) S.1 S.2.1 dL_call_294 hl (by decide) rfl (fun ls hl => ?_)
      refine lv_sipush (v := (-1001)) S.1 S.2.1 dL_call_296 (by decide) ?_
      exact r_iret (y := yL_call) S hr rfl hlk hS (by show _ ≤ mc; omega) (by show _ ≤ ms; omega) dL_call_299 ⟨_, rfl, h9, hw⟩
    · skip
      refine vx_catch (name := "java/lang/IllegalArgumentException") S.2.2.2.1 (cTabE.take 42) (⟨228, 233, 300, 97⟩ : ExceptionTableEntry) (cTabE.drop 43) (htab.trans rfl) hpass_1 (by decide) (by decide) (S.2.2.2.2 _ u299) (va_Nw.use rfl (hg.2.2.2.2.1.1 ("java/lang/IllegalArgumentException", "java/lang/IllegalArgumentException") (by decide +kernel))) hc1 hc2 hc3 ?_
      refine lv_astore (lv' := [(5, .ref q), (0, .ref (ad 0 0)), (1, .int 16), (2, .int p2), (3, .int p3), (4, .int p4)]) S.1 S.2.1 dL_call_300 hl (by decide) rfl (fun ls hl => ?_)
      refine lv_sipush (v := (-1002)) S.1 S.2.1 dL_call_302 (by decide) ?_
      exact r_iret (y := yL_call) S hr rfl hlk hS (by show _ ≤ mc; omega) (by show _ ≤ ms; omega) dL_call_305 ⟨_, rfl, h9, hw⟩
    · skip
      refine vx_catch (name := "java/lang/IllegalStateException") S.2.2.2.1 (cTabE.take 68) (⟨228, 233, 306, 99⟩ : ExceptionTableEntry) (cTabE.drop 69) (htab.trans rfl) hpass_2 (by decide) (by decide) (S.2.2.2.2 _ u300) (va_Nw.use rfl (hg.2.2.2.2.1.1 ("java/lang/IllegalStateException", "java/lang/IllegalStateException") (by decide +kernel))) hc1 hc2 hc3 ?_
      refine lv_astore (lv' := [(5, .ref q), (0, .ref (ad 0 0)), (1, .int 16), (2, .int p2), (3, .int p3), (4, .int p4)]) S.1 S.2.1 dL_call_306 hl (by decide) rfl (fun ls hl => ?_)
      refine lv_sipush (v := (-1003)) S.1 S.2.1 dL_call_308 (by decide) ?_
      exact r_iret (y := yL_call) S hr rfl hlk hS (by show _ ≤ mc; omega) (by show _ ≤ ms; omega) dL_call_311 ⟨_, rfl, h9, hw⟩
    · skip
      refine vx_catch (name := "java/lang/UnsupportedOperationException") S.2.2.2.1 (cTabE.take 94) (⟨228, 233, 312, 101⟩ : ExceptionTableEntry) (cTabE.drop 95) (htab.trans rfl) hpass_3 (by decide) (by decide) (S.2.2.2.2 _ u301) (va_Nw.use rfl (hg.2.2.2.2.1.1 ("java/lang/UnsupportedOperationException", "java/lang/UnsupportedOperationException") (by decide +kernel))) hc1 hc2 hc3 ?_
      refine lv_astore (lv' := [(5, .ref q), (0, .ref (ad 0 0)), (1, .int 16), (2, .int p2), (3, .int p3), (4, .int p4)]) S.1 S.2.1 dL_call_312 hl (by decide) rfl (fun ls hl => ?_)
      refine lv_sipush (v := (-1004)) S.1 S.2.1 dL_call_314 (by decide) ?_
      exact r_iret (y := yL_call) S hr rfl hlk hS (by show _ ≤ mc; omega) (by show _ ≤ ms; omega) dL_call_317 ⟨_, rfl, h9, hw⟩
    · skip
      refine vx_catch (name := "java/util/NoSuchElementException") S.2.2.2.1 (cTabE.take 120) (⟨228, 233, 318, 103⟩ : ExceptionTableEntry) (cTabE.drop 121) (htab.trans rfl) hpass_4 (by decide) (by decide) (S.2.2.2.2 _ u302) (va_Nw.use rfl (hg.2.2.2.2.1.1 ("java/util/NoSuchElementException", "java/util/NoSuchElementException") (by decide +kernel))) hc1 hc2 hc3 ?_
      refine lv_astore (lv' := [(5, .ref q), (0, .ref (ad 0 0)), (1, .int 16), (2, .int p2), (3, .int p3), (4, .int p4)]) S.1 S.2.1 dL_call_318 hl (by decide) rfl (fun ls hl => ?_)
      refine lv_sipush (v := (-1005)) S.1 S.2.1 dL_call_320 (by decide) ?_
      exact r_iret (y := yL_call) S hr rfl hlk hS (by show _ ≤ mc; omega) (by show _ ≤ ms; omega) dL_call_323 ⟨_, rfl, h9, hw⟩
    · skip
      refine vx_catch (name := "java/lang/ArithmeticException") S.2.2.2.1 (cTabE.take 146) (⟨228, 233, 324, 105⟩ : ExceptionTableEntry) (cTabE.drop 147) (htab.trans rfl) hpass_5 (by decide) (by decide) (S.2.2.2.2 _ u303) (va_Nw.use rfl (hg.2.2.2.2.1.1 ("java/lang/ArithmeticException", "java/lang/ArithmeticException") (by decide +kernel))) hc1 hc2 hc3 ?_
      refine lv_astore (lv' := [(5, .ref q), (0, .ref (ad 0 0)), (1, .int 16), (2, .int p2), (3, .int p3), (4, .int p4)]) S.1 S.2.1 dL_call_324 hl (by decide) rfl (fun ls hl => ?_)
      refine lv_sipush (v := (-1006)) S.1 S.2.1 dL_call_326 (by decide) ?_
      exact r_iret (y := yL_call) S hr rfl hlk hS (by show _ ≤ mc; omega) (by show _ ≤ ms; omega) dL_call_329 ⟨_, rfl, h9, hw⟩
  · obtain ⟨r1, rfl, h, hw⟩ := hq
    exact r_iret (y := yL_call) S hr rfl hlk hS (by show _ ≤ mc; omega) (by show _ ≤ ms; omega) dL_call_233 ⟨_, rfl, h, hw⟩
def wpL_c17 (post : Int32 → Prop) (mc ms : Nat) (K : KS) (p2 p3 p4 : Int32) : Prop := wpX6_winner (fun v => post v) (fun E => (E = "java/lang/IndexOutOfBoundsException" ∧ post (-1001)) ∨ (E = "java/lang/IllegalArgumentException" ∧ post (-1002)) ∨ (E = "java/lang/IllegalStateException" ∧ post (-1003)) ∨ (E = "java/lang/UnsupportedOperationException" ∧ post (-1004)) ∨ (E = "java/util/NoSuchElementException" ∧ post (-1005)) ∨ (E = "java/lang/ArithmeticException" ∧ post (-1006))) mc ms K p2
set_option maxHeartbeats 4000000 in
set_option maxRecDepth 100000 in
theorem mtL_c17 {l : Launch} {D : va_G} {cI : Nat → ClassId} {e0 : Nat} {A : Nat → Prop} {ad : Nat → Nat → Nat} {K M : KS} {ap o : Int64} {od : UInt64} {mc ms : Nat} {p2 p3 p4 : Int32} {post : Int32 → Prop} (hfl : l.stackTraces = false) (h : wpL_c17 post mc ms K p2 p3 p4) : CW l D cI e0 A yL_call cL_call 6 (some .int) cTab 9 366 mc ms [.ref (ad 0 0), .int 17, .int p2, .int p3, .int p4] (HT D cI e0 A ad K M ap o od) (qP D cI e0 A ad K M ap o od rI post) := by
  refine CW.of (by decide) (Nat.le_of_ble_eq_true rfl) (fun p e s m below meth c ls FX hw hS hl => ?_)
  obtain ⟨S, hg, hr, hlk, hnm, htab⟩ := FX
  have hl : lv_has ls 6 [(0, .ref (ad 0 0)), (1, .int 17), (2, .int p2), (3, .int p3), (4, .int p4)] := hl
  unfold wpL_c17 at h
  refine lv_iload_n S.1 S.2.1 dL_call_0 rfl (lv_at hl 1 rfl) ?_
  refine lv_tableIn (off := 233) (tgt := 234) S.1 S.2.1 dL_call_1 (by decide) (by decide) (by decide) (by decide) ?_
  refine lv_aload_n S.1 S.2.1 dL_call_234 rfl (lv_at hl 0 rfl) ?_
  refine lv_iload_n S.1 S.2.1 dL_call_235 rfl (lv_at hl 2 rfl) ?_
  refine r_call (rest := []) S hg hS (mtX6_winner (mc := mc) (ms := ms) hfl h) u756 u757 u758 u27 u759 hdX6_winner (rv0 hg hw) hw ⟨Nat.le_of_ble_eq_true rfl, Nat.le_of_ble_eq_true rfl⟩ ⟨by show 0 + mc ≤ mc; omega, by show 0 + ms ≤ ms; omega⟩ hl.1 (Nat.le_of_ble_eq_true rfl) rfl dL_call_236 (fun E ce q H locs hx hS hc1 hc2 hc3 => ?_) (fun rv H locs hq hS => ?_)
  · obtain ⟨hx1, hw⟩ := hx
    have hpass_1 : ∀ z ∈ cTabE.take 43, covers z 236 = false ∨ (z.catchType ≠ 0 ∧ ∃ nm : String, (Cond.classLink RL z.catchType nm).before #[.ref (ad 0 0), .int 17, .int p2, .int p3, .int p4] s = true ∧ va_Nc "java/lang/IllegalArgumentException" nm s) := by
      have hc : ∀ z ∈ cTabE.take 43, covers z 236 = false ∨ z.catchType = 95 := by decide +kernel
      intro z hz
      rcases hc z hz with h0 | h0
      · exact Or.inl h0
      · exact Or.inr ⟨by rw [h0]; decide, "java/lang/IndexOutOfBoundsException", by rw [h0]; exact S.2.2.2.2 _ u219, hg.2.2.2.2.2.1 ("java/lang/IllegalArgumentException", "java/lang/IndexOutOfBoundsException") (by decide +kernel)⟩
    have hpass_2 : ∀ z ∈ cTabE.take 69, covers z 236 = false ∨ (z.catchType ≠ 0 ∧ ∃ nm : String, (Cond.classLink RL z.catchType nm).before #[.ref (ad 0 0), .int 17, .int p2, .int p3, .int p4] s = true ∧ va_Nc "java/lang/IllegalStateException" nm s) := by
      have hc : ∀ z ∈ cTabE.take 69, covers z 236 = false ∨ z.catchType = 95 ∨ z.catchType = 97 := by decide +kernel
      intro z hz
      rcases hc z hz with h0 | h0 | h0
      · exact Or.inl h0
      · exact Or.inr ⟨by rw [h0]; decide, "java/lang/IndexOutOfBoundsException", by rw [h0]; exact S.2.2.2.2 _ u219, hg.2.2.2.2.2.1 ("java/lang/IllegalStateException", "java/lang/IndexOutOfBoundsException") (by decide +kernel)⟩
      · exact Or.inr ⟨by rw [h0]; decide, "java/lang/IllegalArgumentException", by rw [h0]; exact S.2.2.2.2 _ u299, hg.2.2.2.2.2.1 ("java/lang/IllegalStateException", "java/lang/IllegalArgumentException") (by decide +kernel)⟩
    have hpass_3 : ∀ z ∈ cTabE.take 95, covers z 236 = false ∨ (z.catchType ≠ 0 ∧ ∃ nm : String, (Cond.classLink RL z.catchType nm).before #[.ref (ad 0 0), .int 17, .int p2, .int p3, .int p4] s = true ∧ va_Nc "java/lang/UnsupportedOperationException" nm s) := by
      have hc : ∀ z ∈ cTabE.take 95, covers z 236 = false ∨ z.catchType = 95 ∨ z.catchType = 97 ∨ z.catchType = 99 := by decide +kernel
      intro z hz
      rcases hc z hz with h0 | h0 | h0 | h0
      · exact Or.inl h0
      · exact Or.inr ⟨by rw [h0]; decide, "java/lang/IndexOutOfBoundsException", by rw [h0]; exact S.2.2.2.2 _ u219, hg.2.2.2.2.2.1 ("java/lang/UnsupportedOperationException", "java/lang/IndexOutOfBoundsException") (by decide +kernel)⟩
      · exact Or.inr ⟨by rw [h0]; decide, "java/lang/IllegalArgumentException", by rw [h0]; exact S.2.2.2.2 _ u299, hg.2.2.2.2.2.1 ("java/lang/UnsupportedOperationException", "java/lang/IllegalArgumentException") (by decide +kernel)⟩
      · exact Or.inr ⟨by rw [h0]; decide, "java/lang/IllegalStateException", by rw [h0]; exact S.2.2.2.2 _ u300, hg.2.2.2.2.2.1 ("java/lang/UnsupportedOperationException", "java/lang/IllegalStateException") (by decide +kernel)⟩
    have hpass_4 : ∀ z ∈ cTabE.take 121, covers z 236 = false ∨ (z.catchType ≠ 0 ∧ ∃ nm : String, (Cond.classLink RL z.catchType nm).before #[.ref (ad 0 0), .int 17, .int p2, .int p3, .int p4] s = true ∧ va_Nc "java/util/NoSuchElementException" nm s) := by
      have hc : ∀ z ∈ cTabE.take 121, covers z 236 = false ∨ z.catchType = 95 ∨ z.catchType = 97 ∨ z.catchType = 99 ∨ z.catchType = 101 := by decide +kernel
      intro z hz
      rcases hc z hz with h0 | h0 | h0 | h0 | h0
      · exact Or.inl h0
      · exact Or.inr ⟨by rw [h0]; decide, "java/lang/IndexOutOfBoundsException", by rw [h0]; exact S.2.2.2.2 _ u219, hg.2.2.2.2.2.1 ("java/util/NoSuchElementException", "java/lang/IndexOutOfBoundsException") (by decide +kernel)⟩
      · exact Or.inr ⟨by rw [h0]; decide, "java/lang/IllegalArgumentException", by rw [h0]; exact S.2.2.2.2 _ u299, hg.2.2.2.2.2.1 ("java/util/NoSuchElementException", "java/lang/IllegalArgumentException") (by decide +kernel)⟩
      · exact Or.inr ⟨by rw [h0]; decide, "java/lang/IllegalStateException", by rw [h0]; exact S.2.2.2.2 _ u300, hg.2.2.2.2.2.1 ("java/util/NoSuchElementException", "java/lang/IllegalStateException") (by decide +kernel)⟩
      · exact Or.inr ⟨by rw [h0]; decide, "java/lang/UnsupportedOperationException", by rw [h0]; exact S.2.2.2.2 _ u301, hg.2.2.2.2.2.1 ("java/util/NoSuchElementException", "java/lang/UnsupportedOperationException") (by decide +kernel)⟩
    have hpass_5 : ∀ z ∈ cTabE.take 147, covers z 236 = false ∨ (z.catchType ≠ 0 ∧ ∃ nm : String, (Cond.classLink RL z.catchType nm).before #[.ref (ad 0 0), .int 17, .int p2, .int p3, .int p4] s = true ∧ va_Nc "java/lang/ArithmeticException" nm s) := by
      have hc : ∀ z ∈ cTabE.take 147, covers z 236 = false ∨ z.catchType = 95 ∨ z.catchType = 97 ∨ z.catchType = 99 ∨ z.catchType = 101 ∨ z.catchType = 103 := by decide +kernel
      intro z hz
      rcases hc z hz with h0 | h0 | h0 | h0 | h0 | h0
      · exact Or.inl h0
      · exact Or.inr ⟨by rw [h0]; decide, "java/lang/IndexOutOfBoundsException", by rw [h0]; exact S.2.2.2.2 _ u219, hg.2.2.2.2.2.1 ("java/lang/ArithmeticException", "java/lang/IndexOutOfBoundsException") (by decide +kernel)⟩
      · exact Or.inr ⟨by rw [h0]; decide, "java/lang/IllegalArgumentException", by rw [h0]; exact S.2.2.2.2 _ u299, hg.2.2.2.2.2.1 ("java/lang/ArithmeticException", "java/lang/IllegalArgumentException") (by decide +kernel)⟩
      · exact Or.inr ⟨by rw [h0]; decide, "java/lang/IllegalStateException", by rw [h0]; exact S.2.2.2.2 _ u300, hg.2.2.2.2.2.1 ("java/lang/ArithmeticException", "java/lang/IllegalStateException") (by decide +kernel)⟩
      · exact Or.inr ⟨by rw [h0]; decide, "java/lang/UnsupportedOperationException", by rw [h0]; exact S.2.2.2.2 _ u301, hg.2.2.2.2.2.1 ("java/lang/ArithmeticException", "java/lang/UnsupportedOperationException") (by decide +kernel)⟩
      · exact Or.inr ⟨by rw [h0]; decide, "java/util/NoSuchElementException", by rw [h0]; exact S.2.2.2.2 _ u302, hg.2.2.2.2.2.1 ("java/lang/ArithmeticException", "java/util/NoSuchElementException") (by decide +kernel)⟩
    rcases hx1 with ⟨rfl, h9⟩ | ⟨rfl, h9⟩ | ⟨rfl, h9⟩ | ⟨rfl, h9⟩ | ⟨rfl, h9⟩ | ⟨rfl, h9⟩
    · skip
      have hpass_0 : ∀ z ∈ cTabE.take 17, covers z 236 = false ∨ (z.catchType ≠ 0 ∧ ∃ nm : String, (Cond.classLink RL z.catchType nm).before #[.ref (ad 0 0), .int 17, .int p2, .int p3, .int p4] s = true ∧ va_Nc "java/lang/IndexOutOfBoundsException" nm s) := by
        have hc : ∀ z ∈ cTabE.take 17, covers z 236 = false := by decide +kernel
        exact fun z hz => Or.inl (hc z hz)
      refine vx_catch (name := "java/lang/IndexOutOfBoundsException") S.2.2.2.1 (cTabE.take 17) (⟨234, 239, 294, 95⟩ : ExceptionTableEntry) (cTabE.drop 18) (htab.trans rfl) hpass_0 (by decide) (by decide) (S.2.2.2.2 _ u219) (va_Nw.use rfl (hg.2.2.2.2.1.1 ("java/lang/IndexOutOfBoundsException", "java/lang/IndexOutOfBoundsException") (by decide +kernel))) hc1 hc2 hc3 ?_
      refine lv_astore (lv' := [(5, .ref q), (0, .ref (ad 0 0)), (1, .int 17), (2, .int p2), (3, .int p3), (4, .int p4)]) S.1 S.2.1 dL_call_294 hl (by decide) rfl (fun ls hl => ?_)
      refine lv_sipush (v := (-1001)) S.1 S.2.1 dL_call_296 (by decide) ?_
      exact r_iret (y := yL_call) S hr rfl hlk hS (by show _ ≤ mc; omega) (by show _ ≤ ms; omega) dL_call_299 ⟨_, rfl, h9, hw⟩
    · skip
      refine vx_catch (name := "java/lang/IllegalArgumentException") S.2.2.2.1 (cTabE.take 43) (⟨234, 239, 300, 97⟩ : ExceptionTableEntry) (cTabE.drop 44) (htab.trans rfl) hpass_1 (by decide) (by decide) (S.2.2.2.2 _ u299) (va_Nw.use rfl (hg.2.2.2.2.1.1 ("java/lang/IllegalArgumentException", "java/lang/IllegalArgumentException") (by decide +kernel))) hc1 hc2 hc3 ?_
      refine lv_astore (lv' := [(5, .ref q), (0, .ref (ad 0 0)), (1, .int 17), (2, .int p2), (3, .int p3), (4, .int p4)]) S.1 S.2.1 dL_call_300 hl (by decide) rfl (fun ls hl => ?_)
      refine lv_sipush (v := (-1002)) S.1 S.2.1 dL_call_302 (by decide) ?_
      exact r_iret (y := yL_call) S hr rfl hlk hS (by show _ ≤ mc; omega) (by show _ ≤ ms; omega) dL_call_305 ⟨_, rfl, h9, hw⟩
    · skip
      refine vx_catch (name := "java/lang/IllegalStateException") S.2.2.2.1 (cTabE.take 69) (⟨234, 239, 306, 99⟩ : ExceptionTableEntry) (cTabE.drop 70) (htab.trans rfl) hpass_2 (by decide) (by decide) (S.2.2.2.2 _ u300) (va_Nw.use rfl (hg.2.2.2.2.1.1 ("java/lang/IllegalStateException", "java/lang/IllegalStateException") (by decide +kernel))) hc1 hc2 hc3 ?_
      refine lv_astore (lv' := [(5, .ref q), (0, .ref (ad 0 0)), (1, .int 17), (2, .int p2), (3, .int p3), (4, .int p4)]) S.1 S.2.1 dL_call_306 hl (by decide) rfl (fun ls hl => ?_)
      refine lv_sipush (v := (-1003)) S.1 S.2.1 dL_call_308 (by decide) ?_
      exact r_iret (y := yL_call) S hr rfl hlk hS (by show _ ≤ mc; omega) (by show _ ≤ ms; omega) dL_call_311 ⟨_, rfl, h9, hw⟩
    · skip
      refine vx_catch (name := "java/lang/UnsupportedOperationException") S.2.2.2.1 (cTabE.take 95) (⟨234, 239, 312, 101⟩ : ExceptionTableEntry) (cTabE.drop 96) (htab.trans rfl) hpass_3 (by decide) (by decide) (S.2.2.2.2 _ u301) (va_Nw.use rfl (hg.2.2.2.2.1.1 ("java/lang/UnsupportedOperationException", "java/lang/UnsupportedOperationException") (by decide +kernel))) hc1 hc2 hc3 ?_
      refine lv_astore (lv' := [(5, .ref q), (0, .ref (ad 0 0)), (1, .int 17), (2, .int p2), (3, .int p3), (4, .int p4)]) S.1 S.2.1 dL_call_312 hl (by decide) rfl (fun ls hl => ?_)
      refine lv_sipush (v := (-1004)) S.1 S.2.1 dL_call_314 (by decide) ?_
      exact r_iret (y := yL_call) S hr rfl hlk hS (by show _ ≤ mc; omega) (by show _ ≤ ms; omega) dL_call_317 ⟨_, rfl, h9, hw⟩
    · skip
      refine vx_catch (name := "java/util/NoSuchElementException") S.2.2.2.1 (cTabE.take 121) (⟨234, 239, 318, 103⟩ : ExceptionTableEntry) (cTabE.drop 122) (htab.trans rfl) hpass_4 (by decide) (by decide) (S.2.2.2.2 _ u302) (va_Nw.use rfl (hg.2.2.2.2.1.1 ("java/util/NoSuchElementException", "java/util/NoSuchElementException") (by decide +kernel))) hc1 hc2 hc3 ?_
      refine lv_astore (lv' := [(5, .ref q), (0, .ref (ad 0 0)), (1, .int 17), (2, .int p2), (3, .int p3), (4, .int p4)]) S.1 S.2.1 dL_call_318 hl (by decide) rfl (fun ls hl => ?_)
      refine lv_sipush (v := (-1005)) S.1 S.2.1 dL_call_320 (by decide) ?_
      exact r_iret (y := yL_call) S hr rfl hlk hS (by show _ ≤ mc; omega) (by show _ ≤ ms; omega) dL_call_323 ⟨_, rfl, h9, hw⟩
    · skip
      refine vx_catch (name := "java/lang/ArithmeticException") S.2.2.2.1 (cTabE.take 147) (⟨234, 239, 324, 105⟩ : ExceptionTableEntry) (cTabE.drop 148) (htab.trans rfl) hpass_5 (by decide) (by decide) (S.2.2.2.2 _ u303) (va_Nw.use rfl (hg.2.2.2.2.1.1 ("java/lang/ArithmeticException", "java/lang/ArithmeticException") (by decide +kernel))) hc1 hc2 hc3 ?_
      refine lv_astore (lv' := [(5, .ref q), (0, .ref (ad 0 0)), (1, .int 17), (2, .int p2), (3, .int p3), (4, .int p4)]) S.1 S.2.1 dL_call_324 hl (by decide) rfl (fun ls hl => ?_)
      refine lv_sipush (v := (-1006)) S.1 S.2.1 dL_call_326 (by decide) ?_
      exact r_iret (y := yL_call) S hr rfl hlk hS (by show _ ≤ mc; omega) (by show _ ≤ ms; omega) dL_call_329 ⟨_, rfl, h9, hw⟩
  · obtain ⟨r1, rfl, h, hw⟩ := hq
    exact r_iret (y := yL_call) S hr rfl hlk hS (by show _ ≤ mc; omega) (by show _ ≤ ms; omega) dL_call_239 ⟨_, rfl, h, hw⟩
def wpL_c18 (post : Int32 → KS → Prop) (mc ms : Nat) (K : KS) (p2 p3 p4 : Int32) : Prop := wpX6_close (fun v K => post v K) (fun E K => (E = "java/lang/IndexOutOfBoundsException" ∧ post (-1001) K) ∨ (E = "java/lang/IllegalArgumentException" ∧ post (-1002) K) ∨ (E = "java/lang/IllegalStateException" ∧ post (-1003) K) ∨ (E = "java/lang/UnsupportedOperationException" ∧ post (-1004) K) ∨ (E = "java/util/NoSuchElementException" ∧ post (-1005) K) ∨ (E = "java/lang/ArithmeticException" ∧ post (-1006) K)) mc ms K p2
set_option maxHeartbeats 4000000 in
set_option maxRecDepth 100000 in
theorem mtL_c18 {l : Launch} {D : va_G} {cI : Nat → ClassId} {e0 : Nat} {A : Nat → Prop} {ad : Nat → Nat → Nat} {K M : KS} {ap o : Int64} {od : UInt64} {mc ms : Nat} {p2 p3 p4 : Int32} {post : Int32 → KS → Prop} (hfl : l.stackTraces = false) (h : wpL_c18 post mc ms K p2 p3 p4) : CW l D cI e0 A yL_call cL_call 6 (some .int) cTab 9 366 mc ms [.ref (ad 0 0), .int 18, .int p2, .int p3, .int p4] (HT D cI e0 A ad K M ap o od) (qW D cI e0 A ad M ap o od post) := by
  refine CW.of (by decide) (Nat.le_of_ble_eq_true rfl) (fun p e s m below meth c ls FX hw hS hl => ?_)
  obtain ⟨S, hg, hr, hlk, hnm, htab⟩ := FX
  have hl : lv_has ls 6 [(0, .ref (ad 0 0)), (1, .int 18), (2, .int p2), (3, .int p3), (4, .int p4)] := hl
  unfold wpL_c18 at h
  refine lv_iload_n S.1 S.2.1 dL_call_0 rfl (lv_at hl 1 rfl) ?_
  refine lv_tableIn (off := 239) (tgt := 240) S.1 S.2.1 dL_call_1 (by decide) (by decide) (by decide) (by decide) ?_
  refine lv_aload_n S.1 S.2.1 dL_call_240 rfl (lv_at hl 0 rfl) ?_
  refine lv_iload_n S.1 S.2.1 dL_call_241 rfl (lv_at hl 2 rfl) ?_
  refine r_call (rest := []) S hg hS (mtX6_close (mc := mc) (ms := ms) hfl h) u776 u777 u778 u27 u779 hdX6_close (rv0 hg hw) hw ⟨Nat.le_of_ble_eq_true rfl, Nat.le_of_ble_eq_true rfl⟩ ⟨by show 0 + mc ≤ mc; omega, by show 0 + ms ≤ ms; omega⟩ hl.1 (Nat.le_of_ble_eq_true rfl) rfl dL_call_242 (fun E ce q H locs hx hS hc1 hc2 hc3 => ?_) (fun rv H locs hq hS => ?_)
  · obtain ⟨K, hx1, hw⟩ := hx
    have hpass_1 : ∀ z ∈ cTabE.take 44, covers z 242 = false ∨ (z.catchType ≠ 0 ∧ ∃ nm : String, (Cond.classLink RL z.catchType nm).before #[.ref (ad 0 0), .int 18, .int p2, .int p3, .int p4] s = true ∧ va_Nc "java/lang/IllegalArgumentException" nm s) := by
      have hc : ∀ z ∈ cTabE.take 44, covers z 242 = false ∨ z.catchType = 95 := by decide +kernel
      intro z hz
      rcases hc z hz with h0 | h0
      · exact Or.inl h0
      · exact Or.inr ⟨by rw [h0]; decide, "java/lang/IndexOutOfBoundsException", by rw [h0]; exact S.2.2.2.2 _ u219, hg.2.2.2.2.2.1 ("java/lang/IllegalArgumentException", "java/lang/IndexOutOfBoundsException") (by decide +kernel)⟩
    have hpass_2 : ∀ z ∈ cTabE.take 70, covers z 242 = false ∨ (z.catchType ≠ 0 ∧ ∃ nm : String, (Cond.classLink RL z.catchType nm).before #[.ref (ad 0 0), .int 18, .int p2, .int p3, .int p4] s = true ∧ va_Nc "java/lang/IllegalStateException" nm s) := by
      have hc : ∀ z ∈ cTabE.take 70, covers z 242 = false ∨ z.catchType = 95 ∨ z.catchType = 97 := by decide +kernel
      intro z hz
      rcases hc z hz with h0 | h0 | h0
      · exact Or.inl h0
      · exact Or.inr ⟨by rw [h0]; decide, "java/lang/IndexOutOfBoundsException", by rw [h0]; exact S.2.2.2.2 _ u219, hg.2.2.2.2.2.1 ("java/lang/IllegalStateException", "java/lang/IndexOutOfBoundsException") (by decide +kernel)⟩
      · exact Or.inr ⟨by rw [h0]; decide, "java/lang/IllegalArgumentException", by rw [h0]; exact S.2.2.2.2 _ u299, hg.2.2.2.2.2.1 ("java/lang/IllegalStateException", "java/lang/IllegalArgumentException") (by decide +kernel)⟩
    have hpass_3 : ∀ z ∈ cTabE.take 96, covers z 242 = false ∨ (z.catchType ≠ 0 ∧ ∃ nm : String, (Cond.classLink RL z.catchType nm).before #[.ref (ad 0 0), .int 18, .int p2, .int p3, .int p4] s = true ∧ va_Nc "java/lang/UnsupportedOperationException" nm s) := by
      have hc : ∀ z ∈ cTabE.take 96, covers z 242 = false ∨ z.catchType = 95 ∨ z.catchType = 97 ∨ z.catchType = 99 := by decide +kernel
      intro z hz
      rcases hc z hz with h0 | h0 | h0 | h0
      · exact Or.inl h0
      · exact Or.inr ⟨by rw [h0]; decide, "java/lang/IndexOutOfBoundsException", by rw [h0]; exact S.2.2.2.2 _ u219, hg.2.2.2.2.2.1 ("java/lang/UnsupportedOperationException", "java/lang/IndexOutOfBoundsException") (by decide +kernel)⟩
      · exact Or.inr ⟨by rw [h0]; decide, "java/lang/IllegalArgumentException", by rw [h0]; exact S.2.2.2.2 _ u299, hg.2.2.2.2.2.1 ("java/lang/UnsupportedOperationException", "java/lang/IllegalArgumentException") (by decide +kernel)⟩
      · exact Or.inr ⟨by rw [h0]; decide, "java/lang/IllegalStateException", by rw [h0]; exact S.2.2.2.2 _ u300, hg.2.2.2.2.2.1 ("java/lang/UnsupportedOperationException", "java/lang/IllegalStateException") (by decide +kernel)⟩
    have hpass_4 : ∀ z ∈ cTabE.take 122, covers z 242 = false ∨ (z.catchType ≠ 0 ∧ ∃ nm : String, (Cond.classLink RL z.catchType nm).before #[.ref (ad 0 0), .int 18, .int p2, .int p3, .int p4] s = true ∧ va_Nc "java/util/NoSuchElementException" nm s) := by
      have hc : ∀ z ∈ cTabE.take 122, covers z 242 = false ∨ z.catchType = 95 ∨ z.catchType = 97 ∨ z.catchType = 99 ∨ z.catchType = 101 := by decide +kernel
      intro z hz
      rcases hc z hz with h0 | h0 | h0 | h0 | h0
      · exact Or.inl h0
      · exact Or.inr ⟨by rw [h0]; decide, "java/lang/IndexOutOfBoundsException", by rw [h0]; exact S.2.2.2.2 _ u219, hg.2.2.2.2.2.1 ("java/util/NoSuchElementException", "java/lang/IndexOutOfBoundsException") (by decide +kernel)⟩
      · exact Or.inr ⟨by rw [h0]; decide, "java/lang/IllegalArgumentException", by rw [h0]; exact S.2.2.2.2 _ u299, hg.2.2.2.2.2.1 ("java/util/NoSuchElementException", "java/lang/IllegalArgumentException") (by decide +kernel)⟩
      · exact Or.inr ⟨by rw [h0]; decide, "java/lang/IllegalStateException", by rw [h0]; exact S.2.2.2.2 _ u300, hg.2.2.2.2.2.1 ("java/util/NoSuchElementException", "java/lang/IllegalStateException") (by decide +kernel)⟩
      · exact Or.inr ⟨by rw [h0]; decide, "java/lang/UnsupportedOperationException", by rw [h0]; exact S.2.2.2.2 _ u301, hg.2.2.2.2.2.1 ("java/util/NoSuchElementException", "java/lang/UnsupportedOperationException") (by decide +kernel)⟩
    have hpass_5 : ∀ z ∈ cTabE.take 148, covers z 242 = false ∨ (z.catchType ≠ 0 ∧ ∃ nm : String, (Cond.classLink RL z.catchType nm).before #[.ref (ad 0 0), .int 18, .int p2, .int p3, .int p4] s = true ∧ va_Nc "java/lang/ArithmeticException" nm s) := by
      have hc : ∀ z ∈ cTabE.take 148, covers z 242 = false ∨ z.catchType = 95 ∨ z.catchType = 97 ∨ z.catchType = 99 ∨ z.catchType = 101 ∨ z.catchType = 103 := by decide +kernel
      intro z hz
      rcases hc z hz with h0 | h0 | h0 | h0 | h0 | h0
      · exact Or.inl h0
      · exact Or.inr ⟨by rw [h0]; decide, "java/lang/IndexOutOfBoundsException", by rw [h0]; exact S.2.2.2.2 _ u219, hg.2.2.2.2.2.1 ("java/lang/ArithmeticException", "java/lang/IndexOutOfBoundsException") (by decide +kernel)⟩
      · exact Or.inr ⟨by rw [h0]; decide, "java/lang/IllegalArgumentException", by rw [h0]; exact S.2.2.2.2 _ u299, hg.2.2.2.2.2.1 ("java/lang/ArithmeticException", "java/lang/IllegalArgumentException") (by decide +kernel)⟩
      · exact Or.inr ⟨by rw [h0]; decide, "java/lang/IllegalStateException", by rw [h0]; exact S.2.2.2.2 _ u300, hg.2.2.2.2.2.1 ("java/lang/ArithmeticException", "java/lang/IllegalStateException") (by decide +kernel)⟩
      · exact Or.inr ⟨by rw [h0]; decide, "java/lang/UnsupportedOperationException", by rw [h0]; exact S.2.2.2.2 _ u301, hg.2.2.2.2.2.1 ("java/lang/ArithmeticException", "java/lang/UnsupportedOperationException") (by decide +kernel)⟩
      · exact Or.inr ⟨by rw [h0]; decide, "java/util/NoSuchElementException", by rw [h0]; exact S.2.2.2.2 _ u302, hg.2.2.2.2.2.1 ("java/lang/ArithmeticException", "java/util/NoSuchElementException") (by decide +kernel)⟩
    rcases hx1 with ⟨rfl, h9⟩ | ⟨rfl, h9⟩ | ⟨rfl, h9⟩ | ⟨rfl, h9⟩ | ⟨rfl, h9⟩ | ⟨rfl, h9⟩
    · skip
      have hpass_0 : ∀ z ∈ cTabE.take 18, covers z 242 = false ∨ (z.catchType ≠ 0 ∧ ∃ nm : String, (Cond.classLink RL z.catchType nm).before #[.ref (ad 0 0), .int 18, .int p2, .int p3, .int p4] s = true ∧ va_Nc "java/lang/IndexOutOfBoundsException" nm s) := by
        have hc : ∀ z ∈ cTabE.take 18, covers z 242 = false := by decide +kernel
        exact fun z hz => Or.inl (hc z hz)
      refine vx_catch (name := "java/lang/IndexOutOfBoundsException") S.2.2.2.1 (cTabE.take 18) (⟨240, 245, 294, 95⟩ : ExceptionTableEntry) (cTabE.drop 19) (htab.trans rfl) hpass_0 (by decide) (by decide) (S.2.2.2.2 _ u219) (va_Nw.use rfl (hg.2.2.2.2.1.1 ("java/lang/IndexOutOfBoundsException", "java/lang/IndexOutOfBoundsException") (by decide +kernel))) hc1 hc2 hc3 ?_
      refine lv_astore (lv' := [(5, .ref q), (0, .ref (ad 0 0)), (1, .int 18), (2, .int p2), (3, .int p3), (4, .int p4)]) S.1 S.2.1 dL_call_294 hl (by decide) rfl (fun ls hl => ?_)
      refine lv_sipush (v := (-1001)) S.1 S.2.1 dL_call_296 (by decide) ?_
      exact r_iret (y := yL_call) S hr rfl hlk hS (by show _ ≤ mc; omega) (by show _ ≤ ms; omega) dL_call_299 ⟨_, _, ad, rfl, h9, ⟨rfl, rfl⟩, hw⟩
    · skip
      refine vx_catch (name := "java/lang/IllegalArgumentException") S.2.2.2.1 (cTabE.take 44) (⟨240, 245, 300, 97⟩ : ExceptionTableEntry) (cTabE.drop 45) (htab.trans rfl) hpass_1 (by decide) (by decide) (S.2.2.2.2 _ u299) (va_Nw.use rfl (hg.2.2.2.2.1.1 ("java/lang/IllegalArgumentException", "java/lang/IllegalArgumentException") (by decide +kernel))) hc1 hc2 hc3 ?_
      refine lv_astore (lv' := [(5, .ref q), (0, .ref (ad 0 0)), (1, .int 18), (2, .int p2), (3, .int p3), (4, .int p4)]) S.1 S.2.1 dL_call_300 hl (by decide) rfl (fun ls hl => ?_)
      refine lv_sipush (v := (-1002)) S.1 S.2.1 dL_call_302 (by decide) ?_
      exact r_iret (y := yL_call) S hr rfl hlk hS (by show _ ≤ mc; omega) (by show _ ≤ ms; omega) dL_call_305 ⟨_, _, ad, rfl, h9, ⟨rfl, rfl⟩, hw⟩
    · skip
      refine vx_catch (name := "java/lang/IllegalStateException") S.2.2.2.1 (cTabE.take 70) (⟨240, 245, 306, 99⟩ : ExceptionTableEntry) (cTabE.drop 71) (htab.trans rfl) hpass_2 (by decide) (by decide) (S.2.2.2.2 _ u300) (va_Nw.use rfl (hg.2.2.2.2.1.1 ("java/lang/IllegalStateException", "java/lang/IllegalStateException") (by decide +kernel))) hc1 hc2 hc3 ?_
      refine lv_astore (lv' := [(5, .ref q), (0, .ref (ad 0 0)), (1, .int 18), (2, .int p2), (3, .int p3), (4, .int p4)]) S.1 S.2.1 dL_call_306 hl (by decide) rfl (fun ls hl => ?_)
      refine lv_sipush (v := (-1003)) S.1 S.2.1 dL_call_308 (by decide) ?_
      exact r_iret (y := yL_call) S hr rfl hlk hS (by show _ ≤ mc; omega) (by show _ ≤ ms; omega) dL_call_311 ⟨_, _, ad, rfl, h9, ⟨rfl, rfl⟩, hw⟩
    · skip
      refine vx_catch (name := "java/lang/UnsupportedOperationException") S.2.2.2.1 (cTabE.take 96) (⟨240, 245, 312, 101⟩ : ExceptionTableEntry) (cTabE.drop 97) (htab.trans rfl) hpass_3 (by decide) (by decide) (S.2.2.2.2 _ u301) (va_Nw.use rfl (hg.2.2.2.2.1.1 ("java/lang/UnsupportedOperationException", "java/lang/UnsupportedOperationException") (by decide +kernel))) hc1 hc2 hc3 ?_
      refine lv_astore (lv' := [(5, .ref q), (0, .ref (ad 0 0)), (1, .int 18), (2, .int p2), (3, .int p3), (4, .int p4)]) S.1 S.2.1 dL_call_312 hl (by decide) rfl (fun ls hl => ?_)
      refine lv_sipush (v := (-1004)) S.1 S.2.1 dL_call_314 (by decide) ?_
      exact r_iret (y := yL_call) S hr rfl hlk hS (by show _ ≤ mc; omega) (by show _ ≤ ms; omega) dL_call_317 ⟨_, _, ad, rfl, h9, ⟨rfl, rfl⟩, hw⟩
    · skip
      refine vx_catch (name := "java/util/NoSuchElementException") S.2.2.2.1 (cTabE.take 122) (⟨240, 245, 318, 103⟩ : ExceptionTableEntry) (cTabE.drop 123) (htab.trans rfl) hpass_4 (by decide) (by decide) (S.2.2.2.2 _ u302) (va_Nw.use rfl (hg.2.2.2.2.1.1 ("java/util/NoSuchElementException", "java/util/NoSuchElementException") (by decide +kernel))) hc1 hc2 hc3 ?_
      refine lv_astore (lv' := [(5, .ref q), (0, .ref (ad 0 0)), (1, .int 18), (2, .int p2), (3, .int p3), (4, .int p4)]) S.1 S.2.1 dL_call_318 hl (by decide) rfl (fun ls hl => ?_)
      refine lv_sipush (v := (-1005)) S.1 S.2.1 dL_call_320 (by decide) ?_
      exact r_iret (y := yL_call) S hr rfl hlk hS (by show _ ≤ mc; omega) (by show _ ≤ ms; omega) dL_call_323 ⟨_, _, ad, rfl, h9, ⟨rfl, rfl⟩, hw⟩
    · skip
      refine vx_catch (name := "java/lang/ArithmeticException") S.2.2.2.1 (cTabE.take 148) (⟨240, 245, 324, 105⟩ : ExceptionTableEntry) (cTabE.drop 149) (htab.trans rfl) hpass_5 (by decide) (by decide) (S.2.2.2.2 _ u303) (va_Nw.use rfl (hg.2.2.2.2.1.1 ("java/lang/ArithmeticException", "java/lang/ArithmeticException") (by decide +kernel))) hc1 hc2 hc3 ?_
      refine lv_astore (lv' := [(5, .ref q), (0, .ref (ad 0 0)), (1, .int 18), (2, .int p2), (3, .int p3), (4, .int p4)]) S.1 S.2.1 dL_call_324 hl (by decide) rfl (fun ls hl => ?_)
      refine lv_sipush (v := (-1006)) S.1 S.2.1 dL_call_326 (by decide) ?_
      exact r_iret (y := yL_call) S hr rfl hlk hS (by show _ ≤ mc; omega) (by show _ ≤ ms; omega) dL_call_329 ⟨_, _, ad, rfl, h9, ⟨rfl, rfl⟩, hw⟩
  · obtain ⟨r1, K1, rfl, h, hw⟩ := hq
    exact r_iret (y := yL_call) S hr rfl hlk hS (by show _ ≤ mc; omega) (by show _ ≤ ms; omega) dL_call_245 ⟨_, _, ad, rfl, h, ⟨rfl, rfl⟩, hw⟩
def wpL_c19 (post : Int32 → KS → Prop) (mc ms : Nat) (K : KS) (p2 p3 p4 : Int32) : Prop := wpX6_snapshot (fun v K => post v K) (fun E K => (E = "java/lang/IndexOutOfBoundsException" ∧ post (-1001) K) ∨ (E = "java/lang/IllegalArgumentException" ∧ post (-1002) K) ∨ (E = "java/lang/IllegalStateException" ∧ post (-1003) K) ∨ (E = "java/lang/UnsupportedOperationException" ∧ post (-1004) K) ∨ (E = "java/util/NoSuchElementException" ∧ post (-1005) K) ∨ (E = "java/lang/ArithmeticException" ∧ post (-1006) K)) mc ms K p2
set_option maxHeartbeats 4000000 in
set_option maxRecDepth 100000 in
theorem mtL_c19 {l : Launch} {D : va_G} {cI : Nat → ClassId} {e0 : Nat} {A : Nat → Prop} {ad : Nat → Nat → Nat} {K M : KS} {ap o : Int64} {od : UInt64} {mc ms : Nat} {p2 p3 p4 : Int32} {post : Int32 → KS → Prop} (hfl : l.stackTraces = false) (h : wpL_c19 post mc ms K p2 p3 p4) : CW l D cI e0 A yL_call cL_call 6 (some .int) cTab 9 366 mc ms [.ref (ad 0 0), .int 19, .int p2, .int p3, .int p4] (HT D cI e0 A ad K M ap o od) (qW D cI e0 A ad M ap o od post) := by
  refine CW.of (by decide) (Nat.le_of_ble_eq_true rfl) (fun p e s m below meth c ls FX hw hS hl => ?_)
  obtain ⟨S, hg, hr, hlk, hnm, htab⟩ := FX
  have hl : lv_has ls 6 [(0, .ref (ad 0 0)), (1, .int 19), (2, .int p2), (3, .int p3), (4, .int p4)] := hl
  unfold wpL_c19 at h
  refine lv_iload_n S.1 S.2.1 dL_call_0 rfl (lv_at hl 1 rfl) ?_
  refine lv_tableIn (off := 245) (tgt := 246) S.1 S.2.1 dL_call_1 (by decide) (by decide) (by decide) (by decide) ?_
  refine lv_aload_n S.1 S.2.1 dL_call_246 rfl (lv_at hl 0 rfl) ?_
  refine lv_iload_n S.1 S.2.1 dL_call_247 rfl (lv_at hl 2 rfl) ?_
  refine r_call (rest := []) S hg hS (mtX6_snapshot (mc := mc) (ms := ms) hfl h) u798 u799 u800 u27 u801 hdX6_snapshot (rv0 hg hw) hw ⟨Nat.le_of_ble_eq_true rfl, Nat.le_of_ble_eq_true rfl⟩ ⟨by show 0 + mc ≤ mc; omega, by show 0 + ms ≤ ms; omega⟩ hl.1 (Nat.le_of_ble_eq_true rfl) rfl dL_call_248 (fun E ce q H locs hx hS hc1 hc2 hc3 => ?_) (fun rv H locs hq hS => ?_)
  · obtain ⟨K, hx1, hw⟩ := hx
    have hpass_1 : ∀ z ∈ cTabE.take 45, covers z 248 = false ∨ (z.catchType ≠ 0 ∧ ∃ nm : String, (Cond.classLink RL z.catchType nm).before #[.ref (ad 0 0), .int 19, .int p2, .int p3, .int p4] s = true ∧ va_Nc "java/lang/IllegalArgumentException" nm s) := by
      have hc : ∀ z ∈ cTabE.take 45, covers z 248 = false ∨ z.catchType = 95 := by decide +kernel
      intro z hz
      rcases hc z hz with h0 | h0
      · exact Or.inl h0
      · exact Or.inr ⟨by rw [h0]; decide, "java/lang/IndexOutOfBoundsException", by rw [h0]; exact S.2.2.2.2 _ u219, hg.2.2.2.2.2.1 ("java/lang/IllegalArgumentException", "java/lang/IndexOutOfBoundsException") (by decide +kernel)⟩
    have hpass_2 : ∀ z ∈ cTabE.take 71, covers z 248 = false ∨ (z.catchType ≠ 0 ∧ ∃ nm : String, (Cond.classLink RL z.catchType nm).before #[.ref (ad 0 0), .int 19, .int p2, .int p3, .int p4] s = true ∧ va_Nc "java/lang/IllegalStateException" nm s) := by
      have hc : ∀ z ∈ cTabE.take 71, covers z 248 = false ∨ z.catchType = 95 ∨ z.catchType = 97 := by decide +kernel
      intro z hz
      rcases hc z hz with h0 | h0 | h0
      · exact Or.inl h0
      · exact Or.inr ⟨by rw [h0]; decide, "java/lang/IndexOutOfBoundsException", by rw [h0]; exact S.2.2.2.2 _ u219, hg.2.2.2.2.2.1 ("java/lang/IllegalStateException", "java/lang/IndexOutOfBoundsException") (by decide +kernel)⟩
      · exact Or.inr ⟨by rw [h0]; decide, "java/lang/IllegalArgumentException", by rw [h0]; exact S.2.2.2.2 _ u299, hg.2.2.2.2.2.1 ("java/lang/IllegalStateException", "java/lang/IllegalArgumentException") (by decide +kernel)⟩
    have hpass_3 : ∀ z ∈ cTabE.take 97, covers z 248 = false ∨ (z.catchType ≠ 0 ∧ ∃ nm : String, (Cond.classLink RL z.catchType nm).before #[.ref (ad 0 0), .int 19, .int p2, .int p3, .int p4] s = true ∧ va_Nc "java/lang/UnsupportedOperationException" nm s) := by
      have hc : ∀ z ∈ cTabE.take 97, covers z 248 = false ∨ z.catchType = 95 ∨ z.catchType = 97 ∨ z.catchType = 99 := by decide +kernel
      intro z hz
      rcases hc z hz with h0 | h0 | h0 | h0
      · exact Or.inl h0
      · exact Or.inr ⟨by rw [h0]; decide, "java/lang/IndexOutOfBoundsException", by rw [h0]; exact S.2.2.2.2 _ u219, hg.2.2.2.2.2.1 ("java/lang/UnsupportedOperationException", "java/lang/IndexOutOfBoundsException") (by decide +kernel)⟩
      · exact Or.inr ⟨by rw [h0]; decide, "java/lang/IllegalArgumentException", by rw [h0]; exact S.2.2.2.2 _ u299, hg.2.2.2.2.2.1 ("java/lang/UnsupportedOperationException", "java/lang/IllegalArgumentException") (by decide +kernel)⟩
      · exact Or.inr ⟨by rw [h0]; decide, "java/lang/IllegalStateException", by rw [h0]; exact S.2.2.2.2 _ u300, hg.2.2.2.2.2.1 ("java/lang/UnsupportedOperationException", "java/lang/IllegalStateException") (by decide +kernel)⟩
    have hpass_4 : ∀ z ∈ cTabE.take 123, covers z 248 = false ∨ (z.catchType ≠ 0 ∧ ∃ nm : String, (Cond.classLink RL z.catchType nm).before #[.ref (ad 0 0), .int 19, .int p2, .int p3, .int p4] s = true ∧ va_Nc "java/util/NoSuchElementException" nm s) := by
      have hc : ∀ z ∈ cTabE.take 123, covers z 248 = false ∨ z.catchType = 95 ∨ z.catchType = 97 ∨ z.catchType = 99 ∨ z.catchType = 101 := by decide +kernel
      intro z hz
      rcases hc z hz with h0 | h0 | h0 | h0 | h0
      · exact Or.inl h0
      · exact Or.inr ⟨by rw [h0]; decide, "java/lang/IndexOutOfBoundsException", by rw [h0]; exact S.2.2.2.2 _ u219, hg.2.2.2.2.2.1 ("java/util/NoSuchElementException", "java/lang/IndexOutOfBoundsException") (by decide +kernel)⟩
      · exact Or.inr ⟨by rw [h0]; decide, "java/lang/IllegalArgumentException", by rw [h0]; exact S.2.2.2.2 _ u299, hg.2.2.2.2.2.1 ("java/util/NoSuchElementException", "java/lang/IllegalArgumentException") (by decide +kernel)⟩
      · exact Or.inr ⟨by rw [h0]; decide, "java/lang/IllegalStateException", by rw [h0]; exact S.2.2.2.2 _ u300, hg.2.2.2.2.2.1 ("java/util/NoSuchElementException", "java/lang/IllegalStateException") (by decide +kernel)⟩
      · exact Or.inr ⟨by rw [h0]; decide, "java/lang/UnsupportedOperationException", by rw [h0]; exact S.2.2.2.2 _ u301, hg.2.2.2.2.2.1 ("java/util/NoSuchElementException", "java/lang/UnsupportedOperationException") (by decide +kernel)⟩
    have hpass_5 : ∀ z ∈ cTabE.take 149, covers z 248 = false ∨ (z.catchType ≠ 0 ∧ ∃ nm : String, (Cond.classLink RL z.catchType nm).before #[.ref (ad 0 0), .int 19, .int p2, .int p3, .int p4] s = true ∧ va_Nc "java/lang/ArithmeticException" nm s) := by
      have hc : ∀ z ∈ cTabE.take 149, covers z 248 = false ∨ z.catchType = 95 ∨ z.catchType = 97 ∨ z.catchType = 99 ∨ z.catchType = 101 ∨ z.catchType = 103 := by decide +kernel
      intro z hz
      rcases hc z hz with h0 | h0 | h0 | h0 | h0 | h0
      · exact Or.inl h0
      · exact Or.inr ⟨by rw [h0]; decide, "java/lang/IndexOutOfBoundsException", by rw [h0]; exact S.2.2.2.2 _ u219, hg.2.2.2.2.2.1 ("java/lang/ArithmeticException", "java/lang/IndexOutOfBoundsException") (by decide +kernel)⟩
      · exact Or.inr ⟨by rw [h0]; decide, "java/lang/IllegalArgumentException", by rw [h0]; exact S.2.2.2.2 _ u299, hg.2.2.2.2.2.1 ("java/lang/ArithmeticException", "java/lang/IllegalArgumentException") (by decide +kernel)⟩
      · exact Or.inr ⟨by rw [h0]; decide, "java/lang/IllegalStateException", by rw [h0]; exact S.2.2.2.2 _ u300, hg.2.2.2.2.2.1 ("java/lang/ArithmeticException", "java/lang/IllegalStateException") (by decide +kernel)⟩
      · exact Or.inr ⟨by rw [h0]; decide, "java/lang/UnsupportedOperationException", by rw [h0]; exact S.2.2.2.2 _ u301, hg.2.2.2.2.2.1 ("java/lang/ArithmeticException", "java/lang/UnsupportedOperationException") (by decide +kernel)⟩
      · exact Or.inr ⟨by rw [h0]; decide, "java/util/NoSuchElementException", by rw [h0]; exact S.2.2.2.2 _ u302, hg.2.2.2.2.2.1 ("java/lang/ArithmeticException", "java/util/NoSuchElementException") (by decide +kernel)⟩
    rcases hx1 with ⟨rfl, h9⟩ | ⟨rfl, h9⟩ | ⟨rfl, h9⟩ | ⟨rfl, h9⟩ | ⟨rfl, h9⟩ | ⟨rfl, h9⟩
    · skip
      have hpass_0 : ∀ z ∈ cTabE.take 19, covers z 248 = false ∨ (z.catchType ≠ 0 ∧ ∃ nm : String, (Cond.classLink RL z.catchType nm).before #[.ref (ad 0 0), .int 19, .int p2, .int p3, .int p4] s = true ∧ va_Nc "java/lang/IndexOutOfBoundsException" nm s) := by
        have hc : ∀ z ∈ cTabE.take 19, covers z 248 = false := by decide +kernel
        exact fun z hz => Or.inl (hc z hz)
      refine vx_catch (name := "java/lang/IndexOutOfBoundsException") S.2.2.2.1 (cTabE.take 19) (⟨246, 251, 294, 95⟩ : ExceptionTableEntry) (cTabE.drop 20) (htab.trans rfl) hpass_0 (by decide) (by decide) (S.2.2.2.2 _ u219) (va_Nw.use rfl (hg.2.2.2.2.1.1 ("java/lang/IndexOutOfBoundsException", "java/lang/IndexOutOfBoundsException") (by decide +kernel))) hc1 hc2 hc3 ?_
      refine lv_astore (lv' := [(5, .ref q), (0, .ref (ad 0 0)), (1, .int 19), (2, .int p2), (3, .int p3), (4, .int p4)]) S.1 S.2.1 dL_call_294 hl (by decide) rfl (fun ls hl => ?_)
      refine lv_sipush (v := (-1001)) S.1 S.2.1 dL_call_296 (by decide) ?_
      exact r_iret (y := yL_call) S hr rfl hlk hS (by show _ ≤ mc; omega) (by show _ ≤ ms; omega) dL_call_299 ⟨_, _, ad, rfl, h9, ⟨rfl, rfl⟩, hw⟩
    · skip
      refine vx_catch (name := "java/lang/IllegalArgumentException") S.2.2.2.1 (cTabE.take 45) (⟨246, 251, 300, 97⟩ : ExceptionTableEntry) (cTabE.drop 46) (htab.trans rfl) hpass_1 (by decide) (by decide) (S.2.2.2.2 _ u299) (va_Nw.use rfl (hg.2.2.2.2.1.1 ("java/lang/IllegalArgumentException", "java/lang/IllegalArgumentException") (by decide +kernel))) hc1 hc2 hc3 ?_
      refine lv_astore (lv' := [(5, .ref q), (0, .ref (ad 0 0)), (1, .int 19), (2, .int p2), (3, .int p3), (4, .int p4)]) S.1 S.2.1 dL_call_300 hl (by decide) rfl (fun ls hl => ?_)
      refine lv_sipush (v := (-1002)) S.1 S.2.1 dL_call_302 (by decide) ?_
      exact r_iret (y := yL_call) S hr rfl hlk hS (by show _ ≤ mc; omega) (by show _ ≤ ms; omega) dL_call_305 ⟨_, _, ad, rfl, h9, ⟨rfl, rfl⟩, hw⟩
    · skip
      refine vx_catch (name := "java/lang/IllegalStateException") S.2.2.2.1 (cTabE.take 71) (⟨246, 251, 306, 99⟩ : ExceptionTableEntry) (cTabE.drop 72) (htab.trans rfl) hpass_2 (by decide) (by decide) (S.2.2.2.2 _ u300) (va_Nw.use rfl (hg.2.2.2.2.1.1 ("java/lang/IllegalStateException", "java/lang/IllegalStateException") (by decide +kernel))) hc1 hc2 hc3 ?_
      refine lv_astore (lv' := [(5, .ref q), (0, .ref (ad 0 0)), (1, .int 19), (2, .int p2), (3, .int p3), (4, .int p4)]) S.1 S.2.1 dL_call_306 hl (by decide) rfl (fun ls hl => ?_)
      refine lv_sipush (v := (-1003)) S.1 S.2.1 dL_call_308 (by decide) ?_
      exact r_iret (y := yL_call) S hr rfl hlk hS (by show _ ≤ mc; omega) (by show _ ≤ ms; omega) dL_call_311 ⟨_, _, ad, rfl, h9, ⟨rfl, rfl⟩, hw⟩
    · skip
      refine vx_catch (name := "java/lang/UnsupportedOperationException") S.2.2.2.1 (cTabE.take 97) (⟨246, 251, 312, 101⟩ : ExceptionTableEntry) (cTabE.drop 98) (htab.trans rfl) hpass_3 (by decide) (by decide) (S.2.2.2.2 _ u301) (va_Nw.use rfl (hg.2.2.2.2.1.1 ("java/lang/UnsupportedOperationException", "java/lang/UnsupportedOperationException") (by decide +kernel))) hc1 hc2 hc3 ?_
      refine lv_astore (lv' := [(5, .ref q), (0, .ref (ad 0 0)), (1, .int 19), (2, .int p2), (3, .int p3), (4, .int p4)]) S.1 S.2.1 dL_call_312 hl (by decide) rfl (fun ls hl => ?_)
      refine lv_sipush (v := (-1004)) S.1 S.2.1 dL_call_314 (by decide) ?_
      exact r_iret (y := yL_call) S hr rfl hlk hS (by show _ ≤ mc; omega) (by show _ ≤ ms; omega) dL_call_317 ⟨_, _, ad, rfl, h9, ⟨rfl, rfl⟩, hw⟩
    · skip
      refine vx_catch (name := "java/util/NoSuchElementException") S.2.2.2.1 (cTabE.take 123) (⟨246, 251, 318, 103⟩ : ExceptionTableEntry) (cTabE.drop 124) (htab.trans rfl) hpass_4 (by decide) (by decide) (S.2.2.2.2 _ u302) (va_Nw.use rfl (hg.2.2.2.2.1.1 ("java/util/NoSuchElementException", "java/util/NoSuchElementException") (by decide +kernel))) hc1 hc2 hc3 ?_
      refine lv_astore (lv' := [(5, .ref q), (0, .ref (ad 0 0)), (1, .int 19), (2, .int p2), (3, .int p3), (4, .int p4)]) S.1 S.2.1 dL_call_318 hl (by decide) rfl (fun ls hl => ?_)
      refine lv_sipush (v := (-1005)) S.1 S.2.1 dL_call_320 (by decide) ?_
      exact r_iret (y := yL_call) S hr rfl hlk hS (by show _ ≤ mc; omega) (by show _ ≤ ms; omega) dL_call_323 ⟨_, _, ad, rfl, h9, ⟨rfl, rfl⟩, hw⟩
    · skip
      refine vx_catch (name := "java/lang/ArithmeticException") S.2.2.2.1 (cTabE.take 149) (⟨246, 251, 324, 105⟩ : ExceptionTableEntry) (cTabE.drop 150) (htab.trans rfl) hpass_5 (by decide) (by decide) (S.2.2.2.2 _ u303) (va_Nw.use rfl (hg.2.2.2.2.1.1 ("java/lang/ArithmeticException", "java/lang/ArithmeticException") (by decide +kernel))) hc1 hc2 hc3 ?_
      refine lv_astore (lv' := [(5, .ref q), (0, .ref (ad 0 0)), (1, .int 19), (2, .int p2), (3, .int p3), (4, .int p4)]) S.1 S.2.1 dL_call_324 hl (by decide) rfl (fun ls hl => ?_)
      refine lv_sipush (v := (-1006)) S.1 S.2.1 dL_call_326 (by decide) ?_
      exact r_iret (y := yL_call) S hr rfl hlk hS (by show _ ≤ mc; omega) (by show _ ≤ ms; omega) dL_call_329 ⟨_, _, ad, rfl, h9, ⟨rfl, rfl⟩, hw⟩
  · obtain ⟨r1, K1, rfl, h, hw⟩ := hq
    exact r_iret (y := yL_call) S hr rfl hlk hS (by show _ ≤ mc; omega) (by show _ ≤ ms; omega) dL_call_251 ⟨_, _, ad, rfl, h, ⟨rfl, rfl⟩, hw⟩
def wpL_c20 (post : Int32 → Prop) (mc ms : Nat) (K : KS) (p2 p3 p4 : Int32) : Prop := wpX6_inSnapshot (fun v => post v) (fun E => (E = "java/lang/IndexOutOfBoundsException" ∧ post (-1001)) ∨ (E = "java/lang/IllegalArgumentException" ∧ post (-1002)) ∨ (E = "java/lang/IllegalStateException" ∧ post (-1003)) ∨ (E = "java/lang/UnsupportedOperationException" ∧ post (-1004)) ∨ (E = "java/util/NoSuchElementException" ∧ post (-1005)) ∨ (E = "java/lang/ArithmeticException" ∧ post (-1006))) mc ms K p2 p3 p4
set_option maxHeartbeats 4000000 in
set_option maxRecDepth 100000 in
theorem mtL_c20 {l : Launch} {D : va_G} {cI : Nat → ClassId} {e0 : Nat} {A : Nat → Prop} {ad : Nat → Nat → Nat} {K M : KS} {ap o : Int64} {od : UInt64} {mc ms : Nat} {p2 p3 p4 : Int32} {post : Int32 → Prop} (hfl : l.stackTraces = false) (h : wpL_c20 post mc ms K p2 p3 p4) : CW l D cI e0 A yL_call cL_call 6 (some .int) cTab 9 366 mc ms [.ref (ad 0 0), .int 20, .int p2, .int p3, .int p4] (HT D cI e0 A ad K M ap o od) (qP D cI e0 A ad K M ap o od rI post) := by
  refine CW.of (by decide) (Nat.le_of_ble_eq_true rfl) (fun p e s m below meth c ls FX hw hS hl => ?_)
  obtain ⟨S, hg, hr, hlk, hnm, htab⟩ := FX
  have hl : lv_has ls 6 [(0, .ref (ad 0 0)), (1, .int 20), (2, .int p2), (3, .int p3), (4, .int p4)] := hl
  unfold wpL_c20 at h
  refine lv_iload_n S.1 S.2.1 dL_call_0 rfl (lv_at hl 1 rfl) ?_
  refine lv_tableIn (off := 251) (tgt := 252) S.1 S.2.1 dL_call_1 (by decide) (by decide) (by decide) (by decide) ?_
  refine lv_aload_n S.1 S.2.1 dL_call_252 rfl (lv_at hl 0 rfl) ?_
  refine lv_iload_n S.1 S.2.1 dL_call_253 rfl (lv_at hl 2 rfl) ?_
  refine lv_iload_n S.1 S.2.1 dL_call_254 rfl (lv_at hl 3 rfl) ?_
  refine lv_iload S.1 S.2.1 dL_call_255 (lv_at hl 4 rfl) ?_
  refine r_call (rest := []) S hg hS (mtX6_inSnapshot (mc := mc) (ms := ms) hfl h) u821 u822 u823 u27 u824 hdX6_inSnapshot (rv0 hg hw) hw ⟨Nat.le_of_ble_eq_true rfl, Nat.le_of_ble_eq_true rfl⟩ ⟨by show 0 + mc ≤ mc; omega, by show 0 + ms ≤ ms; omega⟩ hl.1 (Nat.le_of_ble_eq_true rfl) rfl dL_call_257 (fun E ce q H locs hx hS hc1 hc2 hc3 => ?_) (fun rv H locs hq hS => ?_)
  · obtain ⟨hx1, hw⟩ := hx
    have hpass_1 : ∀ z ∈ cTabE.take 46, covers z 257 = false ∨ (z.catchType ≠ 0 ∧ ∃ nm : String, (Cond.classLink RL z.catchType nm).before #[.ref (ad 0 0), .int 20, .int p2, .int p3, .int p4] s = true ∧ va_Nc "java/lang/IllegalArgumentException" nm s) := by
      have hc : ∀ z ∈ cTabE.take 46, covers z 257 = false ∨ z.catchType = 95 := by decide +kernel
      intro z hz
      rcases hc z hz with h0 | h0
      · exact Or.inl h0
      · exact Or.inr ⟨by rw [h0]; decide, "java/lang/IndexOutOfBoundsException", by rw [h0]; exact S.2.2.2.2 _ u219, hg.2.2.2.2.2.1 ("java/lang/IllegalArgumentException", "java/lang/IndexOutOfBoundsException") (by decide +kernel)⟩
    have hpass_2 : ∀ z ∈ cTabE.take 72, covers z 257 = false ∨ (z.catchType ≠ 0 ∧ ∃ nm : String, (Cond.classLink RL z.catchType nm).before #[.ref (ad 0 0), .int 20, .int p2, .int p3, .int p4] s = true ∧ va_Nc "java/lang/IllegalStateException" nm s) := by
      have hc : ∀ z ∈ cTabE.take 72, covers z 257 = false ∨ z.catchType = 95 ∨ z.catchType = 97 := by decide +kernel
      intro z hz
      rcases hc z hz with h0 | h0 | h0
      · exact Or.inl h0
      · exact Or.inr ⟨by rw [h0]; decide, "java/lang/IndexOutOfBoundsException", by rw [h0]; exact S.2.2.2.2 _ u219, hg.2.2.2.2.2.1 ("java/lang/IllegalStateException", "java/lang/IndexOutOfBoundsException") (by decide +kernel)⟩
      · exact Or.inr ⟨by rw [h0]; decide, "java/lang/IllegalArgumentException", by rw [h0]; exact S.2.2.2.2 _ u299, hg.2.2.2.2.2.1 ("java/lang/IllegalStateException", "java/lang/IllegalArgumentException") (by decide +kernel)⟩
    have hpass_3 : ∀ z ∈ cTabE.take 98, covers z 257 = false ∨ (z.catchType ≠ 0 ∧ ∃ nm : String, (Cond.classLink RL z.catchType nm).before #[.ref (ad 0 0), .int 20, .int p2, .int p3, .int p4] s = true ∧ va_Nc "java/lang/UnsupportedOperationException" nm s) := by
      have hc : ∀ z ∈ cTabE.take 98, covers z 257 = false ∨ z.catchType = 95 ∨ z.catchType = 97 ∨ z.catchType = 99 := by decide +kernel
      intro z hz
      rcases hc z hz with h0 | h0 | h0 | h0
      · exact Or.inl h0
      · exact Or.inr ⟨by rw [h0]; decide, "java/lang/IndexOutOfBoundsException", by rw [h0]; exact S.2.2.2.2 _ u219, hg.2.2.2.2.2.1 ("java/lang/UnsupportedOperationException", "java/lang/IndexOutOfBoundsException") (by decide +kernel)⟩
      · exact Or.inr ⟨by rw [h0]; decide, "java/lang/IllegalArgumentException", by rw [h0]; exact S.2.2.2.2 _ u299, hg.2.2.2.2.2.1 ("java/lang/UnsupportedOperationException", "java/lang/IllegalArgumentException") (by decide +kernel)⟩
      · exact Or.inr ⟨by rw [h0]; decide, "java/lang/IllegalStateException", by rw [h0]; exact S.2.2.2.2 _ u300, hg.2.2.2.2.2.1 ("java/lang/UnsupportedOperationException", "java/lang/IllegalStateException") (by decide +kernel)⟩
    have hpass_4 : ∀ z ∈ cTabE.take 124, covers z 257 = false ∨ (z.catchType ≠ 0 ∧ ∃ nm : String, (Cond.classLink RL z.catchType nm).before #[.ref (ad 0 0), .int 20, .int p2, .int p3, .int p4] s = true ∧ va_Nc "java/util/NoSuchElementException" nm s) := by
      have hc : ∀ z ∈ cTabE.take 124, covers z 257 = false ∨ z.catchType = 95 ∨ z.catchType = 97 ∨ z.catchType = 99 ∨ z.catchType = 101 := by decide +kernel
      intro z hz
      rcases hc z hz with h0 | h0 | h0 | h0 | h0
      · exact Or.inl h0
      · exact Or.inr ⟨by rw [h0]; decide, "java/lang/IndexOutOfBoundsException", by rw [h0]; exact S.2.2.2.2 _ u219, hg.2.2.2.2.2.1 ("java/util/NoSuchElementException", "java/lang/IndexOutOfBoundsException") (by decide +kernel)⟩
      · exact Or.inr ⟨by rw [h0]; decide, "java/lang/IllegalArgumentException", by rw [h0]; exact S.2.2.2.2 _ u299, hg.2.2.2.2.2.1 ("java/util/NoSuchElementException", "java/lang/IllegalArgumentException") (by decide +kernel)⟩
      · exact Or.inr ⟨by rw [h0]; decide, "java/lang/IllegalStateException", by rw [h0]; exact S.2.2.2.2 _ u300, hg.2.2.2.2.2.1 ("java/util/NoSuchElementException", "java/lang/IllegalStateException") (by decide +kernel)⟩
      · exact Or.inr ⟨by rw [h0]; decide, "java/lang/UnsupportedOperationException", by rw [h0]; exact S.2.2.2.2 _ u301, hg.2.2.2.2.2.1 ("java/util/NoSuchElementException", "java/lang/UnsupportedOperationException") (by decide +kernel)⟩
    have hpass_5 : ∀ z ∈ cTabE.take 150, covers z 257 = false ∨ (z.catchType ≠ 0 ∧ ∃ nm : String, (Cond.classLink RL z.catchType nm).before #[.ref (ad 0 0), .int 20, .int p2, .int p3, .int p4] s = true ∧ va_Nc "java/lang/ArithmeticException" nm s) := by
      have hc : ∀ z ∈ cTabE.take 150, covers z 257 = false ∨ z.catchType = 95 ∨ z.catchType = 97 ∨ z.catchType = 99 ∨ z.catchType = 101 ∨ z.catchType = 103 := by decide +kernel
      intro z hz
      rcases hc z hz with h0 | h0 | h0 | h0 | h0 | h0
      · exact Or.inl h0
      · exact Or.inr ⟨by rw [h0]; decide, "java/lang/IndexOutOfBoundsException", by rw [h0]; exact S.2.2.2.2 _ u219, hg.2.2.2.2.2.1 ("java/lang/ArithmeticException", "java/lang/IndexOutOfBoundsException") (by decide +kernel)⟩
      · exact Or.inr ⟨by rw [h0]; decide, "java/lang/IllegalArgumentException", by rw [h0]; exact S.2.2.2.2 _ u299, hg.2.2.2.2.2.1 ("java/lang/ArithmeticException", "java/lang/IllegalArgumentException") (by decide +kernel)⟩
      · exact Or.inr ⟨by rw [h0]; decide, "java/lang/IllegalStateException", by rw [h0]; exact S.2.2.2.2 _ u300, hg.2.2.2.2.2.1 ("java/lang/ArithmeticException", "java/lang/IllegalStateException") (by decide +kernel)⟩
      · exact Or.inr ⟨by rw [h0]; decide, "java/lang/UnsupportedOperationException", by rw [h0]; exact S.2.2.2.2 _ u301, hg.2.2.2.2.2.1 ("java/lang/ArithmeticException", "java/lang/UnsupportedOperationException") (by decide +kernel)⟩
      · exact Or.inr ⟨by rw [h0]; decide, "java/util/NoSuchElementException", by rw [h0]; exact S.2.2.2.2 _ u302, hg.2.2.2.2.2.1 ("java/lang/ArithmeticException", "java/util/NoSuchElementException") (by decide +kernel)⟩
    rcases hx1 with ⟨rfl, h9⟩ | ⟨rfl, h9⟩ | ⟨rfl, h9⟩ | ⟨rfl, h9⟩ | ⟨rfl, h9⟩ | ⟨rfl, h9⟩
    · skip
      have hpass_0 : ∀ z ∈ cTabE.take 20, covers z 257 = false ∨ (z.catchType ≠ 0 ∧ ∃ nm : String, (Cond.classLink RL z.catchType nm).before #[.ref (ad 0 0), .int 20, .int p2, .int p3, .int p4] s = true ∧ va_Nc "java/lang/IndexOutOfBoundsException" nm s) := by
        have hc : ∀ z ∈ cTabE.take 20, covers z 257 = false := by decide +kernel
        exact fun z hz => Or.inl (hc z hz)
      refine vx_catch (name := "java/lang/IndexOutOfBoundsException") S.2.2.2.1 (cTabE.take 20) (⟨252, 260, 294, 95⟩ : ExceptionTableEntry) (cTabE.drop 21) (htab.trans rfl) hpass_0 (by decide) (by decide) (S.2.2.2.2 _ u219) (va_Nw.use rfl (hg.2.2.2.2.1.1 ("java/lang/IndexOutOfBoundsException", "java/lang/IndexOutOfBoundsException") (by decide +kernel))) hc1 hc2 hc3 ?_
      refine lv_astore (lv' := [(5, .ref q), (0, .ref (ad 0 0)), (1, .int 20), (2, .int p2), (3, .int p3), (4, .int p4)]) S.1 S.2.1 dL_call_294 hl (by decide) rfl (fun ls hl => ?_)
      refine lv_sipush (v := (-1001)) S.1 S.2.1 dL_call_296 (by decide) ?_
      exact r_iret (y := yL_call) S hr rfl hlk hS (by show _ ≤ mc; omega) (by show _ ≤ ms; omega) dL_call_299 ⟨_, rfl, h9, hw⟩
    · skip
      refine vx_catch (name := "java/lang/IllegalArgumentException") S.2.2.2.1 (cTabE.take 46) (⟨252, 260, 300, 97⟩ : ExceptionTableEntry) (cTabE.drop 47) (htab.trans rfl) hpass_1 (by decide) (by decide) (S.2.2.2.2 _ u299) (va_Nw.use rfl (hg.2.2.2.2.1.1 ("java/lang/IllegalArgumentException", "java/lang/IllegalArgumentException") (by decide +kernel))) hc1 hc2 hc3 ?_
      refine lv_astore (lv' := [(5, .ref q), (0, .ref (ad 0 0)), (1, .int 20), (2, .int p2), (3, .int p3), (4, .int p4)]) S.1 S.2.1 dL_call_300 hl (by decide) rfl (fun ls hl => ?_)
      refine lv_sipush (v := (-1002)) S.1 S.2.1 dL_call_302 (by decide) ?_
      exact r_iret (y := yL_call) S hr rfl hlk hS (by show _ ≤ mc; omega) (by show _ ≤ ms; omega) dL_call_305 ⟨_, rfl, h9, hw⟩
    · skip
      refine vx_catch (name := "java/lang/IllegalStateException") S.2.2.2.1 (cTabE.take 72) (⟨252, 260, 306, 99⟩ : ExceptionTableEntry) (cTabE.drop 73) (htab.trans rfl) hpass_2 (by decide) (by decide) (S.2.2.2.2 _ u300) (va_Nw.use rfl (hg.2.2.2.2.1.1 ("java/lang/IllegalStateException", "java/lang/IllegalStateException") (by decide +kernel))) hc1 hc2 hc3 ?_
      refine lv_astore (lv' := [(5, .ref q), (0, .ref (ad 0 0)), (1, .int 20), (2, .int p2), (3, .int p3), (4, .int p4)]) S.1 S.2.1 dL_call_306 hl (by decide) rfl (fun ls hl => ?_)
      refine lv_sipush (v := (-1003)) S.1 S.2.1 dL_call_308 (by decide) ?_
      exact r_iret (y := yL_call) S hr rfl hlk hS (by show _ ≤ mc; omega) (by show _ ≤ ms; omega) dL_call_311 ⟨_, rfl, h9, hw⟩
    · skip
      refine vx_catch (name := "java/lang/UnsupportedOperationException") S.2.2.2.1 (cTabE.take 98) (⟨252, 260, 312, 101⟩ : ExceptionTableEntry) (cTabE.drop 99) (htab.trans rfl) hpass_3 (by decide) (by decide) (S.2.2.2.2 _ u301) (va_Nw.use rfl (hg.2.2.2.2.1.1 ("java/lang/UnsupportedOperationException", "java/lang/UnsupportedOperationException") (by decide +kernel))) hc1 hc2 hc3 ?_
      refine lv_astore (lv' := [(5, .ref q), (0, .ref (ad 0 0)), (1, .int 20), (2, .int p2), (3, .int p3), (4, .int p4)]) S.1 S.2.1 dL_call_312 hl (by decide) rfl (fun ls hl => ?_)
      refine lv_sipush (v := (-1004)) S.1 S.2.1 dL_call_314 (by decide) ?_
      exact r_iret (y := yL_call) S hr rfl hlk hS (by show _ ≤ mc; omega) (by show _ ≤ ms; omega) dL_call_317 ⟨_, rfl, h9, hw⟩
    · skip
      refine vx_catch (name := "java/util/NoSuchElementException") S.2.2.2.1 (cTabE.take 124) (⟨252, 260, 318, 103⟩ : ExceptionTableEntry) (cTabE.drop 125) (htab.trans rfl) hpass_4 (by decide) (by decide) (S.2.2.2.2 _ u302) (va_Nw.use rfl (hg.2.2.2.2.1.1 ("java/util/NoSuchElementException", "java/util/NoSuchElementException") (by decide +kernel))) hc1 hc2 hc3 ?_
      refine lv_astore (lv' := [(5, .ref q), (0, .ref (ad 0 0)), (1, .int 20), (2, .int p2), (3, .int p3), (4, .int p4)]) S.1 S.2.1 dL_call_318 hl (by decide) rfl (fun ls hl => ?_)
      refine lv_sipush (v := (-1005)) S.1 S.2.1 dL_call_320 (by decide) ?_
      exact r_iret (y := yL_call) S hr rfl hlk hS (by show _ ≤ mc; omega) (by show _ ≤ ms; omega) dL_call_323 ⟨_, rfl, h9, hw⟩
    · skip
      refine vx_catch (name := "java/lang/ArithmeticException") S.2.2.2.1 (cTabE.take 150) (⟨252, 260, 324, 105⟩ : ExceptionTableEntry) (cTabE.drop 151) (htab.trans rfl) hpass_5 (by decide) (by decide) (S.2.2.2.2 _ u303) (va_Nw.use rfl (hg.2.2.2.2.1.1 ("java/lang/ArithmeticException", "java/lang/ArithmeticException") (by decide +kernel))) hc1 hc2 hc3 ?_
      refine lv_astore (lv' := [(5, .ref q), (0, .ref (ad 0 0)), (1, .int 20), (2, .int p2), (3, .int p3), (4, .int p4)]) S.1 S.2.1 dL_call_324 hl (by decide) rfl (fun ls hl => ?_)
      refine lv_sipush (v := (-1006)) S.1 S.2.1 dL_call_326 (by decide) ?_
      exact r_iret (y := yL_call) S hr rfl hlk hS (by show _ ≤ mc; omega) (by show _ ≤ ms; omega) dL_call_329 ⟨_, rfl, h9, hw⟩
  · obtain ⟨r1, rfl, h, hw⟩ := hq
    exact r_iret (y := yL_call) S hr rfl hlk hS (by show _ ≤ mc; omega) (by show _ ≤ ms; omega) dL_call_260 ⟨_, rfl, h, hw⟩
def wpL_c21 (post : Int32 → KS → Prop) (mc ms : Nat) (K : KS) (p2 p3 p4 : Int32) : Prop := wpX6_rollBack (fun v K => post v K) (fun E K => (E = "java/lang/IndexOutOfBoundsException" ∧ post (-1001) K) ∨ (E = "java/lang/IllegalArgumentException" ∧ post (-1002) K) ∨ (E = "java/lang/IllegalStateException" ∧ post (-1003) K) ∨ (E = "java/lang/UnsupportedOperationException" ∧ post (-1004) K) ∨ (E = "java/util/NoSuchElementException" ∧ post (-1005) K) ∨ (E = "java/lang/ArithmeticException" ∧ post (-1006) K)) mc ms K p2 p3
set_option maxHeartbeats 4000000 in
set_option maxRecDepth 100000 in
theorem mtL_c21 {l : Launch} {D : va_G} {cI : Nat → ClassId} {e0 : Nat} {A : Nat → Prop} {ad : Nat → Nat → Nat} {K M : KS} {ap o : Int64} {od : UInt64} {mc ms : Nat} {p2 p3 p4 : Int32} {post : Int32 → KS → Prop} (hfl : l.stackTraces = false) (h : wpL_c21 post mc ms K p2 p3 p4) : CW l D cI e0 A yL_call cL_call 6 (some .int) cTab 9 366 mc ms [.ref (ad 0 0), .int 21, .int p2, .int p3, .int p4] (HT D cI e0 A ad K M ap o od) (qW D cI e0 A ad M ap o od post) := by
  refine CW.of (by decide) (Nat.le_of_ble_eq_true rfl) (fun p e s m below meth c ls FX hw hS hl => ?_)
  obtain ⟨S, hg, hr, hlk, hnm, htab⟩ := FX
  have hl : lv_has ls 6 [(0, .ref (ad 0 0)), (1, .int 21), (2, .int p2), (3, .int p3), (4, .int p4)] := hl
  unfold wpL_c21 at h
  refine lv_iload_n S.1 S.2.1 dL_call_0 rfl (lv_at hl 1 rfl) ?_
  refine lv_tableIn (off := 260) (tgt := 261) S.1 S.2.1 dL_call_1 (by decide) (by decide) (by decide) (by decide) ?_
  refine lv_aload_n S.1 S.2.1 dL_call_261 rfl (lv_at hl 0 rfl) ?_
  refine lv_iload_n S.1 S.2.1 dL_call_262 rfl (lv_at hl 2 rfl) ?_
  refine lv_iload_n S.1 S.2.1 dL_call_263 rfl (lv_at hl 3 rfl) ?_
  refine r_call (rest := []) S hg hS (mtX6_rollBack (mc := mc) (ms := ms) hfl h) u834 u835 u836 u27 u837 hdX6_rollBack (rv0 hg hw) hw ⟨Nat.le_of_ble_eq_true rfl, Nat.le_of_ble_eq_true rfl⟩ ⟨by show 0 + mc ≤ mc; omega, by show 0 + ms ≤ ms; omega⟩ hl.1 (Nat.le_of_ble_eq_true rfl) rfl dL_call_264 (fun E ce q H locs hx hS hc1 hc2 hc3 => ?_) (fun rv H locs hq hS => ?_)
  · obtain ⟨K, hx1, hw⟩ := hx
    have hpass_1 : ∀ z ∈ cTabE.take 47, covers z 264 = false ∨ (z.catchType ≠ 0 ∧ ∃ nm : String, (Cond.classLink RL z.catchType nm).before #[.ref (ad 0 0), .int 21, .int p2, .int p3, .int p4] s = true ∧ va_Nc "java/lang/IllegalArgumentException" nm s) := by
      have hc : ∀ z ∈ cTabE.take 47, covers z 264 = false ∨ z.catchType = 95 := by decide +kernel
      intro z hz
      rcases hc z hz with h0 | h0
      · exact Or.inl h0
      · exact Or.inr ⟨by rw [h0]; decide, "java/lang/IndexOutOfBoundsException", by rw [h0]; exact S.2.2.2.2 _ u219, hg.2.2.2.2.2.1 ("java/lang/IllegalArgumentException", "java/lang/IndexOutOfBoundsException") (by decide +kernel)⟩
    have hpass_2 : ∀ z ∈ cTabE.take 73, covers z 264 = false ∨ (z.catchType ≠ 0 ∧ ∃ nm : String, (Cond.classLink RL z.catchType nm).before #[.ref (ad 0 0), .int 21, .int p2, .int p3, .int p4] s = true ∧ va_Nc "java/lang/IllegalStateException" nm s) := by
      have hc : ∀ z ∈ cTabE.take 73, covers z 264 = false ∨ z.catchType = 95 ∨ z.catchType = 97 := by decide +kernel
      intro z hz
      rcases hc z hz with h0 | h0 | h0
      · exact Or.inl h0
      · exact Or.inr ⟨by rw [h0]; decide, "java/lang/IndexOutOfBoundsException", by rw [h0]; exact S.2.2.2.2 _ u219, hg.2.2.2.2.2.1 ("java/lang/IllegalStateException", "java/lang/IndexOutOfBoundsException") (by decide +kernel)⟩
      · exact Or.inr ⟨by rw [h0]; decide, "java/lang/IllegalArgumentException", by rw [h0]; exact S.2.2.2.2 _ u299, hg.2.2.2.2.2.1 ("java/lang/IllegalStateException", "java/lang/IllegalArgumentException") (by decide +kernel)⟩
    have hpass_3 : ∀ z ∈ cTabE.take 99, covers z 264 = false ∨ (z.catchType ≠ 0 ∧ ∃ nm : String, (Cond.classLink RL z.catchType nm).before #[.ref (ad 0 0), .int 21, .int p2, .int p3, .int p4] s = true ∧ va_Nc "java/lang/UnsupportedOperationException" nm s) := by
      have hc : ∀ z ∈ cTabE.take 99, covers z 264 = false ∨ z.catchType = 95 ∨ z.catchType = 97 ∨ z.catchType = 99 := by decide +kernel
      intro z hz
      rcases hc z hz with h0 | h0 | h0 | h0
      · exact Or.inl h0
      · exact Or.inr ⟨by rw [h0]; decide, "java/lang/IndexOutOfBoundsException", by rw [h0]; exact S.2.2.2.2 _ u219, hg.2.2.2.2.2.1 ("java/lang/UnsupportedOperationException", "java/lang/IndexOutOfBoundsException") (by decide +kernel)⟩
      · exact Or.inr ⟨by rw [h0]; decide, "java/lang/IllegalArgumentException", by rw [h0]; exact S.2.2.2.2 _ u299, hg.2.2.2.2.2.1 ("java/lang/UnsupportedOperationException", "java/lang/IllegalArgumentException") (by decide +kernel)⟩
      · exact Or.inr ⟨by rw [h0]; decide, "java/lang/IllegalStateException", by rw [h0]; exact S.2.2.2.2 _ u300, hg.2.2.2.2.2.1 ("java/lang/UnsupportedOperationException", "java/lang/IllegalStateException") (by decide +kernel)⟩
    have hpass_4 : ∀ z ∈ cTabE.take 125, covers z 264 = false ∨ (z.catchType ≠ 0 ∧ ∃ nm : String, (Cond.classLink RL z.catchType nm).before #[.ref (ad 0 0), .int 21, .int p2, .int p3, .int p4] s = true ∧ va_Nc "java/util/NoSuchElementException" nm s) := by
      have hc : ∀ z ∈ cTabE.take 125, covers z 264 = false ∨ z.catchType = 95 ∨ z.catchType = 97 ∨ z.catchType = 99 ∨ z.catchType = 101 := by decide +kernel
      intro z hz
      rcases hc z hz with h0 | h0 | h0 | h0 | h0
      · exact Or.inl h0
      · exact Or.inr ⟨by rw [h0]; decide, "java/lang/IndexOutOfBoundsException", by rw [h0]; exact S.2.2.2.2 _ u219, hg.2.2.2.2.2.1 ("java/util/NoSuchElementException", "java/lang/IndexOutOfBoundsException") (by decide +kernel)⟩
      · exact Or.inr ⟨by rw [h0]; decide, "java/lang/IllegalArgumentException", by rw [h0]; exact S.2.2.2.2 _ u299, hg.2.2.2.2.2.1 ("java/util/NoSuchElementException", "java/lang/IllegalArgumentException") (by decide +kernel)⟩
      · exact Or.inr ⟨by rw [h0]; decide, "java/lang/IllegalStateException", by rw [h0]; exact S.2.2.2.2 _ u300, hg.2.2.2.2.2.1 ("java/util/NoSuchElementException", "java/lang/IllegalStateException") (by decide +kernel)⟩
      · exact Or.inr ⟨by rw [h0]; decide, "java/lang/UnsupportedOperationException", by rw [h0]; exact S.2.2.2.2 _ u301, hg.2.2.2.2.2.1 ("java/util/NoSuchElementException", "java/lang/UnsupportedOperationException") (by decide +kernel)⟩
    have hpass_5 : ∀ z ∈ cTabE.take 151, covers z 264 = false ∨ (z.catchType ≠ 0 ∧ ∃ nm : String, (Cond.classLink RL z.catchType nm).before #[.ref (ad 0 0), .int 21, .int p2, .int p3, .int p4] s = true ∧ va_Nc "java/lang/ArithmeticException" nm s) := by
      have hc : ∀ z ∈ cTabE.take 151, covers z 264 = false ∨ z.catchType = 95 ∨ z.catchType = 97 ∨ z.catchType = 99 ∨ z.catchType = 101 ∨ z.catchType = 103 := by decide +kernel
      intro z hz
      rcases hc z hz with h0 | h0 | h0 | h0 | h0 | h0
      · exact Or.inl h0
      · exact Or.inr ⟨by rw [h0]; decide, "java/lang/IndexOutOfBoundsException", by rw [h0]; exact S.2.2.2.2 _ u219, hg.2.2.2.2.2.1 ("java/lang/ArithmeticException", "java/lang/IndexOutOfBoundsException") (by decide +kernel)⟩
      · exact Or.inr ⟨by rw [h0]; decide, "java/lang/IllegalArgumentException", by rw [h0]; exact S.2.2.2.2 _ u299, hg.2.2.2.2.2.1 ("java/lang/ArithmeticException", "java/lang/IllegalArgumentException") (by decide +kernel)⟩
      · exact Or.inr ⟨by rw [h0]; decide, "java/lang/IllegalStateException", by rw [h0]; exact S.2.2.2.2 _ u300, hg.2.2.2.2.2.1 ("java/lang/ArithmeticException", "java/lang/IllegalStateException") (by decide +kernel)⟩
      · exact Or.inr ⟨by rw [h0]; decide, "java/lang/UnsupportedOperationException", by rw [h0]; exact S.2.2.2.2 _ u301, hg.2.2.2.2.2.1 ("java/lang/ArithmeticException", "java/lang/UnsupportedOperationException") (by decide +kernel)⟩
      · exact Or.inr ⟨by rw [h0]; decide, "java/util/NoSuchElementException", by rw [h0]; exact S.2.2.2.2 _ u302, hg.2.2.2.2.2.1 ("java/lang/ArithmeticException", "java/util/NoSuchElementException") (by decide +kernel)⟩
    rcases hx1 with ⟨rfl, h9⟩ | ⟨rfl, h9⟩ | ⟨rfl, h9⟩ | ⟨rfl, h9⟩ | ⟨rfl, h9⟩ | ⟨rfl, h9⟩
    · skip
      have hpass_0 : ∀ z ∈ cTabE.take 21, covers z 264 = false ∨ (z.catchType ≠ 0 ∧ ∃ nm : String, (Cond.classLink RL z.catchType nm).before #[.ref (ad 0 0), .int 21, .int p2, .int p3, .int p4] s = true ∧ va_Nc "java/lang/IndexOutOfBoundsException" nm s) := by
        have hc : ∀ z ∈ cTabE.take 21, covers z 264 = false := by decide +kernel
        exact fun z hz => Or.inl (hc z hz)
      refine vx_catch (name := "java/lang/IndexOutOfBoundsException") S.2.2.2.1 (cTabE.take 21) (⟨261, 267, 294, 95⟩ : ExceptionTableEntry) (cTabE.drop 22) (htab.trans rfl) hpass_0 (by decide) (by decide) (S.2.2.2.2 _ u219) (va_Nw.use rfl (hg.2.2.2.2.1.1 ("java/lang/IndexOutOfBoundsException", "java/lang/IndexOutOfBoundsException") (by decide +kernel))) hc1 hc2 hc3 ?_
      refine lv_astore (lv' := [(5, .ref q), (0, .ref (ad 0 0)), (1, .int 21), (2, .int p2), (3, .int p3), (4, .int p4)]) S.1 S.2.1 dL_call_294 hl (by decide) rfl (fun ls hl => ?_)
      refine lv_sipush (v := (-1001)) S.1 S.2.1 dL_call_296 (by decide) ?_
      exact r_iret (y := yL_call) S hr rfl hlk hS (by show _ ≤ mc; omega) (by show _ ≤ ms; omega) dL_call_299 ⟨_, _, ad, rfl, h9, ⟨rfl, rfl⟩, hw⟩
    · skip
      refine vx_catch (name := "java/lang/IllegalArgumentException") S.2.2.2.1 (cTabE.take 47) (⟨261, 267, 300, 97⟩ : ExceptionTableEntry) (cTabE.drop 48) (htab.trans rfl) hpass_1 (by decide) (by decide) (S.2.2.2.2 _ u299) (va_Nw.use rfl (hg.2.2.2.2.1.1 ("java/lang/IllegalArgumentException", "java/lang/IllegalArgumentException") (by decide +kernel))) hc1 hc2 hc3 ?_
      refine lv_astore (lv' := [(5, .ref q), (0, .ref (ad 0 0)), (1, .int 21), (2, .int p2), (3, .int p3), (4, .int p4)]) S.1 S.2.1 dL_call_300 hl (by decide) rfl (fun ls hl => ?_)
      refine lv_sipush (v := (-1002)) S.1 S.2.1 dL_call_302 (by decide) ?_
      exact r_iret (y := yL_call) S hr rfl hlk hS (by show _ ≤ mc; omega) (by show _ ≤ ms; omega) dL_call_305 ⟨_, _, ad, rfl, h9, ⟨rfl, rfl⟩, hw⟩
    · skip
      refine vx_catch (name := "java/lang/IllegalStateException") S.2.2.2.1 (cTabE.take 73) (⟨261, 267, 306, 99⟩ : ExceptionTableEntry) (cTabE.drop 74) (htab.trans rfl) hpass_2 (by decide) (by decide) (S.2.2.2.2 _ u300) (va_Nw.use rfl (hg.2.2.2.2.1.1 ("java/lang/IllegalStateException", "java/lang/IllegalStateException") (by decide +kernel))) hc1 hc2 hc3 ?_
      refine lv_astore (lv' := [(5, .ref q), (0, .ref (ad 0 0)), (1, .int 21), (2, .int p2), (3, .int p3), (4, .int p4)]) S.1 S.2.1 dL_call_306 hl (by decide) rfl (fun ls hl => ?_)
      refine lv_sipush (v := (-1003)) S.1 S.2.1 dL_call_308 (by decide) ?_
      exact r_iret (y := yL_call) S hr rfl hlk hS (by show _ ≤ mc; omega) (by show _ ≤ ms; omega) dL_call_311 ⟨_, _, ad, rfl, h9, ⟨rfl, rfl⟩, hw⟩
    · skip
      refine vx_catch (name := "java/lang/UnsupportedOperationException") S.2.2.2.1 (cTabE.take 99) (⟨261, 267, 312, 101⟩ : ExceptionTableEntry) (cTabE.drop 100) (htab.trans rfl) hpass_3 (by decide) (by decide) (S.2.2.2.2 _ u301) (va_Nw.use rfl (hg.2.2.2.2.1.1 ("java/lang/UnsupportedOperationException", "java/lang/UnsupportedOperationException") (by decide +kernel))) hc1 hc2 hc3 ?_
      refine lv_astore (lv' := [(5, .ref q), (0, .ref (ad 0 0)), (1, .int 21), (2, .int p2), (3, .int p3), (4, .int p4)]) S.1 S.2.1 dL_call_312 hl (by decide) rfl (fun ls hl => ?_)
      refine lv_sipush (v := (-1004)) S.1 S.2.1 dL_call_314 (by decide) ?_
      exact r_iret (y := yL_call) S hr rfl hlk hS (by show _ ≤ mc; omega) (by show _ ≤ ms; omega) dL_call_317 ⟨_, _, ad, rfl, h9, ⟨rfl, rfl⟩, hw⟩
    · skip
      refine vx_catch (name := "java/util/NoSuchElementException") S.2.2.2.1 (cTabE.take 125) (⟨261, 267, 318, 103⟩ : ExceptionTableEntry) (cTabE.drop 126) (htab.trans rfl) hpass_4 (by decide) (by decide) (S.2.2.2.2 _ u302) (va_Nw.use rfl (hg.2.2.2.2.1.1 ("java/util/NoSuchElementException", "java/util/NoSuchElementException") (by decide +kernel))) hc1 hc2 hc3 ?_
      refine lv_astore (lv' := [(5, .ref q), (0, .ref (ad 0 0)), (1, .int 21), (2, .int p2), (3, .int p3), (4, .int p4)]) S.1 S.2.1 dL_call_318 hl (by decide) rfl (fun ls hl => ?_)
      refine lv_sipush (v := (-1005)) S.1 S.2.1 dL_call_320 (by decide) ?_
      exact r_iret (y := yL_call) S hr rfl hlk hS (by show _ ≤ mc; omega) (by show _ ≤ ms; omega) dL_call_323 ⟨_, _, ad, rfl, h9, ⟨rfl, rfl⟩, hw⟩
    · skip
      refine vx_catch (name := "java/lang/ArithmeticException") S.2.2.2.1 (cTabE.take 151) (⟨261, 267, 324, 105⟩ : ExceptionTableEntry) (cTabE.drop 152) (htab.trans rfl) hpass_5 (by decide) (by decide) (S.2.2.2.2 _ u303) (va_Nw.use rfl (hg.2.2.2.2.1.1 ("java/lang/ArithmeticException", "java/lang/ArithmeticException") (by decide +kernel))) hc1 hc2 hc3 ?_
      refine lv_astore (lv' := [(5, .ref q), (0, .ref (ad 0 0)), (1, .int 21), (2, .int p2), (3, .int p3), (4, .int p4)]) S.1 S.2.1 dL_call_324 hl (by decide) rfl (fun ls hl => ?_)
      refine lv_sipush (v := (-1006)) S.1 S.2.1 dL_call_326 (by decide) ?_
      exact r_iret (y := yL_call) S hr rfl hlk hS (by show _ ≤ mc; omega) (by show _ ≤ ms; omega) dL_call_329 ⟨_, _, ad, rfl, h9, ⟨rfl, rfl⟩, hw⟩
  · obtain ⟨r1, K1, rfl, h, hw⟩ := hq
    exact r_iret (y := yL_call) S hr rfl hlk hS (by show _ ≤ mc; omega) (by show _ ≤ ms; omega) dL_call_267 ⟨_, _, ad, rfl, h, ⟨rfl, rfl⟩, hw⟩
def wpL_c22 (post : Int32 → KS → Prop) (mc ms : Nat) (K : KS) (p2 p3 p4 : Int32) : Prop := wpX6_offer (fun v K => post v K) (fun E K => (E = "java/lang/IndexOutOfBoundsException" ∧ post (-1001) K) ∨ (E = "java/lang/IllegalArgumentException" ∧ post (-1002) K) ∨ (E = "java/lang/IllegalStateException" ∧ post (-1003) K) ∨ (E = "java/lang/UnsupportedOperationException" ∧ post (-1004) K) ∨ (E = "java/util/NoSuchElementException" ∧ post (-1005) K) ∨ (E = "java/lang/ArithmeticException" ∧ post (-1006) K)) mc ms K p2 p3
set_option maxHeartbeats 4000000 in
set_option maxRecDepth 100000 in
theorem mtL_c22 {l : Launch} {D : va_G} {cI : Nat → ClassId} {e0 : Nat} {A : Nat → Prop} {ad : Nat → Nat → Nat} {K M : KS} {ap o : Int64} {od : UInt64} {mc ms : Nat} {p2 p3 p4 : Int32} {post : Int32 → KS → Prop} (hfl : l.stackTraces = false) (h : wpL_c22 post mc ms K p2 p3 p4) : CW l D cI e0 A yL_call cL_call 6 (some .int) cTab 9 366 mc ms [.ref (ad 0 0), .int 22, .int p2, .int p3, .int p4] (HT D cI e0 A ad K M ap o od) (qW D cI e0 A ad M ap o od post) := by
  refine CW.of (by decide) (Nat.le_of_ble_eq_true rfl) (fun p e s m below meth c ls FX hw hS hl => ?_)
  obtain ⟨S, hg, hr, hlk, hnm, htab⟩ := FX
  have hl : lv_has ls 6 [(0, .ref (ad 0 0)), (1, .int 22), (2, .int p2), (3, .int p3), (4, .int p4)] := hl
  unfold wpL_c22 at h
  refine lv_iload_n S.1 S.2.1 dL_call_0 rfl (lv_at hl 1 rfl) ?_
  refine lv_tableIn (off := 267) (tgt := 268) S.1 S.2.1 dL_call_1 (by decide) (by decide) (by decide) (by decide) ?_
  refine lv_aload_n S.1 S.2.1 dL_call_268 rfl (lv_at hl 0 rfl) ?_
  refine lv_iload_n S.1 S.2.1 dL_call_269 rfl (lv_at hl 2 rfl) ?_
  refine lv_iload_n S.1 S.2.1 dL_call_270 rfl (lv_at hl 3 rfl) ?_
  refine r_call (rest := []) S hg hS (mtX6_offer (mc := mc) (ms := ms) hfl h) u865 u866 u867 u27 u868 hdX6_offer (rv0 hg hw) hw ⟨Nat.le_of_ble_eq_true rfl, Nat.le_of_ble_eq_true rfl⟩ ⟨by show 0 + mc ≤ mc; omega, by show 0 + ms ≤ ms; omega⟩ hl.1 (Nat.le_of_ble_eq_true rfl) rfl dL_call_271 (fun E ce q H locs hx hS hc1 hc2 hc3 => ?_) (fun rv H locs hq hS => ?_)
  · obtain ⟨K, hx1, hw⟩ := hx
    have hpass_1 : ∀ z ∈ cTabE.take 48, covers z 271 = false ∨ (z.catchType ≠ 0 ∧ ∃ nm : String, (Cond.classLink RL z.catchType nm).before #[.ref (ad 0 0), .int 22, .int p2, .int p3, .int p4] s = true ∧ va_Nc "java/lang/IllegalArgumentException" nm s) := by
      have hc : ∀ z ∈ cTabE.take 48, covers z 271 = false ∨ z.catchType = 95 := by decide +kernel
      intro z hz
      rcases hc z hz with h0 | h0
      · exact Or.inl h0
      · exact Or.inr ⟨by rw [h0]; decide, "java/lang/IndexOutOfBoundsException", by rw [h0]; exact S.2.2.2.2 _ u219, hg.2.2.2.2.2.1 ("java/lang/IllegalArgumentException", "java/lang/IndexOutOfBoundsException") (by decide +kernel)⟩
    have hpass_2 : ∀ z ∈ cTabE.take 74, covers z 271 = false ∨ (z.catchType ≠ 0 ∧ ∃ nm : String, (Cond.classLink RL z.catchType nm).before #[.ref (ad 0 0), .int 22, .int p2, .int p3, .int p4] s = true ∧ va_Nc "java/lang/IllegalStateException" nm s) := by
      have hc : ∀ z ∈ cTabE.take 74, covers z 271 = false ∨ z.catchType = 95 ∨ z.catchType = 97 := by decide +kernel
      intro z hz
      rcases hc z hz with h0 | h0 | h0
      · exact Or.inl h0
      · exact Or.inr ⟨by rw [h0]; decide, "java/lang/IndexOutOfBoundsException", by rw [h0]; exact S.2.2.2.2 _ u219, hg.2.2.2.2.2.1 ("java/lang/IllegalStateException", "java/lang/IndexOutOfBoundsException") (by decide +kernel)⟩
      · exact Or.inr ⟨by rw [h0]; decide, "java/lang/IllegalArgumentException", by rw [h0]; exact S.2.2.2.2 _ u299, hg.2.2.2.2.2.1 ("java/lang/IllegalStateException", "java/lang/IllegalArgumentException") (by decide +kernel)⟩
    have hpass_3 : ∀ z ∈ cTabE.take 100, covers z 271 = false ∨ (z.catchType ≠ 0 ∧ ∃ nm : String, (Cond.classLink RL z.catchType nm).before #[.ref (ad 0 0), .int 22, .int p2, .int p3, .int p4] s = true ∧ va_Nc "java/lang/UnsupportedOperationException" nm s) := by
      have hc : ∀ z ∈ cTabE.take 100, covers z 271 = false ∨ z.catchType = 95 ∨ z.catchType = 97 ∨ z.catchType = 99 := by decide +kernel
      intro z hz
      rcases hc z hz with h0 | h0 | h0 | h0
      · exact Or.inl h0
      · exact Or.inr ⟨by rw [h0]; decide, "java/lang/IndexOutOfBoundsException", by rw [h0]; exact S.2.2.2.2 _ u219, hg.2.2.2.2.2.1 ("java/lang/UnsupportedOperationException", "java/lang/IndexOutOfBoundsException") (by decide +kernel)⟩
      · exact Or.inr ⟨by rw [h0]; decide, "java/lang/IllegalArgumentException", by rw [h0]; exact S.2.2.2.2 _ u299, hg.2.2.2.2.2.1 ("java/lang/UnsupportedOperationException", "java/lang/IllegalArgumentException") (by decide +kernel)⟩
      · exact Or.inr ⟨by rw [h0]; decide, "java/lang/IllegalStateException", by rw [h0]; exact S.2.2.2.2 _ u300, hg.2.2.2.2.2.1 ("java/lang/UnsupportedOperationException", "java/lang/IllegalStateException") (by decide +kernel)⟩
    have hpass_4 : ∀ z ∈ cTabE.take 126, covers z 271 = false ∨ (z.catchType ≠ 0 ∧ ∃ nm : String, (Cond.classLink RL z.catchType nm).before #[.ref (ad 0 0), .int 22, .int p2, .int p3, .int p4] s = true ∧ va_Nc "java/util/NoSuchElementException" nm s) := by
      have hc : ∀ z ∈ cTabE.take 126, covers z 271 = false ∨ z.catchType = 95 ∨ z.catchType = 97 ∨ z.catchType = 99 ∨ z.catchType = 101 := by decide +kernel
      intro z hz
      rcases hc z hz with h0 | h0 | h0 | h0 | h0
      · exact Or.inl h0
      · exact Or.inr ⟨by rw [h0]; decide, "java/lang/IndexOutOfBoundsException", by rw [h0]; exact S.2.2.2.2 _ u219, hg.2.2.2.2.2.1 ("java/util/NoSuchElementException", "java/lang/IndexOutOfBoundsException") (by decide +kernel)⟩
      · exact Or.inr ⟨by rw [h0]; decide, "java/lang/IllegalArgumentException", by rw [h0]; exact S.2.2.2.2 _ u299, hg.2.2.2.2.2.1 ("java/util/NoSuchElementException", "java/lang/IllegalArgumentException") (by decide +kernel)⟩
      · exact Or.inr ⟨by rw [h0]; decide, "java/lang/IllegalStateException", by rw [h0]; exact S.2.2.2.2 _ u300, hg.2.2.2.2.2.1 ("java/util/NoSuchElementException", "java/lang/IllegalStateException") (by decide +kernel)⟩
      · exact Or.inr ⟨by rw [h0]; decide, "java/lang/UnsupportedOperationException", by rw [h0]; exact S.2.2.2.2 _ u301, hg.2.2.2.2.2.1 ("java/util/NoSuchElementException", "java/lang/UnsupportedOperationException") (by decide +kernel)⟩
    have hpass_5 : ∀ z ∈ cTabE.take 152, covers z 271 = false ∨ (z.catchType ≠ 0 ∧ ∃ nm : String, (Cond.classLink RL z.catchType nm).before #[.ref (ad 0 0), .int 22, .int p2, .int p3, .int p4] s = true ∧ va_Nc "java/lang/ArithmeticException" nm s) := by
      have hc : ∀ z ∈ cTabE.take 152, covers z 271 = false ∨ z.catchType = 95 ∨ z.catchType = 97 ∨ z.catchType = 99 ∨ z.catchType = 101 ∨ z.catchType = 103 := by decide +kernel
      intro z hz
      rcases hc z hz with h0 | h0 | h0 | h0 | h0 | h0
      · exact Or.inl h0
      · exact Or.inr ⟨by rw [h0]; decide, "java/lang/IndexOutOfBoundsException", by rw [h0]; exact S.2.2.2.2 _ u219, hg.2.2.2.2.2.1 ("java/lang/ArithmeticException", "java/lang/IndexOutOfBoundsException") (by decide +kernel)⟩
      · exact Or.inr ⟨by rw [h0]; decide, "java/lang/IllegalArgumentException", by rw [h0]; exact S.2.2.2.2 _ u299, hg.2.2.2.2.2.1 ("java/lang/ArithmeticException", "java/lang/IllegalArgumentException") (by decide +kernel)⟩
      · exact Or.inr ⟨by rw [h0]; decide, "java/lang/IllegalStateException", by rw [h0]; exact S.2.2.2.2 _ u300, hg.2.2.2.2.2.1 ("java/lang/ArithmeticException", "java/lang/IllegalStateException") (by decide +kernel)⟩
      · exact Or.inr ⟨by rw [h0]; decide, "java/lang/UnsupportedOperationException", by rw [h0]; exact S.2.2.2.2 _ u301, hg.2.2.2.2.2.1 ("java/lang/ArithmeticException", "java/lang/UnsupportedOperationException") (by decide +kernel)⟩
      · exact Or.inr ⟨by rw [h0]; decide, "java/util/NoSuchElementException", by rw [h0]; exact S.2.2.2.2 _ u302, hg.2.2.2.2.2.1 ("java/lang/ArithmeticException", "java/util/NoSuchElementException") (by decide +kernel)⟩
    rcases hx1 with ⟨rfl, h9⟩ | ⟨rfl, h9⟩ | ⟨rfl, h9⟩ | ⟨rfl, h9⟩ | ⟨rfl, h9⟩ | ⟨rfl, h9⟩
    · skip
      have hpass_0 : ∀ z ∈ cTabE.take 22, covers z 271 = false ∨ (z.catchType ≠ 0 ∧ ∃ nm : String, (Cond.classLink RL z.catchType nm).before #[.ref (ad 0 0), .int 22, .int p2, .int p3, .int p4] s = true ∧ va_Nc "java/lang/IndexOutOfBoundsException" nm s) := by
        have hc : ∀ z ∈ cTabE.take 22, covers z 271 = false := by decide +kernel
        exact fun z hz => Or.inl (hc z hz)
      refine vx_catch (name := "java/lang/IndexOutOfBoundsException") S.2.2.2.1 (cTabE.take 22) (⟨268, 274, 294, 95⟩ : ExceptionTableEntry) (cTabE.drop 23) (htab.trans rfl) hpass_0 (by decide) (by decide) (S.2.2.2.2 _ u219) (va_Nw.use rfl (hg.2.2.2.2.1.1 ("java/lang/IndexOutOfBoundsException", "java/lang/IndexOutOfBoundsException") (by decide +kernel))) hc1 hc2 hc3 ?_
      refine lv_astore (lv' := [(5, .ref q), (0, .ref (ad 0 0)), (1, .int 22), (2, .int p2), (3, .int p3), (4, .int p4)]) S.1 S.2.1 dL_call_294 hl (by decide) rfl (fun ls hl => ?_)
      refine lv_sipush (v := (-1001)) S.1 S.2.1 dL_call_296 (by decide) ?_
      exact r_iret (y := yL_call) S hr rfl hlk hS (by show _ ≤ mc; omega) (by show _ ≤ ms; omega) dL_call_299 ⟨_, _, ad, rfl, h9, ⟨rfl, rfl⟩, hw⟩
    · skip
      refine vx_catch (name := "java/lang/IllegalArgumentException") S.2.2.2.1 (cTabE.take 48) (⟨268, 274, 300, 97⟩ : ExceptionTableEntry) (cTabE.drop 49) (htab.trans rfl) hpass_1 (by decide) (by decide) (S.2.2.2.2 _ u299) (va_Nw.use rfl (hg.2.2.2.2.1.1 ("java/lang/IllegalArgumentException", "java/lang/IllegalArgumentException") (by decide +kernel))) hc1 hc2 hc3 ?_
      refine lv_astore (lv' := [(5, .ref q), (0, .ref (ad 0 0)), (1, .int 22), (2, .int p2), (3, .int p3), (4, .int p4)]) S.1 S.2.1 dL_call_300 hl (by decide) rfl (fun ls hl => ?_)
      refine lv_sipush (v := (-1002)) S.1 S.2.1 dL_call_302 (by decide) ?_
      exact r_iret (y := yL_call) S hr rfl hlk hS (by show _ ≤ mc; omega) (by show _ ≤ ms; omega) dL_call_305 ⟨_, _, ad, rfl, h9, ⟨rfl, rfl⟩, hw⟩
    · skip
      refine vx_catch (name := "java/lang/IllegalStateException") S.2.2.2.1 (cTabE.take 74) (⟨268, 274, 306, 99⟩ : ExceptionTableEntry) (cTabE.drop 75) (htab.trans rfl) hpass_2 (by decide) (by decide) (S.2.2.2.2 _ u300) (va_Nw.use rfl (hg.2.2.2.2.1.1 ("java/lang/IllegalStateException", "java/lang/IllegalStateException") (by decide +kernel))) hc1 hc2 hc3 ?_
      refine lv_astore (lv' := [(5, .ref q), (0, .ref (ad 0 0)), (1, .int 22), (2, .int p2), (3, .int p3), (4, .int p4)]) S.1 S.2.1 dL_call_306 hl (by decide) rfl (fun ls hl => ?_)
      refine lv_sipush (v := (-1003)) S.1 S.2.1 dL_call_308 (by decide) ?_
      exact r_iret (y := yL_call) S hr rfl hlk hS (by show _ ≤ mc; omega) (by show _ ≤ ms; omega) dL_call_311 ⟨_, _, ad, rfl, h9, ⟨rfl, rfl⟩, hw⟩
    · skip
      refine vx_catch (name := "java/lang/UnsupportedOperationException") S.2.2.2.1 (cTabE.take 100) (⟨268, 274, 312, 101⟩ : ExceptionTableEntry) (cTabE.drop 101) (htab.trans rfl) hpass_3 (by decide) (by decide) (S.2.2.2.2 _ u301) (va_Nw.use rfl (hg.2.2.2.2.1.1 ("java/lang/UnsupportedOperationException", "java/lang/UnsupportedOperationException") (by decide +kernel))) hc1 hc2 hc3 ?_
      refine lv_astore (lv' := [(5, .ref q), (0, .ref (ad 0 0)), (1, .int 22), (2, .int p2), (3, .int p3), (4, .int p4)]) S.1 S.2.1 dL_call_312 hl (by decide) rfl (fun ls hl => ?_)
      refine lv_sipush (v := (-1004)) S.1 S.2.1 dL_call_314 (by decide) ?_
      exact r_iret (y := yL_call) S hr rfl hlk hS (by show _ ≤ mc; omega) (by show _ ≤ ms; omega) dL_call_317 ⟨_, _, ad, rfl, h9, ⟨rfl, rfl⟩, hw⟩
    · skip
      refine vx_catch (name := "java/util/NoSuchElementException") S.2.2.2.1 (cTabE.take 126) (⟨268, 274, 318, 103⟩ : ExceptionTableEntry) (cTabE.drop 127) (htab.trans rfl) hpass_4 (by decide) (by decide) (S.2.2.2.2 _ u302) (va_Nw.use rfl (hg.2.2.2.2.1.1 ("java/util/NoSuchElementException", "java/util/NoSuchElementException") (by decide +kernel))) hc1 hc2 hc3 ?_
      refine lv_astore (lv' := [(5, .ref q), (0, .ref (ad 0 0)), (1, .int 22), (2, .int p2), (3, .int p3), (4, .int p4)]) S.1 S.2.1 dL_call_318 hl (by decide) rfl (fun ls hl => ?_)
      refine lv_sipush (v := (-1005)) S.1 S.2.1 dL_call_320 (by decide) ?_
      exact r_iret (y := yL_call) S hr rfl hlk hS (by show _ ≤ mc; omega) (by show _ ≤ ms; omega) dL_call_323 ⟨_, _, ad, rfl, h9, ⟨rfl, rfl⟩, hw⟩
    · skip
      refine vx_catch (name := "java/lang/ArithmeticException") S.2.2.2.1 (cTabE.take 152) (⟨268, 274, 324, 105⟩ : ExceptionTableEntry) (cTabE.drop 153) (htab.trans rfl) hpass_5 (by decide) (by decide) (S.2.2.2.2 _ u303) (va_Nw.use rfl (hg.2.2.2.2.1.1 ("java/lang/ArithmeticException", "java/lang/ArithmeticException") (by decide +kernel))) hc1 hc2 hc3 ?_
      refine lv_astore (lv' := [(5, .ref q), (0, .ref (ad 0 0)), (1, .int 22), (2, .int p2), (3, .int p3), (4, .int p4)]) S.1 S.2.1 dL_call_324 hl (by decide) rfl (fun ls hl => ?_)
      refine lv_sipush (v := (-1006)) S.1 S.2.1 dL_call_326 (by decide) ?_
      exact r_iret (y := yL_call) S hr rfl hlk hS (by show _ ≤ mc; omega) (by show _ ≤ ms; omega) dL_call_329 ⟨_, _, ad, rfl, h9, ⟨rfl, rfl⟩, hw⟩
  · obtain ⟨r1, K1, ad1, rfl, h, hA, hw⟩ := hq
    exact r_iret (y := yL_call) S hr rfl hlk hS (by show _ ≤ mc; omega) (by show _ ≤ ms; omega) dL_call_274 ⟨_, _, ad1, rfl, h, hA, hw⟩
def wpL_c23 (post : Int32 → KS → Prop) (mc ms : Nat) (K : KS) (p2 p3 p4 : Int32) : Prop := wpX6_withdraw (fun v K => post v K) (fun E K => (E = "java/lang/IndexOutOfBoundsException" ∧ post (-1001) K) ∨ (E = "java/lang/IllegalArgumentException" ∧ post (-1002) K) ∨ (E = "java/lang/IllegalStateException" ∧ post (-1003) K) ∨ (E = "java/lang/UnsupportedOperationException" ∧ post (-1004) K) ∨ (E = "java/util/NoSuchElementException" ∧ post (-1005) K) ∨ (E = "java/lang/ArithmeticException" ∧ post (-1006) K)) mc ms K p2
set_option maxHeartbeats 4000000 in
set_option maxRecDepth 100000 in
theorem mtL_c23 {l : Launch} {D : va_G} {cI : Nat → ClassId} {e0 : Nat} {A : Nat → Prop} {ad : Nat → Nat → Nat} {K M : KS} {ap o : Int64} {od : UInt64} {mc ms : Nat} {p2 p3 p4 : Int32} {post : Int32 → KS → Prop} (hfl : l.stackTraces = false) (h : wpL_c23 post mc ms K p2 p3 p4) : CW l D cI e0 A yL_call cL_call 6 (some .int) cTab 9 366 mc ms [.ref (ad 0 0), .int 23, .int p2, .int p3, .int p4] (HT D cI e0 A ad K M ap o od) (qW D cI e0 A ad M ap o od post) := by
  refine CW.of (by decide) (Nat.le_of_ble_eq_true rfl) (fun p e s m below meth c ls FX hw hS hl => ?_)
  obtain ⟨S, hg, hr, hlk, hnm, htab⟩ := FX
  have hl : lv_has ls 6 [(0, .ref (ad 0 0)), (1, .int 23), (2, .int p2), (3, .int p3), (4, .int p4)] := hl
  unfold wpL_c23 at h
  refine lv_iload_n S.1 S.2.1 dL_call_0 rfl (lv_at hl 1 rfl) ?_
  refine lv_tableIn (off := 274) (tgt := 275) S.1 S.2.1 dL_call_1 (by decide) (by decide) (by decide) (by decide) ?_
  refine lv_aload_n S.1 S.2.1 dL_call_275 rfl (lv_at hl 0 rfl) ?_
  refine lv_iload_n S.1 S.2.1 dL_call_276 rfl (lv_at hl 2 rfl) ?_
  refine r_call (rest := []) S hg hS (mtX6_withdraw (mc := mc) (ms := ms) hfl h) u901 u902 u903 u27 u904 hdX6_withdraw (rv0 hg hw) hw ⟨Nat.le_of_ble_eq_true rfl, Nat.le_of_ble_eq_true rfl⟩ ⟨by show 0 + mc ≤ mc; omega, by show 0 + ms ≤ ms; omega⟩ hl.1 (Nat.le_of_ble_eq_true rfl) rfl dL_call_277 (fun E ce q H locs hx hS hc1 hc2 hc3 => ?_) (fun rv H locs hq hS => ?_)
  · obtain ⟨K, hx1, hw⟩ := hx
    have hpass_1 : ∀ z ∈ cTabE.take 49, covers z 277 = false ∨ (z.catchType ≠ 0 ∧ ∃ nm : String, (Cond.classLink RL z.catchType nm).before #[.ref (ad 0 0), .int 23, .int p2, .int p3, .int p4] s = true ∧ va_Nc "java/lang/IllegalArgumentException" nm s) := by
      have hc : ∀ z ∈ cTabE.take 49, covers z 277 = false ∨ z.catchType = 95 := by decide +kernel
      intro z hz
      rcases hc z hz with h0 | h0
      · exact Or.inl h0
      · exact Or.inr ⟨by rw [h0]; decide, "java/lang/IndexOutOfBoundsException", by rw [h0]; exact S.2.2.2.2 _ u219, hg.2.2.2.2.2.1 ("java/lang/IllegalArgumentException", "java/lang/IndexOutOfBoundsException") (by decide +kernel)⟩
    have hpass_2 : ∀ z ∈ cTabE.take 75, covers z 277 = false ∨ (z.catchType ≠ 0 ∧ ∃ nm : String, (Cond.classLink RL z.catchType nm).before #[.ref (ad 0 0), .int 23, .int p2, .int p3, .int p4] s = true ∧ va_Nc "java/lang/IllegalStateException" nm s) := by
      have hc : ∀ z ∈ cTabE.take 75, covers z 277 = false ∨ z.catchType = 95 ∨ z.catchType = 97 := by decide +kernel
      intro z hz
      rcases hc z hz with h0 | h0 | h0
      · exact Or.inl h0
      · exact Or.inr ⟨by rw [h0]; decide, "java/lang/IndexOutOfBoundsException", by rw [h0]; exact S.2.2.2.2 _ u219, hg.2.2.2.2.2.1 ("java/lang/IllegalStateException", "java/lang/IndexOutOfBoundsException") (by decide +kernel)⟩
      · exact Or.inr ⟨by rw [h0]; decide, "java/lang/IllegalArgumentException", by rw [h0]; exact S.2.2.2.2 _ u299, hg.2.2.2.2.2.1 ("java/lang/IllegalStateException", "java/lang/IllegalArgumentException") (by decide +kernel)⟩
    have hpass_3 : ∀ z ∈ cTabE.take 101, covers z 277 = false ∨ (z.catchType ≠ 0 ∧ ∃ nm : String, (Cond.classLink RL z.catchType nm).before #[.ref (ad 0 0), .int 23, .int p2, .int p3, .int p4] s = true ∧ va_Nc "java/lang/UnsupportedOperationException" nm s) := by
      have hc : ∀ z ∈ cTabE.take 101, covers z 277 = false ∨ z.catchType = 95 ∨ z.catchType = 97 ∨ z.catchType = 99 := by decide +kernel
      intro z hz
      rcases hc z hz with h0 | h0 | h0 | h0
      · exact Or.inl h0
      · exact Or.inr ⟨by rw [h0]; decide, "java/lang/IndexOutOfBoundsException", by rw [h0]; exact S.2.2.2.2 _ u219, hg.2.2.2.2.2.1 ("java/lang/UnsupportedOperationException", "java/lang/IndexOutOfBoundsException") (by decide +kernel)⟩
      · exact Or.inr ⟨by rw [h0]; decide, "java/lang/IllegalArgumentException", by rw [h0]; exact S.2.2.2.2 _ u299, hg.2.2.2.2.2.1 ("java/lang/UnsupportedOperationException", "java/lang/IllegalArgumentException") (by decide +kernel)⟩
      · exact Or.inr ⟨by rw [h0]; decide, "java/lang/IllegalStateException", by rw [h0]; exact S.2.2.2.2 _ u300, hg.2.2.2.2.2.1 ("java/lang/UnsupportedOperationException", "java/lang/IllegalStateException") (by decide +kernel)⟩
    have hpass_4 : ∀ z ∈ cTabE.take 127, covers z 277 = false ∨ (z.catchType ≠ 0 ∧ ∃ nm : String, (Cond.classLink RL z.catchType nm).before #[.ref (ad 0 0), .int 23, .int p2, .int p3, .int p4] s = true ∧ va_Nc "java/util/NoSuchElementException" nm s) := by
      have hc : ∀ z ∈ cTabE.take 127, covers z 277 = false ∨ z.catchType = 95 ∨ z.catchType = 97 ∨ z.catchType = 99 ∨ z.catchType = 101 := by decide +kernel
      intro z hz
      rcases hc z hz with h0 | h0 | h0 | h0 | h0
      · exact Or.inl h0
      · exact Or.inr ⟨by rw [h0]; decide, "java/lang/IndexOutOfBoundsException", by rw [h0]; exact S.2.2.2.2 _ u219, hg.2.2.2.2.2.1 ("java/util/NoSuchElementException", "java/lang/IndexOutOfBoundsException") (by decide +kernel)⟩
      · exact Or.inr ⟨by rw [h0]; decide, "java/lang/IllegalArgumentException", by rw [h0]; exact S.2.2.2.2 _ u299, hg.2.2.2.2.2.1 ("java/util/NoSuchElementException", "java/lang/IllegalArgumentException") (by decide +kernel)⟩
      · exact Or.inr ⟨by rw [h0]; decide, "java/lang/IllegalStateException", by rw [h0]; exact S.2.2.2.2 _ u300, hg.2.2.2.2.2.1 ("java/util/NoSuchElementException", "java/lang/IllegalStateException") (by decide +kernel)⟩
      · exact Or.inr ⟨by rw [h0]; decide, "java/lang/UnsupportedOperationException", by rw [h0]; exact S.2.2.2.2 _ u301, hg.2.2.2.2.2.1 ("java/util/NoSuchElementException", "java/lang/UnsupportedOperationException") (by decide +kernel)⟩
    have hpass_5 : ∀ z ∈ cTabE.take 153, covers z 277 = false ∨ (z.catchType ≠ 0 ∧ ∃ nm : String, (Cond.classLink RL z.catchType nm).before #[.ref (ad 0 0), .int 23, .int p2, .int p3, .int p4] s = true ∧ va_Nc "java/lang/ArithmeticException" nm s) := by
      have hc : ∀ z ∈ cTabE.take 153, covers z 277 = false ∨ z.catchType = 95 ∨ z.catchType = 97 ∨ z.catchType = 99 ∨ z.catchType = 101 ∨ z.catchType = 103 := by decide +kernel
      intro z hz
      rcases hc z hz with h0 | h0 | h0 | h0 | h0 | h0
      · exact Or.inl h0
      · exact Or.inr ⟨by rw [h0]; decide, "java/lang/IndexOutOfBoundsException", by rw [h0]; exact S.2.2.2.2 _ u219, hg.2.2.2.2.2.1 ("java/lang/ArithmeticException", "java/lang/IndexOutOfBoundsException") (by decide +kernel)⟩
      · exact Or.inr ⟨by rw [h0]; decide, "java/lang/IllegalArgumentException", by rw [h0]; exact S.2.2.2.2 _ u299, hg.2.2.2.2.2.1 ("java/lang/ArithmeticException", "java/lang/IllegalArgumentException") (by decide +kernel)⟩
      · exact Or.inr ⟨by rw [h0]; decide, "java/lang/IllegalStateException", by rw [h0]; exact S.2.2.2.2 _ u300, hg.2.2.2.2.2.1 ("java/lang/ArithmeticException", "java/lang/IllegalStateException") (by decide +kernel)⟩
      · exact Or.inr ⟨by rw [h0]; decide, "java/lang/UnsupportedOperationException", by rw [h0]; exact S.2.2.2.2 _ u301, hg.2.2.2.2.2.1 ("java/lang/ArithmeticException", "java/lang/UnsupportedOperationException") (by decide +kernel)⟩
      · exact Or.inr ⟨by rw [h0]; decide, "java/util/NoSuchElementException", by rw [h0]; exact S.2.2.2.2 _ u302, hg.2.2.2.2.2.1 ("java/lang/ArithmeticException", "java/util/NoSuchElementException") (by decide +kernel)⟩
    rcases hx1 with ⟨rfl, h9⟩ | ⟨rfl, h9⟩ | ⟨rfl, h9⟩ | ⟨rfl, h9⟩ | ⟨rfl, h9⟩ | ⟨rfl, h9⟩
    · skip
      have hpass_0 : ∀ z ∈ cTabE.take 23, covers z 277 = false ∨ (z.catchType ≠ 0 ∧ ∃ nm : String, (Cond.classLink RL z.catchType nm).before #[.ref (ad 0 0), .int 23, .int p2, .int p3, .int p4] s = true ∧ va_Nc "java/lang/IndexOutOfBoundsException" nm s) := by
        have hc : ∀ z ∈ cTabE.take 23, covers z 277 = false := by decide +kernel
        exact fun z hz => Or.inl (hc z hz)
      refine vx_catch (name := "java/lang/IndexOutOfBoundsException") S.2.2.2.1 (cTabE.take 23) (⟨275, 280, 294, 95⟩ : ExceptionTableEntry) (cTabE.drop 24) (htab.trans rfl) hpass_0 (by decide) (by decide) (S.2.2.2.2 _ u219) (va_Nw.use rfl (hg.2.2.2.2.1.1 ("java/lang/IndexOutOfBoundsException", "java/lang/IndexOutOfBoundsException") (by decide +kernel))) hc1 hc2 hc3 ?_
      refine lv_astore (lv' := [(5, .ref q), (0, .ref (ad 0 0)), (1, .int 23), (2, .int p2), (3, .int p3), (4, .int p4)]) S.1 S.2.1 dL_call_294 hl (by decide) rfl (fun ls hl => ?_)
      refine lv_sipush (v := (-1001)) S.1 S.2.1 dL_call_296 (by decide) ?_
      exact r_iret (y := yL_call) S hr rfl hlk hS (by show _ ≤ mc; omega) (by show _ ≤ ms; omega) dL_call_299 ⟨_, _, ad, rfl, h9, ⟨rfl, rfl⟩, hw⟩
    · skip
      refine vx_catch (name := "java/lang/IllegalArgumentException") S.2.2.2.1 (cTabE.take 49) (⟨275, 280, 300, 97⟩ : ExceptionTableEntry) (cTabE.drop 50) (htab.trans rfl) hpass_1 (by decide) (by decide) (S.2.2.2.2 _ u299) (va_Nw.use rfl (hg.2.2.2.2.1.1 ("java/lang/IllegalArgumentException", "java/lang/IllegalArgumentException") (by decide +kernel))) hc1 hc2 hc3 ?_
      refine lv_astore (lv' := [(5, .ref q), (0, .ref (ad 0 0)), (1, .int 23), (2, .int p2), (3, .int p3), (4, .int p4)]) S.1 S.2.1 dL_call_300 hl (by decide) rfl (fun ls hl => ?_)
      refine lv_sipush (v := (-1002)) S.1 S.2.1 dL_call_302 (by decide) ?_
      exact r_iret (y := yL_call) S hr rfl hlk hS (by show _ ≤ mc; omega) (by show _ ≤ ms; omega) dL_call_305 ⟨_, _, ad, rfl, h9, ⟨rfl, rfl⟩, hw⟩
    · skip
      refine vx_catch (name := "java/lang/IllegalStateException") S.2.2.2.1 (cTabE.take 75) (⟨275, 280, 306, 99⟩ : ExceptionTableEntry) (cTabE.drop 76) (htab.trans rfl) hpass_2 (by decide) (by decide) (S.2.2.2.2 _ u300) (va_Nw.use rfl (hg.2.2.2.2.1.1 ("java/lang/IllegalStateException", "java/lang/IllegalStateException") (by decide +kernel))) hc1 hc2 hc3 ?_
      refine lv_astore (lv' := [(5, .ref q), (0, .ref (ad 0 0)), (1, .int 23), (2, .int p2), (3, .int p3), (4, .int p4)]) S.1 S.2.1 dL_call_306 hl (by decide) rfl (fun ls hl => ?_)
      refine lv_sipush (v := (-1003)) S.1 S.2.1 dL_call_308 (by decide) ?_
      exact r_iret (y := yL_call) S hr rfl hlk hS (by show _ ≤ mc; omega) (by show _ ≤ ms; omega) dL_call_311 ⟨_, _, ad, rfl, h9, ⟨rfl, rfl⟩, hw⟩
    · skip
      refine vx_catch (name := "java/lang/UnsupportedOperationException") S.2.2.2.1 (cTabE.take 101) (⟨275, 280, 312, 101⟩ : ExceptionTableEntry) (cTabE.drop 102) (htab.trans rfl) hpass_3 (by decide) (by decide) (S.2.2.2.2 _ u301) (va_Nw.use rfl (hg.2.2.2.2.1.1 ("java/lang/UnsupportedOperationException", "java/lang/UnsupportedOperationException") (by decide +kernel))) hc1 hc2 hc3 ?_
      refine lv_astore (lv' := [(5, .ref q), (0, .ref (ad 0 0)), (1, .int 23), (2, .int p2), (3, .int p3), (4, .int p4)]) S.1 S.2.1 dL_call_312 hl (by decide) rfl (fun ls hl => ?_)
      refine lv_sipush (v := (-1004)) S.1 S.2.1 dL_call_314 (by decide) ?_
      exact r_iret (y := yL_call) S hr rfl hlk hS (by show _ ≤ mc; omega) (by show _ ≤ ms; omega) dL_call_317 ⟨_, _, ad, rfl, h9, ⟨rfl, rfl⟩, hw⟩
    · skip
      refine vx_catch (name := "java/util/NoSuchElementException") S.2.2.2.1 (cTabE.take 127) (⟨275, 280, 318, 103⟩ : ExceptionTableEntry) (cTabE.drop 128) (htab.trans rfl) hpass_4 (by decide) (by decide) (S.2.2.2.2 _ u302) (va_Nw.use rfl (hg.2.2.2.2.1.1 ("java/util/NoSuchElementException", "java/util/NoSuchElementException") (by decide +kernel))) hc1 hc2 hc3 ?_
      refine lv_astore (lv' := [(5, .ref q), (0, .ref (ad 0 0)), (1, .int 23), (2, .int p2), (3, .int p3), (4, .int p4)]) S.1 S.2.1 dL_call_318 hl (by decide) rfl (fun ls hl => ?_)
      refine lv_sipush (v := (-1005)) S.1 S.2.1 dL_call_320 (by decide) ?_
      exact r_iret (y := yL_call) S hr rfl hlk hS (by show _ ≤ mc; omega) (by show _ ≤ ms; omega) dL_call_323 ⟨_, _, ad, rfl, h9, ⟨rfl, rfl⟩, hw⟩
    · skip
      refine vx_catch (name := "java/lang/ArithmeticException") S.2.2.2.1 (cTabE.take 153) (⟨275, 280, 324, 105⟩ : ExceptionTableEntry) (cTabE.drop 154) (htab.trans rfl) hpass_5 (by decide) (by decide) (S.2.2.2.2 _ u303) (va_Nw.use rfl (hg.2.2.2.2.1.1 ("java/lang/ArithmeticException", "java/lang/ArithmeticException") (by decide +kernel))) hc1 hc2 hc3 ?_
      refine lv_astore (lv' := [(5, .ref q), (0, .ref (ad 0 0)), (1, .int 23), (2, .int p2), (3, .int p3), (4, .int p4)]) S.1 S.2.1 dL_call_324 hl (by decide) rfl (fun ls hl => ?_)
      refine lv_sipush (v := (-1006)) S.1 S.2.1 dL_call_326 (by decide) ?_
      exact r_iret (y := yL_call) S hr rfl hlk hS (by show _ ≤ mc; omega) (by show _ ≤ ms; omega) dL_call_329 ⟨_, _, ad, rfl, h9, ⟨rfl, rfl⟩, hw⟩
  · obtain ⟨r1, K1, rfl, h, hw⟩ := hq
    exact r_iret (y := yL_call) S hr rfl hlk hS (by show _ ≤ mc; omega) (by show _ ≤ ms; omega) dL_call_280 ⟨_, _, ad, rfl, h, ⟨rfl, rfl⟩, hw⟩
def wpL_c24 (post : Int32 → KS → Prop) (mc ms : Nat) (K : KS) (p2 p3 p4 : Int32) : Prop := wpX6_buy (fun v K => post v K) (fun E K => (E = "java/lang/IndexOutOfBoundsException" ∧ post (-1001) K) ∨ (E = "java/lang/IllegalArgumentException" ∧ post (-1002) K) ∨ (E = "java/lang/IllegalStateException" ∧ post (-1003) K) ∨ (E = "java/lang/UnsupportedOperationException" ∧ post (-1004) K) ∨ (E = "java/util/NoSuchElementException" ∧ post (-1005) K) ∨ (E = "java/lang/ArithmeticException" ∧ post (-1006) K)) mc ms K p2 p3
set_option maxHeartbeats 4000000 in
set_option maxRecDepth 100000 in
theorem mtL_c24 {l : Launch} {D : va_G} {cI : Nat → ClassId} {e0 : Nat} {A : Nat → Prop} {ad : Nat → Nat → Nat} {K M : KS} {ap o : Int64} {od : UInt64} {mc ms : Nat} {p2 p3 p4 : Int32} {post : Int32 → KS → Prop} (hfl : l.stackTraces = false) (h : wpL_c24 post mc ms K p2 p3 p4) : CW l D cI e0 A yL_call cL_call 6 (some .int) cTab 9 366 mc ms [.ref (ad 0 0), .int 24, .int p2, .int p3, .int p4] (HT D cI e0 A ad K M ap o od) (qW D cI e0 A ad M ap o od post) := by
  refine CW.of (by decide) (Nat.le_of_ble_eq_true rfl) (fun p e s m below meth c ls FX hw hS hl => ?_)
  obtain ⟨S, hg, hr, hlk, hnm, htab⟩ := FX
  have hl : lv_has ls 6 [(0, .ref (ad 0 0)), (1, .int 24), (2, .int p2), (3, .int p3), (4, .int p4)] := hl
  unfold wpL_c24 at h
  refine lv_iload_n S.1 S.2.1 dL_call_0 rfl (lv_at hl 1 rfl) ?_
  refine lv_tableIn (off := 280) (tgt := 281) S.1 S.2.1 dL_call_1 (by decide) (by decide) (by decide) (by decide) ?_
  refine lv_aload_n S.1 S.2.1 dL_call_281 rfl (lv_at hl 0 rfl) ?_
  refine lv_iload_n S.1 S.2.1 dL_call_282 rfl (lv_at hl 2 rfl) ?_
  refine lv_iload_n S.1 S.2.1 dL_call_283 rfl (lv_at hl 3 rfl) ?_
  refine r_call (rest := []) S hg hS (mtX6_buy (mc := mc) (ms := ms) hfl h) u911 u912 u913 u27 u914 hdX6_buy (rv0 hg hw) hw ⟨Nat.le_of_ble_eq_true rfl, Nat.le_of_ble_eq_true rfl⟩ ⟨by show 0 + mc ≤ mc; omega, by show 0 + ms ≤ ms; omega⟩ hl.1 (Nat.le_of_ble_eq_true rfl) rfl dL_call_284 (fun E ce q H locs hx hS hc1 hc2 hc3 => ?_) (fun rv H locs hq hS => ?_)
  · obtain ⟨K, hx1, hw⟩ := hx
    have hpass_1 : ∀ z ∈ cTabE.take 50, covers z 284 = false ∨ (z.catchType ≠ 0 ∧ ∃ nm : String, (Cond.classLink RL z.catchType nm).before #[.ref (ad 0 0), .int 24, .int p2, .int p3, .int p4] s = true ∧ va_Nc "java/lang/IllegalArgumentException" nm s) := by
      have hc : ∀ z ∈ cTabE.take 50, covers z 284 = false ∨ z.catchType = 95 := by decide +kernel
      intro z hz
      rcases hc z hz with h0 | h0
      · exact Or.inl h0
      · exact Or.inr ⟨by rw [h0]; decide, "java/lang/IndexOutOfBoundsException", by rw [h0]; exact S.2.2.2.2 _ u219, hg.2.2.2.2.2.1 ("java/lang/IllegalArgumentException", "java/lang/IndexOutOfBoundsException") (by decide +kernel)⟩
    have hpass_2 : ∀ z ∈ cTabE.take 76, covers z 284 = false ∨ (z.catchType ≠ 0 ∧ ∃ nm : String, (Cond.classLink RL z.catchType nm).before #[.ref (ad 0 0), .int 24, .int p2, .int p3, .int p4] s = true ∧ va_Nc "java/lang/IllegalStateException" nm s) := by
      have hc : ∀ z ∈ cTabE.take 76, covers z 284 = false ∨ z.catchType = 95 ∨ z.catchType = 97 := by decide +kernel
      intro z hz
      rcases hc z hz with h0 | h0 | h0
      · exact Or.inl h0
      · exact Or.inr ⟨by rw [h0]; decide, "java/lang/IndexOutOfBoundsException", by rw [h0]; exact S.2.2.2.2 _ u219, hg.2.2.2.2.2.1 ("java/lang/IllegalStateException", "java/lang/IndexOutOfBoundsException") (by decide +kernel)⟩
      · exact Or.inr ⟨by rw [h0]; decide, "java/lang/IllegalArgumentException", by rw [h0]; exact S.2.2.2.2 _ u299, hg.2.2.2.2.2.1 ("java/lang/IllegalStateException", "java/lang/IllegalArgumentException") (by decide +kernel)⟩
    have hpass_3 : ∀ z ∈ cTabE.take 102, covers z 284 = false ∨ (z.catchType ≠ 0 ∧ ∃ nm : String, (Cond.classLink RL z.catchType nm).before #[.ref (ad 0 0), .int 24, .int p2, .int p3, .int p4] s = true ∧ va_Nc "java/lang/UnsupportedOperationException" nm s) := by
      have hc : ∀ z ∈ cTabE.take 102, covers z 284 = false ∨ z.catchType = 95 ∨ z.catchType = 97 ∨ z.catchType = 99 := by decide +kernel
      intro z hz
      rcases hc z hz with h0 | h0 | h0 | h0
      · exact Or.inl h0
      · exact Or.inr ⟨by rw [h0]; decide, "java/lang/IndexOutOfBoundsException", by rw [h0]; exact S.2.2.2.2 _ u219, hg.2.2.2.2.2.1 ("java/lang/UnsupportedOperationException", "java/lang/IndexOutOfBoundsException") (by decide +kernel)⟩
      · exact Or.inr ⟨by rw [h0]; decide, "java/lang/IllegalArgumentException", by rw [h0]; exact S.2.2.2.2 _ u299, hg.2.2.2.2.2.1 ("java/lang/UnsupportedOperationException", "java/lang/IllegalArgumentException") (by decide +kernel)⟩
      · exact Or.inr ⟨by rw [h0]; decide, "java/lang/IllegalStateException", by rw [h0]; exact S.2.2.2.2 _ u300, hg.2.2.2.2.2.1 ("java/lang/UnsupportedOperationException", "java/lang/IllegalStateException") (by decide +kernel)⟩
    have hpass_4 : ∀ z ∈ cTabE.take 128, covers z 284 = false ∨ (z.catchType ≠ 0 ∧ ∃ nm : String, (Cond.classLink RL z.catchType nm).before #[.ref (ad 0 0), .int 24, .int p2, .int p3, .int p4] s = true ∧ va_Nc "java/util/NoSuchElementException" nm s) := by
      have hc : ∀ z ∈ cTabE.take 128, covers z 284 = false ∨ z.catchType = 95 ∨ z.catchType = 97 ∨ z.catchType = 99 ∨ z.catchType = 101 := by decide +kernel
      intro z hz
      rcases hc z hz with h0 | h0 | h0 | h0 | h0
      · exact Or.inl h0
      · exact Or.inr ⟨by rw [h0]; decide, "java/lang/IndexOutOfBoundsException", by rw [h0]; exact S.2.2.2.2 _ u219, hg.2.2.2.2.2.1 ("java/util/NoSuchElementException", "java/lang/IndexOutOfBoundsException") (by decide +kernel)⟩
      · exact Or.inr ⟨by rw [h0]; decide, "java/lang/IllegalArgumentException", by rw [h0]; exact S.2.2.2.2 _ u299, hg.2.2.2.2.2.1 ("java/util/NoSuchElementException", "java/lang/IllegalArgumentException") (by decide +kernel)⟩
      · exact Or.inr ⟨by rw [h0]; decide, "java/lang/IllegalStateException", by rw [h0]; exact S.2.2.2.2 _ u300, hg.2.2.2.2.2.1 ("java/util/NoSuchElementException", "java/lang/IllegalStateException") (by decide +kernel)⟩
      · exact Or.inr ⟨by rw [h0]; decide, "java/lang/UnsupportedOperationException", by rw [h0]; exact S.2.2.2.2 _ u301, hg.2.2.2.2.2.1 ("java/util/NoSuchElementException", "java/lang/UnsupportedOperationException") (by decide +kernel)⟩
    have hpass_5 : ∀ z ∈ cTabE.take 154, covers z 284 = false ∨ (z.catchType ≠ 0 ∧ ∃ nm : String, (Cond.classLink RL z.catchType nm).before #[.ref (ad 0 0), .int 24, .int p2, .int p3, .int p4] s = true ∧ va_Nc "java/lang/ArithmeticException" nm s) := by
      have hc : ∀ z ∈ cTabE.take 154, covers z 284 = false ∨ z.catchType = 95 ∨ z.catchType = 97 ∨ z.catchType = 99 ∨ z.catchType = 101 ∨ z.catchType = 103 := by decide +kernel
      intro z hz
      rcases hc z hz with h0 | h0 | h0 | h0 | h0 | h0
      · exact Or.inl h0
      · exact Or.inr ⟨by rw [h0]; decide, "java/lang/IndexOutOfBoundsException", by rw [h0]; exact S.2.2.2.2 _ u219, hg.2.2.2.2.2.1 ("java/lang/ArithmeticException", "java/lang/IndexOutOfBoundsException") (by decide +kernel)⟩
      · exact Or.inr ⟨by rw [h0]; decide, "java/lang/IllegalArgumentException", by rw [h0]; exact S.2.2.2.2 _ u299, hg.2.2.2.2.2.1 ("java/lang/ArithmeticException", "java/lang/IllegalArgumentException") (by decide +kernel)⟩
      · exact Or.inr ⟨by rw [h0]; decide, "java/lang/IllegalStateException", by rw [h0]; exact S.2.2.2.2 _ u300, hg.2.2.2.2.2.1 ("java/lang/ArithmeticException", "java/lang/IllegalStateException") (by decide +kernel)⟩
      · exact Or.inr ⟨by rw [h0]; decide, "java/lang/UnsupportedOperationException", by rw [h0]; exact S.2.2.2.2 _ u301, hg.2.2.2.2.2.1 ("java/lang/ArithmeticException", "java/lang/UnsupportedOperationException") (by decide +kernel)⟩
      · exact Or.inr ⟨by rw [h0]; decide, "java/util/NoSuchElementException", by rw [h0]; exact S.2.2.2.2 _ u302, hg.2.2.2.2.2.1 ("java/lang/ArithmeticException", "java/util/NoSuchElementException") (by decide +kernel)⟩
    rcases hx1 with ⟨rfl, h9⟩ | ⟨rfl, h9⟩ | ⟨rfl, h9⟩ | ⟨rfl, h9⟩ | ⟨rfl, h9⟩ | ⟨rfl, h9⟩
    · skip
      have hpass_0 : ∀ z ∈ cTabE.take 24, covers z 284 = false ∨ (z.catchType ≠ 0 ∧ ∃ nm : String, (Cond.classLink RL z.catchType nm).before #[.ref (ad 0 0), .int 24, .int p2, .int p3, .int p4] s = true ∧ va_Nc "java/lang/IndexOutOfBoundsException" nm s) := by
        have hc : ∀ z ∈ cTabE.take 24, covers z 284 = false := by decide +kernel
        exact fun z hz => Or.inl (hc z hz)
      refine vx_catch (name := "java/lang/IndexOutOfBoundsException") S.2.2.2.1 (cTabE.take 24) (⟨281, 287, 294, 95⟩ : ExceptionTableEntry) (cTabE.drop 25) (htab.trans rfl) hpass_0 (by decide) (by decide) (S.2.2.2.2 _ u219) (va_Nw.use rfl (hg.2.2.2.2.1.1 ("java/lang/IndexOutOfBoundsException", "java/lang/IndexOutOfBoundsException") (by decide +kernel))) hc1 hc2 hc3 ?_
      refine lv_astore (lv' := [(5, .ref q), (0, .ref (ad 0 0)), (1, .int 24), (2, .int p2), (3, .int p3), (4, .int p4)]) S.1 S.2.1 dL_call_294 hl (by decide) rfl (fun ls hl => ?_)
      refine lv_sipush (v := (-1001)) S.1 S.2.1 dL_call_296 (by decide) ?_
      exact r_iret (y := yL_call) S hr rfl hlk hS (by show _ ≤ mc; omega) (by show _ ≤ ms; omega) dL_call_299 ⟨_, _, ad, rfl, h9, ⟨rfl, rfl⟩, hw⟩
    · skip
      refine vx_catch (name := "java/lang/IllegalArgumentException") S.2.2.2.1 (cTabE.take 50) (⟨281, 287, 300, 97⟩ : ExceptionTableEntry) (cTabE.drop 51) (htab.trans rfl) hpass_1 (by decide) (by decide) (S.2.2.2.2 _ u299) (va_Nw.use rfl (hg.2.2.2.2.1.1 ("java/lang/IllegalArgumentException", "java/lang/IllegalArgumentException") (by decide +kernel))) hc1 hc2 hc3 ?_
      refine lv_astore (lv' := [(5, .ref q), (0, .ref (ad 0 0)), (1, .int 24), (2, .int p2), (3, .int p3), (4, .int p4)]) S.1 S.2.1 dL_call_300 hl (by decide) rfl (fun ls hl => ?_)
      refine lv_sipush (v := (-1002)) S.1 S.2.1 dL_call_302 (by decide) ?_
      exact r_iret (y := yL_call) S hr rfl hlk hS (by show _ ≤ mc; omega) (by show _ ≤ ms; omega) dL_call_305 ⟨_, _, ad, rfl, h9, ⟨rfl, rfl⟩, hw⟩
    · skip
      refine vx_catch (name := "java/lang/IllegalStateException") S.2.2.2.1 (cTabE.take 76) (⟨281, 287, 306, 99⟩ : ExceptionTableEntry) (cTabE.drop 77) (htab.trans rfl) hpass_2 (by decide) (by decide) (S.2.2.2.2 _ u300) (va_Nw.use rfl (hg.2.2.2.2.1.1 ("java/lang/IllegalStateException", "java/lang/IllegalStateException") (by decide +kernel))) hc1 hc2 hc3 ?_
      refine lv_astore (lv' := [(5, .ref q), (0, .ref (ad 0 0)), (1, .int 24), (2, .int p2), (3, .int p3), (4, .int p4)]) S.1 S.2.1 dL_call_306 hl (by decide) rfl (fun ls hl => ?_)
      refine lv_sipush (v := (-1003)) S.1 S.2.1 dL_call_308 (by decide) ?_
      exact r_iret (y := yL_call) S hr rfl hlk hS (by show _ ≤ mc; omega) (by show _ ≤ ms; omega) dL_call_311 ⟨_, _, ad, rfl, h9, ⟨rfl, rfl⟩, hw⟩
    · skip
      refine vx_catch (name := "java/lang/UnsupportedOperationException") S.2.2.2.1 (cTabE.take 102) (⟨281, 287, 312, 101⟩ : ExceptionTableEntry) (cTabE.drop 103) (htab.trans rfl) hpass_3 (by decide) (by decide) (S.2.2.2.2 _ u301) (va_Nw.use rfl (hg.2.2.2.2.1.1 ("java/lang/UnsupportedOperationException", "java/lang/UnsupportedOperationException") (by decide +kernel))) hc1 hc2 hc3 ?_
      refine lv_astore (lv' := [(5, .ref q), (0, .ref (ad 0 0)), (1, .int 24), (2, .int p2), (3, .int p3), (4, .int p4)]) S.1 S.2.1 dL_call_312 hl (by decide) rfl (fun ls hl => ?_)
      refine lv_sipush (v := (-1004)) S.1 S.2.1 dL_call_314 (by decide) ?_
      exact r_iret (y := yL_call) S hr rfl hlk hS (by show _ ≤ mc; omega) (by show _ ≤ ms; omega) dL_call_317 ⟨_, _, ad, rfl, h9, ⟨rfl, rfl⟩, hw⟩
    · skip
      refine vx_catch (name := "java/util/NoSuchElementException") S.2.2.2.1 (cTabE.take 128) (⟨281, 287, 318, 103⟩ : ExceptionTableEntry) (cTabE.drop 129) (htab.trans rfl) hpass_4 (by decide) (by decide) (S.2.2.2.2 _ u302) (va_Nw.use rfl (hg.2.2.2.2.1.1 ("java/util/NoSuchElementException", "java/util/NoSuchElementException") (by decide +kernel))) hc1 hc2 hc3 ?_
      refine lv_astore (lv' := [(5, .ref q), (0, .ref (ad 0 0)), (1, .int 24), (2, .int p2), (3, .int p3), (4, .int p4)]) S.1 S.2.1 dL_call_318 hl (by decide) rfl (fun ls hl => ?_)
      refine lv_sipush (v := (-1005)) S.1 S.2.1 dL_call_320 (by decide) ?_
      exact r_iret (y := yL_call) S hr rfl hlk hS (by show _ ≤ mc; omega) (by show _ ≤ ms; omega) dL_call_323 ⟨_, _, ad, rfl, h9, ⟨rfl, rfl⟩, hw⟩
    · skip
      refine vx_catch (name := "java/lang/ArithmeticException") S.2.2.2.1 (cTabE.take 154) (⟨281, 287, 324, 105⟩ : ExceptionTableEntry) (cTabE.drop 155) (htab.trans rfl) hpass_5 (by decide) (by decide) (S.2.2.2.2 _ u303) (va_Nw.use rfl (hg.2.2.2.2.1.1 ("java/lang/ArithmeticException", "java/lang/ArithmeticException") (by decide +kernel))) hc1 hc2 hc3 ?_
      refine lv_astore (lv' := [(5, .ref q), (0, .ref (ad 0 0)), (1, .int 24), (2, .int p2), (3, .int p3), (4, .int p4)]) S.1 S.2.1 dL_call_324 hl (by decide) rfl (fun ls hl => ?_)
      refine lv_sipush (v := (-1006)) S.1 S.2.1 dL_call_326 (by decide) ?_
      exact r_iret (y := yL_call) S hr rfl hlk hS (by show _ ≤ mc; omega) (by show _ ≤ ms; omega) dL_call_329 ⟨_, _, ad, rfl, h9, ⟨rfl, rfl⟩, hw⟩
  · obtain ⟨r1, K1, rfl, h, hw⟩ := hq
    exact r_iret (y := yL_call) S hr rfl hlk hS (by show _ ≤ mc; omega) (by show _ ≤ ms; omega) dL_call_287 ⟨_, _, ad, rfl, h, ⟨rfl, rfl⟩, hw⟩
def wpL_c25 (post : Int32 → Prop) (mc ms : Nat) (K : KS) (p2 p3 p4 : Int32) : Prop := wpX6_offerState (fun v => post v) (fun E => (E = "java/lang/IndexOutOfBoundsException" ∧ post (-1001)) ∨ (E = "java/lang/IllegalArgumentException" ∧ post (-1002)) ∨ (E = "java/lang/IllegalStateException" ∧ post (-1003)) ∨ (E = "java/lang/UnsupportedOperationException" ∧ post (-1004)) ∨ (E = "java/util/NoSuchElementException" ∧ post (-1005)) ∨ (E = "java/lang/ArithmeticException" ∧ post (-1006))) mc ms K p2
set_option maxHeartbeats 4000000 in
set_option maxRecDepth 100000 in
theorem mtL_c25 {l : Launch} {D : va_G} {cI : Nat → ClassId} {e0 : Nat} {A : Nat → Prop} {ad : Nat → Nat → Nat} {K M : KS} {ap o : Int64} {od : UInt64} {mc ms : Nat} {p2 p3 p4 : Int32} {post : Int32 → Prop} (hfl : l.stackTraces = false) (h : wpL_c25 post mc ms K p2 p3 p4) : CW l D cI e0 A yL_call cL_call 6 (some .int) cTab 9 366 mc ms [.ref (ad 0 0), .int 25, .int p2, .int p3, .int p4] (HT D cI e0 A ad K M ap o od) (qP D cI e0 A ad K M ap o od rI post) := by
  refine CW.of (by decide) (Nat.le_of_ble_eq_true rfl) (fun p e s m below meth c ls FX hw hS hl => ?_)
  obtain ⟨S, hg, hr, hlk, hnm, htab⟩ := FX
  have hl : lv_has ls 6 [(0, .ref (ad 0 0)), (1, .int 25), (2, .int p2), (3, .int p3), (4, .int p4)] := hl
  unfold wpL_c25 at h
  refine lv_iload_n S.1 S.2.1 dL_call_0 rfl (lv_at hl 1 rfl) ?_
  refine lv_tableOut (tgt := 288) S.1 S.2.1 dL_call_1 (Or.inr (by decide)) (by decide) ?_
  refine lv_aload_n S.1 S.2.1 dL_call_288 rfl (lv_at hl 0 rfl) ?_
  refine lv_iload_n S.1 S.2.1 dL_call_289 rfl (lv_at hl 2 rfl) ?_
  refine r_call (rest := []) S hg hS (mtX6_offerState (mc := mc) (ms := ms) hfl h) u921 u922 u923 u27 u924 hdX6_offerState (rv0 hg hw) hw ⟨Nat.le_of_ble_eq_true rfl, Nat.le_of_ble_eq_true rfl⟩ ⟨by show 0 + mc ≤ mc; omega, by show 0 + ms ≤ ms; omega⟩ hl.1 (Nat.le_of_ble_eq_true rfl) rfl dL_call_290 (fun E ce q H locs hx hS hc1 hc2 hc3 => ?_) (fun rv H locs hq hS => ?_)
  · obtain ⟨hx1, hw⟩ := hx
    have hpass_1 : ∀ z ∈ cTabE.take 51, covers z 290 = false ∨ (z.catchType ≠ 0 ∧ ∃ nm : String, (Cond.classLink RL z.catchType nm).before #[.ref (ad 0 0), .int 25, .int p2, .int p3, .int p4] s = true ∧ va_Nc "java/lang/IllegalArgumentException" nm s) := by
      have hc : ∀ z ∈ cTabE.take 51, covers z 290 = false ∨ z.catchType = 95 := by decide +kernel
      intro z hz
      rcases hc z hz with h0 | h0
      · exact Or.inl h0
      · exact Or.inr ⟨by rw [h0]; decide, "java/lang/IndexOutOfBoundsException", by rw [h0]; exact S.2.2.2.2 _ u219, hg.2.2.2.2.2.1 ("java/lang/IllegalArgumentException", "java/lang/IndexOutOfBoundsException") (by decide +kernel)⟩
    have hpass_2 : ∀ z ∈ cTabE.take 77, covers z 290 = false ∨ (z.catchType ≠ 0 ∧ ∃ nm : String, (Cond.classLink RL z.catchType nm).before #[.ref (ad 0 0), .int 25, .int p2, .int p3, .int p4] s = true ∧ va_Nc "java/lang/IllegalStateException" nm s) := by
      have hc : ∀ z ∈ cTabE.take 77, covers z 290 = false ∨ z.catchType = 95 ∨ z.catchType = 97 := by decide +kernel
      intro z hz
      rcases hc z hz with h0 | h0 | h0
      · exact Or.inl h0
      · exact Or.inr ⟨by rw [h0]; decide, "java/lang/IndexOutOfBoundsException", by rw [h0]; exact S.2.2.2.2 _ u219, hg.2.2.2.2.2.1 ("java/lang/IllegalStateException", "java/lang/IndexOutOfBoundsException") (by decide +kernel)⟩
      · exact Or.inr ⟨by rw [h0]; decide, "java/lang/IllegalArgumentException", by rw [h0]; exact S.2.2.2.2 _ u299, hg.2.2.2.2.2.1 ("java/lang/IllegalStateException", "java/lang/IllegalArgumentException") (by decide +kernel)⟩
    have hpass_3 : ∀ z ∈ cTabE.take 103, covers z 290 = false ∨ (z.catchType ≠ 0 ∧ ∃ nm : String, (Cond.classLink RL z.catchType nm).before #[.ref (ad 0 0), .int 25, .int p2, .int p3, .int p4] s = true ∧ va_Nc "java/lang/UnsupportedOperationException" nm s) := by
      have hc : ∀ z ∈ cTabE.take 103, covers z 290 = false ∨ z.catchType = 95 ∨ z.catchType = 97 ∨ z.catchType = 99 := by decide +kernel
      intro z hz
      rcases hc z hz with h0 | h0 | h0 | h0
      · exact Or.inl h0
      · exact Or.inr ⟨by rw [h0]; decide, "java/lang/IndexOutOfBoundsException", by rw [h0]; exact S.2.2.2.2 _ u219, hg.2.2.2.2.2.1 ("java/lang/UnsupportedOperationException", "java/lang/IndexOutOfBoundsException") (by decide +kernel)⟩
      · exact Or.inr ⟨by rw [h0]; decide, "java/lang/IllegalArgumentException", by rw [h0]; exact S.2.2.2.2 _ u299, hg.2.2.2.2.2.1 ("java/lang/UnsupportedOperationException", "java/lang/IllegalArgumentException") (by decide +kernel)⟩
      · exact Or.inr ⟨by rw [h0]; decide, "java/lang/IllegalStateException", by rw [h0]; exact S.2.2.2.2 _ u300, hg.2.2.2.2.2.1 ("java/lang/UnsupportedOperationException", "java/lang/IllegalStateException") (by decide +kernel)⟩
    have hpass_4 : ∀ z ∈ cTabE.take 129, covers z 290 = false ∨ (z.catchType ≠ 0 ∧ ∃ nm : String, (Cond.classLink RL z.catchType nm).before #[.ref (ad 0 0), .int 25, .int p2, .int p3, .int p4] s = true ∧ va_Nc "java/util/NoSuchElementException" nm s) := by
      have hc : ∀ z ∈ cTabE.take 129, covers z 290 = false ∨ z.catchType = 95 ∨ z.catchType = 97 ∨ z.catchType = 99 ∨ z.catchType = 101 := by decide +kernel
      intro z hz
      rcases hc z hz with h0 | h0 | h0 | h0 | h0
      · exact Or.inl h0
      · exact Or.inr ⟨by rw [h0]; decide, "java/lang/IndexOutOfBoundsException", by rw [h0]; exact S.2.2.2.2 _ u219, hg.2.2.2.2.2.1 ("java/util/NoSuchElementException", "java/lang/IndexOutOfBoundsException") (by decide +kernel)⟩
      · exact Or.inr ⟨by rw [h0]; decide, "java/lang/IllegalArgumentException", by rw [h0]; exact S.2.2.2.2 _ u299, hg.2.2.2.2.2.1 ("java/util/NoSuchElementException", "java/lang/IllegalArgumentException") (by decide +kernel)⟩
      · exact Or.inr ⟨by rw [h0]; decide, "java/lang/IllegalStateException", by rw [h0]; exact S.2.2.2.2 _ u300, hg.2.2.2.2.2.1 ("java/util/NoSuchElementException", "java/lang/IllegalStateException") (by decide +kernel)⟩
      · exact Or.inr ⟨by rw [h0]; decide, "java/lang/UnsupportedOperationException", by rw [h0]; exact S.2.2.2.2 _ u301, hg.2.2.2.2.2.1 ("java/util/NoSuchElementException", "java/lang/UnsupportedOperationException") (by decide +kernel)⟩
    have hpass_5 : ∀ z ∈ cTabE.take 155, covers z 290 = false ∨ (z.catchType ≠ 0 ∧ ∃ nm : String, (Cond.classLink RL z.catchType nm).before #[.ref (ad 0 0), .int 25, .int p2, .int p3, .int p4] s = true ∧ va_Nc "java/lang/ArithmeticException" nm s) := by
      have hc : ∀ z ∈ cTabE.take 155, covers z 290 = false ∨ z.catchType = 95 ∨ z.catchType = 97 ∨ z.catchType = 99 ∨ z.catchType = 101 ∨ z.catchType = 103 := by decide +kernel
      intro z hz
      rcases hc z hz with h0 | h0 | h0 | h0 | h0 | h0
      · exact Or.inl h0
      · exact Or.inr ⟨by rw [h0]; decide, "java/lang/IndexOutOfBoundsException", by rw [h0]; exact S.2.2.2.2 _ u219, hg.2.2.2.2.2.1 ("java/lang/ArithmeticException", "java/lang/IndexOutOfBoundsException") (by decide +kernel)⟩
      · exact Or.inr ⟨by rw [h0]; decide, "java/lang/IllegalArgumentException", by rw [h0]; exact S.2.2.2.2 _ u299, hg.2.2.2.2.2.1 ("java/lang/ArithmeticException", "java/lang/IllegalArgumentException") (by decide +kernel)⟩
      · exact Or.inr ⟨by rw [h0]; decide, "java/lang/IllegalStateException", by rw [h0]; exact S.2.2.2.2 _ u300, hg.2.2.2.2.2.1 ("java/lang/ArithmeticException", "java/lang/IllegalStateException") (by decide +kernel)⟩
      · exact Or.inr ⟨by rw [h0]; decide, "java/lang/UnsupportedOperationException", by rw [h0]; exact S.2.2.2.2 _ u301, hg.2.2.2.2.2.1 ("java/lang/ArithmeticException", "java/lang/UnsupportedOperationException") (by decide +kernel)⟩
      · exact Or.inr ⟨by rw [h0]; decide, "java/util/NoSuchElementException", by rw [h0]; exact S.2.2.2.2 _ u302, hg.2.2.2.2.2.1 ("java/lang/ArithmeticException", "java/util/NoSuchElementException") (by decide +kernel)⟩
    rcases hx1 with ⟨rfl, h9⟩ | ⟨rfl, h9⟩ | ⟨rfl, h9⟩ | ⟨rfl, h9⟩ | ⟨rfl, h9⟩ | ⟨rfl, h9⟩
    · skip
      have hpass_0 : ∀ z ∈ cTabE.take 25, covers z 290 = false ∨ (z.catchType ≠ 0 ∧ ∃ nm : String, (Cond.classLink RL z.catchType nm).before #[.ref (ad 0 0), .int 25, .int p2, .int p3, .int p4] s = true ∧ va_Nc "java/lang/IndexOutOfBoundsException" nm s) := by
        have hc : ∀ z ∈ cTabE.take 25, covers z 290 = false := by decide +kernel
        exact fun z hz => Or.inl (hc z hz)
      refine vx_catch (name := "java/lang/IndexOutOfBoundsException") S.2.2.2.1 (cTabE.take 25) (⟨288, 293, 294, 95⟩ : ExceptionTableEntry) (cTabE.drop 26) (htab.trans rfl) hpass_0 (by decide) (by decide) (S.2.2.2.2 _ u219) (va_Nw.use rfl (hg.2.2.2.2.1.1 ("java/lang/IndexOutOfBoundsException", "java/lang/IndexOutOfBoundsException") (by decide +kernel))) hc1 hc2 hc3 ?_
      refine lv_astore (lv' := [(5, .ref q), (0, .ref (ad 0 0)), (1, .int 25), (2, .int p2), (3, .int p3), (4, .int p4)]) S.1 S.2.1 dL_call_294 hl (by decide) rfl (fun ls hl => ?_)
      refine lv_sipush (v := (-1001)) S.1 S.2.1 dL_call_296 (by decide) ?_
      exact r_iret (y := yL_call) S hr rfl hlk hS (by show _ ≤ mc; omega) (by show _ ≤ ms; omega) dL_call_299 ⟨_, rfl, h9, hw⟩
    · skip
      refine vx_catch (name := "java/lang/IllegalArgumentException") S.2.2.2.1 (cTabE.take 51) (⟨288, 293, 300, 97⟩ : ExceptionTableEntry) (cTabE.drop 52) (htab.trans rfl) hpass_1 (by decide) (by decide) (S.2.2.2.2 _ u299) (va_Nw.use rfl (hg.2.2.2.2.1.1 ("java/lang/IllegalArgumentException", "java/lang/IllegalArgumentException") (by decide +kernel))) hc1 hc2 hc3 ?_
      refine lv_astore (lv' := [(5, .ref q), (0, .ref (ad 0 0)), (1, .int 25), (2, .int p2), (3, .int p3), (4, .int p4)]) S.1 S.2.1 dL_call_300 hl (by decide) rfl (fun ls hl => ?_)
      refine lv_sipush (v := (-1002)) S.1 S.2.1 dL_call_302 (by decide) ?_
      exact r_iret (y := yL_call) S hr rfl hlk hS (by show _ ≤ mc; omega) (by show _ ≤ ms; omega) dL_call_305 ⟨_, rfl, h9, hw⟩
    · skip
      refine vx_catch (name := "java/lang/IllegalStateException") S.2.2.2.1 (cTabE.take 77) (⟨288, 293, 306, 99⟩ : ExceptionTableEntry) (cTabE.drop 78) (htab.trans rfl) hpass_2 (by decide) (by decide) (S.2.2.2.2 _ u300) (va_Nw.use rfl (hg.2.2.2.2.1.1 ("java/lang/IllegalStateException", "java/lang/IllegalStateException") (by decide +kernel))) hc1 hc2 hc3 ?_
      refine lv_astore (lv' := [(5, .ref q), (0, .ref (ad 0 0)), (1, .int 25), (2, .int p2), (3, .int p3), (4, .int p4)]) S.1 S.2.1 dL_call_306 hl (by decide) rfl (fun ls hl => ?_)
      refine lv_sipush (v := (-1003)) S.1 S.2.1 dL_call_308 (by decide) ?_
      exact r_iret (y := yL_call) S hr rfl hlk hS (by show _ ≤ mc; omega) (by show _ ≤ ms; omega) dL_call_311 ⟨_, rfl, h9, hw⟩
    · skip
      refine vx_catch (name := "java/lang/UnsupportedOperationException") S.2.2.2.1 (cTabE.take 103) (⟨288, 293, 312, 101⟩ : ExceptionTableEntry) (cTabE.drop 104) (htab.trans rfl) hpass_3 (by decide) (by decide) (S.2.2.2.2 _ u301) (va_Nw.use rfl (hg.2.2.2.2.1.1 ("java/lang/UnsupportedOperationException", "java/lang/UnsupportedOperationException") (by decide +kernel))) hc1 hc2 hc3 ?_
      refine lv_astore (lv' := [(5, .ref q), (0, .ref (ad 0 0)), (1, .int 25), (2, .int p2), (3, .int p3), (4, .int p4)]) S.1 S.2.1 dL_call_312 hl (by decide) rfl (fun ls hl => ?_)
      refine lv_sipush (v := (-1004)) S.1 S.2.1 dL_call_314 (by decide) ?_
      exact r_iret (y := yL_call) S hr rfl hlk hS (by show _ ≤ mc; omega) (by show _ ≤ ms; omega) dL_call_317 ⟨_, rfl, h9, hw⟩
    · skip
      refine vx_catch (name := "java/util/NoSuchElementException") S.2.2.2.1 (cTabE.take 129) (⟨288, 293, 318, 103⟩ : ExceptionTableEntry) (cTabE.drop 130) (htab.trans rfl) hpass_4 (by decide) (by decide) (S.2.2.2.2 _ u302) (va_Nw.use rfl (hg.2.2.2.2.1.1 ("java/util/NoSuchElementException", "java/util/NoSuchElementException") (by decide +kernel))) hc1 hc2 hc3 ?_
      refine lv_astore (lv' := [(5, .ref q), (0, .ref (ad 0 0)), (1, .int 25), (2, .int p2), (3, .int p3), (4, .int p4)]) S.1 S.2.1 dL_call_318 hl (by decide) rfl (fun ls hl => ?_)
      refine lv_sipush (v := (-1005)) S.1 S.2.1 dL_call_320 (by decide) ?_
      exact r_iret (y := yL_call) S hr rfl hlk hS (by show _ ≤ mc; omega) (by show _ ≤ ms; omega) dL_call_323 ⟨_, rfl, h9, hw⟩
    · skip
      refine vx_catch (name := "java/lang/ArithmeticException") S.2.2.2.1 (cTabE.take 155) (⟨288, 293, 324, 105⟩ : ExceptionTableEntry) (cTabE.drop 156) (htab.trans rfl) hpass_5 (by decide) (by decide) (S.2.2.2.2 _ u303) (va_Nw.use rfl (hg.2.2.2.2.1.1 ("java/lang/ArithmeticException", "java/lang/ArithmeticException") (by decide +kernel))) hc1 hc2 hc3 ?_
      refine lv_astore (lv' := [(5, .ref q), (0, .ref (ad 0 0)), (1, .int 25), (2, .int p2), (3, .int p3), (4, .int p4)]) S.1 S.2.1 dL_call_324 hl (by decide) rfl (fun ls hl => ?_)
      refine lv_sipush (v := (-1006)) S.1 S.2.1 dL_call_326 (by decide) ?_
      exact r_iret (y := yL_call) S hr rfl hlk hS (by show _ ≤ mc; omega) (by show _ ≤ ms; omega) dL_call_329 ⟨_, rfl, h9, hw⟩
  · obtain ⟨r1, rfl, h, hw⟩ := hq
    exact r_iret (y := yL_call) S hr rfl hlk hS (by show _ ≤ mc; omega) (by show _ ≤ ms; omega) dL_call_293 ⟨_, rfl, h, hw⟩
