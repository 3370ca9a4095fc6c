section MORE
variable {p : Program} {l : Launch} {e : Env} {R : Room} {s : State} {m : MethodId} {args : Array Value} {below : List Frame} {meth : Method} {c : Code} {H : Heap} {locs : List Loc} {cells slots : Nat} {Q : State → Prop}
variable {D : va_G} {cI : Nat → ClassId} {e0 : Nat} {A : Nat → Prop} {ad av : Nat → Nat → Nat} {K M : KS} {ap o : Int64} {od : UInt64}
variable {cc : ByteArray} {nL pc : Nat} {ls : Array Slot} {rest : List Value} {own : String} {index : Nat}
theorem lv_ldcfW (hexec : p.tables.exec = Jvm.exec) (hb : c.code = cc) {v : UInt32} (hown : s.vm.findClass own = some m.cls) (hconst : (Cond.constantFloat own index v).before args s = true) (hdg : decode cc pc = .ok (.ldc_w index, 3)) (k : W p l e R s m args below meth c H locs cells slots Q (F0 m (pc + 3) ls (.float v :: rest))) : W p l e R s m args below meth c H locs cells slots Q (F0 m pc ls rest) := by
  intro T hT X
  obtain ⟨t, a, b⟩ := k T hT X
  obtain ⟨k9, cf, hk, hcf, hcp⟩ := Cond.constantFloat_spec hown hconst
  obtain ⟨k', hk', he⟩ := X.warmed.alike.2.2 _ _ hk
  have hdg' : decode c.code (F0 m pc ls rest).pc = .ok (.ldc_w index, 3) := by rw [hb]; exact hdg
  refine ⟨t, ?_, b⟩
  jvm_step X.here [hexec, hdg', ldc_w.wp_float (s := T) (f := F0 m pc ls rest) X.here.top hk' (by rw [he]; exact hcf) hcp]
  exact a
/-! throw new NoSuchElementException(".."): its constructor hands the text on through the pool's place 13, where the kit's law wants place 7; so the chain's first link is made here by the library's own PassC.ofS_atoms -/
def nsE : String := "java/util/NoSuchElementException"
def rtE : String := "java/lang/RuntimeException"
def nsB : ByteArray := ⟨#[0x2a, 0x2b, 0xb7, 0x00, 0x0d, 0xb1]⟩
def nsOwn (own : String) (ic : Nat) : List Cond :=
  [.methodLink own ic (Bundle.initS nsE), .instantiable nsE 6, .selects nsE Bundle.tFill0 Bundle.tFill0, .selects nsE Bundle.tFill Bundle.tFill,
   .lays nsE Bundle.tN "cause" "Ljava/lang/Throwable;", .lays nsE Bundle.tN "stackTrace" Bundle.steD, .lays nsE Bundle.tN "suppressedExceptions" Bundle.listD, .lays nsE Bundle.tN "detailMessage" "Ljava/lang/String;",
   .isRef (.static Bundle.tN "UNASSIGNED_STACK" Bundle.steD), .isRef (.static Bundle.tN "SUPPRESSED_SENTINEL" Bundle.listD),
   .fieldLink Bundle.tN 198 Bundle.tN "backtrace" "Ljava/lang/Object;", .lays Bundle.tN Bundle.tN "backtrace" "Ljava/lang/Object;", .lays nsE Bundle.tN "backtrace" "Ljava/lang/Object;"]
def nsAt (own : String) (ic : Nat) : List Cond :=
  Bundle.throwableAtoms ++ (Bundle.throwableSAtoms ++ (Bundle.chainSAtoms rtE ["java/lang/Exception"] ++ (Bundle.passSAtoms nsE rtE 13 nsB ++ nsOwn own ic)))
theorem nsAt_1 {own : String} {ic : Nat} {w : Cond} (h : w ∈ Bundle.throwableAtoms) : w ∈ nsAt own ic := List.mem_append_left _ h
theorem nsAt_2 {own : String} {ic : Nat} {w : Cond} (h : w ∈ Bundle.throwableSAtoms) : w ∈ nsAt own ic := List.mem_append_right _ (List.mem_append_left _ h)
theorem nsAt_3 {own : String} {ic : Nat} {w : Cond} (h : w ∈ Bundle.chainSAtoms rtE ["java/lang/Exception"]) : w ∈ nsAt own ic := List.mem_append_right _ (List.mem_append_right _ (List.mem_append_left _ h))
theorem nsAt_4 {own : String} {ic : Nat} {w : Cond} (h : w ∈ Bundle.passSAtoms nsE rtE 13 nsB) : w ∈ nsAt own ic := List.mem_append_right _ (List.mem_append_right _ (List.mem_append_right _ (List.mem_append_left _ h)))
theorem nsAt_5 {own : String} {ic : Nat} {w : Cond} (h : w ∈ nsOwn own ic) : w ∈ nsAt own ic := List.mem_append_right _ (List.mem_append_right _ (List.mem_append_right _ (List.mem_append_right _ h)))
set_option maxHeartbeats 2000000 in
theorem nsThrow {s : State} {W0 : State} (X : Stand p l e R s m args below meth c W0 locs cells slots) (hexec : p.tables.exec = Jvm.exec) (htr : e.platform.stackTraces = false) {ic : Nat}
    (hown : s.vm.findClass own = some m.cls) (h : ∀ w ∈ nsAt own ic, w.before args s = true)
    (hlocs : ∀ x ∈ locs, ∀ cell, s.heap[x.base]? = some cell → cell.vm.isStatics = false)
    {a : Addr} {cX : ClassId} {kX : Class} (hfX : s.vm.findClass nsE = some cX) (hkX : s.vm.classes[cX]? = some kX) (hcell : W0.heap[a]? = some (freshCell cX kX)) (hnew : s.heap.size ≤ a)
    {msg : Value} (hmsg : msg.isRef = true) {g : JFrame} (hg : g.method = m) (hsize : g.locals.size = c.maxLocals) (hlocked : g.locked = none) (hentered : g.entered = []) {rest : List Value} (hstack : g.stack = msg :: .ref a :: .ref a :: rest)
    (hd6 : decode c.code g.pc = .ok (.invokespecial ic, 3)) (hd9 : decode c.code (g.pc + 3) = .ok (.athrow, 1)) (hout : ∀ x ∈ c.exceptionTable.toList, covers x (g.pc + 3) = false)
    (hRf : 5 < R.frames) (hRl : 2 * g.monitorRoom + ((Value.ref a :: rest).map fun v => v.category).sum + 81 ≤ R.locals) (hlocks : meth.locks = false) :
    ∃ U : State, Steps p.tables e below (W0.setTop g) U ∧ U.status = .running ∧ Ended U below (.threw a) ∧ s.WarmedH U.vm ∧ s.sameButNew ({ U with vm := s.vm } : State) locs cells slots ∧ ∃ ce, U.heap[a]? = some ce ∧ ce.vm = .none ∧ s.vm.findClass nsE = some ce.cls := by
  have pf := X.admits.platform
  have howns : e.platform.frameOwnsMonitors = true := by rw [pf]
  have hfin : e.platform.finalization = false := by rw [pf]
  have hpl : e.platform.magicAccessors = ({} : Platform).magicAccessors := by rw [pf]
  have o : ∀ w, w ∈ nsOwn own ic → w.holds args s none s [] = true := fun w hw => h w (nsAt_5 hw)
  obtain ⟨T, Z0, L, -, Y⟩ := ThrowableC.of_atoms (args := args) howns hfin hpl (fun w hw => h w (nsAt_1 hw))
  obtain ⟨Z, N, LZ, LN, hnZ⟩ := Init0T.ofS_atoms (args := args) hpl L Y (fun w hw => h w (nsAt_2 hw))
  obtain ⟨P2, Ps, hlen, L2, hLs, hP2, hl2, hls⟩ := Bundle.chainS (args := args) hpl hnZ ["java/lang/Exception"] rtE (by decide) (by decide) (fun w hw => h w (nsAt_3 hw))
  obtain ⟨P1, L1, hP1, hP1s⟩ := PassC.ofS_atoms (args := args) (s := s) hpl (X := nsE) (Y := rtE) (index := 13) (bytes := nsB) (by decide) (by decide) (by decide +kernel) (by decide +kernel) (by decide +kernel) (by decide +kernel) (fun w hw => h w (nsAt_4 hw))
  have hsup : P1.sup = P2.m := Option.some.inj (hP1s.symm.trans hP2)
  have hcl : s.vm.findClass nsE = some P1.m.cls := findClass_of_methodNamed hP1
  cases Option.some.inj (hfX.symm.trans hcl)
  obtain ⟨k1, kY, hk1, hk, hord, -, -, -⟩ := Cond.instantiable_spec (o (.instantiable nsE 6) (by simp [nsOwn]))
  cases Option.some.inj (hk1.symm.trans hcl)
  cases Option.some.inj (hkX.symm.trans hk)
  have hse : ∀ (y : MethodName) (id : MethodId), Cond.selects nsE y y ∈ nsOwn own ic → s.methodNamed? y = some id → s.methodFound? y.cls y.name y.desc = some id → selectMethod e.platform s.vm P1.m.cls id = .method id := by
    intro y id hin hn hf
    obtain ⟨c2, r2, m2, q1, q2, q3, q4, -⟩ := Cond.selects_spec (o _ hin)
    cases Option.some.inj (q1.symm.trans hcl)
    cases Option.some.inj (q2.symm.trans hf)
    cases Option.some.inj (q3.symm.trans hn)
    rw [Launch.admits_selectMethod X.admits]
    exact q4
  have hs0 := hse Bundle.tFill0 T.fill0 (by simp [nsOwn]) Y.fill0 (State.methodFound?_of_named Y.fill0 (by decide))
  have hsF := hse Bundle.tFill T.fill (by simp [nsOwn]) Y.fill (State.methodFound?_of_named Y.fill (by decide))
  obtain ⟨cS, hcS, hiss⟩ := Y.statics
  obtain ⟨u0, hu0⟩ := Cond.staticRefV Y.unassigned L.unassignedStatic L.statics hcS hiss (o (.isRef (.static Bundle.tN "UNASSIGNED_STACK" Bundle.steD)) (by simp [nsOwn]))
  obtain ⟨sen, hsen⟩ := Cond.staticRefV Y.sentinel L.sentinelStatic L.statics hcS hiss (o (.isRef (.static Bundle.tN "SUPPRESSED_SENTINEL" Bundle.listD)) (by simp [nsOwn]))
  obtain ⟨bc, bi, fB, hb1, hb2, hb3, hb4, -, hnB, htB, hffB⟩ := Cond.ownField (t := .object "java/lang/Object") Y.found L.cls (by decide +kernel) (o (.fieldLink Bundle.tN 198 Bundle.tN "backtrace" "Ljava/lang/Object;") (by simp [nsOwn])) (o (.lays Bundle.tN Bundle.tN "backtrace" "Ljava/lang/Object;") (by simp [nsOwn])) e.platform hpl
  obtain ⟨cT, hcT, heT, -, hkeep⟩ := X.same.2.2.2.2.2 T.aS cS hcS
  have hcT : W0.heap[T.aS]? = some cT := hcT
  have hno : ∀ i, (⟨T.aS, i⟩ : Loc) ∉ locs := by
    intro i hm
    have h9 := hlocs _ hm cS hcS
    rw [hiss] at h9
    cases h9
  have hku : cT.vm ≠ .unknown := by
    rw [heT]
    intro hu
    rw [hu] at hiss
    cases hiss
  have hne : T.aS ≠ a := Nat.ne_of_lt (Nat.lt_of_lt_of_le (Array.getElem?_eq_some_iff.mp hcS).1 hnew)
  obtain ⟨iM, hfM⟩ := Y.msg
  obtain ⟨tC, dC, eC, nC9⟩ := Cond.laysAt hcl hk Y.cause (o (.lays nsE Bundle.tN "cause" "Ljava/lang/Throwable;") (by simp [nsOwn]))
  obtain ⟨tS, dS, eS, nS9⟩ := Cond.laysAt hcl hk Y.stack (o (.lays nsE Bundle.tN "stackTrace" Bundle.steD) (by simp [nsOwn]))
  obtain ⟨tP, dP, eP, nP9⟩ := Cond.laysAt hcl hk Y.supp (o (.lays nsE Bundle.tN "suppressedExceptions" Bundle.listD) (by simp [nsOwn]))
  obtain ⟨tM, dM, eM, nM9⟩ := Cond.laysAt hcl hk hfM (o (.lays nsE Bundle.tN "detailMessage" "Ljava/lang/String;") (by simp [nsOwn]))
  obtain ⟨tB, dB, eB, nB9⟩ := Cond.laysAt hcl hk hffB (o (.lays nsE Bundle.tN "backtrace" "Ljava/lang/Object;") (by simp [nsOwn]))
  have bC := Cond.laysApart eB eC nB9 nC9 (by rw [hnB, Y.causeName]; decide)
  have bS := Cond.laysApart eB eS nB9 nS9 (by rw [hnB, Y.stackName]; decide)
  have bP := Cond.laysApart eB eP nB9 nP9 (by rw [hnB, Y.suppName]; decide)
  have hskip : SkipFacts T e.platform s (fun u => u) u0 ((preparedCellV T.toThrowableT (freshCell P1.m.cls kX) a u0 sen).withEntry W0.cur) :=
    ⟨{ ci198 := bc, i198 := bi, fBack := fB }, ⟨hb1, hb2, hb3, hb4⟩, by
      have q := fresh_default (c := P1.m.cls) tB
      rw [htB] at q
      simpa [preparedCellV, Cell.setSlot, Cell.withEntry, Array.getElem?_setIfInBounds, bC, bS, bP, bC.symm, bS.symm, bP.symm, defaultValue] using q, fun _ _ => rfl⟩
  obtain ⟨tm, mC, cdC, kC, vm1, hnC, -, -, -, -, -, -, -, hW1, st1⟩ := Steps.initColdS (tb := p.tables) (e := e) (below := below) (s := s) (U := W0) X.here hexec X.warmed hpl hown (t := Bundle.initS nsE) rfl rfl (by decide)
    (o (.methodLink own ic (Bundle.initS nsE)) (by simp [nsOwn])) (h (.instanceMethod (Bundle.initS nsE)) (nsAt_4 (by simp [Bundle.passSAtoms]))) (bytes := nsB) (maxL := 2) (h (.code (Bundle.initS nsE) nsB 2 none) (nsAt_4 (by simp [Bundle.passSAtoms])))
    (f := g) hg (a := a) (msg := msg) (rest := .ref a :: rest) hstack hd6
  cases Option.some.inj (hnC.symm.trans hP1)
  have X1 := X.noted hW1
  obtain ⟨vm2, X2, st2⟩ := X1.ctorMessageOffV hexec (g := { g with stack := .ref a :: rest }) hg hsize T L Z LZ N LN (P1 :: P2 :: Ps)
    (fun P hP => by
      rcases List.mem_cons.mp hP with rfl | hP
      · exact L1
      · rcases List.mem_cons.mp hP with rfl | hP
        · exact L2
        · exact hLs P hP) ⟨hsup, hl2, hls⟩ (u0 := u0) (sen := sen) (self := a) hmsg (cell := freshCell P1.m.cls kX) (cellS := cT)
    hcell (fun _ => by simp) (by simp) rfl rfl hs0 hsF hcT hne hku (by rw [hkeep _ (hno _)]; exact hu0) (by rw [hkeep _ (hno _)]; exact hsen)
    (Takes.of_laid hk hord tC (by rw [Y.causeType]; rfl)) (Takes.of_laid hk hord tS (by rw [Y.stackType]; exact fits_refV_array _ u0)) (Takes.of_laid hk hord tP (by rw [Y.suppType]; exact fits_refV_object _ sen))
    (Takes.of_laid hk hord tM (by rw [Y.msgType]; exact fits_refV_object _ ⟨msg, hmsg⟩)) Y.objLocals hskip htr [] hd6
    (by have hl1 : Ps.length = 1 := hlen
        simp only [List.length_cons, hl1]; omega) (by
        have hl1 : Ps.length = 1 := hlen
        simp only [List.length_cons, hl1]; exact hRl)
  obtain ⟨hwalk, hrun, hend, hWU, hsame⟩ := X2.athrowLeaves hexec (g := { g with stack := .ref a :: rest, pc := g.pc + 3 }) hg hlocked hentered hout (a := a) (rest := rest) rfl hd9
  have hlt : a < ((W0.setVm vm1).setVm vm2).heap.size := (Array.getElem?_eq_some_iff.mp hcell).1
  have hU := heapAt_setCell_self (s := (W0.setVm vm1).setVm vm2) (plainBareV T.toThrowableT (freshCell P1.m.cls kX) a u0 sen msg) hlt
  refine ⟨_, st1 _ (fun acts => ?_), hrun, hend, hWU, hsame.weaken (fun y hy hlt9 => ?_) (Nat.le_refl _) (Nat.le_refl _), _, hU, rfl, hcl⟩
  · rw [doInvoke_state]
    exact st2 _ hwalk
  · rcases List.mem_append.mp hy with h1 | h1
    · exact h1
    · exfalso
      have hb : y.base = a := by
        simp only [List.mem_cons, List.not_mem_nil, or_false] at h1
        rcases h1 with rfl | rfl | rfl | rfl | rfl <;> rfl
      rw [hb] at hlt9
      exact Nat.not_lt.mpr hnew hlt9
theorem hatN_245 : ∀ w ∈ (nsAt RX6 245).filter vx_no, w ∈ WU ∨ (∃ q ∈ gCa, w = .castable q.1 q.2) ∨ ∃ q ∈ gDc, w = .declares q := hat_of (by decide +kernel) (by decide +kernel)
theorem r_throwN {mc ms : Nat} {QQ : Option Value → Heap → Prop} {XX : String → Heap → Prop} {text : String} {ik is : Nat} (hfl : l.stackTraces = false) (S : CallFix p m c cc nL s args WU RX6) (hout : ∀ x ∈ c.exceptionTable.toList, False) (hlk : meth.locks = false) (hg : GI D cI e0 A s s.heap) (hS : va_S A s.heap H locs)
    (hk : Cond.classLink RX6 ik "java/util/NoSuchElementException" ∈ WU) (hini : Cond.initialized "java/util/NoSuchElementException" ∈ WU) (hstr : (RX6, is, text) ∈ gStr) (hsize : ls.size = nL)
    (d0 : decode cc pc = .ok (.new ik, 3)) (d3 : decode cc (pc + 3) = .ok (.dup, 1)) (d4 : decode cc (pc + 4) = .ok (.ldc is, 2)) (d6 : decode cc (pc + 6) = .ok (.invokespecial 245, 3)) (d9 : decode cc (pc + 9) = .ok (.athrow, 1))
    (hfr : 6 ≤ R.frames) (hlo : (rest.map fun v => v.category).sum + 82 ≤ R.locals) (hRc : cells + 1 ≤ R.cells) (hRs : slots + 6 ≤ R.slots) (hc : cells + 1 ≤ mc) (hs : slots + 6 ≤ ms)
    (hx : ∀ H1 : Heap, H.size ≤ H1.size → (∀ q : Nat, q < H.size → H1[q]? = H[q]?) → XX "java/util/NoSuchElementException" H1) : W p l e R s m args below meth c H locs cells slots (vx_MQ below (fun _ st oc t => (∃ r, oc = .returned r ∧ QQ r t.heap) ∧ va_F A st t) (fun E st t => XX E t.heap ∧ va_F A st t) args s mc ms A) (F0 m pc ls rest) := by
  obtain ⟨sa, hsa⟩ := hg.2.2.2.1 _ hstr
  have ht := S.2.2.2.2
  have hat2 : ∀ w ∈ (nsAt RX6 245).filter vx_no, w.before args s = true ∧ vx_ot w = true := by
    intro w hw
    rcases hatN_245 w hw with h | ⟨q, hq, rfl⟩ | ⟨q, hq, rfl⟩
    · exact ⟨ht w h, by unfold vx_ot; rw [WU_good w h, Bool.or_true]⟩
    · exact ⟨va_Nw.use rfl (hg.2.2.2.2.1.1 q hq), rfl⟩
    · exact ⟨va_Nw.use rfl (hg.2.2.2.2.1.2 q hq), rfl⟩
  have hexec := S.1
  have hb := S.2.1
  intro T hT X
  have htr : e.platform.stackTraces = false := (show e.platform.stackTraces = l.stackTraces by rw [X.admits.platform]).trans hfl
  have Y := vx_rebase X (R' := { frames := R.frames, locals := R.locals, cells := 1, slots := 6 }) (Nat.le_refl _) (Nat.le_refl _) hRc hRs
  obtain ⟨s', hA⟩ : ∃ z, z = (T.setVm s.vm).setFrames (.invoking m args :: below) := ⟨_, rfl⟩
  rw [← hA] at Y
  have hvm : s'.vm = s.vm := by rw [hA]; rfl
  have hhp : s'.heap = H := by rw [hA]; exact hT
  have hW0 : s.WarmedH s'.vm := by rw [hvm]; exact State.WarmedH.refl s
  have hU' : vx_Zq Bundle.tN "UNASSIGNED_STACK" Bundle.steD A s' s'.heap := by rw [hhp]; exact vx_Zq.moved hW0.alike (hg.2.2.1.1.kept hS.2.1)
  have hN' : vx_Zq Bundle.tN "SUPPRESSED_SENTINEL" Bundle.listD A s' s'.heap := by rw [hhp]; exact vx_Zq.moved hW0.alike (hg.2.2.1.2.kept hS.2.1)
  have h : ∀ w ∈ nsAt RX6 245, w.before args s' = true := vx_own (fun w hw => vx_ot_at hW0 hvm.symm (hat2 w hw).2 (hat2 w hw).1) (vx_isRefq hU'.1) (vx_isRefq hN'.1) hU'.2.word hN'.2.word
  have hown' : s'.vm.findClass RX6 = some m.cls := by rw [hvm]; exact S.2.2.2.1
  have hk' : (Cond.classLink RX6 ik nsE).before args s' = true := vx_ot_at hW0 hvm.symm (by unfold vx_ot; rw [WU_good (Cond.classLink RX6 ik nsE) hk, Bool.or_true]) (ht _ hk)
  have hini' : (Cond.initialized nsE).before args s' = true := vx_ot_at hW0 hvm.symm (by unfold vx_ot; rw [WU_good (Cond.initialized nsE) hini, Bool.or_true]) (ht _ hini)
  obtain ⟨vm1, cX, kX, hfX, hkX, -, -, X1, st1⟩ := Y.newCold hexec (own := RX6) (C := nsE) (index := ik) (n := 6) hown' hk' (h _ (nsAt_5 (by simp [nsOwn]))) hini'
    (g := F0 m pc ls rest) rfl (by rw [hb]; exact d0) (Nat.le_refl _) (Nat.le_refl _)
  generalize hT1 : (T.setVm vm1).pushCell { cls := cX, slots := kX.instanceTypes.map defaultValue, vm := .none } = T1 at X1 st1
  have hcat : (Value.ref T.heap.size).category = 1 := rfl
  have hcA : T1.heap[T.heap.size]? = some (freshCell cX kX) := by rw [← hT1]; exact State.heap_pushCell_size _ _
  have d3' : decode c.code (pc + 3) = .ok (.dup, 1) := by rw [hb]; exact d3
  have d4' : decode c.code (pc + 4) = .ok (.ldc is, 2) := by rw [hb]; exact d4
  have hstr' : vk_R RX6 is text sa s' := vk_R.warm hW0 hsa
  obtain ⟨U, hst, hrun, hend, hW, hsame, ce, hce, hcv, hcf⟩ := nsThrow X1 hexec htr (own := RX6) (ic := 245) hown' h (fun x hx => nomatch hx) hfX hkX hcA (by rw [hhp, hT]; exact Nat.le_refl _) (msg := .ref sa) rfl
    (g := { method := m, pc := pc + 6, locals := ls, stack := .ref sa :: .ref T.heap.size :: .ref T.heap.size :: rest, locked := none }) rfl (hsize.trans S.2.2.1.symm) rfl rfl (rest := rest) rfl
    (by rw [hb]; exact d6) (by rw [hb]; exact d9) (fun x hx => absurd (hout x hx) id) (by show 5 < R.frames; omega) (by simp only [List.map_cons, List.sum_cons, hcat]; show 2 * 0 + _ + 81 ≤ R.locals; omega) hlk
  obtain ⟨f1, f2⟩ := vx_frame hsame
  rw [hhp] at f1 f2
  have hWs : s.WarmedH U.vm := State.WarmedH.trans hW0 hW
  have hcl : s.vm.findClass nsE = some ce.cls := by
    rw [hvm] at hcf
    exact hcf
  have hall : s.sameButNew ({ U with vm := s.vm } : State) locs mc ms := by
    subst hA
    obtain ⟨e1, e2⟩ := hsame
    rw [State.setFrames_setFrames] at e1
    have h2 : (T.setVm s.vm).sameButNew ({ U with vm := s.vm } : State) [] (0 + 1) (0 + 6) := ⟨e1, e2⟩
    have h3 := X.same.trans h2
    rw [List.append_nil] at h3
    exact h3.mono hc hs
  have hk2 : ∀ q : Nat, q < H.size → U.heap[q]? = H[q]? := fun q hq => f2 q hq (fun z hz => nomatch hz)
  have hF : va_F A s U := by
    refine ⟨Nat.le_trans hS.1 f1, fun q h1 h2 => ?_⟩
    rw [hk2 q (Nat.lt_of_lt_of_le h1 hS.1)]
    exact hS.2.1 q h1 h2
  refine ⟨U, ?_, .threw T.heap.size, hrun, hend, Or.inr ⟨T.heap.size, rfl, nsE, ce, locs, ⟨hx U.heap f1 hk2, hF⟩, hce, hcv, hcl, hWs, hall, hS.2.2⟩⟩
  refine st1 _ ?_
  show Steps p.tables e below (T1.setTop { method := m, pc := pc + 3, locals := ls, stack := .ref T.heap.size :: rest, locked := none }) _
  jvm_step X1.here [X1.here.top, hexec, d3', Value.category]
  exact X1.ldcString hexec (own := RX6) (text := text) (index := is) (a := sa) hown' hstr'.1 hstr'.2
    (g := { method := m, pc := pc + 4, locals := ls, stack := .ref T.heap.size :: .ref T.heap.size :: rest, locked := none }) rfl d4' _ hst
end MORE
