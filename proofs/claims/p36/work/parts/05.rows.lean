def gStr : List (String × Nat × String) := [(RX6, 48, "coins out of range"), (RX6, 59, "there are 6 players"), (RX6, 350, "no such player"), (RX6, 69, "no such kind"), (RX6, 75, "there are 40 cards"), (RX6, 352, "no such card"), (RX6, 116, "no such posting"), (RX6, 128, "no such thing in a posting"), (RX6, 130, "a duel has two players"), (RX6, 136, "a player is in a duel that has not ended"), (RX6, 138, "there are 8 duels"), (RX6, 354, "no such duel"), (RX6, 156, "not open, or not a duel of the card's owner"), (RX6, 172, "the card is not free, is offered, or is one too many"), (RX6, 177, "the duel is not open"), (RX6, 190, "a player staked no card"), (RX6, 198, "the duel does not go on"), (RX6, 208, "not a card that this player can play here"), (RX6, 213, "too little mana"), (RX6, 243, "the duel has not ended"), (RX6, 246, "the duel has not ended, or is final"), (RX6, 258, "the duel has 6 snapshots"), (RX6, 268, "no such snapshot or place"), (RX6, 277, "no such snapshot"), (RX6, 279, "the duel is open or final"), (RX6, 284, "a player is in another duel that has not ended"), (RX6, 303, "price out of range"), (RX6, 305, "the card is staked or offered, or there are 60 offers"), (RX6, 356, "no such offer"), (RX6, 316, "the offer is not open"), (RX6, 322, "the offer is not open, or the card is the buyer's"), (RX6, 327, "too few coins")]
def gNc : List (String × String) := [("java/lang/ArithmeticException", "java/lang/IndexOutOfBoundsException"), ("java/lang/IllegalArgumentException", "java/lang/IndexOutOfBoundsException"), ("java/lang/IllegalStateException", "java/lang/IndexOutOfBoundsException"), ("java/lang/UnsupportedOperationException", "java/lang/IndexOutOfBoundsException"), ("java/util/NoSuchElementException", "java/lang/IndexOutOfBoundsException"), ("java/lang/ArithmeticException", "java/lang/IllegalArgumentException"), ("java/lang/IllegalStateException", "java/lang/IllegalArgumentException"), ("java/lang/IndexOutOfBoundsException", "java/lang/IllegalArgumentException"), ("java/lang/UnsupportedOperationException", "java/lang/IllegalArgumentException"), ("java/util/NoSuchElementException", "java/lang/IllegalArgumentException"), ("java/lang/ArithmeticException", "java/lang/IllegalStateException"), ("java/lang/IllegalArgumentException", "java/lang/IllegalStateException"), ("java/lang/IndexOutOfBoundsException", "java/lang/IllegalStateException"), ("java/lang/UnsupportedOperationException", "java/lang/IllegalStateException"), ("java/util/NoSuchElementException", "java/lang/IllegalStateException"), ("java/lang/ArithmeticException", "java/lang/UnsupportedOperationException"), ("java/lang/IllegalArgumentException", "java/lang/UnsupportedOperationException"), ("java/lang/IllegalStateException", "java/lang/UnsupportedOperationException"), ("java/lang/IndexOutOfBoundsException", "java/lang/UnsupportedOperationException"), ("java/util/NoSuchElementException", "java/lang/UnsupportedOperationException"), ("java/lang/ArithmeticException", "java/util/NoSuchElementException"), ("java/lang/IllegalArgumentException", "java/util/NoSuchElementException"), ("java/lang/IllegalStateException", "java/util/NoSuchElementException"), ("java/lang/IndexOutOfBoundsException", "java/util/NoSuchElementException"), ("java/lang/UnsupportedOperationException", "java/util/NoSuchElementException"), ("java/lang/IllegalArgumentException", "java/lang/ArithmeticException"), ("java/lang/IllegalStateException", "java/lang/ArithmeticException"), ("java/lang/IndexOutOfBoundsException", "java/lang/ArithmeticException"), ("java/lang/UnsupportedOperationException", "java/lang/ArithmeticException"), ("java/util/NoSuchElementException", "java/lang/ArithmeticException")]
def gCa : List (String × String) := [("java/lang/ArrayIndexOutOfBoundsException", "java/lang/ArrayIndexOutOfBoundsException"), ("java/lang/ArithmeticException", "java/lang/ArithmeticException"), ("java/lang/IllegalArgumentException", "java/lang/IllegalArgumentException"), ("java/lang/IllegalStateException", "java/lang/IllegalStateException"), ("java/lang/IndexOutOfBoundsException", "java/lang/IndexOutOfBoundsException"), ("[I", "java/lang/Cloneable"), ("java/lang/UnsupportedOperationException", "java/lang/UnsupportedOperationException"), ("java/util/NoSuchElementException", "java/util/NoSuchElementException"), ("java/lang/ArrayIndexOutOfBoundsException", "java/lang/IndexOutOfBoundsException"), ("SnapshotArena", "java/lang/Object"), ("java/util/ArrayList", "java/lang/Object"), ("SnapshotArena$Ledger", "java/lang/Object"), ("SnapshotArena$BlockStore", "java/lang/Object"), ("java/lang/ArrayIndexOutOfBoundsException", "java/lang/Object"), ("java/lang/ArithmeticException", "java/lang/Object"), ("java/lang/IllegalArgumentException", "java/lang/Object"), ("java/lang/IllegalStateException", "java/lang/Object"), ("java/lang/IndexOutOfBoundsException", "java/lang/Object"), ("SnapshotArena$Card", "java/lang/Object"), ("SnapshotArena$Duel", "java/lang/Object"), ("SnapshotArena$Side", "java/lang/Object"), ("java/lang/UnsupportedOperationException", "java/lang/Object"), ("java/util/NoSuchElementException", "java/lang/Object"), ("SnapshotArena$Offer", "java/lang/Object"), ("java/lang/Throwable", "java/lang/Object"), ("java/lang/String", "java/lang/Object"), ("[I", "java/lang/Object"), ("[B", "java/lang/Object"), ("[Ljava/lang/Object;", "java/lang/Object"), ("[[I", "java/lang/Object")]
def gDc : List MethodName := [⟨"java/lang/RuntimeException", "<init>", "(Ljava/lang/String;)V"⟩, ⟨"java/lang/Exception", "<init>", "(Ljava/lang/String;)V"⟩, ⟨"java/lang/Throwable", "<init>", "(Ljava/lang/String;)V"⟩]
/-- array classes by place: int, char, Object, int[], long, double -/
def tysOf (c : Nat → ClassId) : List (ClassId × FieldType) := [(c 0, .int), (c 1, .int), (c 2, .object "java/lang/Object"), (c 3, .array .int), (c 4, .int), (c 5, .int)]
def gADC : String := "java/util/ArrayList"
/-- what holds all along, wherever the machine has come to -/
def GI (D : va_G) (cI : Nat → ClassId) (e0 : Nat) (A : Nat → Prop) (U : State) (H : Heap) : Prop :=
  va_K D vwCl (tysOf cI) U ∧
  (va_Z gADC "DEFAULTCAPACITY_EMPTY_ELEMENTDATA" "[Ljava/lang/Object;" (.ref e0) A U H ∧ va_T (.object "java/lang/Object") e0 0 (fun _ => .null) A U H) ∧
  (vx_Zq Bundle.tN "UNASSIGNED_STACK" Bundle.steD A U H ∧ vx_Zq Bundle.tN "SUPPRESSED_SENTINEL" Bundle.listD A U H) ∧
  (∀ q ∈ gStr, ∃ a, vk_R q.1 q.2.1 q.2.2 a U) ∧
  ((∀ q ∈ gCa, va_Nw (.castable q.1 q.2) U) ∧ (∀ q ∈ gDc, va_Nw (.declares q) U)) ∧
  (∀ q ∈ gNc, va_Nc q.1 q.2 U) ∧
  (va_Mi "[Ljava/lang/Object;" (cI 9) U ∧ va_Dc U) ∧
  (va_Nw (.methodLinkNest RX6 31 yX3_init "SnapshotArena") U ∧ va_Nw (.methodLinkNest RX6 38 yX0_init "SnapshotArena") U) ∧
  (va_AO "java/lang/Object" U ∧ va_AOA .int U) ∧
  (∀ q, H.size ≤ q → A q)
theorem GI.mv {D : va_G} {cI : Nat → ClassId} {e0 : Nat} {A : Nat → Prop} {s U : State} {H H1 : Heap} (h : GI D cI e0 A s H) (hW : s.WarmedH U.vm) (hz : H.size ≤ H1.size) (hk : ∀ q : Nat, q < H.size → ¬ A q → H1[q]? = H[q]?) : GI D cI e0 A U H1 := by
  obtain ⟨h1, ⟨h2, h3⟩, ⟨h4, h5⟩, h6, ⟨h7, h7b⟩, h8, ⟨h9, h10⟩, ⟨h11, h12⟩, ⟨h13, h14⟩, h15⟩ := h
  have al := hW.alike
  refine ⟨va_K.moved al h1, ⟨va_Z.moved al (h2.kept hk), va_T.moved al (h3.kept hk)⟩, ⟨vx_Zq.moved al (h4.kept hk), vx_Zq.moved al (h5.kept hk)⟩, ?_, ⟨?_, ?_⟩, ?_, ⟨va_Mi.moved al h9, va_Dc.moved al h10⟩, ⟨va_Nw.warmM hW h11, va_Nw.warmM hW h12⟩, ⟨va_AO.moved al h13, va_AOA.moved al h14⟩, fun q hq => h15 q (Nat.le_trans hz hq)⟩
  · intro q hq
    obtain ⟨a, ha⟩ := h6 q hq
    exact ⟨a, vk_R.warm hW ha⟩
  · intro q hq
    exact va_Nw.warmC hW (h7 q hq)
  · intro q hq
    exact va_Nw.warmD hW (h7b q hq)
  · intro q hq
    exact va_Nc.moved al (h8 q hq)
theorem GI.at {D : va_G} {cI : Nat → ClassId} {e0 : Nat} {A : Nat → Prop} {s U : State} {H : Heap} {locs : List Loc} (h : GI D cI e0 A s s.heap) (hS : va_S A s.heap H locs) (hH : U.heap = H) (hW : s.WarmedH U.vm) : GI D cI e0 A U U.heap := by
  subst hH
  exact h.mv hW hS.1 hS.2.1
/-- a contract: from the arguments av in a heap of P, back with QQ, or thrown with XX -/
def CM (l : Launch) (D : va_G) (cI : Nat → ClassId) (e0 : Nat) (A : Nat → Prop) (y : MethodName) (bytes : ByteArray) (maxL : Nat) (ret : Option FieldType) (fr lo mc ms : Nat) (av : List Value) (P : Heap → Prop) (QQ : Option Value → Heap → Prop) (XX : String → Heap → Prop) : Prop :=
  vx_Met l y (Cond.code y bytes maxL ret :: WU) ({ frames := fr, cells := mc, slots := ms, locals := lo }) (va_Pc av (fun U => GI D cI e0 A U U.heap ∧ P U.heap)) (fun _ st oc t => (∃ r, oc = .returned r ∧ QQ r t.heap) ∧ va_F A st t) (fun E st t => XX E t.heap ∧ va_F A st t) mc ms A
theorem hat_of {L : List Cond} (h1 : ∀ w ∈ L.filter goodWord, w ∈ lw_tbl) (h2 : ∀ w ∈ L.filter (fun w => !goodWord w), w ∈ gCa.map (fun q => Cond.castable q.1 q.2) ++ gDc.map Cond.declares) : ∀ w ∈ L, w ∈ WU ∨ (∃ q ∈ gCa, w = .castable q.1 q.2) ∨ ∃ q ∈ gDc, w = .declares q := by
  intro w hw
  by_cases g : goodWord w = true
  · exact Or.inl (List.mem_filter.mpr ⟨h1 w (List.mem_filter.mpr ⟨hw, g⟩), g⟩)
  · have := h2 w (List.mem_filter.mpr ⟨hw, by simpa using g⟩)
    rcases List.mem_append.mp this with t | t
    · obtain ⟨q, hq, e⟩ := List.mem_map.mp t
      exact Or.inr (Or.inl ⟨q, hq, e.symm⟩)
    · obtain ⟨q, hq, e⟩ := List.mem_map.mp t
      exact Or.inr (Or.inr ⟨q, hq, e.symm⟩)
section BODY
variable {p : Program} {l : Launch} {e : Env} {R : Room} {s : State} {m : MethodId} {args : Array Value} {below : List Frame} {meth : Method} {c : Code} {H : Heap} {locs : List Loc} {cells slots : Nat} {Q : State → Prop}
variable {D : va_G} {cI : Nat → ClassId} {e0 : Nat} {A : Nat → Prop} {adr : Nat → Nat → Nat} {G : Nat → Nat → va_E} {live : Nat → Nat → Prop}
variable {cc : ByteArray} {nL pc : Nat} {ls : Array Slot} {rest : List Value} {Ts : List Cond} {own : String}
/-- what holds at the entry of a method's body, and stays -/
def EN (p : Program) (l : Launch) (D : va_G) (cI : Nat → ClassId) (e0 : Nat) (A : Nat → Prop) (m : MethodId) (meth : Method) (c : Code) (s : State) (args : Array Value) (y : MethodName) (cc : ByteArray) (nL : Nat) (ret : Option FieldType) : Prop :=
  CallFix p m c cc nL s args WU y.cls ∧ GI D cI e0 A s s.heap ∧ meth.sig.returnType = ret ∧ meth.locks = false ∧ meth.name = y.name ∧ (∀ x ∈ c.exceptionTable.toList, False)
theorem CM.of {y : MethodName} {bytes : ByteArray} {maxL : Nat} {ret : Option FieldType} {fr lo mc ms : Nat} {av : List Value} {P : Heap → Prop} {QQ : Option Value → Heap → Prop} {XX : String → Heap → Prop} (hy : plainName y.cls = true) (hav : (lg_sl av).length ≤ maxL)
    (body : ∀ (p : Program) (e : Env) (s : State) (m : MethodId) (below : List Frame) (meth : Method) (c : Code) (ls : Array Slot), EN p l D cI e0 A m meth c s av.toArray y bytes maxL ret → P s.heap → va_S A s.heap s.heap [] → lv_has ls maxL (lv_args 0 av) →
      W p l e ({ frames := fr, cells := mc, slots := ms, locals := lo }) s m av.toArray below meth c s.heap [] 0 0 (vx_MQ below (fun _ st oc t => (∃ r, oc = .returned r ∧ QQ r t.heap) ∧ va_F A st t) (fun E st t => XX E t.heap ∧ va_F A st t) av.toArray s mc ms A) (F0 m 0 ls [])) : CM l D cI e0 A y bytes maxL ret fr lo mc ms av P QQ XX := by
  refine vx_ofW (cc := bytes) (maxL := maxL) (ret := ret) hy rfl ?_
  intro p e s m args below meth c s₁ B hml hout hv
  obtain ⟨rfl, hg, hP⟩ := hv
  have hts := atoms_spec (ws := Cond.code y bytes maxL ret :: WU) B.pre
  rw [lg_entry_eq]
  exact body p e s m below meth c _ ⟨⟨B.exec, B.bytes, hml, findClass_of_methodNamed B.named, fun w hw => hts w (List.mem_cons_of_mem _ hw)⟩, hg, B.returns, B.notSynchronized, (name_of_methodNamed B.named B.method).1, hout⟩ hP va_S.rf (lv_entry av hav)
theorem r_recv (hg : GI D cI e0 A s s.heap) (hw : HW D A live adr G H) {k i : Nat} (hl : live k i) {ci : Nat} {fs : List Value} (hG : G k i = .inr (ci, fs)) {q : vw_C} (hc : vwCl[ci]? = some q) : ∃ cell : Cell, H[adr k i]? = some cell ∧ cell.vm.isStatics = false ∧ s.vm.findClass q.1 = some cell.cls := by
  obtain ⟨ids, h1, h2, h3⟩ := hw
  obtain ⟨n, -, hn⟩ := hws_at (adr := adr) (G := G) (h1 k i hl)
  rw [hG] at hn
  exact va_recv hg.1 h2 hc hn
theorem r_get (S : CallFix p m c cc nL s args WU own) (hg : GI D cI e0 A s s.heap) (hw : HW D A live adr G H) {k i : Nat} (hl : live k i) {ci : Nat} {fs : List Value} (hG : G k i = .inr (ci, fs)) {C : String} {T : u_T} {N : Nat} (hc : vwCl[ci]? = some (C, T, N)) (hin : ∀ w ∈ u_ws C T N, w ∈ WU) (fk : Nat) (hk : fk < N) {index : Nat} (hlink : Cond.fieldLink own index (T fk).1 (T fk).2.1 (T fk).2.2.1 ∈ WU) {v : Value} (hv : fs[fk]? = some v) (hdg : decode cc pc = .ok (.getfield index, 3))
    (kk : W p l e R s m args below meth c H locs cells slots Q (F0 m (pc + 3) ls (v :: rest))) : W p l e R s m args below meth c H locs cells slots Q (F0 m pc ls (.ref (adr k i) :: rest)) := by
  obtain ⟨ids, h1, h2, h3⟩ := hw
  obtain ⟨n, -, hn⟩ := hws_at (adr := adr) (G := G) (h1 k i hl)
  rw [hG] at hn
  exact va_get S.1 S.2.1 S.2.2.2.2 hin S.2.2.2.1 hg.1 h2 n hn hc fk hk (S.2.2.2.2 _ hlink) (fun _ h => h) hv hdg kk
theorem r_put (S : CallFix p m c cc nL s args WU own) (hg : GI D cI e0 A s s.heap) (hS : va_S A s.heap H locs) (hw : HW D A live adr G H) {k i : Nat} (hl : live k i) {ci : Nat} {fs : List Value} (hG : G k i = .inr (ci, fs)) {C : String} {T : u_T} {N : Nat} (hc : vwCl[ci]? = some (C, T, N)) (hin : ∀ w ∈ u_ws C T N, w ∈ WU) (ty0 : Nat → FieldType) (hty : ∀ k, k < N → parseFieldDescriptor (T k).2.2.1 = some (ty0 k)) (hnm : ∀ a, a < N → ∀ b, b < N → a ≠ b → (T a).2.1 ≠ (T b).2.1) (fk : Nat) (hk : fk < N) {index : Nat} (hlink : Cond.fieldLink own index (T fk).1 (T fk).2.1 (T fk).2.2.1 ∈ WU) (hfin : (T fk).2.2.2 = false) {v : Value} (hn : narrow (ty0 fk) v = v) (hfit : fits (ty0 fk) v = true) (hlen : fk < fs.length) (hdg : decode cc pc = .ok (.putfield index, 3))
    (kk : ∀ (H1 : Heap) (locs1 : List Loc), HW D A live adr (hU G k i (.inr (ci, fs.set fk v))) H1 → va_S A s.heap H1 locs1 → W p l e R s m args below meth c H1 locs1 cells slots Q (F0 m (pc + 3) ls rest)) : W p l e R s m args below meth c H locs cells slots Q (F0 m pc ls (v :: .ref (adr k i) :: rest)) := by
  obtain ⟨ids, h1, h2, h3⟩ := hw
  obtain ⟨n, hn1, hn2⟩ := hws_at (adr := adr) (G := G) (h1 k i hl)
  rw [hG] at hn2
  refine va_put S.1 S.2.1 S.2.2.2.2 hin ty0 hty hnm S.2.2.2.1 hg.1 h2 h3 hS n hn2 hc fk hk (S.2.2.2.2 _ hlink) (fun _ h => h) hfin (hty fk hk) hn hfit hlen hdg (fun H1 locs1 hP hD hS => ?_)
  exact kk H1 locs1 (HW.set h3 h1 hn1 hP hD) hS
theorem r_putF {y : MethodName} (S : CallFix p m c cc nL s args WU own) (hin2 : meth.name = "<init>") (hg : GI D cI e0 A s s.heap) (hS : va_S A s.heap H locs) (hw : HW D A live adr G H) {k i : Nat} (hl : live k i) {ci : Nat} {fs : List Value} (hG : G k i = .inr (ci, fs)) {C : String} {T : u_T} {N : Nat} (hc : vwCl[ci]? = some (C, T, N)) (hin : ∀ w ∈ u_ws C T N, w ∈ WU) (ty0 : Nat → FieldType) (hty : ∀ k, k < N → parseFieldDescriptor (T k).2.2.1 = some (ty0 k)) (hnm : ∀ a, a < N → ∀ b, b < N → a ≠ b → (T a).2.1 ≠ (T b).2.1) (fk : Nat) (hk : fk < N) {index : Nat} (hlink : Cond.fieldLink own index (T fk).1 (T fk).2.1 (T fk).2.2.1 ∈ WU) (hfin : (T fk).2.2.2 = true) (hdecl : (T fk).1 = own) {v : Value} (hn : narrow (ty0 fk) v = v) (hfit : fits (ty0 fk) v = true) (hlen : fk < fs.length) (hdg : decode cc pc = .ok (.putfield index, 3))
    (kk : ∀ (H1 : Heap) (locs1 : List Loc), HW D A live adr (hU G k i (.inr (ci, fs.set fk v))) H1 → va_S A s.heap H1 locs1 → W p l e R s m args below meth c H1 locs1 cells slots Q (F0 m (pc + 3) ls rest)) : W p l e R s m args below meth c H locs cells slots Q (F0 m pc ls (v :: .ref (adr k i) :: rest)) := by
  obtain ⟨ids, h1, h2, h3⟩ := hw
  obtain ⟨n, hn1, hn2⟩ := hws_at (adr := adr) (G := G) (h1 k i hl)
  rw [hG] at hn2
  refine va_putF S.1 S.2.1 S.2.2.2.2 hin ty0 hty hnm S.2.2.2.1 hg.1 h2 h3 hS n hn2 hc fk hk (S.2.2.2.2 _ hlink) (fun _ h => h) hfin hin2 hdecl (hty fk hk) hn hfit hlen hdg (fun H1 locs1 hP hD hS => ?_)
  exact kk H1 locs1 (HW.set h3 h1 hn1 hP hD) hS
theorem r_iald (S : CallFix p m c cc nL s args WU own) (hg : GI D cI e0 A s s.heap) (hw : HW D A live adr G H) {k i : Nat} (hl : live k i) {n : Nat} {f : Nat → Int32} (hG : G k i = .inl (cI 0, n, .inl f)) {j : Int32} (hj : vp_in j n) (hdg : decode cc pc = .ok (.iaload, 1))
    (kk : W p l e R s m args below meth c H locs cells slots Q (F0 m (pc + 1) ls (.int (f j.toNatClampNeg) :: rest))) : W p l e R s m args below meth c H locs cells slots Q (F0 m pc ls (.int j :: .ref (adr k i) :: rest)) := by
  obtain ⟨ids, h1, h2, h3⟩ := hw
  obtain ⟨q, -, hn⟩ := hws_at (adr := adr) (G := G) (h1 k i hl)
  rw [hG] at hn
  exact va_iald S.1 S.2.1 hg.1 h2 q 0 hn rfl hj hdg kk
theorem r_aald (S : CallFix p m c cc nL s args WU own) (hg : GI D cI e0 A s s.heap) (hw : HW D A live adr G H) {k i : Nat} (hl : live k i) {n : Nat} {f : Nat → Option Nat} (hG : G k i = .inl (cI 3, n, .inr (.inr (.inr (.inr f))))) {j : Int32} (hj : vp_in j n) {a : Nat} (hf : f j.toNatClampNeg = some a) (hdg : decode cc pc = .ok (.aaload, 1))
    (kk : W p l e R s m args below meth c H locs cells slots Q (F0 m (pc + 1) ls (.ref a :: rest))) : W p l e R s m args below meth c H locs cells slots Q (F0 m pc ls (.int j :: .ref (adr k i) :: rest)) := by
  obtain ⟨ids, h1, h2, h3⟩ := hw
  obtain ⟨q, -, hn⟩ := hws_at (adr := adr) (G := G) (h1 k i hl)
  rw [hG] at hn
  have hlt : j.toNatClampNeg < n := Nat.not_le.mp fun q => hj (Or.inr q)
  exact W.aald (v := .ref a) (ty := .array .int) S.1 S.2.1 (h2 q _ hn) ((hg.1.2 3 _ (rfl : (tysOf cI)[3]? = some (cI 3, .array .int))).1 n (fun j => va_rf (f j))) rfl (fun q => by cases q) (by show ¬ (j < 0 ∨ (arrV _ _ _).slots.size ≤ _); rw [arrV_size]; exact hj) (by show (arrV _ _ _).slots[_]? = _; rw [arrV_read _ _ hlt, hf]; rfl) rfl rfl hdg kk
theorem r_iast (S : CallFix p m c cc nL s args WU own) (hg : GI D cI e0 A s s.heap) (hS : va_S A s.heap H locs) (hw : HW D A live adr G H) {k i : Nat} (hl : live k i) {n : Nat} {f : Nat → Int32} (hG : G k i = .inl (cI 0, n, .inl f)) {j x : Int32} (hj : vp_in j n) (hdg : decode cc pc = .ok (.iastore, 1))
    (kk : ∀ (H1 : Heap) (locs1 : List Loc), HW D A live adr (hU G k i (.inl (cI 0, n, .inl (upd f j.toNatClampNeg x)))) H1 → va_S A s.heap H1 locs1 → W p l e R s m args below meth c H1 locs1 cells slots Q (F0 m (pc + 1) ls rest)) : W p l e R s m args below meth c H locs cells slots Q (F0 m pc ls (.int x :: .int j :: .ref (adr k i) :: rest)) := by
  obtain ⟨ids, h1, h2, h3⟩ := hw
  obtain ⟨q, hn1, hn⟩ := hws_at (adr := adr) (G := G) (h1 k i hl)
  rw [hG] at hn
  exact va_iast S.1 S.2.1 hg.1 h2 h3 hS q 0 hn rfl hj hdg (fun H1 locs1 hP hD hS => kk H1 locs1 (HW.set h3 h1 hn1 hP hD) hS)
theorem r_alen (S : CallFix p m c cc nL s args WU own) (hg : GI D cI e0 A s s.heap) (hw : HW D A live adr G H) {k i : Nat} (hl : live k i) (t : Nat) {ty : FieldType} {cA : ClassId} (ht : (tysOf cI)[t]? = some (cA, ty)) {x : vp_A} (hG : G k i = .inl (cA, x)) (hdg : decode cc pc = .ok (.arraylength, 1))
    (kk : W p l e R s m args below meth c H locs cells slots Q (F0 m (pc + 1) ls (.int (nI x.1) :: rest))) : W p l e R s m args below meth c H locs cells slots Q (F0 m pc ls (.ref (adr k i) :: rest)) := by
  obtain ⟨ids, h1, h2, h3⟩ := hw
  obtain ⟨q, -, hn⟩ := hws_at (adr := adr) (G := G) (h1 k i hl)
  rw [hG] at hn
  exact va_alen S.1 S.2.1 hg.1 h2 q t hn ht rfl hdg kk
theorem r_call {y : MethodName} {bytes : ByteArray} {maxL : Nat} {ret : Option FieldType} {fr lo mc ms : Nat} {As : List Value} {b : Nat} {P : Heap → Prop} {QQ : Option Value → Heap → Prop} {XX : String → Heap → Prop} {st0 : List Value} {index : Nat} {C : String}
    (S : CallFix p m c cc nL s args WU own) (hg : GI D cI e0 A s s.heap) (hS : va_S A s.heap H locs) (hM : CM l D cI e0 A y bytes maxL ret fr lo mc ms (.ref b :: As) P QQ XX)
    (k1 : Cond.methodLink own index y ∈ WU) (k2 : Cond.instanceMethod y ∈ WU) (k3 : Cond.selects C y y ∈ WU) (k4 : Cond.initialized y.cls ∈ WU) (k5 : Cond.code y bytes maxL ret ∈ WU)
    (hd : y.cls ≠ "java/lang/invoke/MethodHandle" ∧ y.cls ≠ "java/lang/invoke/VarHandle" ∧ (parseMethodDescriptor y.desc).map (fun d => d.parameters.length) = some As.length)
    (hrecv : ∃ cell : Cell, H[b]? = some cell ∧ cell.vm.isStatics = false ∧ s.vm.findClass C = some cell.cls) (hP : P H) (hR : fr + 1 ≤ R.frames ∧ 8 + (maxL + 11) + lo ≤ R.locals) (hcs : cells + mc ≤ R.cells ∧ slots + ms ≤ R.slots)
    (hsize : ls.size = nL) (hrest : (rest.map fun v => v.category).sum ≤ 8) (hst : st0 = As.reverse ++ .ref b :: rest) (hdg : decode cc pc = .ok (.invokevirtual index, 3))
    (kx : ∀ (E : String) (ce : Cell) (q : Addr) (H1 : Heap) (locs1 : List Loc), XX E H1 → va_S A s.heap H1 locs1 → H1[q]? = some ce → ce.vm = .none → s.vm.findClass E = some ce.cls → vx_W p l e R s m args below meth c H1 locs1 (cells + mc) (slots + ms) Q (F0 m pc ls rest) q)
    (kk : ∀ (r : Option Value) (H1 : Heap) (locs1 : List Loc), QQ r H1 → va_S A s.heap H1 locs1 → W p l e R s m args below meth c H1 locs1 (cells + mc) (slots + ms) Q (F0 m (pc + 3) ls (r.toList ++ rest))) : W p l e R s m args below meth c H locs cells slots Q (F0 m pc ls st0) := by
  have hcw : CallW R s args own C index y bytes maxL ret (Cond.code y bytes maxL ret :: WU) ({ frames := fr, cells := mc, slots := ms, locals := lo }) mc ms As.length := by
    have ht := S.2.2.2.2
    have hgood : ∀ w ∈ Cond.code y bytes maxL ret :: WU, ∀ (a' : Array Value) (U : State), s.WarmedH U.vm → w.before a' U = true := by
      intro w hw a' U hW
      have hw2 : w ∈ WU := by
        rcases List.mem_cons.mp hw with rfl | h
        · exact k5
        · exact h
      exact word_at hW (good_of_word (WU_good w hw2)) (ht w hw2)
    exact ⟨⟨rfl, rfl, hR.1, hR.2, hgood, List.mem_cons_self, ht _ k5, ht _ k4, ⟨hd.1, hd.2.1⟩, (fun sig h => by have h2 := hd.2.2; rw [h] at h2; exact (Option.some.inj h2).symm), ht _ k1⟩, ht _ k2, ht _ k3⟩
  have hb : FrameBlind (va_Pc (.ref b :: As) (fun U => GI D cI e0 A U U.heap ∧ P U.heap)) := fun a U g mk h => ⟨h.1, h.2.1.mv (State.WarmedH.refl U) (Nat.le_refl _) (fun _ _ _ => rfl), h.2.2⟩
  have hrun := vx_runV (e := e) (meth := meth) (below := below) (locs := locs) (cells := cells) (slots := slots) (g := F0 m pc ls st0) S hM hcw ⟨hb, hrecv, fun U hU hW => ⟨rfl, hg.at hS hU hW, by rw [hU]; exact hP⟩⟩ rfl rfl hsize hst (lv_room hrest) hdg hcs
  intro T hT X
  rcases hrun T hT X with ⟨v, st₀, t, T', L, h0, X', hL, e1, e2, ⟨⟨r, hv, hq⟩, hF⟩, st⟩ | ⟨q, st₀, t, T', L, E, ce, h0, X', hL, e1, e2, ⟨hx, hF⟩, hce, hcv, hcl, st⟩
  · cases hv
    obtain ⟨q1, q2, q3⟩ := vx_keep h0 e1 hS (fun _ _ h => h) (fun _ h => h) hL hF
    obtain ⟨t2, a1, b1⟩ := kk v T'.heap (locs ++ L) (by rw [e1]; exact hq) q3 T' rfl X'
    exact ⟨t2, st t2 a1, b1⟩
  · obtain ⟨q1, q2, q3⟩ := vx_keep h0 e1 hS (fun _ _ h => h) (fun _ h => h) hL hF
    obtain ⟨t2, a1, b1⟩ := kx E ce q T'.heap (locs ++ L) (by rw [e1]; exact hx) q3 (by rw [e1]; exact hce) hcv hcl T' rfl X'
    exact ⟨t2, st.trans a1, b1⟩
theorem r_callS {y : MethodName} {bytes : ByteArray} {maxL : Nat} {ret : Option FieldType} {fr lo mc ms : Nat} {As : List Value} {P : Heap → Prop} {QQ : Option Value → Heap → Prop} {XX : String → Heap → Prop} {st0 : List Value} {index : Nat}
    (S : CallFix p m c cc nL s args WU own) (hg : GI D cI e0 A s s.heap) (hS : va_S A s.heap H locs) (hM : CM l D cI e0 A y bytes maxL ret fr lo mc ms As P QQ XX)
    (k1 : Cond.methodLink own index y ∈ WU) (k2 : Cond.static y ∈ WU) (k4 : Cond.initialized y.cls ∈ WU) (k5 : Cond.code y bytes maxL ret ∈ WU)
    (hd : y.cls ≠ "java/lang/invoke/MethodHandle" ∧ y.cls ≠ "java/lang/invoke/VarHandle" ∧ (parseMethodDescriptor y.desc).map (fun d => d.parameters.length) = some As.length)
    (hP : P H) (hR : fr + 1 ≤ R.frames ∧ 8 + (maxL + 11) + lo ≤ R.locals) (hcs : cells + mc ≤ R.cells ∧ slots + ms ≤ R.slots)
    (hsize : ls.size = nL) (hrest : (rest.map fun v => v.category).sum ≤ 8) (hst : st0 = As.reverse ++ rest) (hdg : decode cc pc = .ok (.invokestatic index, 3))
    (kx : ∀ (E : String) (ce : Cell) (q : Addr) (H1 : Heap) (locs1 : List Loc), XX E H1 → va_S A s.heap H1 locs1 → H1[q]? = some ce → ce.vm = .none → s.vm.findClass E = some ce.cls → vx_W p l e R s m args below meth c H1 locs1 (cells + mc) (slots + ms) Q (F0 m pc ls rest) q)
    (kk : ∀ (r : Option Value) (H1 : Heap) (locs1 : List Loc), QQ r H1 → va_S A s.heap H1 locs1 → W p l e R s m args below meth c H1 locs1 (cells + mc) (slots + ms) Q (F0 m (pc + 3) ls (r.toList ++ rest))) : W p l e R s m args below meth c H locs cells slots Q (F0 m pc ls st0) := by
  have hcw : CallB R s args own index y bytes maxL ret (Cond.code y bytes maxL ret :: WU) ({ frames := fr, cells := mc, slots := ms, locals := lo }) mc ms As.length ∧ (Cond.static y).before args s = true := by
    have ht := S.2.2.2.2
    have hgood : ∀ w ∈ Cond.code y bytes maxL ret :: WU, ∀ (a' : Array Value) (U : State), s.WarmedH U.vm → w.before a' U = true := by
      intro w hw a' U hW
      have hw2 : w ∈ WU := by
        rcases List.mem_cons.mp hw with rfl | h
        · exact k5
        · exact h
      exact word_at hW (good_of_word (WU_good w hw2)) (ht w hw2)
    exact ⟨⟨rfl, rfl, hR.1, hR.2, hgood, List.mem_cons_self, ht _ k5, ht _ k4, ⟨hd.1, hd.2.1⟩, (fun sig h => by have h2 := hd.2.2; rw [h] at h2; exact (Option.some.inj h2).symm), ht _ k1⟩, ht _ k2⟩
  have hb : FrameBlind (va_Pc As (fun U => GI D cI e0 A U U.heap ∧ P U.heap)) := fun a U g mk h => ⟨h.1, h.2.1.mv (State.WarmedH.refl U) (Nat.le_refl _) (fun _ _ _ => rfl), h.2.2⟩
  have hrun := vx_runS (e := e) (meth := meth) (below := below) (locs := locs) (cells := cells) (slots := slots) (g := F0 m pc ls st0) S hM hcw ⟨hb, fun U hU hW => ⟨rfl, hg.at hS hU hW, by rw [hU]; exact hP⟩⟩ rfl rfl hsize hst (lv_room hrest) hdg hcs
  intro T hT X
  rcases hrun T hT X with ⟨v, st₀, t, T', L, h0, X', hL, e1, e2, ⟨⟨r, hv, hq⟩, hF⟩, st⟩ | ⟨q, st₀, t, T', L, E, ce, h0, X', hL, e1, e2, ⟨hx, hF⟩, hce, hcv, hcl, st⟩
  · cases hv
    obtain ⟨q1, q2, q3⟩ := vx_keep h0 e1 hS (fun _ _ h => h) (fun _ h => h) hL hF
    obtain ⟨t2, a1, b1⟩ := kk v T'.heap (locs ++ L) (by rw [e1]; exact hq) q3 T' rfl X'
    exact ⟨t2, st t2 a1, b1⟩
  · obtain ⟨q1, q2, q3⟩ := vx_keep h0 e1 hS (fun _ _ h => h) (fun _ h => h) hL hF
    obtain ⟨t2, a1, b1⟩ := kx E ce q T'.heap (locs ++ L) (by rw [e1]; exact hx) q3 (by rw [e1]; exact hce) hcv hcl T' rfl X'
    exact ⟨t2, st.trans a1, b1⟩
theorem r_iret {y : MethodName} {mc ms : Nat} {QQ : Option Value → Heap → Prop} {XC : String → State → State → Prop} {v : Int32} {ty : FieldType} (S : CallFix p m c cc nL s args WU own) (hr : meth.sig.returnType = some ty) (hn : narrow ty (.int v) = .int v) (hlk : meth.locks = false) (hS : va_S A s.heap H locs) (hc : cells ≤ mc) (hs : slots ≤ ms) (hdg : decode cc pc = .ok (.ireturn, 1)) (hq : QQ (some (.int v)) H) : W p l e R s m args below meth c H locs cells slots (vx_MQ below (fun _ st oc t => (∃ r, oc = .returned r ∧ QQ r t.heap) ∧ va_F A st t) XC args s mc ms A) (F0 m pc ls [.int v]) := by
  refine W.widen hc hs (vx_ret ?_)
  exact W.zret (Qc := fun _ st oc t => (∃ r, oc = .returned r ∧ QQ r t.heap) ∧ va_F A st t) S.1 S.2.1 hr hn (fun t ht hW => ⟨⟨_, rfl, by rw [ht]; exact hq⟩, hS.F ht⟩) hS.2.2 hdg hlk
theorem r_vret {y : MethodName} {mc ms : Nat} {QQ : Option Value → Heap → Prop} {XC : String → State → State → Prop} (S : CallFix p m c cc nL s args WU own) (hr : meth.sig.returnType = none) (hlk : meth.locks = false) (hS : va_S A s.heap H locs) (hc : cells ≤ mc) (hs : slots ≤ ms) (hdg : decode cc pc = .ok (.return_, 1)) (hq : QQ none H) : W p l e R s m args below meth c H locs cells slots (vx_MQ below (fun _ st oc t => (∃ r, oc = .returned r ∧ QQ r t.heap) ∧ va_F A st t) XC args s mc ms A) (F0 m pc ls []) := by
  refine W.widen hc hs (vx_ret ?_)
  exact W.vret (Qc := fun _ st oc t => (∃ r, oc = .returned r ∧ QQ r t.heap) ∧ va_F A st t) S.1 S.2.1 hr (fun t ht hW => ⟨⟨_, rfl, by rw [ht]; exact hq⟩, hS.F ht⟩) hS.2.2 hdg hlk
theorem r_aret {y : MethodName} {mc ms : Nat} {QQ : Option Value → Heap → Prop} {XC : String → State → State → Prop} {a : Nat} {rt : FieldType} (S : CallFix p m c cc nL s args WU own) (hr : meth.sig.returnType = some rt) (hrt : (∃ n, rt = .object n) ∨ ∃ t, rt = .array t) (hlk : meth.locks = false) (hS : va_S A s.heap H locs) (hc : cells ≤ mc) (hs : slots ≤ ms) (hdg : decode cc pc = .ok (.areturn, 1)) (hq : QQ (some (.ref a)) H) : W p l e R s m args below meth c H locs cells slots (vx_MQ below (fun _ st oc t => (∃ r, oc = .returned r ∧ QQ r t.heap) ∧ va_F A st t) XC args s mc ms A) (F0 m pc ls [.ref a]) := by
  refine W.widen hc hs (vx_ret ?_)
  exact W.aret (Qc := fun _ st oc t => (∃ r, oc = .returned r ∧ QQ r t.heap) ∧ va_F A st t) S.1 S.2.1 hr hrt (Or.inr ⟨a, rfl⟩) (fun t ht hW => ⟨⟨_, rfl, by rw [ht]; exact hq⟩, hS.F ht⟩) hS.2.2 hdg hlk
theorem r_lret {y : MethodName} {mc ms : Nat} {QQ : Option Value → Heap → Prop} {XC : String → State → State → Prop} {v : Int64} (S : CallFix p m c cc nL s args WU own) (hr : meth.sig.returnType = some .long) (hlk : meth.locks = false) (hS : va_S A s.heap H locs) (hc : cells ≤ mc) (hs : slots ≤ ms) (hdg : decode cc pc = .ok (.lreturn, 1)) (hq : QQ (some (.long v)) H) : W p l e R s m args below meth c H locs cells slots (vx_MQ below (fun _ st oc t => (∃ r, oc = .returned r ∧ QQ r t.heap) ∧ va_F A st t) XC args s mc ms A) (F0 m pc ls [.long v]) := by
  refine W.widen hc hs (vx_ret ?_)
  exact W.lret (Qc := fun _ st oc t => (∃ r, oc = .returned r ∧ QQ r t.heap) ∧ va_F A st t) S.1 S.2.1 hr (fun t ht hW => ⟨⟨_, rfl, by rw [ht]; exact hq⟩, hS.F ht⟩) hS.2.2 hdg hlk
/-- an exception of a callee that isn't caught here -/
theorem r_out {mc ms : Nat} {QQ : Option Value → Heap → Prop} {XX : String → Heap → Prop} {E : String} {ce : Cell} {q : Addr} (hout : ∀ x ∈ c.exceptionTable.toList, False) (hlk : meth.locks = false) (hS : va_S A s.heap H locs) (hc : cells ≤ mc) (hs : slots ≤ ms) (hcell : H[q]? = some ce) (hv : ce.vm = .none) (hcl : s.vm.findClass E = some ce.cls) (hx : XX E H) : vx_W p l e R s m args below meth c H locs cells slots (vx_MQ below (fun _ st oc t => (∃ r, oc = .returned r ∧ QQ r t.heap) ∧ va_F A st t) (fun E st t => XX E t.heap ∧ va_F A st t) args s mc ms A) (F0 m pc ls rest) q :=
  vx_out (fun x hx => absurd (hout x hx) id) hlk hcell hv hcl (fun t ht _ => ⟨by rw [ht]; exact hx, hS.F ht⟩) hS.2.2 hc hs
def gEx : List String := ["java/lang/RuntimeException", "java/lang/Exception"]
/-- throw new E("text") -/
theorem r_throw {mc ms fr lo : Nat} {QQ : Option Value → Heap → Prop} {XX : String → Heap → Prop} {cls text : String} {ik is ic : Nat} (hfl : l.stackTraces = false) (S : CallFix p m c cc nL s args WU RX6) (hout : ∀ x ∈ c.exceptionTable.toList, False) (hlk : meth.locks = false) (hg : GI D cI e0 A s s.heap) (hS : va_S A s.heap H locs)
    (hcls : Bundle.fit cls = true) (hk : Cond.classLink RX6 ik cls ∈ WU) (hini : Cond.initialized cls ∈ WU) (hstr : (RX6, is, text) ∈ gStr) (hat : ∀ w ∈ vx_atS RX6 ic cls gEx, w ∈ WU ∨ (∃ q ∈ gCa, w = .castable q.1 q.2) ∨ ∃ q ∈ gDc, w = .declares q) (hsize : ls.size = nL)
    (d0 : decode cc pc = .ok (.new ik, 3)) (d3 : decode cc (pc + 3) = .ok (.dup, 1)) (d4 : decode cc (pc + 4) = .ok (.ldc is, 2)) (d6 : decode cc (pc + 6) = .ok (.invokespecial ic, 3)) (d9 : decode cc (pc + 9) = .ok (.athrow, 1))
    (hfr : 6 ≤ R.frames) (hlo : (rest.map fun v => v.category).sum + 82 ≤ R.locals) (hRc : cells + 1 ≤ R.cells) (hRs : slots + 6 ≤ R.slots) (hc : cells + 1 ≤ mc) (hs : slots + 6 ≤ ms)
    (hx : ∀ H1 : Heap, H.size ≤ H1.size → (∀ q : Nat, q < H.size → H1[q]? = H[q]?) → XX cls H1) : W p l e R s m args below meth c H locs cells slots (vx_MQ below (fun _ st oc t => (∃ r, oc = .returned r ∧ QQ r t.heap) ∧ va_F A st t) (fun E st t => XX E t.heap ∧ va_F A st t) args s mc ms A) (F0 m pc ls rest) := by
  obtain ⟨sa, hsa⟩ := hg.2.2.2.1 _ hstr
  have ht := S.2.2.2.2
  have hat2 : ∀ w ∈ vx_atS RX6 ic cls gEx, w.before args s = true ∧ vx_ot w = true := by
    intro w hw
    rcases hat w hw with h | ⟨q, hq, rfl⟩ | ⟨q, hq, rfl⟩
    · exact ⟨ht w h, by unfold vx_ot; rw [WU_good w h, Bool.or_true]⟩
    · exact ⟨va_Nw.use rfl (hg.2.2.2.2.1.1 q hq), rfl⟩
    · exact ⟨va_Nw.use rfl (hg.2.2.2.2.1.2 q hq), rfl⟩
  refine vx_throwS S.1 S.2.1 hfl (names := gEx) S.2.2.2.1 hcls (by decide) (ht _ hk) (ht _ hini) hsa (fun w hw => (hat2 w hw).1) ?_ hg.2.2.1.1 hg.2.2.1.2 hS (hsize.trans S.2.2.1.symm) d0 d3 d4 d6 d9 (fun x hx => absurd (hout x hx) id) (by show 2 + 3 < _; omega) (by show _ + (13 * (2 + 1) + 43) ≤ _; omega) hRc hRs hlk ?_ hS.2.2 hc hs
  · intro w hw
    rcases List.mem_cons.mp hw with rfl | hw
    · rfl
    · rcases List.mem_cons.mp hw with rfl | hw
      · rfl
      · exact (hat2 w hw).2
  · intro t hal hz hk2
    refine ⟨hx t.heap hz hk2, Nat.le_trans hS.1 hz, fun q h1 h2 => ?_⟩
    rw [hk2 q (Nat.lt_of_lt_of_le h1 hS.1)]
    exact hS.2.1 q h1 h2
theorem HW.more {D : va_G} {A : Nat → Prop} {live : Nat → Nat → Prop} {adr : Nat → Nat → Nat} {G : Nat → Nat → va_E} {H H1 : Heap} (h : HW D A live adr G H) (hk : ∀ q : Nat, q < H.size → H1[q]? = H[q]?) : HW D A live adr G H1 := by
  obtain ⟨ids, h1, h2, h3⟩ := h
  exact ⟨ids, h1, va_P.kept h2 (fun k q hq => hk q.1 ((h2 k q hq).lt)), h3⟩
end BODY
theorem hat_50 : ∀ w ∈ vx_atS RX6 50 "java/lang/IllegalArgumentException" gEx, w ∈ WU ∨ (∃ q ∈ gCa, w = .castable q.1 q.2) ∨ ∃ q ∈ gDc, w = .declares q := hat_of (by decide +kernel) (by decide +kernel)
theorem hat_61 : ∀ w ∈ vx_atS RX6 61 "java/lang/IllegalStateException" gEx, w ∈ WU ∨ (∃ q ∈ gCa, w = .castable q.1 q.2) ∨ ∃ q ∈ gDc, w = .declares q := hat_of (by decide +kernel) (by decide +kernel)
theorem hat_118 : ∀ w ∈ vx_atS RX6 118 "java/lang/IndexOutOfBoundsException" gEx, w ∈ WU ∨ (∃ q ∈ gCa, w = .castable q.1 q.2) ∨ ∃ q ∈ gDc, w = .declares q := hat_of (by decide +kernel) (by decide +kernel)
theorem hat_158 : ∀ w ∈ vx_atS RX6 158 "java/lang/UnsupportedOperationException" gEx, w ∈ WU ∨ (∃ q ∈ gCa, w = .castable q.1 q.2) ∨ ∃ q ∈ gDc, w = .declares q := hat_of (by decide +kernel) (by decide +kernel)
