/-! what the walks print in: posts, throws, lists, copies -/
abbrev rI : Int32 → Option Value := fun r => some (.int r)
abbrev rL : Int64 → Option Value := fun r => some (.long r)
abbrev rF : UInt32 → Option Value := fun r => some (.float r)
abbrev rD : UInt64 → Option Value := fun r => some (.double r)
abbrev rV : Unit → Option Value := fun _ => none
abbrev rR (ad : Nat → Nat → Nat) (k : Nat) : Nat → Option Value := fun i => some (.ref (ad k i))
def qP (D : va_G) (cI : Nat → ClassId) (e0 : Nat) (A : Nat → Prop) (ad : Nat → Nat → Nat) (K M : KS) (ap o : Int64) (od : UInt64) {α : Type} (val : α → Option Value) (post : α → Prop) (rv : Option Value) (H : Heap) : Prop := ∃ r, rv = val r ∧ post r ∧ HT D cI e0 A ad K M ap o od H
def xP (D : va_G) (cI : Nat → ClassId) (e0 : Nat) (A : Nat → Prop) (ad : Nat → Nat → Nat) (K M : KS) (ap o : Int64) (od : UInt64) (px : String → Prop) (E : String) (H : Heap) : Prop := px E ∧ HT D cI e0 A ad K M ap o od H
def qK (D : va_G) (cI : Nat → ClassId) (e0 : Nat) (A : Nat → Prop) (ad : Nat → Nat → Nat) (M : KS) (ap o : Int64) (od : UInt64) {α : Type} (val : α → Option Value) (post : α → KS → Prop) (rv : Option Value) (H : Heap) : Prop := ∃ r K, rv = val r ∧ post r K ∧ HT D cI e0 A ad K M ap o od H
def xK (D : va_G) (cI : Nat → ClassId) (e0 : Nat) (A : Nat → Prop) (ad : Nat → Nat → Nat) (M : KS) (ap o : Int64) (od : UInt64) (px : String → KS → Prop) (E : String) (H : Heap) : Prop := ∃ K, px E K ∧ HT D cI e0 A ad K M ap o od H
def qM (D : va_G) (cI : Nat → ClassId) (e0 : Nat) (A : Nat → Prop) (ad : Nat → Nat → Nat) (K : KS) (o : Int64) (od : UInt64) {α : Type} (val : α → Option Value) (post : α → KS → Int64 → Prop) (rv : Option Value) (H : Heap) : Prop := ∃ r M ap, rv = val r ∧ post r M ap ∧ HT D cI e0 A ad K M ap o od H
def xN (_ : String) (_ : Heap) : Prop := False
abbrev MQQ (below : List Frame) (QQ : Option Value → Heap → Prop) (XX : String → Heap → Prop) (args : Array Value) (s : State) (mc ms : Nat) (A : Nat → Prop) : State → Prop := vx_MQ below (fun _ st oc t => (∃ r, oc = .returned r ∧ QQ r t.heap) ∧ va_F A st t) (fun E st t => XX E t.heap ∧ va_F A st t) args s mc ms A
theorem nfw : nativeFrameWords "java/lang/System" "arraycopy" 5 ≤ 19 := by decide
theorem lt2 {a b : Nat} (h : a < b) : 2 * a < 2 * b := by omega
theorem lt2s {a b : Nat} (h : a < b) : 2 * a + 1 < 2 * b := by omega
theorem vp_in_lt {j : Int32} {n : Nat} (h : vp_in j n) : j.toNatClampNeg < n := Nat.not_le.mp fun q => h (Or.inr q)
theorem lt6 {a b : Nat} {j : Int32} (h : a < b) (hj : vp_in j 6) : 6 * a + j.toNatClampNeg < 6 * b := by
  have := vp_in_lt hj
  omega
theorem lv8 {K : KS} (n : Nat) (h : n < 4 := by decide) : n < 4 + 2 * nD K := by omega
theorem lv8s {K : KS} {n : Nat} (h : n < 2 * nD K) : n + 4 < 4 + 2 * nD K := by omega
/-- a row, all of it -/
def kr (K : KS) (a b : Nat) (f : Nat → Int32) : KS := va_up K a (va_up (K a) b f)
theorem kr_a (K : KS) {a b a' : Nat} (f : Nat → Int32) (h : ¬ a' = a) : kr K a b f a' = K a' := va_up_n _ _ h
theorem kr_b (K : KS) {a b b' : Nat} (f : Nat → Int32) (h : ¬ b' = b) : kr K a b f a b' = K a b' := by unfold kr; rw [va_up_s, va_up_n _ _ h]
theorem kr_s (K : KS) (a b : Nat) (f : Nat → Int32) : kr K a b f a b = f := by unfold kr; rw [va_up_s, va_up_s]
def okCpy (sp dp n : Int32) (a b : Nat) : Prop := ¬ sp < 0 ∧ ¬ dp < 0 ∧ ¬ n < 0 ∧ sp.toNatClampNeg + n.toNatClampNeg ≤ a ∧ dp.toNatClampNeg + n.toNatClampNeg ≤ b
/-- get(j) of list n -/
def okGet (K : KS) (n : Nat) (j : Int32) : Prop := ¬ j < 0 ∧ j < K 8 2 n ∧ K 8 3 n ≠ 0 ∧ (K 8 2 n).toNatClampNeg ≤ (K 8 3 n).toNatClampNeg
/-- the room of a list of c elements of room n after an add -/
def lCap (c n : Int32) : Int32 := if n = 0 then 10 else if c = n then nI (n.toNatClampNeg + n.toNatClampNeg / 2) else n
def lAdd (K : KS) (n : Nat) (x : Nat) : KS := k3 (k3 (k3 (k3 K 8 0 n (K 8 0 n + 1)) 8 3 n (lCap (K 8 2 n) (K 8 3 n))) 9 n (K 8 2 n).toNatClampNeg (nI x)) 8 2 n (K 8 2 n + 1)
/-- add(x) to list n, which makes mc objects of ms places -/
def okAdd (K : KS) (n mc ms : Nat) : Prop := ∃ k q : Nat, K 8 2 n = nI k ∧ K 8 3 n = nI q ∧ k ≤ q ∧ q ≤ 40000 ∧ (q = 0 ∨ 2 ≤ q) ∧ (k = q → 1 ≤ mc ∧ (q = 0 → 10 ≤ ms) ∧ (q ≠ 0 → q + q / 2 ≤ ms) ∧ ∀ j, j < q → lvK K (ek n) (K 9 n j).toNatClampNeg)
section SUPPORT
variable {p : Program} {l : Launch} {e : Env} {R : Room} {s : State} {m : MethodId} {args : Array Value} {below : List Frame} {meth : Method} {c : Code} {H : Heap} {locs : List Loc} {cells slots : Nat} {Q : State → Prop}
variable {D : va_G} {cI : Nat → ClassId} {e0 : Nat} {A : Nat → Prop} {ad av : Nat → Nat → Nat} {K M : KS} {ap o : Int64} {od : UInt64}
variable {cc : ByteArray} {nL pc : Nat} {ls : Array Slot} {rest : List Value} {own : String} {index : Nat}
theorem HW.inj {adr : Nat → Nat → Nat} {G : Nat → Nat → va_E} {live : Nat → Nat → Prop} (h : HW D A live adr G H) {k i k2 i2 : Nat} (h1 : live k i) (h2 : live k2 i2) (e : adr k i = adr k2 i2) : k = k2 ∧ i = i2 := by
  obtain ⟨ids, q1, q2, q3⟩ := h
  obtain ⟨n, n1, n2⟩ := hws_at (adr := adr) (G := G) (q1 _ _ h1)
  obtain ⟨n', n3, n4⟩ := hws_at (adr := adr) (G := G) (q1 _ _ h2)
  have := q3.1 _ _ _ _ n2 n4 e
  subst this
  have h5 := n1.symm.trans n3
  have h6 := Option.some.inj h5
  exact ⟨congrArg Prod.fst h6, congrArg Prod.snd h6⟩
theorem HT.more {H1 : Heap} (h : HT D cI e0 A ad K M ap o od H) (hk : ∀ q : Nat, q < H.size → H1[q]? = H[q]?) : HT D cI e0 A ad K M ap o od H1 := by
  obtain ⟨av, h⟩ := h
  exact ⟨av, HW.more h hk⟩
theorem inj4 (hw : HT D cI e0 A ad K M ap o od H) {i j : Nat} (hi : i < nC K) (hj : j < nC K) (e : ad 4 i = ad 4 j) : i = j := by
  obtain ⟨av, hw⟩ := hw
  exact (HW.inj hw (k := 4) (k2 := 4) hi hj e).2
theorem inj5 (hw : HT D cI e0 A ad K M ap o od H) {i j : Nat} (hi : i < nO K) (hj : j < nO K) (e : ad 5 i = ad 5 j) : i = j := by
  obtain ⟨av, hw⟩ := hw
  exact (HW.inj hw (k := 5) (k2 := 5) hi hj e).2
theorem inj6 (hw : HT D cI e0 A ad K M ap o od H) {i j : Nat} (hi : i < nD K) (hj : j < nD K) (e : ad 6 i = ad 6 j) : i = j := by
  obtain ⟨av, hw⟩ := hw
  exact (HW.inj hw (k := 6) (k2 := 6) hi hj e).2
theorem inj7 (hw : HT D cI e0 A ad K M ap o od H) {i j : Nat} (hi : i < 2 * nD K) (hj : j < 2 * nD K) (e : ad 7 i = ad 7 j) : i = j := by
  obtain ⟨av, hw⟩ := hw
  exact (HW.inj hw (k := 7) (k2 := 7) hi hj e).2
theorem rv0 (hg : GI D cI e0 A s s.heap) (hw : HT D cI e0 A ad K M ap o od H) : ∃ cell : Cell, H[ad 0 0]? = some cell ∧ cell.vm.isStatics = false ∧ s.vm.findClass RX6 = some cell.cls := by
  obtain ⟨av, hw⟩ := hw
  exact r_recv hg hw (k := 0) (i := 0) rfl rfl (q := (RX6, TX6, 12)) rfl
theorem rv1 (hg : GI D cI e0 A s s.heap) (hw : HT D cI e0 A ad K M ap o od H) : ∃ cell : Cell, H[ad 1 0]? = some cell ∧ cell.vm.isStatics = false ∧ s.vm.findClass RX3 = some cell.cls := by
  obtain ⟨av, hw⟩ := hw
  exact r_recv hg hw (k := 1) (i := 0) rfl rfl (q := (RX3, TX3, 2)) rfl
theorem rv2 (hg : GI D cI e0 A s s.heap) (hw : HT D cI e0 A ad K M ap o od H) : ∃ cell : Cell, H[ad 2 0]? = some cell ∧ cell.vm.isStatics = false ∧ s.vm.findClass RX0 = some cell.cls := by
  obtain ⟨av, hw⟩ := hw
  exact r_recv hg hw (k := 2) (i := 0) rfl rfl (q := (RX0, TX0, 2)) rfl
theorem rv4 (hg : GI D cI e0 A s s.heap) (hw : HT D cI e0 A ad K M ap o od H) {i : Nat} (hi : i < nC K) : ∃ cell : Cell, H[ad 4 i]? = some cell ∧ cell.vm.isStatics = false ∧ s.vm.findClass RX1 = some cell.cls := by
  obtain ⟨av, hw⟩ := hw
  exact r_recv hg hw (k := 4) (i := i) hi rfl (q := (RX1, TX1, 6)) rfl
theorem rv5 (hg : GI D cI e0 A s s.heap) (hw : HT D cI e0 A ad K M ap o od H) {i : Nat} (hi : i < nO K) : ∃ cell : Cell, H[ad 5 i]? = some cell ∧ cell.vm.isStatics = false ∧ s.vm.findClass RX4 = some cell.cls := by
  obtain ⟨av, hw⟩ := hw
  exact r_recv hg hw (k := 5) (i := i) hi rfl (q := (RX4, TX4, 6)) rfl
theorem rv6 (hg : GI D cI e0 A s s.heap) (hw : HT D cI e0 A ad K M ap o od H) {i : Nat} (hi : i < nD K) : ∃ cell : Cell, H[ad 6 i]? = some cell ∧ cell.vm.isStatics = false ∧ s.vm.findClass RX2 = some cell.cls := by
  obtain ⟨av, hw⟩ := hw
  exact r_recv hg hw (k := 6) (i := i) hi rfl (q := (RX2, TX2, 11)) rfl
theorem rv7 (hg : GI D cI e0 A s s.heap) (hw : HT D cI e0 A ad K M ap o od H) {i : Nat} (hi : i < 2 * nD K) : ∃ cell : Cell, H[ad 7 i]? = some cell ∧ cell.vm.isStatics = false ∧ s.vm.findClass RX5 = some cell.cls := by
  obtain ⟨av, hw⟩ := hw
  exact r_recv hg hw (k := 7) (i := i) hi rfl (q := (RX5, TX5, 4)) rfl
theorem ck4 (S : CallFix p m c cc nL s args WU own) (hg : GI D cI e0 A s s.heap) (hw : HT D cI e0 A ad K M ap o od H) {i : Nat} (hi : i < nC K) (hl : Cond.classLink own index "SnapshotArena$Card" ∈ WU) (hd : decode cc pc = .ok (.checkcast index, 3)) (kk : W p l e R s m args below meth c H locs cells slots Q (F0 m (pc + 3) ls (.ref (ad 4 i) :: rest))) : W p l e R s m args below meth c H locs cells slots Q (F0 m pc ls (.ref (ad 4 i) :: rest)) :=
  va_castS S.1 S.2.1 (cC := D.1 4) S.2.2.2.1 (S.2.2.2.2 _ hl) (hg.1.1 4 _ rfl).2 (rv4 hg hw hi) hd kk
theorem ck5 (S : CallFix p m c cc nL s args WU own) (hg : GI D cI e0 A s s.heap) (hw : HT D cI e0 A ad K M ap o od H) {i : Nat} (hi : i < nO K) (hl : Cond.classLink own index "SnapshotArena$Offer" ∈ WU) (hd : decode cc pc = .ok (.checkcast index, 3)) (kk : W p l e R s m args below meth c H locs cells slots Q (F0 m (pc + 3) ls (.ref (ad 5 i) :: rest))) : W p l e R s m args below meth c H locs cells slots Q (F0 m pc ls (.ref (ad 5 i) :: rest)) :=
  va_castS S.1 S.2.1 (cC := D.1 7) S.2.2.2.1 (S.2.2.2.2 _ hl) (hg.1.1 7 _ rfl).2 (rv5 hg hw hi) hd kk
theorem ck6 (S : CallFix p m c cc nL s args WU own) (hg : GI D cI e0 A s s.heap) (hw : HT D cI e0 A ad K M ap o od H) {i : Nat} (hi : i < nD K) (hl : Cond.classLink own index "SnapshotArena$Duel" ∈ WU) (hd : decode cc pc = .ok (.checkcast index, 3)) (kk : W p l e R s m args below meth c H locs cells slots Q (F0 m (pc + 3) ls (.ref (ad 6 i) :: rest))) : W p l e R s m args below meth c H locs cells slots Q (F0 m pc ls (.ref (ad 6 i) :: rest)) :=
  va_castS S.1 S.2.1 (cC := D.1 5) S.2.2.2.1 (S.2.2.2.2 _ hl) (hg.1.1 5 _ rfl).2 (rv6 hg hw hi) hd kk
def HTa (D : va_G) (cI : Nat → ClassId) (e0 : Nat) (A : Nat → Prop) (ad : Nat → Nat → Nat) (K M : KS) (ap o : Int64) (od : UInt64) (a : Nat) (H : Heap) : Prop := ∃ av, av 11 0 = a ∧ HW D A (lvK K) (adK ad av) (ctK cI e0 ad av K M ap o od) H
theorem g1_0 (S : CallFix p m c cc nL s args WU own) (hg : GI D cI e0 A s s.heap) (hw : HT D cI e0 A ad K M ap o od H) (hk : Cond.fieldLink own index "SnapshotArena$Ledger" "rows" "[I" ∈ WU) (hd : decode cc pc = .ok (.getfield index, 3)) (kk : ∀ a : Nat, HTa D cI e0 A ad K M ap o od a H → W p l e R s m args below meth c H locs cells slots Q (F0 m (pc + 3) ls (.ref a :: rest))) : W p l e R s m args below meth c H locs cells slots Q (F0 m pc ls (.ref (ad 1 0) :: rest)) := by
  obtain ⟨av, hw⟩ := hw
  exact r_get S hg hw (k := 1) (i := 0) rfl rfl rfl iWX3 0 (by decide) hk rfl hd (kk _ ⟨av, rfl, hw⟩)
theorem n11 {a : Nat} (S : CallFix p m c cc nL s args WU own) (hg : GI D cI e0 A s s.heap) (hw : HTa D cI e0 A ad K M ap o od a H) (hd : decode cc pc = .ok (.arraylength, 1)) (kk : W p l e R s m args below meth c H locs cells slots Q (F0 m (pc + 1) ls (.int (nI (K 1 5 0).toNatClampNeg) :: rest))) : W p l e R s m args below meth c H locs cells slots Q (F0 m pc ls (.ref a :: rest)) := by
  obtain ⟨av, rfl, hw⟩ := hw
  exact r_alen S hg hw (k := 11) (i := 0) rfl 0 rfl rfl hd kk
theorem a11 {a : Nat} (S : CallFix p m c cc nL s args WU own) (hg : GI D cI e0 A s s.heap) (hw : HTa D cI e0 A ad K M ap o od a H) {j : Int32} (hj : vp_in j (K 1 5 0).toNatClampNeg) (hd : decode cc pc = .ok (.iaload, 1)) (kk : W p l e R s m args below meth c H locs cells slots Q (F0 m (pc + 1) ls (.int (K 11 0 j.toNatClampNeg) :: rest))) : W p l e R s m args below meth c H locs cells slots Q (F0 m pc ls (.int j :: .ref a :: rest)) := by
  obtain ⟨av, rfl, hw⟩ := hw
  exact r_iald S hg hw (k := 11) (i := 0) rfl rfl hj hd kk
set_option maxHeartbeats 1000000 in
theorem cp_10_10 (S : CallFix p m c cc nL s args WU own) (hg : GI D cI e0 A s s.heap) (hS : va_S A s.heap H locs) (hw : HT D cI e0 A ad K M ap o od H) {i1 i2 : Nat} (h1 : i1 < 4) (h2 : i2 < 4) {sp dp n : Int32} (hok : okCpy sp dp n (aLen i1) (aLen i2)) (hsz : ls.size = nL) (hf : 1 ≤ R.frames) (hlo : (rest.map fun v => v.category).sum + 30 ≤ R.locals) (hl : Cond.methodLink own index arraycopyName ∈ WU) (hd : decode cc pc = .ok (.invokestatic index, 3))
    (kk : ∀ (H1 : Heap) (locs1 : List Loc), HT D cI e0 A ad (kr K 10 i2 (va_cpy (K 10 i1) (K 10 i2) sp.toNatClampNeg dp.toNatClampNeg n.toNatClampNeg)) M ap o od H1 → va_S A s.heap H1 locs1 → W p l e R s m args below meth c H1 locs1 cells slots Q (F0 m (pc + 3) ls rest)) : W p l e R s m args below meth c H locs cells slots Q (F0 m pc ls (.int n :: .int dp :: .ref (ad 10 i2) :: .int sp :: .ref (ad 10 i1) :: rest)) := by
  obtain ⟨av, hw⟩ := hw
  obtain ⟨ids, q1, q2, q3⟩ := hw
  obtain ⟨a, -, a2⟩ := hws_at (adr := adK ad av) (G := ctK cI e0 ad av K M ap o od) (q1 10 i1 h1)
  obtain ⟨b, b1, b2⟩ := hws_at (adr := adK ad av) (G := ctK cI e0 ad av K M ap o od) (q1 10 i2 h2)
  obtain ⟨o1, o2, o3, o4, o5⟩ := hok
  refine va_copyi (rest := rest) S.1 S.2.1 (S.2.2.1.trans hsz.symm) S.2.2.2.1 (S.2.2.2.2 _ hl) (S.2.2.2.2 _ u464) (S.2.2.2.2 _ u463) (S.2.2.2.2 _ u46) hg.1 q2 q3 hS a b 0 0 a2 b2 rfl rfl rfl o1 o2 o3 o4 o5 (fun _ _ => rfl) hf (by have := nfw; omega) hd (fun H1 locs1 hP hD hS => kk H1 locs1 ⟨av, (HW.set q3 q1 b1 hP hD).same (fun _ _ h => h) (fun _ _ _ => rfl) (fun k i3 hl => ?_)⟩ hS)
  by_cases hc : k = 10 ∧ i3 = i2
  · obtain ⟨rfl, rfl⟩ := hc
    rw [hU_s]
    simp [ctK, kr_s]
  · rw [hU_n _ _ hc]
    by_cases hk2 : k = 10
    · subst hk2
      have hc2 : ¬ i3 = i2 := fun h => hc ⟨rfl, h⟩
      simp [ctK, kr_b, hc2]
    · unfold ctK
      split <;> first | rfl | (exact absurd rfl hk2)
set_option maxHeartbeats 1000000 in
theorem cp_18_10 (S : CallFix p m c cc nL s args WU own) (hg : GI D cI e0 A s s.heap) (hS : va_S A s.heap H locs) (hw : HT D cI e0 A ad K M ap o od H) {i1 i2 : Nat} (h1 : i1 < 2 * nD K) (h2 : i2 < 4) {sp dp n : Int32} (hok : okCpy sp dp n (8) (aLen i2)) (hsz : ls.size = nL) (hf : 1 ≤ R.frames) (hlo : (rest.map fun v => v.category).sum + 30 ≤ R.locals) (hl : Cond.methodLink own index arraycopyName ∈ WU) (hd : decode cc pc = .ok (.invokestatic index, 3))
    (kk : ∀ (H1 : Heap) (locs1 : List Loc), HT D cI e0 A ad (kr K 10 i2 (va_cpy (K 18 i1) (K 10 i2) sp.toNatClampNeg dp.toNatClampNeg n.toNatClampNeg)) M ap o od H1 → va_S A s.heap H1 locs1 → W p l e R s m args below meth c H1 locs1 cells slots Q (F0 m (pc + 3) ls rest)) : W p l e R s m args below meth c H locs cells slots Q (F0 m pc ls (.int n :: .int dp :: .ref (ad 10 i2) :: .int sp :: .ref (ad 18 i1) :: rest)) := by
  obtain ⟨av, hw⟩ := hw
  obtain ⟨ids, q1, q2, q3⟩ := hw
  obtain ⟨a, -, a2⟩ := hws_at (adr := adK ad av) (G := ctK cI e0 ad av K M ap o od) (q1 18 i1 h1)
  obtain ⟨b, b1, b2⟩ := hws_at (adr := adK ad av) (G := ctK cI e0 ad av K M ap o od) (q1 10 i2 h2)
  obtain ⟨o1, o2, o3, o4, o5⟩ := hok
  refine va_copyi (rest := rest) S.1 S.2.1 (S.2.2.1.trans hsz.symm) S.2.2.2.1 (S.2.2.2.2 _ hl) (S.2.2.2.2 _ u464) (S.2.2.2.2 _ u463) (S.2.2.2.2 _ u46) hg.1 q2 q3 hS a b 0 0 a2 b2 rfl rfl rfl o1 o2 o3 o4 o5 (fun _ _ => rfl) hf (by have := nfw; omega) hd (fun H1 locs1 hP hD hS => kk H1 locs1 ⟨av, (HW.set q3 q1 b1 hP hD).same (fun _ _ h => h) (fun _ _ _ => rfl) (fun k i3 hl => ?_)⟩ hS)
  by_cases hc : k = 10 ∧ i3 = i2
  · obtain ⟨rfl, rfl⟩ := hc
    rw [hU_s]
    simp [ctK, kr_s]
  · rw [hU_n _ _ hc]
    by_cases hk2 : k = 10
    · subst hk2
      have hc2 : ¬ i3 = i2 := fun h => hc ⟨rfl, h⟩
      simp [ctK, kr_b, hc2]
    · unfold ctK
      split <;> first | rfl | (exact absurd rfl hk2)
set_option maxHeartbeats 1000000 in
theorem cp_10_18 (S : CallFix p m c cc nL s args WU own) (hg : GI D cI e0 A s s.heap) (hS : va_S A s.heap H locs) (hw : HT D cI e0 A ad K M ap o od H) {i1 i2 : Nat} (h1 : i1 < 4) (h2 : i2 < 2 * nD K) {sp dp n : Int32} (hok : okCpy sp dp n (aLen i1) (8)) (hsz : ls.size = nL) (hf : 1 ≤ R.frames) (hlo : (rest.map fun v => v.category).sum + 30 ≤ R.locals) (hl : Cond.methodLink own index arraycopyName ∈ WU) (hd : decode cc pc = .ok (.invokestatic index, 3))
    (kk : ∀ (H1 : Heap) (locs1 : List Loc), HT D cI e0 A ad (kr K 18 i2 (va_cpy (K 10 i1) (K 18 i2) sp.toNatClampNeg dp.toNatClampNeg n.toNatClampNeg)) M ap o od H1 → va_S A s.heap H1 locs1 → W p l e R s m args below meth c H1 locs1 cells slots Q (F0 m (pc + 3) ls rest)) : W p l e R s m args below meth c H locs cells slots Q (F0 m pc ls (.int n :: .int dp :: .ref (ad 18 i2) :: .int sp :: .ref (ad 10 i1) :: rest)) := by
  obtain ⟨av, hw⟩ := hw
  obtain ⟨ids, q1, q2, q3⟩ := hw
  obtain ⟨a, -, a2⟩ := hws_at (adr := adK ad av) (G := ctK cI e0 ad av K M ap o od) (q1 10 i1 h1)
  obtain ⟨b, b1, b2⟩ := hws_at (adr := adK ad av) (G := ctK cI e0 ad av K M ap o od) (q1 18 i2 h2)
  obtain ⟨o1, o2, o3, o4, o5⟩ := hok
  refine va_copyi (rest := rest) S.1 S.2.1 (S.2.2.1.trans hsz.symm) S.2.2.2.1 (S.2.2.2.2 _ hl) (S.2.2.2.2 _ u464) (S.2.2.2.2 _ u463) (S.2.2.2.2 _ u46) hg.1 q2 q3 hS a b 0 0 a2 b2 rfl rfl rfl o1 o2 o3 o4 o5 (fun _ _ => rfl) hf (by have := nfw; omega) hd (fun H1 locs1 hP hD hS => kk H1 locs1 ⟨av, (HW.set q3 q1 b1 hP hD).same (fun _ _ h => h) (fun _ _ _ => rfl) (fun k i3 hl => ?_)⟩ hS)
  by_cases hc : k = 18 ∧ i3 = i2
  · obtain ⟨rfl, rfl⟩ := hc
    rw [hU_s]
    simp [ctK, kr_s]
  · rw [hU_n _ _ hc]
    by_cases hk2 : k = 18
    · subst hk2
      have hc2 : ¬ i3 = i2 := fun h => hc ⟨rfl, h⟩
      simp [ctK, kr_b, hc2]
    · unfold ctK
      split <;> first | rfl | (exact absurd rfl hk2)
set_option maxHeartbeats 1000000 in
theorem cp_20_17 (S : CallFix p m c cc nL s args WU own) (hg : GI D cI e0 A s s.heap) (hS : va_S A s.heap H locs) (hw : HT D cI e0 A ad K M ap o od H) {i1 i2 : Nat} (h1 : i1 < 6 * nD K) (h2 : i2 < nD K) {sp dp n : Int32} (hok : okCpy sp dp n (8) (8)) (hsz : ls.size = nL) (hf : 1 ≤ R.frames) (hlo : (rest.map fun v => v.category).sum + 30 ≤ R.locals) (hl : Cond.methodLink own index arraycopyName ∈ WU) (hd : decode cc pc = .ok (.invokestatic index, 3))
    (kk : ∀ (H1 : Heap) (locs1 : List Loc), HT D cI e0 A ad (kr K 17 i2 (va_cpy (K 20 i1) (K 17 i2) sp.toNatClampNeg dp.toNatClampNeg n.toNatClampNeg)) M ap o od H1 → va_S A s.heap H1 locs1 → W p l e R s m args below meth c H1 locs1 cells slots Q (F0 m (pc + 3) ls rest)) : W p l e R s m args below meth c H locs cells slots Q (F0 m pc ls (.int n :: .int dp :: .ref (ad 17 i2) :: .int sp :: .ref (ad 20 i1) :: rest)) := by
  obtain ⟨av, hw⟩ := hw
  obtain ⟨ids, q1, q2, q3⟩ := hw
  obtain ⟨a, -, a2⟩ := hws_at (adr := adK ad av) (G := ctK cI e0 ad av K M ap o od) (q1 20 i1 h1)
  obtain ⟨b, b1, b2⟩ := hws_at (adr := adK ad av) (G := ctK cI e0 ad av K M ap o od) (q1 17 i2 h2)
  obtain ⟨o1, o2, o3, o4, o5⟩ := hok
  refine va_copyi (rest := rest) S.1 S.2.1 (S.2.2.1.trans hsz.symm) S.2.2.2.1 (S.2.2.2.2 _ hl) (S.2.2.2.2 _ u464) (S.2.2.2.2 _ u463) (S.2.2.2.2 _ u46) hg.1 q2 q3 hS a b 0 0 a2 b2 rfl rfl rfl o1 o2 o3 o4 o5 (fun _ _ => rfl) hf (by have := nfw; omega) hd (fun H1 locs1 hP hD hS => kk H1 locs1 ⟨av, (HW.set q3 q1 b1 hP hD).same (fun _ _ h => h) (fun _ _ _ => rfl) (fun k i3 hl => ?_)⟩ hS)
  by_cases hc : k = 17 ∧ i3 = i2
  · obtain ⟨rfl, rfl⟩ := hc
    rw [hU_s]
    simp [ctK, kr_s]
  · rw [hU_n _ _ hc]
    by_cases hk2 : k = 17
    · subst hk2
      have hc2 : ¬ i3 = i2 := fun h => hc ⟨rfl, h⟩
      simp [ctK, kr_b, hc2]
    · unfold ctK
      split <;> first | rfl | (exact absurd rfl hk2)
set_option maxHeartbeats 1000000 in
theorem cp_17_20 (S : CallFix p m c cc nL s args WU own) (hg : GI D cI e0 A s s.heap) (hS : va_S A s.heap H locs) (hw : HT D cI e0 A ad K M ap o od H) {i1 i2 : Nat} (h1 : i1 < nD K) (h2 : i2 < 6 * nD K) {sp dp n : Int32} (hok : okCpy sp dp n (8) (8)) (hsz : ls.size = nL) (hf : 1 ≤ R.frames) (hlo : (rest.map fun v => v.category).sum + 30 ≤ R.locals) (hl : Cond.methodLink own index arraycopyName ∈ WU) (hd : decode cc pc = .ok (.invokestatic index, 3))
    (kk : ∀ (H1 : Heap) (locs1 : List Loc), HT D cI e0 A ad (kr K 20 i2 (va_cpy (K 17 i1) (K 20 i2) sp.toNatClampNeg dp.toNatClampNeg n.toNatClampNeg)) M ap o od H1 → va_S A s.heap H1 locs1 → W p l e R s m args below meth c H1 locs1 cells slots Q (F0 m (pc + 3) ls rest)) : W p l e R s m args below meth c H locs cells slots Q (F0 m pc ls (.int n :: .int dp :: .ref (ad 20 i2) :: .int sp :: .ref (ad 17 i1) :: rest)) := by
  obtain ⟨av, hw⟩ := hw
  obtain ⟨ids, q1, q2, q3⟩ := hw
  obtain ⟨a, -, a2⟩ := hws_at (adr := adK ad av) (G := ctK cI e0 ad av K M ap o od) (q1 17 i1 h1)
  obtain ⟨b, b1, b2⟩ := hws_at (adr := adK ad av) (G := ctK cI e0 ad av K M ap o od) (q1 20 i2 h2)
  obtain ⟨o1, o2, o3, o4, o5⟩ := hok
  refine va_copyi (rest := rest) S.1 S.2.1 (S.2.2.1.trans hsz.symm) S.2.2.2.1 (S.2.2.2.2 _ hl) (S.2.2.2.2 _ u464) (S.2.2.2.2 _ u463) (S.2.2.2.2 _ u46) hg.1 q2 q3 hS a b 0 0 a2 b2 rfl rfl rfl o1 o2 o3 o4 o5 (fun _ _ => rfl) hf (by have := nfw; omega) hd (fun H1 locs1 hP hD hS => kk H1 locs1 ⟨av, (HW.set q3 q1 b1 hP hD).same (fun _ _ h => h) (fun _ _ _ => rfl) (fun k i3 hl => ?_)⟩ hS)
  by_cases hc : k = 20 ∧ i3 = i2
  · obtain ⟨rfl, rfl⟩ := hc
    rw [hU_s]
    simp [ctK, kr_s]
  · rw [hU_n _ _ hc]
    by_cases hk2 : k = 20
    · subst hk2
      have hc2 : ¬ i3 = i2 := fun h => hc ⟨rfl, h⟩
      simp [ctK, kr_b, hc2]
    · unfold ctK
      split <;> first | rfl | (exact absurd rfl hk2)
/-- throw new E("text") -/
theorem r_throwW {mc ms fr lo : Nat} {QQ : Option Value → Heap → Prop} {XX : String → Heap → Prop} {cls text : String} {ik is ic : Nat} (hfl : l.stackTraces = false) (S : CallFix p m c cc nL s args WU RX6) (hout : ∀ x ∈ c.exceptionTable.toList, False) (hlk : meth.locks = false) (hg : GI D cI e0 A s s.heap) (hS : va_S A s.heap H locs)
    (hcls : Bundle.fit cls = true) (hk : Cond.classLink RX6 ik cls ∈ WU) (hini : Cond.initialized cls ∈ WU) (hstr : (RX6, is, text) ∈ gStr) (hat : ∀ w ∈ vx_atS RX6 ic cls gEx, w ∈ WU ∨ (∃ q ∈ gCa, w = .castable q.1 q.2) ∨ ∃ q ∈ gDc, w = .declares q) (hsize : ls.size = nL)
    (d0 : decode cc pc = .ok (.new ik, 3)) (d3 : decode cc (pc + 3) = .ok (.dup, 1)) (d4 : decode cc (pc + 4) = .ok (.ldc_w is, 3)) (d6 : decode cc (pc + 7) = .ok (.invokespecial ic, 3)) (d9 : decode cc (pc + 10) = .ok (.athrow, 1))
    (hfr : 6 ≤ R.frames) (hlo : (rest.map fun v => v.category).sum + 82 ≤ R.locals) (hRc : cells + 1 ≤ R.cells) (hRs : slots + 6 ≤ R.slots) (hc : cells + 1 ≤ mc) (hs : slots + 6 ≤ ms)
    (hx : ∀ H1 : Heap, H.size ≤ H1.size → (∀ q : Nat, q < H.size → H1[q]? = H[q]?) → XX cls H1) : W p l e R s m args below meth c H locs cells slots (vx_MQ below (fun _ st oc t => (∃ r, oc = .returned r ∧ QQ r t.heap) ∧ va_F A st t) (fun E st t => XX E t.heap ∧ va_F A st t) args s mc ms A) (F0 m pc ls rest) := by
  obtain ⟨sa, hsa⟩ := hg.2.2.2.1 _ hstr
  have ht := S.2.2.2.2
  have hat2 : ∀ w ∈ vx_atS RX6 ic cls gEx, w.before args s = true ∧ vx_ot w = true := by
    intro w hw
    rcases hat w hw with h | ⟨q, hq, rfl⟩ | ⟨q, hq, rfl⟩
    · exact ⟨ht w h, by unfold vx_ot; rw [WU_good w h, Bool.or_true]⟩
    · exact ⟨va_Nw.use rfl (hg.2.2.2.2.1.1 q hq), rfl⟩
    · exact ⟨va_Nw.use rfl (hg.2.2.2.2.1.2 q hq), rfl⟩
  refine vx_throwSW S.1 S.2.1 hfl (names := gEx) S.2.2.2.1 hcls (by decide) (ht _ hk) (ht _ hini) hsa (fun w hw => (hat2 w hw).1) ?_ hg.2.2.1.1 hg.2.2.1.2 hS (hsize.trans S.2.2.1.symm) d0 d3 d4 d6 d9 (fun x hx => absurd (hout x hx) id) (by show 2 + 3 < _; omega) (by show _ + (13 * (2 + 1) + 43) ≤ _; omega) hRc hRs hlk ?_ hS.2.2 hc hs
  · intro w hw
    rcases List.mem_cons.mp hw with rfl | hw
    · rfl
    · rcases List.mem_cons.mp hw with rfl | hw
      · rfl
      · exact (hat2 w hw).2
  · intro t hal hz hk2
    refine ⟨hx t.heap hz hk2, Nat.le_trans hS.1 hz, fun q h1 h2 => ?_⟩
    rw [hk2 q (Nat.lt_of_lt_of_le h1 hS.1)]
    exact hS.2.1 q h1 h2
theorem r_dret {y : MethodName} {mc ms : Nat} {QQ : Option Value → Heap → Prop} {XC : String → State → State → Prop} {v : UInt64} (S : CallFix p m c cc nL s args WU own) (hr : meth.sig.returnType = some .double) (hlk : meth.locks = false) (hS : va_S A s.heap H locs) (hc : cells ≤ mc) (hs : slots ≤ ms) (hdg : decode cc pc = .ok (.dreturn, 1)) (hq : QQ (some (.double v)) H) : W p l e R s m args below meth c H locs cells slots (vx_MQ below (fun _ st oc t => (∃ r, oc = .returned r ∧ QQ r t.heap) ∧ va_F A st t) XC args s mc ms A) (F0 m pc ls [.double v]) := by
  refine W.widen hc hs (vx_ret ?_)
  exact W.dret (Qc := fun _ st oc t => (∃ r, oc = .returned r ∧ QQ r t.heap) ∧ va_F A st t) S.1 S.2.1 hr (fun t ht hW => ⟨⟨_, rfl, by rw [ht]; exact hq⟩, hS.F ht⟩) hS.2.2 hdg hlk
end SUPPORT
