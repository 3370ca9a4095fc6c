section MORE
variable {p : Program} {l : Launch} {e : Env} {R : Room} {s : State} {m : MethodId} {args : Array Value} {below : List Frame} {meth : Method} {c : Code} {H : Heap} {locs : List Loc} {cells slots : Nat} {Q : State → Prop}
variable {D : va_G} {cI : Nat → ClassId} {e0 : Nat} {A : Nat → Prop} {ad av : Nat → Nat → Nat} {K M : KS} {ap o : Int64} {od : UInt64}
variable {cc : ByteArray} {nL pc : Nat} {ls : Array Slot} {rest : List Value} {own : String} {index : Nat}
theorem lv_ldcfW (hexec : p.tables.exec = Jvm.exec) (hb : c.code = cc) {v : UInt32} (hown : s.vm.findClass own = some m.cls) (hconst : (Cond.constantFloat own index v).before args s = true) (hdg : decode cc pc = .ok (.ldc_w index, 3)) (k : W p l e R s m args below meth c H locs cells slots Q (F0 m (pc + 3) ls (.float v :: rest))) : W p l e R s m args below meth c H locs cells slots Q (F0 m pc ls rest) := by
  intro T hT X
  obtain ⟨t, a, b⟩ := k T hT X
  obtain ⟨k9, cf, hk, hcf, hcp⟩ := Cond.constantFloat_spec hown hconst
  obtain ⟨k', hk', he⟩ := X.warmed.alike.2.2 _ _ hk
  have hdg' : decode c.code (F0 m pc ls rest).pc = .ok (.ldc_w index, 3) := by rw [hb]; exact hdg
  refine ⟨t, ?_, b⟩
  jvm_step X.here [hexec, hdg', ldc_w.wp_float (s := T) (f := F0 m pc ls rest) X.here.top hk' (by rw [he]; exact hcf) hcp]
  exact a
/-- throw new NoSuchElementException("..") -/
theorem r_throwN {mc ms : Nat} {QQ : Option Value → Heap → Prop} {XX : String → Heap → Prop} {text : String} {ik is ic : Nat} (hfl : l.stackTraces = false) (S : CallFix p m c cc nL s args WU RX6) (hout : ∀ x ∈ c.exceptionTable.toList, False) (hlk : meth.locks = false) (hg : GI D cI e0 A s s.heap) (hS : va_S A s.heap H locs)
    (hk : Cond.classLink RX6 ik "java/util/NoSuchElementException" ∈ WU) (hini : Cond.initialized "java/util/NoSuchElementException" ∈ WU) (hstr : (RX6, is, text) ∈ gStr) (hsize : ls.size = nL)
    (d0 : decode cc pc = .ok (.new ik, 3)) (d3 : decode cc (pc + 3) = .ok (.dup, 1)) (d4 : decode cc (pc + 4) = .ok (.ldc is, 2)) (d6 : decode cc (pc + 6) = .ok (.invokespecial ic, 3)) (d9 : decode cc (pc + 9) = .ok (.athrow, 1))
    (hfr : 6 ≤ R.frames) (hlo : (rest.map fun v => v.category).sum + 82 ≤ R.locals) (hRc : cells + 1 ≤ R.cells) (hRs : slots + 6 ≤ R.slots) (hc : cells + 1 ≤ mc) (hs : slots + 6 ≤ ms)
    (hx : ∀ H1 : Heap, H.size ≤ H1.size → (∀ q : Nat, q < H.size → H1[q]? = H[q]?) → XX "java/util/NoSuchElementException" H1) : W p l e R s m args below meth c H locs cells slots (vx_MQ below (fun _ st oc t => (∃ r, oc = .returned r ∧ QQ r t.heap) ∧ va_F A st t) (fun E st t => XX E t.heap ∧ va_F A st t) args s mc ms A) (F0 m pc ls rest) := sorry
end MORE
