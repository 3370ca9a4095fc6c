-- the head that the skeleton gives
def R_law : String := "SnapshotArenaLaw"
def lw_P (b : Addr) (xs : List Int32) (args : Array Value) (s : State) : Prop := args = #[.ref b] ∧ s.IntsAt b xs ∧ xs.length ≤ 2048 ∧ (Jvm.Cond.and given_1 narrow_1).before args s = true
/-- what a walk over the start with the record d0 says of its end, said of the start itself -/
theorem lw_closed {s t : State} {o : Outcome} {d0 : Drawn} {L : List Loc} {k n : Nat} (hd0 : s.drawn.sameBut d0 lw_cs) (hv : ∃ v, o = .returned v) (hW : (s.setDrawn d0).WarmedH t.vm) (hs : (s.setDrawn d0).sameButNew ({ t with vm := s.vm } : State) L k n) : State.butDraws s t lw_cs (fun t1 => Framed s o t1 L k n) := by
  have h2 : t.drawn = d0 := congrArg State.drawn hs.1
  refine ⟨⟨hv, hW, State.sameButNew.setDrawn hs s.drawn⟩, ?_, by decide⟩
  rw [h2]
  exact hd0
def lw_Q (_ : Array Value) (s : State) (o : Outcome) (t : State) : Prop := o = .returned (some (.int 1)) ∧ State.butDraws s t lw_cs (fun t1 => Framed s o t1 [] 603072 7190634)
def lw_Z (below : List Frame) (a : Array Value) (s : State) : State → Prop := fun t => ∃ o, t.status = .running ∧ Ended t below o ∧ lw_Q a s o t
/-- the law's own end, with 1 on the stack, nothing written that was there before, its room as the claim has it; d0: the record of draws at this point (at the entry s.drawn: begin with 'refine W.base ?_' and 'have hd0 := Drawn.sameBut.refl s.drawn lw_cs') -/
theorem lw_ret {p : Program} {l : Launch} {e : Env} {s : State} {m : MethodId} {below : List Frame} {meth : Method} {c : Code} {b : Nat} {d0 : Drawn} (hd0 : s.drawn.sameBut d0 lw_cs) (hx : p.tables.exec = Jvm.exec) (hb : c.code = code) (hr : meth.sig.returnType = ret) (hlocks : meth.locks = false) {pc : Nat} {H : Heap} {ls : Array Slot} (hdg : decode code pc = .ok (.ireturn, 1)) : W p l e room_1 (s.setDrawn d0) m #[Value.ref b] below meth c H [] 603072 7190634 (lw_Z below #[Value.ref b] s) (F0 m pc ls [.int 1]) := by
  intro T hT X
  obtain ⟨fs, hret, hrun, hended, hW, hframe⟩ := X.leave (v := some (.int 1)) (hlocks := hlocks) (fun h => by rw [hr] at h; cases h)
  have hmeth' : T.vm.method? m = some meth := X.method'
  refine ⟨T.setFrames fs, ?_, .returned (some (.int 1)), hrun, hended, rfl, lw_closed hd0 ⟨_, rfl⟩ hW hframe⟩
  jvm_step X.here [X.here.top, hx, hb, hdg, hmeth', hr, ret, narrow_b1]
  (try refine ⟨rfl, ?_⟩); (try refine ⟨rfl, ?_⟩)
  first | (intro acts; rw [hret _ acts rfl rfl rfl]) | rw [hret _ _ rfl rfl rfl]
  exact Steps.refl _
/-- what holds at the law's entry: the machine, the code, the tables' words (any of lw_tbl by 'hts w (by decide +kernel)'), the script of L ints xs at the cell b, what the Statement gives of the start (any of its parts by flat_of_before) -/
def lw_At (p : Program) (s : State) (m : MethodId) (meth : Method) (c : Code) (b L : Nat) (xs : Nat → Int32) : Prop :=
  p.tables.exec = Jvm.exec ∧ c.code = code ∧ meth.sig.returnType = ret ∧ c.maxLocals = 9 ∧ s.vm.findClass R_law = some m.cls ∧ (∀ w ∈ lw_tbl, w.before #[Value.ref b] s = true) ∧ va_X b L xs s s.heap ∧ b < s.heap.size ∧ meth.locks = false ∧ (Jvm.Cond.and given_1 narrow_1).before #[Value.ref b] s = true
/-- what the invariant owes at each call: t calls were made, uc cells and us slots were used -/
def LawStep (Inv : Nat → Nat → Nat → KS → KS → Int64 → Prop) : Prop := (∀ t uc us K M ap, Inv t uc us K M ap → uc ≤ 603072 ∧ us ≤ 7190634) ∧ (∀ t uc us K M ap, t < 512 → Inv t uc us K M ap → Inv (t + 1) uc us K M ap) ∧ ∀ (t uc us : Nat) (K M : KS) (ap o : Int64) (od : UInt64) (p1 p2 p3 : Int32), t < 512 → Inv t uc us K M ap → st_player (Inv (t + 1)) uc us K M ap o od p1 ∧ st_make (Inv (t + 1)) uc us K M ap o od p1 p2 ∧ st_ownerOf (Inv (t + 1)) uc us K M ap o od p1 ∧ st_ownerByPostings (Inv (t + 1)) uc us K M ap o od p1 ∧ st_stateOf (Inv (t + 1)) uc us K M ap o od p1 ∧ st_cardsOf (Inv (t + 1)) uc us K M ap o od p1 ∧ st_coinsOf (Inv (t + 1)) uc us K M ap o od p1 ∧ st_postings (Inv (t + 1)) uc us K M ap o od ∧ st_posting (Inv (t + 1)) uc us K M ap o od p1 (lawC p2) ∧ st_duel (Inv (t + 1)) uc us K M ap o od p1 p2 ∧ st_stake (Inv (t + 1)) uc us K M ap o od p1 p2 ∧ st_start (Inv (t + 1)) uc us K M ap o od p1 ∧ st_play (Inv (t + 1)) uc us K M ap o od p1 p2 ∧ st_endTurn (Inv (t + 1)) uc us K M ap o od p1 ∧ st_duelState (Inv (t + 1)) uc us K M ap o od p1 ∧ st_life (Inv (t + 1)) uc us K M ap o od p1 (lawB p2) ∧ st_mana (Inv (t + 1)) uc us K M ap o od p1 ∧ st_depth (Inv (t + 1)) uc us K M ap o od p1 ∧ st_winner (Inv (t + 1)) uc us K M ap o od p1 ∧ st_close (Inv (t + 1)) uc us K M ap o od p1 ∧ st_snapshot (Inv (t + 1)) uc us K M ap o od p1 ∧ st_inSnapshot (Inv (t + 1)) uc us K M ap o od p1 p2 p3 ∧ st_blocks (Inv (t + 1)) uc us K M ap o od ∧ st_rollBack (Inv (t + 1)) uc us K M ap o od p1 p2 ∧ st_offer (Inv (t + 1)) uc us K M ap o od p1 p2 ∧ st_withdraw (Inv (t + 1)) uc us K M ap o od p1 ∧ st_buy (Inv (t + 1)) uc us K M ap o od p1 p2 ∧ st_offerState (Inv (t + 1)) uc us K M ap o od p1 ∧ st_house (Inv (t + 1)) uc us K M ap o od ∧ st_apart (Inv (t + 1)) uc us K M ap o od ∧ st_wonBits (Inv (t + 1)) uc us K M ap o od ∧ st_meanPrice (Inv (t + 1)) uc us K M ap o od ∧ st_isSound (Inv (t + 1)) uc us K M ap o od
theorem lw_more {L n : Nat} (hL : L ≤ 2048) (hn : n ≤ 2048) : Int32.ofNat L - 4 < nI n ↔ L < n + 4 := by
  have h1 : (Int32.ofNat L - 4).toInt = (L : Int) - 4 := by
    rw [Int32.toInt_sub, show (Int32.ofNat L).toInt = (L : Int) from nI_toInt (n := L) (by omega), show (4 : Int32).toInt = 4 from rfl]
    exact Int.bmod_eq_of_le (by omega) (by omega)
  rw [Int32.lt_iff_toInt_lt, h1, nI_toInt (by omega)]
  omega
set_option maxHeartbeats 8000000 in
set_option maxRecDepth 100000 in
theorem law_loop {Inv : Nat → Nat → Nat → KS → KS → Int64 → Prop} (hI : LawStep Inv) {p : Program} {l : Launch} {e : Env} {s : State} {m : MethodId} {below : List Frame} {meth : Method} {c : Code} {D : va_G} {cI : Nat → ClassId} {e0 : Nat} {b L : Nat} {xs : Nat → Int32} (hfl : l.stackTraces = false) (hL : L ≤ 2048) (C0 : lw_At p s m meth c b L xs) (hg : GI D cI e0 (fun q => s.heap.size ≤ q) s s.heap) :
    ∀ (n t uc us : Nat) (K M : KS) (ap o : Int64) (od : UInt64) (ad : Nat → Nat → Nat) (H : Heap) (locs : List Loc) (ls : Array Slot), 4 * t ≤ L → L + 1 ≤ 4 * t + n → Inv t uc us K M ap → HT D cI e0 (fun q => s.heap.size ≤ q) ad K M ap o od H → va_S (fun q => s.heap.size ≤ q) s.heap H locs → lv_has ls 9 [(0, .ref b), (1, .ref (ad 0 0)), (2, .ref (ad 3 0)), (3, .ref (ad 14 0)), (4, .ref (ad 15 0)), (5, .int (nI (4 * t)))] →
      W p l e room_1 s m #[Value.ref b] below meth c H locs uc us (lw_Z below #[Value.ref b] s) (F0 m 28 ls []) := by
  obtain ⟨hx, hb, hr, hml, hown, hts, hX, hbl, hlocks, hgv⟩ := C0
  have S : CallFix p m c cL_law 9 s #[Value.ref b] WU RL := ⟨hx, hb, hml, hown, fun w hw => hts w (List.mem_filter.mp hw).1⟩
  have hbA : ¬ (fun q : Nat => s.heap.size ≤ q) b := Nat.not_le.mpr hbl
  intro n
  induction n with
  | zero =>
    intro t uc us K M ap o od ad H locs ls h1 h2
    exact absurd h2 (by omega)
  | succ n ih =>
    intro t uc us K M ap o od ad H locs ls h1 h2 hInv hw hS hl
    have hu := hI.1 _ _ _ _ _ _ hInv
    refine lv_iload S.1 S.2.1 dL_law_28 (lv_at hl 5 rfl) ?_
    refine lv_aload_n S.1 S.2.1 dL_law_30 rfl (lv_at hl 0 rfl) ?_
    refine va_slen S.1 S.2.1 hX hbl hbA hS dL_law_31 ?_
    refine lv_iconst (v := 4) S.1 S.2.1 dL_law_32 (by decide) ?_
    refine lv_isub S.1 S.2.1 dL_law_33 ?_
    refine lv_icmp_gt (tgt := 1979) S.1 S.2.1 dL_law_34 (by decide) (fun c1 => ?_) (fun c1 => ?_)
    · refine lv_iconst (v := 1) S.1 S.2.1 dL_law_1979 (by decide) ?_
      refine va_forget (fun q hq => hS.2.2 q hq) ?_
      refine W.widen (k := 603072) (n := 7190634) hu.1 hu.2 ?_
      refine W.base ?_
      exact lw_ret (Drawn.sameBut.refl s.drawn lw_cs) hx hb hr hlocks dL_law_1980
    · have hlt : 4 * t + 4 ≤ L := by
        rcases Nat.lt_or_ge L (4 * t + 4) with q | q
        · exact absurd ((lw_more hL (by omega)).mpr q) c1
        · exact q
      have ht : t < 512 := by omega
      have hst := hI.2.2 t uc us K M ap o od (xs (4 * t + 1)) (xs (4 * t + 2)) (xs (4 * t + 3)) ht hInv
      have h_in : ∀ j, j < 4 → vp_in (nI (4 * t) + nI j) L ∧ xs (nI (4 * t) + nI j).toNatClampNeg = xs (4 * t + j) := by
        intro j hj
        rw [nI_add, nI_clamp (by omega)]
        exact ⟨vp_in_nI (by omega) (by omega), rfl⟩
      have h0 : vp_in (nI (4 * t)) L := vp_in_nI (by omega) (by omega)
      have h1' : vp_in (nI (4 * t) + 1) L := (h_in 1 (by decide)).1
      have h2' : vp_in (nI (4 * t) + 2) L := (h_in 2 (by decide)).1
      have h3' : vp_in (nI (4 * t) + 3) L := (h_in 3 (by decide)).1
      have e1 : xs (nI (4 * t) + 1).toNatClampNeg = xs (4 * t + 1) := (h_in 1 (by decide)).2
      have e2 : xs (nI (4 * t) + 2).toNatClampNeg = xs (4 * t + 2) := (h_in 2 (by decide)).2
      have e3 : xs (nI (4 * t) + 3).toNatClampNeg = xs (4 * t + 3) := (h_in 3 (by decide)).2
      have kk : ∀ {uc1 us1 : Nat} {K1 M1 : KS} {ap1 o1 : Int64} {od1 : UInt64} {ad' : Nat → Nat → Nat} {H1 : Heap} {locs1 : List Loc} {ls1 : Array Slot}, Inv (t + 1) uc1 us1 K1 M1 ap1 → HT D cI e0 (fun q => s.heap.size ≤ q) ad' K1 M1 ap1 o1 od1 H1 → va_S (fun q => s.heap.size ≤ q) s.heap H1 locs1 → lv_has ls1 9 [(0, .ref b), (1, .ref (ad' 0 0)), (2, .ref (ad' 3 0)), (3, .ref (ad' 14 0)), (4, .ref (ad' 15 0)), (5, .int (nI (4 * t)))] → W p l e room_1 s m #[Value.ref b] below meth c H1 locs1 uc1 us1 (lw_Z below #[Value.ref b] s) (F0 m 1973 ls1 []) := by
        intro uc1 us1 K1 M1 ap1 o1 od1 ad' H1 locs1 ls1 hI1 hw1 hS1 hl1
        refine lv_iinc (v := nI (4 * (t + 1))) (lv' := [(5, .int (nI (4 * (t + 1)))), (0, .ref b), (1, .ref (ad' 0 0)), (2, .ref (ad' 3 0)), (3, .ref (ad' 14 0)), (4, .ref (ad' 15 0))]) S.1 S.2.1 dL_law_1973 hl1 (k := 5) rfl (by show nI (4 * t) + nI 4 = _; rw [nI_add]; rfl) (by decide) rfl (fun ls hl => ?_)
        refine lv_goto (tgt := 28) S.1 S.2.1 dL_law_1976 (by decide) ?_
        exact ih (t + 1) uc1 us1 K1 M1 ap1 o1 od1 ad' H1 locs1 ls (by omega) (by omega) hI1 hw1 hS1 (lv_sub hl [1, 2, 3, 4, 5, 0] rfl)
      refine lv_aload_n S.1 S.2.1 dL_law_37 rfl (lv_at hl 0 rfl) ?_
      refine lv_iload S.1 S.2.1 dL_law_38 (lv_at hl 5 rfl) ?_
      refine va_sld S.1 S.2.1 hX hbl hbA hS h0 dL_law_40 ?_
      refine lv_bipush (v := 63) S.1 S.2.1 dL_law_41 (by decide) ?_
      refine lv_iand S.1 S.2.1 dL_law_43 ?_
      generalize xs (nI (4 * t)).toNatClampNeg &&& 63 = z
      by_cases z1 : z.toInt < 0
      · exact lv_tableOut (tgt := 1973) S.1 S.2.1 dL_law_44 (Or.inl z1) (by decide) (kk (hI.2.1 _ _ _ _ _ _ ht hInv) hw hS hl)
      by_cases z2 : 32 < z.toInt
      · exact lv_tableOut (tgt := 1973) S.1 S.2.1 dL_law_44 (Or.inr z2) (by decide) (kk (hI.2.1 _ _ _ _ _ _ ht hInv) hw hS hl)
      obtain ⟨s0, s1, s2, s3, s4, s5, s6, s7, s8, s9, s10, s11, s12, s13, s14, s15, s16, s17, s18, s19, s20, s21, s22, s23, s24, s25, s26, s27, s28, s29, s30, s31, s32⟩ := hst
      rcases (by omega : z.toInt = 0 ∨ z.toInt = 1 ∨ z.toInt = 2 ∨ z.toInt = 3 ∨ z.toInt = 4 ∨ z.toInt = 5 ∨ z.toInt = 6 ∨ z.toInt = 7 ∨ z.toInt = 8 ∨ z.toInt = 9 ∨ z.toInt = 10 ∨ z.toInt = 11 ∨ z.toInt = 12 ∨ z.toInt = 13 ∨ z.toInt = 14 ∨ z.toInt = 15 ∨ z.toInt = 16 ∨ z.toInt = 17 ∨ z.toInt = 18 ∨ z.toInt = 19 ∨ z.toInt = 20 ∨ z.toInt = 21 ∨ z.toInt = 22 ∨ z.toInt = 23 ∨ z.toInt = 24 ∨ z.toInt = 25 ∨ z.toInt = 26 ∨ z.toInt = 27 ∨ z.toInt = 28 ∨ z.toInt = 29 ∨ z.toInt = 30 ∨ z.toInt = 31 ∨ z.toInt = 32) with hz | hz | hz | hz | hz | hz | hz | hz | hz | hz | hz | hz | hz | hz | hz | hz | hz | hz | hz | hz | hz | hz | hz | hz | hz | hz | hz | hz | hz | hz | hz | hz | hz
      · exact lv_tableIn (off := 148) (tgt := 192) S.1 S.2.1 dL_law_44 z1 z2 (by rw [hz]; rfl) (by decide) (lc_player (I := Inv (t + 1)) (n5 := 4 * t) hfl S hg hX hbl hbA h1' e1 hS hw hl s0 kk)
      · exact lv_tableIn (off := 204) (tgt := 248) S.1 S.2.1 dL_law_44 z1 z2 (by rw [hz]; rfl) (by decide) (lc_make (I := Inv (t + 1)) (n5 := 4 * t) hfl S hg hX hbl hbA h1' e1 h2' e2 hS hw hl s1 kk)
      · exact lv_tableIn (off := 272) (tgt := 316) S.1 S.2.1 dL_law_44 z1 z2 (by rw [hz]; rfl) (by decide) (lc_ownerOf (I := Inv (t + 1)) (n5 := 4 * t) hfl S hg hX hbl hbA h1' e1 hS hw hl s2 kk)
      · exact lv_tableIn (off := 328) (tgt := 372) S.1 S.2.1 dL_law_44 z1 z2 (by rw [hz]; rfl) (by decide) (lc_ownerByPostings (I := Inv (t + 1)) (n5 := 4 * t) hfl S hg hX hbl hbA h1' e1 hS hw hl s3 kk)
      · exact lv_tableIn (off := 384) (tgt := 428) S.1 S.2.1 dL_law_44 z1 z2 (by rw [hz]; rfl) (by decide) (lc_stateOf (I := Inv (t + 1)) (n5 := 4 * t) hfl S hg hX hbl hbA h1' e1 hS hw hl s4 kk)
      · exact lv_tableIn (off := 440) (tgt := 484) S.1 S.2.1 dL_law_44 z1 z2 (by rw [hz]; rfl) (by decide) (lc_cardsOf (I := Inv (t + 1)) (n5 := 4 * t) hfl S hg hX hbl hbA h1' e1 hS hw hl s5 kk)
      · exact lv_tableIn (off := 496) (tgt := 540) S.1 S.2.1 dL_law_44 z1 z2 (by rw [hz]; rfl) (by decide) (lc_coinsOf (I := Inv (t + 1)) (n5 := 4 * t) hfl S hg hX hbl hbA h1' e1 hS hw hl s6 kk)
      · exact lv_tableIn (off := 552) (tgt := 596) S.1 S.2.1 dL_law_44 z1 z2 (by rw [hz]; rfl) (by decide) (lc_postings (I := Inv (t + 1)) (n5 := 4 * t) hfl S hg hX hbl hbA hS hw hl hu s7 kk)
      · exact lv_tableIn (off := 565) (tgt := 609) S.1 S.2.1 dL_law_44 z1 z2 (by rw [hz]; rfl) (by decide) (lc_posting (I := Inv (t + 1)) (n5 := 4 * t) hfl S hg hX hbl hbA h1' e1 h2' e2 hS hw hl s8 kk)
      · exact lv_tableIn (off := 635) (tgt := 679) S.1 S.2.1 dL_law_44 z1 z2 (by rw [hz]; rfl) (by decide) (lc_duel (I := Inv (t + 1)) (n5 := 4 * t) hfl S hg hX hbl hbA h1' e1 h2' e2 hS hw hl s9 kk)
      · exact lv_tableIn (off := 703) (tgt := 747) S.1 S.2.1 dL_law_44 z1 z2 (by rw [hz]; rfl) (by decide) (lc_stake (I := Inv (t + 1)) (n5 := 4 * t) hfl S hg hX hbl hbA h1' e1 h2' e2 hS hw hl s10 kk)
      · exact lv_tableIn (off := 771) (tgt := 815) S.1 S.2.1 dL_law_44 z1 z2 (by rw [hz]; rfl) (by decide) (lc_start (I := Inv (t + 1)) (n5 := 4 * t) hfl S hg hX hbl hbA h1' e1 hS hw hl s11 kk)
      · exact lv_tableIn (off := 827) (tgt := 871) S.1 S.2.1 dL_law_44 z1 z2 (by rw [hz]; rfl) (by decide) (lc_play (I := Inv (t + 1)) (n5 := 4 * t) hfl S hg hX hbl hbA h1' e1 h2' e2 hS hw hl s12 kk)
      · exact lv_tableIn (off := 895) (tgt := 939) S.1 S.2.1 dL_law_44 z1 z2 (by rw [hz]; rfl) (by decide) (lc_endTurn (I := Inv (t + 1)) (n5 := 4 * t) hfl S hg hX hbl hbA h1' e1 hS hw hl s13 kk)
      · exact lv_tableIn (off := 951) (tgt := 995) S.1 S.2.1 dL_law_44 z1 z2 (by rw [hz]; rfl) (by decide) (lc_duelState (I := Inv (t + 1)) (n5 := 4 * t) hfl S hg hX hbl hbA h1' e1 hS hw hl s14 kk)
      · exact lv_tableIn (off := 1007) (tgt := 1051) S.1 S.2.1 dL_law_44 z1 z2 (by rw [hz]; rfl) (by decide) (lc_life (I := Inv (t + 1)) (n5 := 4 * t) hfl S hg hX hbl hbA h1' e1 h2' e2 hS hw hl s15 kk)
      · exact lv_tableIn (off := 1091) (tgt := 1135) S.1 S.2.1 dL_law_44 z1 z2 (by rw [hz]; rfl) (by decide) (lc_mana (I := Inv (t + 1)) (n5 := 4 * t) hfl S hg hX hbl hbA h1' e1 hS hw hl s16 kk)
      · exact lv_tableIn (off := 1147) (tgt := 1191) S.1 S.2.1 dL_law_44 z1 z2 (by rw [hz]; rfl) (by decide) (lc_depth (I := Inv (t + 1)) (n5 := 4 * t) hfl S hg hX hbl hbA h1' e1 hS hw hl s17 kk)
      · exact lv_tableIn (off := 1203) (tgt := 1247) S.1 S.2.1 dL_law_44 z1 z2 (by rw [hz]; rfl) (by decide) (lc_winner (I := Inv (t + 1)) (n5 := 4 * t) hfl S hg hX hbl hbA h1' e1 hS hw hl s18 kk)
      · exact lv_tableIn (off := 1259) (tgt := 1303) S.1 S.2.1 dL_law_44 z1 z2 (by rw [hz]; rfl) (by decide) (lc_close (I := Inv (t + 1)) (n5 := 4 * t) hfl S hg hX hbl hbA h1' e1 hS hw hl s19 kk)
      · exact lv_tableIn (off := 1315) (tgt := 1359) S.1 S.2.1 dL_law_44 z1 z2 (by rw [hz]; rfl) (by decide) (lc_snapshot (I := Inv (t + 1)) (n5 := 4 * t) hfl S hg hX hbl hbA h1' e1 hS hw hl s20 kk)
      · exact lv_tableIn (off := 1371) (tgt := 1415) S.1 S.2.1 dL_law_44 z1 z2 (by rw [hz]; rfl) (by decide) (lc_inSnapshot (I := Inv (t + 1)) (n5 := 4 * t) hfl S hg hX hbl hbA h1' e1 h2' e2 h3' e3 hS hw hl s21 kk)
      · exact lv_tableIn (off := 1451) (tgt := 1495) S.1 S.2.1 dL_law_44 z1 z2 (by rw [hz]; rfl) (by decide) (lc_blocks (I := Inv (t + 1)) (n5 := 4 * t) hfl S hg hX hbl hbA hS hw hl hu s22 kk)
      · exact lv_tableIn (off := 1464) (tgt := 1508) S.1 S.2.1 dL_law_44 z1 z2 (by rw [hz]; rfl) (by decide) (lc_rollBack (I := Inv (t + 1)) (n5 := 4 * t) hfl S hg hX hbl hbA h1' e1 h2' e2 hS hw hl s23 kk)
      · exact lv_tableIn (off := 1532) (tgt := 1576) S.1 S.2.1 dL_law_44 z1 z2 (by rw [hz]; rfl) (by decide) (lc_offer (I := Inv (t + 1)) (n5 := 4 * t) hfl S hg hX hbl hbA h1' e1 h2' e2 hS hw hl s24 kk)
      · exact lv_tableIn (off := 1600) (tgt := 1644) S.1 S.2.1 dL_law_44 z1 z2 (by rw [hz]; rfl) (by decide) (lc_withdraw (I := Inv (t + 1)) (n5 := 4 * t) hfl S hg hX hbl hbA h1' e1 hS hw hl s25 kk)
      · exact lv_tableIn (off := 1656) (tgt := 1700) S.1 S.2.1 dL_law_44 z1 z2 (by rw [hz]; rfl) (by decide) (lc_buy (I := Inv (t + 1)) (n5 := 4 * t) hfl S hg hX hbl hbA h1' e1 h2' e2 hS hw hl s26 kk)
      · exact lv_tableIn (off := 1724) (tgt := 1768) S.1 S.2.1 dL_law_44 z1 z2 (by rw [hz]; rfl) (by decide) (lc_offerState (I := Inv (t + 1)) (n5 := 4 * t) hfl S hg hX hbl hbA h1' e1 hS hw hl s27 kk)
      · exact lv_tableIn (off := 1780) (tgt := 1824) S.1 S.2.1 dL_law_44 z1 z2 (by rw [hz]; rfl) (by decide) (lc_house (I := Inv (t + 1)) (n5 := 4 * t) hfl S hg hX hbl hbA hS hw hl hu s28 kk)
      · exact lv_tableIn (off := 1793) (tgt := 1837) S.1 S.2.1 dL_law_44 z1 z2 (by rw [hz]; rfl) (by decide) (lc_apart (I := Inv (t + 1)) (n5 := 4 * t) hfl S hg hX hbl hbA hS hw hl hu s29 kk)
      · exact lv_tableIn (off := 1807) (tgt := 1851) S.1 S.2.1 dL_law_44 z1 z2 (by rw [hz]; rfl) (by decide) (lc_wonBits (I := Inv (t + 1)) (n5 := 4 * t) hfl S hg hX hbl hbA hS hw hl s30 kk)
      · exact lv_tableIn (off := 1851) (tgt := 1895) S.1 S.2.1 dL_law_44 z1 z2 (by rw [hz]; rfl) (by decide) (lc_meanPrice (I := Inv (t + 1)) (n5 := 4 * t) hfl S hg hX hbl hbA hS hw hl s31 kk)
      · exact lv_tableIn (off := 1916) (tgt := 1960) S.1 S.2.1 dL_law_44 z1 z2 (by rw [hz]; rfl) (by decide) (lc_isSound (I := Inv (t + 1)) (n5 := 4 * t) hfl S hg hX hbl hbA hS hw hl hu s32 kk)
