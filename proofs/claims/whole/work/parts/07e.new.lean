/-! A card, a duel, an offer more: the name that is new, its constructor, the typed world that stands then. -/
section NEW
variable {p : Program} {l : Launch} {e : Env} {R : Room} {s : State} {m : MethodId} {args : Array Value} {below : List Frame} {meth : Method} {c : Code} {H : Heap} {locs : List Loc} {cells slots : Nat} {Q : State → Prop}
variable {D : va_G} {cI : Nat → ClassId} {e0 : Nat} {A : Nat → Prop} {ad av : Nat → Nat → Nat} {K M : KS} {ap o : Int64} {od : UInt64} {adr adr' : Nat → Nat → Nat} {G G' : Nat → Nat → va_E} {live live' : Nat → Nat → Prop}
variable {cc : ByteArray} {nL pc : Nat} {ls : Array Slot} {rest : List Value} {own : String} {index : Nat}
def HN (D : va_G) (cI : Nat → ClassId) (e0 : Nat) (A : Nat → Prop) (ad : Nat → Nat → Nat) (K M : KS) (ap o : Int64) (od : UInt64) (kd n q : Nat) (x : va_E) (H : Heap) : Prop := ∃ av, HW D A (fun k i => lvK K k i ∨ (k = kd ∧ i = n)) (hU (adK ad av) kd n q) (hU (ctK cI e0 ad av K M ap o od) kd n x) H
def qA (D : va_G) (cI : Nat → ClassId) (e0 : Nat) (A : Nat → Prop) (ad : Nat → Nat → Nat) (M : KS) (ap o : Int64) (od : UInt64) {α : Type} (val : α → Option Value) (post : α → KS → Prop) (rv : Option Value) (H : Heap) : Prop := ∃ r K ad', rv = val r ∧ post r K ∧ (ad 0 0 = ad' 0 0 ∧ ad 3 0 = ad' 3 0 ∧ ad 14 0 = ad' 14 0 ∧ ad 15 0 = ad' 15 0) ∧ HT D cI e0 A ad' K M ap o od H
/-- the addresses of what stood before are those that they were -/
def sameAd (K : KS) (ad ad' : Nat → Nat → Nat) : Prop := ∀ k i, k ≠ 9 → k ≠ 11 → lvK K k i → ad k i = ad' k i
theorem sameAd.law (h : sameAd K ad adr) : ad 0 0 = adr 0 0 ∧ ad 3 0 = adr 3 0 ∧ ad 14 0 = adr 14 0 ∧ ad 15 0 = adr 15 0 := ⟨h 0 0 (by decide) (by decide) rfl, h 3 0 (by decide) (by decide) rfl, h 14 0 (by decide) (by decide) rfl, h 15 0 (by decide) (by decide) rfl⟩
theorem nw (S : CallFix p m c cc nL s args WU own) (hg : GI D cI e0 A s s.heap) (hS : va_S A s.heap H locs) (hw : HT D cI e0 A ad K M ap o od H) (kd n : Nat) {ci : Nat} {fs : List Value} {C : String} {T : u_T} {N : Nat} (hc : vwCl[ci]? = some (C, T, N)) (hin : ∀ w ∈ u_ws C T N, w ∈ WU) (ty0 : Nat → FieldType) (hty : ∀ k, k < N → parseFieldDescriptor (T k).2.2.1 = some (ty0 k)) (k1 : Cond.classLink own index C ∈ WU) (k2 : Cond.instantiable C N ∈ WU) (k3 : Cond.initialized C ∈ WU) (hfs : ∀ j, j < N → defaultValue (ty0 j) = vp_V fs j) (hcs : cells + 1 ≤ R.cells ∧ slots + N ≤ R.slots) (hd : decode cc pc = .ok (.new index, 3))
    (kk : ∀ (q : Nat) (H1 : Heap), HN D cI e0 A ad K M ap o od kd n q (.inr (ci, fs)) H1 → va_S A s.heap H1 locs → W p l e R s m args below meth c H1 locs (cells + 1) (slots + N) Q (F0 m (pc + 3) ls (.ref q :: rest))) : W p l e R s m args below meth c H locs cells slots Q (F0 m pc ls rest) := by
  obtain ⟨av, hw⟩ := hw
  exact r_new S hg hS hw kd n hc hin ty0 hty k1 k2 k3 hfs hcs hd (fun q H1 hw hS => kk q H1 ⟨av, hw⟩ hS)
def kCard (K : KS) (x1 x2 x3 : Int32) : KS := fun a b c => if a = 0 ∧ b = 20 ∧ c = 0 then K 0 20 0 + 1 else if a = 4 ∧ c = nC K then (match b with | 0 => x1 | 1 => x2 | 2 => x3 | 3 => 45 | 4 => 0 | _ => -1) else K a b c
def okCard (K : KS) : Prop := (K 0 20 0 + 1).toNatClampNeg = nC K + 1 ∧ (∀ i, i < nO K → (K 5 0 i).toNatClampNeg < nC K) ∧ ∀ i, i < 4 + 2 * nD K → ek i = 4 → ∀ j, j < (K 8 2 i).toNatClampNeg → (K 9 i j).toNatClampNeg < nC K
theorem ctCard {q : Nat} {x1 x2 x3 : Int32} {y : va_E} (hok : okCard K) (hw : HW D A (fun k i => lvK K k i ∨ (k = 4 ∧ i = nC K)) (hU (adK ad av) 4 (nC K) q) (hU (hU (ctK cI e0 ad av K M ap o od) 4 (nC K) y) 4 (nC K) (.inr (4, [.int x1, .int x2, .int x3, .int 45, .int 0, .int (-1)]))) H) : HT D cI e0 A (hU ad 4 (nC K) q) (kCard K x1 x2 x3) M ap o od H := by
  have hn : nC (kCard K x1 x2 x3) = nC K + 1 := hok.1
  have hl0 : ∀ k i, ¬ k = 4 → lvK (kCard K x1 x2 x3) k i → lvK K k i := by
    intro k i hk
    unfold lvK
    split <;> first | exact id | exact absurd rfl hk
  refine ⟨av, hw.same (fun k i hl => ?_) (fun k i hl => ?_) (fun k i hl => ?_)⟩
  · by_cases hk : k = 4
    · subst hk
      have hl : i < nC (kCard K x1 x2 x3) := hl
      rw [hn] at hl
      rcases Nat.lt_or_ge i (nC K) with h | h
      · exact Or.inl h
      · exact Or.inr ⟨rfl, by omega⟩
    · exact Or.inl (hl0 k i hk hl)
  · by_cases hk : k = 4 ∧ i = nC K
    · obtain ⟨rfl, rfl⟩ := hk
      rw [hU_s]
      exact hU_s _ _ _ _
    · rw [hU_n _ _ hk]
      unfold adK
      split
      · rfl
      · rfl
      · exact hU_n _ _ hk
  · by_cases hk : k = 4
    · subst hk
      by_cases hi : i = nC K
      · subst hi
        rw [hU_s]
        simp [ctK, kCard]
      · rw [hU_n _ _ (by omega), hU_n _ _ (by omega)]
        simp [ctK, kCard, hi]
    · rw [hU_n _ _ (by omega), hU_n _ _ (by omega)]
      have hl := hl0 k i hk hl
      by_cases h5 : k = 5
      · subst h5
        have h := hok.2.1 i hl
        show (Sum.inr (7, [.ref (hU ad 4 (nC K) q 4 (K 5 0 i).toNatClampNeg), _, _, _, _, _]) : va_E) = _
        rw [hU_n _ _ (by omega)]
        rfl
      · by_cases h9 : k = 9
        · subst h9
          have h := hok.2.2 i hl.1
          show (Sum.inl (_, _, .inr (.inr (.inr (.inr (fun j => if j < (K 8 2 i).toNatClampNeg then some (hU ad 4 (nC K) q (ek i) (K 9 i j).toNatClampNeg) else none))))) : va_E) = Sum.inl (_, _, .inr (.inr (.inr (.inr (fun j => if j < (K 8 2 i).toNatClampNeg then some (ad (ek i) (K 9 i j).toNatClampNeg) else none)))))
          refine congrArg (fun f => (Sum.inl (cI 2, (K 8 3 i).toNatClampNeg, .inr (.inr (.inr (.inr f)))) : va_E)) (funext fun j => ?_)
          show (if j < (K 8 2 i).toNatClampNeg then some (hU ad _ _ q (ek i) (K 9 i j).toNatClampNeg) else none) = if j < (K 8 2 i).toNatClampNeg then some (ad (ek i) (K 9 i j).toNatClampNeg) else none
          by_cases hj : j < (K 8 2 i).toNatClampNeg
          · rw [if_pos hj, if_pos hj, hU_n _ _ (fun z => by have := h z.1 j hj; omega)]
          · rw [if_neg hj, if_neg hj]
        · unfold ctK
          split <;> first | rfl | exact absurd rfl hk | exact absurd rfl h5 | exact absurd rfl h9
theorem i4 {q : Nat} {x1 x2 x3 : Int32} (S : CallFix p m c cc nL s args WU own) (hg : GI D cI e0 A s s.heap) (hS : va_S A s.heap H locs) (hw : HN D cI e0 A ad K M ap o od 4 (nC K) q (.inr (4, [.int 0, .int 0, .int 0, .int 0, .int 0, .int 0])) H) (hok : okCard K) (k1 : Cond.methodLink own index yX1_init ∈ WU) (hR : 2 ≤ R.frames ∧ 70 ≤ R.locals) (hcs : cells + 0 ≤ R.cells ∧ slots + 0 ≤ R.slots) (hsize : ls.size = nL) (hrest : (rest.map fun v => v.category).sum ≤ 8) (hdg : decode cc pc = .ok (.invokespecial index, 3))
    (kk : ∀ (ad1 : Nat → Nat → Nat) (H1 : Heap) (locs1 : List Loc), sameAd K ad ad1 → q = ad1 4 (nC K) → HT D cI e0 A ad1 (kCard K x1 x2 x3) M ap o od H1 → va_S A s.heap H1 locs1 → W p l e R s m args below meth c H1 locs1 cells slots Q (F0 m (pc + 3) ls rest)) : W p l e R s m args below meth c H locs cells slots Q (F0 m pc ls (.int x3 :: .int x2 :: .int x1 :: .ref q :: rest)) := by
  obtain ⟨av, hw⟩ := hw
  refine r_callI (rest := rest) S hg hS (mtX1_init (i := nC K) (x1 := x1) (x2 := x2) (x3 := x3) (Or.inr ⟨rfl, rfl⟩) (hU_s _ _ _ _) (hU_s _ _ _ _)) k1 u380 u58 u381 rfl hdX1_init hw ⟨by omega, by show 8 + (4 + 11) + 40 ≤ R.locals; omega⟩ hcs hsize hrest rfl hdg (fun rv H locs hq hS => ?_)
  obtain ⟨rfl, hw⟩ := hq
  refine kk (hU ad 4 (nC K) q) H locs (fun k i h9 h11 hl => (hU_n _ _ (fun z => ?_)).symm) (hU_s _ _ _ _).symm (ctCard hok hw) hS
  obtain ⟨rfl, rfl⟩ := z
  exact absurd hl (Nat.lt_irrefl _)
def kOffer (K : KS) (cd : Nat) (x2 : Int32) : KS := fun a b c => if a = 0 ∧ b = 21 ∧ c = 0 then K 0 21 0 + 1 else if a = 5 ∧ c = nO K then (match b with | 0 => Int32.ofNat cd | 1 => x2 | 2 => K 4 2 cd | 3 => -1 | 4 => 111 | _ => -1) else K a b c
def okOffer (K : KS) (cd : Nat) : Prop := (K 0 21 0 + 1).toNatClampNeg = nO K + 1 ∧ (Int32.ofNat cd).toNatClampNeg = cd ∧ ∀ i, i < 4 + 2 * nD K → ek i = 5 → ∀ j, j < (K 8 2 i).toNatClampNeg → (K 9 i j).toNatClampNeg < nO K
theorem ctOffer {q cd : Nat} {x2 : Int32} {y : va_E} (hok : okOffer K cd) (hw : HW D A (fun k i => lvK K k i ∨ (k = 5 ∧ i = nO K)) (hU (adK ad av) 5 (nO K) q) (hU (hU (ctK cI e0 ad av K M ap o od) 5 (nO K) y) 5 (nO K) (.inr (7, [.ref (ad 4 cd), .int x2, .int (K 4 2 cd), .int (-1), .int 111, .int (-1)]))) H) : HT D cI e0 A (hU ad 5 (nO K) q) (kOffer K cd x2) M ap o od H := by
  have hn : nO (kOffer K cd x2) = nO K + 1 := hok.1
  have hl0 : ∀ k i, ¬ k = 5 → lvK (kOffer K cd x2) k i → lvK K k i := by
    intro k i hk
    unfold lvK
    split <;> first | exact id | exact absurd rfl hk
  refine ⟨av, hw.same (fun k i hl => ?_) (fun k i hl => ?_) (fun k i hl => ?_)⟩
  · by_cases hk : k = 5
    · subst hk
      have hl : i < nO (kOffer K cd x2) := hl
      rw [hn] at hl
      rcases Nat.lt_or_ge i (nO K) with h | h
      · exact Or.inl h
      · exact Or.inr ⟨rfl, by omega⟩
    · exact Or.inl (hl0 k i hk hl)
  · by_cases hk : k = 5 ∧ i = nO K
    · obtain ⟨rfl, rfl⟩ := hk
      rw [hU_s]
      exact hU_s _ _ _ _
    · rw [hU_n _ _ hk]
      unfold adK
      split
      · rfl
      · rfl
      · exact hU_n _ _ hk
  · by_cases hk : k = 5
    · subst hk
      by_cases hi : i = nO K
      · subst hi
        rw [hU_s]
        simp [ctK, kOffer, hok.2.1, hU]
      · rw [hU_n _ _ (by omega), hU_n _ _ (by omega)]
        simp [ctK, kOffer, hi, hU]
    · rw [hU_n _ _ (by omega), hU_n _ _ (by omega)]
      have hl := hl0 k i hk hl
      by_cases h9 : k = 9
      · subst h9
        have h := hok.2.2 i hl.1
        show (Sum.inl (_, _, .inr (.inr (.inr (.inr (fun j => if j < (K 8 2 i).toNatClampNeg then some (hU ad 5 (nO K) q (ek i) (K 9 i j).toNatClampNeg) else none))))) : va_E) = Sum.inl (_, _, .inr (.inr (.inr (.inr (fun j => if j < (K 8 2 i).toNatClampNeg then some (ad (ek i) (K 9 i j).toNatClampNeg) else none)))))
        refine congrArg (fun f => (Sum.inl (cI 2, (K 8 3 i).toNatClampNeg, .inr (.inr (.inr (.inr f)))) : va_E)) (funext fun j => ?_)
        show (if j < (K 8 2 i).toNatClampNeg then some (hU ad _ _ q (ek i) (K 9 i j).toNatClampNeg) else none) = if j < (K 8 2 i).toNatClampNeg then some (ad (ek i) (K 9 i j).toNatClampNeg) else none
        by_cases hj : j < (K 8 2 i).toNatClampNeg
        · rw [if_pos hj, if_pos hj, hU_n _ _ (fun z => by have := h z.1 j hj; omega)]
        · rw [if_neg hj, if_neg hj]
      · unfold ctK
        split <;> first | rfl | exact absurd rfl hk | exact absurd rfl h9
theorem i5 {q cd : Nat} {x2 : Int32} (S : CallFix p m c cc nL s args WU own) (hg : GI D cI e0 A s s.heap) (hS : va_S A s.heap H locs) (hw : HN D cI e0 A ad K M ap o od 5 (nO K) q (.inr (7, [.null, .int 0, .int 0, .int 0, .int 0, .int 0])) H) (hc : cd < nC K) (hok : okOffer K cd) (k1 : Cond.methodLink own index yX4_init ∈ WU) (hR : 2 ≤ R.frames ∧ 70 ≤ R.locals) (hcs : cells + 0 ≤ R.cells ∧ slots + 0 ≤ R.slots) (hsize : ls.size = nL) (hrest : (rest.map fun v => v.category).sum ≤ 8) (hdg : decode cc pc = .ok (.invokespecial index, 3))
    (kk : ∀ (ad1 : Nat → Nat → Nat) (H1 : Heap) (locs1 : List Loc), sameAd K ad ad1 → q = ad1 5 (nO K) → HT D cI e0 A ad1 (kOffer K cd x2) M ap o od H1 → va_S A s.heap H1 locs1 → W p l e R s m args below meth c H1 locs1 cells slots Q (F0 m (pc + 3) ls rest)) : W p l e R s m args below meth c H locs cells slots Q (F0 m pc ls (.int x2 :: .ref (ad 4 cd) :: .ref q :: rest)) := by
  obtain ⟨av, hw⟩ := hw
  refine r_callI (rest := rest) S hg hS (mtX4_init (live := fun k i => lvK K k i ∨ (k = 5 ∧ i = nO K)) (adr := hU (adK ad av) 5 (nO K) q) (G := hU (ctK cI e0 ad av K M ap o od) 5 (nO K) (.inr (7, [.null, .int 0, .int 0, .int 0, .int 0, .int 0]))) (c0 := K 4 0 cd) (c1 := K 4 1 cd) (c3 := K 4 3 cd) (c4 := K 4 4 cd) (c5 := K 4 5 cd) (i := nO K) (b1 := ad 4 cd) (x2 := x2) (c2 := K 4 2 cd) (Or.inr ⟨rfl, rfl⟩) (hU_s _ _ _ _) (hU_s _ _ _ _) (j := cd) (Or.inl hc) (hU_n _ _ (by omega)) (hU_n _ _ (by omega))) k1 u941 u69 u942 rfl hdX4_init hw ⟨by omega, by show 8 + (3 + 11) + 40 ≤ R.locals; omega⟩ hcs hsize hrest rfl hdg (fun rv H locs hq hS => ?_)
  obtain ⟨rfl, hw⟩ := hq
  refine kk (hU ad 5 (nO K) q) H locs (fun k i h9 h11 hl => (hU_n _ _ (fun z => ?_)).symm) (hU_s _ _ _ _).symm (ctOffer hok hw) hS
  obtain ⟨rfl, rfl⟩ := z
  exact absurd hl (Nat.lt_irrefl _)
end NEW
