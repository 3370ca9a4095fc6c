/-! The state in words: K, the class's numbers (kind, field or row, place), M, the reference's. Kinds: 0 the arena, 1 its ledger, 2 its store, 3 the reference, 4 cards, 5 offers, 6 duels, 7 sides (2 d + s), 8 lists (0 cards, 1 duels, 2 offers, 3 sales, 4 + side), 9 their elements, 10 the arena's own rows (coins, numbers, kept, uses), 11 the postings, 12, 21 the outer rows of a duel's keptBlocks, keptStacks, 13, 16 the reference's rows of chars, of ints, 14, 15 the law's out, outD, 17 stacks, 18 played, 19, 20 the inner rows (6 d + snapshot). Fields 20, 21, 22 of kind 0: how many cards, offers, duels were made; 5 of kind 1: the room of the postings' row; 3 of kind 8: a list's room. -/
abbrev KS : Type := Nat → Nat → Nat → Int32
def k3 (K : KS) (a b c : Nat) (v : Int32) : KS := va_up K a (va_up (K a) b (va_up (K a b) c v))
def nC (K : KS) : Nat := (K 0 20 0).toNatClampNeg
def nO (K : KS) : Nat := (K 0 21 0).toNatClampNeg
def nD (K : KS) : Nat := (K 0 22 0).toNatClampNeg
def aLen (n : Nat) : Nat := match n with | 0 => 6 | 1 => 24 | 2 => 1152 | _ => 288
def ek (n : Nat) : Nat := match n with | 1 => 6 | 2 => 5 | 3 => 5 | _ => 4
def lvK (K : KS) (k i : Nat) : Prop := match k with
  | 0 => i = 0
  | 1 => i = 0
  | 2 => i = 0
  | 4 => i < nC K
  | 5 => i < nO K
  | 6 => i < nD K
  | 7 => i < 2 * nD K
  | 8 => i < 4 + 2 * nD K
  | 9 => i < 4 + 2 * nD K ∧ K 8 3 i ≠ 0
  | 10 => i < 4
  | 11 => i = 0
  | 12 => i < nD K
  | 16 => i = 0
  | 17 => i < nD K
  | 18 => i < 2 * nD K
  | 19 => i < 6 * nD K
  | 20 => i < 6 * nD K
  | 21 => i < nD K
  | _ => False
def adK (ad av : Nat → Nat → Nat) (k i : Nat) : Nat := match k with | 9 => av 9 i | 11 => av 11 i | k => ad k i
def ctK (cI : Nat → ClassId) (e0 : Nat) (ad av : Nat → Nat → Nat) (K M : KS) (ap o : Int64) (od : UInt64) (k i : Nat) : va_E := match k with
  | 0 => .inr (9, [.ref (ad 10 0), .int (K 0 1 0), .int (K 0 2 0), .int (K 0 3 0), .int (K 0 4 0), .ref (ad 8 0), .ref (ad 8 1), .ref (ad 8 2), .ref (ad 8 3), .ref (ad 1 0), .ref (ad 2 0), .ref (ad 10 1)])
  | 1 => .inr (6, [.ref (av 11 0), .int (K 1 1 0)])
  | 2 => .inr (3, [.ref (ad 10 2), .ref (ad 10 3)])
  | 4 => .inr (4, [.int (K 4 0 i), .int (K 4 1 i), .int (K 4 2 i), .int (K 4 3 i), .int (K 4 4 i), .int (K 4 5 i)])
  | 5 => .inr (7, [.ref (ad 4 (K 5 0 i).toNatClampNeg), .int (K 5 1 i), .int (K 5 2 i), .int (K 5 3 i), .int (K 5 4 i), .int (K 5 5 i)])
  | 6 => .inr (5, [.ref (ad 7 (2 * i)), .ref (ad 7 (2 * i + 1)), .int (K 6 2 i), .int (K 6 3 i), .int (K 6 4 i), .int (K 6 5 i), .ref (ad 17 i), .int (K 6 7 i), .int (K 6 8 i), .ref (ad 12 i), .ref (ad 21 i)])
  | 7 => .inr (8, [.int (K 7 0 i), .int (K 7 1 i), .ref (ad 8 (i + 4)), .ref (ad 18 i)])
  | 8 => .inr (2, [.int (K 8 0 i), .ref ((if K 8 3 i = 0 then e0 else av 9 i)), .int (K 8 2 i)])
  | 9 => .inl (cI 2, (K 8 3 i).toNatClampNeg, .inr (.inr (.inr (.inr (fun j => if j < (K 8 2 i).toNatClampNeg then some (ad (ek i) (K 9 i j).toNatClampNeg) else none)))))
  | 10 => .inl (cI 0, aLen i, .inl (K 10 i))
  | 11 => .inl (cI 0, (K 1 5 0).toNatClampNeg, .inl (K 11 0))
  | 12 => .inl (cI 3, 6, .inr (.inr (.inr (.inr (fun j => if j < 6 then some (ad 19 (6 * i + j)) else none)))))
  | 16 => .inl (cI 0, 8, .inl (M 16 i))
  | 17 => .inl (cI 0, 8, .inl (K 17 i))
  | 18 => .inl (cI 0, 8, .inl (K 18 i))
  | 19 => .inl (cI 0, 6, .inl (K 19 i))
  | 20 => .inl (cI 0, 8, .inl (K 20 i))
  | 21 => .inl (cI 3, 6, .inr (.inr (.inr (.inr (fun j => if j < 6 then some (ad 20 (6 * i + j)) else none)))))
  | _ => .inr (0, [])
def HT (D : va_G) (cI : Nat → ClassId) (e0 : Nat) (A : Nat → Prop) (ad : Nat → Nat → Nat) (K M : KS) (ap o : Int64) (od : UInt64) (H : Heap) : Prop := ∃ av, HW D A (lvK K) (adK ad av) (ctK cI e0 ad av K M ap o od) H
theorem va_up_s {α : Type} (f : Nat → α) (k : Nat) (x : α) : va_up f k x k = x := by simp [va_up]
theorem va_up_n {α : Type} (f : Nat → α) {k j : Nat} (x : α) (h : ¬ j = k) : va_up f k x j = f j := by simp [va_up, h]
theorem k3_a (K : KS) {a b c a' : Nat} (v : Int32) (h : ¬ a' = a) : k3 K a b c v a' = K a' := va_up_n _ _ h
theorem k3_b (K : KS) {a b c b' : Nat} (v : Int32) (h : ¬ b' = b) : k3 K a b c v a b' = K a b' := by unfold k3; rw [va_up_s, va_up_n _ _ h]
theorem k3_c (K : KS) {a b c c' : Nat} (v : Int32) (h : ¬ c' = c) : k3 K a b c v a b c' = K a b c' := by unfold k3; rw [va_up_s, va_up_s, va_up_n _ _ h]
theorem k3_s (K : KS) (a b c : Nat) (v : Int32) : k3 K a b c v a b c = v := by unfold k3; rw [va_up_s, va_up_s, va_up_s]
theorem k3_r (K : KS) (a b c : Nat) (v : Int32) : k3 K a b c v a b = upd (K a b) c v := by unfold k3; rw [va_up_s, va_up_s]; rfl
section TYPED
variable {p : Program} {l : Launch} {e : Env} {R : Room} {s : State} {m : MethodId} {args : Array Value} {below : List Frame} {meth : Method} {c : Code} {H : Heap} {locs : List Loc} {cells slots : Nat} {Q : State → Prop}
variable {D : va_G} {cI : Nat → ClassId} {e0 : Nat} {A : Nat → Prop} {ad av : Nat → Nat → Nat} {K M : KS} {ap o : Int64} {od : UInt64}
variable {cc : ByteArray} {nL pc : Nat} {ls : Array Slot} {rest : List Value} {own : String} {index : Nat}
theorem g0_0 (S : CallFix p m c cc nL s args WU own) (hg : GI D cI e0 A s s.heap) (hw : HT D cI e0 A ad K M ap o od H) (hk : Cond.fieldLink own index "SnapshotArena" "coins" "[I" ∈ WU) (hd : decode cc pc = .ok (.getfield index, 3)) (kk : W p l e R s m args below meth c H locs cells slots Q (F0 m (pc + 3) ls (.ref (ad 10 0) :: rest))) : W p l e R s m args below meth c H locs cells slots Q (F0 m pc ls (.ref (ad 0 0) :: rest)) := by
  obtain ⟨av, hw⟩ := hw
  exact r_get S hg hw (k := 0) (i := 0) rfl rfl rfl iWX6 0 (by decide) hk rfl hd kk
theorem g0_1 (S : CallFix p m c cc nL s args WU own) (hg : GI D cI e0 A s s.heap) (hw : HT D cI e0 A ad K M ap o od H) (hk : Cond.fieldLink own index "SnapshotArena" "playerCount" "I" ∈ WU) (hd : decode cc pc = .ok (.getfield index, 3)) (kk : W p l e R s m args below meth c H locs cells slots Q (F0 m (pc + 3) ls (.int (K 0 1 0) :: rest))) : W p l e R s m args below meth c H locs cells slots Q (F0 m pc ls (.ref (ad 0 0) :: rest)) := by
  obtain ⟨av, hw⟩ := hw
  exact r_get S hg hw (k := 0) (i := 0) rfl rfl rfl iWX6 1 (by decide) hk rfl hd kk
set_option maxHeartbeats 1000000 in
theorem p0_1 (S : CallFix p m c cc nL s args WU own) (hg : GI D cI e0 A s s.heap) (hS : va_S A s.heap H locs) (hw : HT D cI e0 A ad K M ap o od H) {v : Int32} (hk : Cond.fieldLink own index "SnapshotArena" "playerCount" "I" ∈ WU) (hd : decode cc pc = .ok (.putfield index, 3)) (kk : ∀ (H1 : Heap) (locs1 : List Loc), HT D cI e0 A ad (k3 K 0 1 0 v) M ap o od H1 → va_S A s.heap H1 locs1 → W p l e R s m args below meth c H1 locs1 cells slots Q (F0 m (pc + 3) ls rest)) : W p l e R s m args below meth c H locs cells slots Q (F0 m pc ls (.int v :: .ref (ad 0 0) :: rest)) := by
  obtain ⟨av, hw⟩ := hw
  refine r_put S hg hS hw (k := 0) (i := 0) rfl rfl rfl iWX6 tyX6 tyX6_ok nmX6 1 (by decide) hk rfl rfl rfl (Nat.le_of_ble_eq_true rfl) hd (fun H1 locs1 hw hS => kk H1 locs1 ⟨av, hw.same (fun _ _ h => h) (fun _ _ _ => rfl) (fun k i2 hl => ?_)⟩ hS)
  by_cases hc : k = 0 ∧ i2 = 0
  · obtain ⟨rfl, rfl⟩ := hc
    rw [hU_s]
    simp [ctK, k3_s, k3_b, k3_a, List.set]
  · rw [hU_n _ _ hc]
    by_cases hk2 : k = 0
    · subst hk2
      have hc2 : ¬ i2 = 0 := fun h => hc ⟨rfl, h⟩
      exact absurd hl hc2
    · unfold ctK
      split <;> first | rfl | (exact absurd rfl hk2)
theorem g0_2 (S : CallFix p m c cc nL s args WU own) (hg : GI D cI e0 A s s.heap) (hw : HT D cI e0 A ad K M ap o od H) (hk : Cond.fieldLink own index "SnapshotArena" "coinsBegunWith" "I" ∈ WU) (hd : decode cc pc = .ok (.getfield index, 3)) (kk : W p l e R s m args below meth c H locs cells slots Q (F0 m (pc + 3) ls (.int (K 0 2 0) :: rest))) : W p l e R s m args below meth c H locs cells slots Q (F0 m pc ls (.ref (ad 0 0) :: rest)) := by
  obtain ⟨av, hw⟩ := hw
  exact r_get S hg hw (k := 0) (i := 0) rfl rfl rfl iWX6 2 (by decide) hk rfl hd kk
set_option maxHeartbeats 1000000 in
theorem p0_2 (S : CallFix p m c cc nL s args WU own) (hg : GI D cI e0 A s s.heap) (hS : va_S A s.heap H locs) (hw : HT D cI e0 A ad K M ap o od H) {v : Int32} (hk : Cond.fieldLink own index "SnapshotArena" "coinsBegunWith" "I" ∈ WU) (hd : decode cc pc = .ok (.putfield index, 3)) (kk : ∀ (H1 : Heap) (locs1 : List Loc), HT D cI e0 A ad (k3 K 0 2 0 v) M ap o od H1 → va_S A s.heap H1 locs1 → W p l e R s m args below meth c H1 locs1 cells slots Q (F0 m (pc + 3) ls rest)) : W p l e R s m args below meth c H locs cells slots Q (F0 m pc ls (.int v :: .ref (ad 0 0) :: rest)) := by
  obtain ⟨av, hw⟩ := hw
  refine r_put S hg hS hw (k := 0) (i := 0) rfl rfl rfl iWX6 tyX6 tyX6_ok nmX6 2 (by decide) hk rfl rfl rfl (Nat.le_of_ble_eq_true rfl) hd (fun H1 locs1 hw hS => kk H1 locs1 ⟨av, hw.same (fun _ _ h => h) (fun _ _ _ => rfl) (fun k i2 hl => ?_)⟩ hS)
  by_cases hc : k = 0 ∧ i2 = 0
  · obtain ⟨rfl, rfl⟩ := hc
    rw [hU_s]
    simp [ctK, k3_s, k3_b, k3_a, List.set]
  · rw [hU_n _ _ hc]
    by_cases hk2 : k = 0
    · subst hk2
      have hc2 : ¬ i2 = 0 := fun h => hc ⟨rfl, h⟩
      exact absurd hl hc2
    · unfold ctK
      split <;> first | rfl | (exact absurd rfl hk2)
theorem g0_3 (S : CallFix p m c cc nL s args WU own) (hg : GI D cI e0 A s s.heap) (hw : HT D cI e0 A ad K M ap o od H) (hk : Cond.fieldLink own index "SnapshotArena" "houseCoins" "I" ∈ WU) (hd : decode cc pc = .ok (.getfield index, 3)) (kk : W p l e R s m args below meth c H locs cells slots Q (F0 m (pc + 3) ls (.int (K 0 3 0) :: rest))) : W p l e R s m args below meth c H locs cells slots Q (F0 m pc ls (.ref (ad 0 0) :: rest)) := by
  obtain ⟨av, hw⟩ := hw
  exact r_get S hg hw (k := 0) (i := 0) rfl rfl rfl iWX6 3 (by decide) hk rfl hd kk
set_option maxHeartbeats 1000000 in
theorem p0_3 (S : CallFix p m c cc nL s args WU own) (hg : GI D cI e0 A s s.heap) (hS : va_S A s.heap H locs) (hw : HT D cI e0 A ad K M ap o od H) {v : Int32} (hk : Cond.fieldLink own index "SnapshotArena" "houseCoins" "I" ∈ WU) (hd : decode cc pc = .ok (.putfield index, 3)) (kk : ∀ (H1 : Heap) (locs1 : List Loc), HT D cI e0 A ad (k3 K 0 3 0 v) M ap o od H1 → va_S A s.heap H1 locs1 → W p l e R s m args below meth c H1 locs1 cells slots Q (F0 m (pc + 3) ls rest)) : W p l e R s m args below meth c H locs cells slots Q (F0 m pc ls (.int v :: .ref (ad 0 0) :: rest)) := by
  obtain ⟨av, hw⟩ := hw
  refine r_put S hg hS hw (k := 0) (i := 0) rfl rfl rfl iWX6 tyX6 tyX6_ok nmX6 3 (by decide) hk rfl rfl rfl (Nat.le_of_ble_eq_true rfl) hd (fun H1 locs1 hw hS => kk H1 locs1 ⟨av, hw.same (fun _ _ h => h) (fun _ _ _ => rfl) (fun k i2 hl => ?_)⟩ hS)
  by_cases hc : k = 0 ∧ i2 = 0
  · obtain ⟨rfl, rfl⟩ := hc
    rw [hU_s]
    simp [ctK, k3_s, k3_b, k3_a, List.set]
  · rw [hU_n _ _ hc]
    by_cases hk2 : k = 0
    · subst hk2
      have hc2 : ¬ i2 = 0 := fun h => hc ⟨rfl, h⟩
      exact absurd hl hc2
    · unfold ctK
      split <;> first | rfl | (exact absurd rfl hk2)
theorem g0_4 (S : CallFix p m c cc nL s args WU own) (hg : GI D cI e0 A s s.heap) (hw : HT D cI e0 A ad K M ap o od H) (hk : Cond.fieldLink own index "SnapshotArena" "coinsApart" "I" ∈ WU) (hd : decode cc pc = .ok (.getfield index, 3)) (kk : W p l e R s m args below meth c H locs cells slots Q (F0 m (pc + 3) ls (.int (K 0 4 0) :: rest))) : W p l e R s m args below meth c H locs cells slots Q (F0 m pc ls (.ref (ad 0 0) :: rest)) := by
  obtain ⟨av, hw⟩ := hw
  exact r_get S hg hw (k := 0) (i := 0) rfl rfl rfl iWX6 4 (by decide) hk rfl hd kk
set_option maxHeartbeats 1000000 in
theorem p0_4 (S : CallFix p m c cc nL s args WU own) (hg : GI D cI e0 A s s.heap) (hS : va_S A s.heap H locs) (hw : HT D cI e0 A ad K M ap o od H) {v : Int32} (hk : Cond.fieldLink own index "SnapshotArena" "coinsApart" "I" ∈ WU) (hd : decode cc pc = .ok (.putfield index, 3)) (kk : ∀ (H1 : Heap) (locs1 : List Loc), HT D cI e0 A ad (k3 K 0 4 0 v) M ap o od H1 → va_S A s.heap H1 locs1 → W p l e R s m args below meth c H1 locs1 cells slots Q (F0 m (pc + 3) ls rest)) : W p l e R s m args below meth c H locs cells slots Q (F0 m pc ls (.int v :: .ref (ad 0 0) :: rest)) := by
  obtain ⟨av, hw⟩ := hw
  refine r_put S hg hS hw (k := 0) (i := 0) rfl rfl rfl iWX6 tyX6 tyX6_ok nmX6 4 (by decide) hk rfl rfl rfl (Nat.le_of_ble_eq_true rfl) hd (fun H1 locs1 hw hS => kk H1 locs1 ⟨av, hw.same (fun _ _ h => h) (fun _ _ _ => rfl) (fun k i2 hl => ?_)⟩ hS)
  by_cases hc : k = 0 ∧ i2 = 0
  · obtain ⟨rfl, rfl⟩ := hc
    rw [hU_s]
    simp [ctK, k3_s, k3_b, k3_a, List.set]
  · rw [hU_n _ _ hc]
    by_cases hk2 : k = 0
    · subst hk2
      have hc2 : ¬ i2 = 0 := fun h => hc ⟨rfl, h⟩
      exact absurd hl hc2
    · unfold ctK
      split <;> first | rfl | (exact absurd rfl hk2)
theorem g0_5 (S : CallFix p m c cc nL s args WU own) (hg : GI D cI e0 A s s.heap) (hw : HT D cI e0 A ad K M ap o od H) (hk : Cond.fieldLink own index "SnapshotArena" "cards" "Ljava/util/ArrayList;" ∈ WU) (hd : decode cc pc = .ok (.getfield index, 3)) (kk : W p l e R s m args below meth c H locs cells slots Q (F0 m (pc + 3) ls (.ref (ad 8 0) :: rest))) : W p l e R s m args below meth c H locs cells slots Q (F0 m pc ls (.ref (ad 0 0) :: rest)) := by
  obtain ⟨av, hw⟩ := hw
  exact r_get S hg hw (k := 0) (i := 0) rfl rfl rfl iWX6 5 (by decide) hk rfl hd kk
theorem g0_6 (S : CallFix p m c cc nL s args WU own) (hg : GI D cI e0 A s s.heap) (hw : HT D cI e0 A ad K M ap o od H) (hk : Cond.fieldLink own index "SnapshotArena" "duels" "Ljava/util/ArrayList;" ∈ WU) (hd : decode cc pc = .ok (.getfield index, 3)) (kk : W p l e R s m args below meth c H locs cells slots Q (F0 m (pc + 3) ls (.ref (ad 8 1) :: rest))) : W p l e R s m args below meth c H locs cells slots Q (F0 m pc ls (.ref (ad 0 0) :: rest)) := by
  obtain ⟨av, hw⟩ := hw
  exact r_get S hg hw (k := 0) (i := 0) rfl rfl rfl iWX6 6 (by decide) hk rfl hd kk
theorem g0_7 (S : CallFix p m c cc nL s args WU own) (hg : GI D cI e0 A s s.heap) (hw : HT D cI e0 A ad K M ap o od H) (hk : Cond.fieldLink own index "SnapshotArena" "offers" "Ljava/util/ArrayList;" ∈ WU) (hd : decode cc pc = .ok (.getfield index, 3)) (kk : W p l e R s m args below meth c H locs cells slots Q (F0 m (pc + 3) ls (.ref (ad 8 2) :: rest))) : W p l e R s m args below meth c H locs cells slots Q (F0 m pc ls (.ref (ad 0 0) :: rest)) := by
  obtain ⟨av, hw⟩ := hw
  exact r_get S hg hw (k := 0) (i := 0) rfl rfl rfl iWX6 7 (by decide) hk rfl hd kk
theorem g0_8 (S : CallFix p m c cc nL s args WU own) (hg : GI D cI e0 A s s.heap) (hw : HT D cI e0 A ad K M ap o od H) (hk : Cond.fieldLink own index "SnapshotArena" "sales" "Ljava/util/ArrayList;" ∈ WU) (hd : decode cc pc = .ok (.getfield index, 3)) (kk : W p l e R s m args below meth c H locs cells slots Q (F0 m (pc + 3) ls (.ref (ad 8 3) :: rest))) : W p l e R s m args below meth c H locs cells slots Q (F0 m pc ls (.ref (ad 0 0) :: rest)) := by
  obtain ⟨av, hw⟩ := hw
  exact r_get S hg hw (k := 0) (i := 0) rfl rfl rfl iWX6 8 (by decide) hk rfl hd kk
theorem g0_9 (S : CallFix p m c cc nL s args WU own) (hg : GI D cI e0 A s s.heap) (hw : HT D cI e0 A ad K M ap o od H) (hk : Cond.fieldLink own index "SnapshotArena" "ledger" "LSnapshotArena$Ledger;" ∈ WU) (hd : decode cc pc = .ok (.getfield index, 3)) (kk : W p l e R s m args below meth c H locs cells slots Q (F0 m (pc + 3) ls (.ref (ad 1 0) :: rest))) : W p l e R s m args below meth c H locs cells slots Q (F0 m pc ls (.ref (ad 0 0) :: rest)) := by
  obtain ⟨av, hw⟩ := hw
  exact r_get S hg hw (k := 0) (i := 0) rfl rfl rfl iWX6 9 (by decide) hk rfl hd kk
theorem g0_10 (S : CallFix p m c cc nL s args WU own) (hg : GI D cI e0 A s s.heap) (hw : HT D cI e0 A ad K M ap o od H) (hk : Cond.fieldLink own index "SnapshotArena" "store" "LSnapshotArena$BlockStore;" ∈ WU) (hd : decode cc pc = .ok (.getfield index, 3)) (kk : W p l e R s m args below meth c H locs cells slots Q (F0 m (pc + 3) ls (.ref (ad 2 0) :: rest))) : W p l e R s m args below meth c H locs cells slots Q (F0 m pc ls (.ref (ad 0 0) :: rest)) := by
  obtain ⟨av, hw⟩ := hw
  exact r_get S hg hw (k := 0) (i := 0) rfl rfl rfl iWX6 10 (by decide) hk rfl hd kk
theorem g0_11 (S : CallFix p m c cc nL s args WU own) (hg : GI D cI e0 A s s.heap) (hw : HT D cI e0 A ad K M ap o od H) (hk : Cond.fieldLink own index "SnapshotArena" "numbers" "[I" ∈ WU) (hd : decode cc pc = .ok (.getfield index, 3)) (kk : W p l e R s m args below meth c H locs cells slots Q (F0 m (pc + 3) ls (.ref (ad 10 1) :: rest))) : W p l e R s m args below meth c H locs cells slots Q (F0 m pc ls (.ref (ad 0 0) :: rest)) := by
  obtain ⟨av, hw⟩ := hw
  exact r_get S hg hw (k := 0) (i := 0) rfl rfl rfl iWX6 11 (by decide) hk rfl hd kk
theorem g1_1 (S : CallFix p m c cc nL s args WU own) (hg : GI D cI e0 A s s.heap) (hw : HT D cI e0 A ad K M ap o od H) (hk : Cond.fieldLink own index "SnapshotArena$Ledger" "count" "I" ∈ WU) (hd : decode cc pc = .ok (.getfield index, 3)) (kk : W p l e R s m args below meth c H locs cells slots Q (F0 m (pc + 3) ls (.int (K 1 1 0) :: rest))) : W p l e R s m args below meth c H locs cells slots Q (F0 m pc ls (.ref (ad 1 0) :: rest)) := by
  obtain ⟨av, hw⟩ := hw
  exact r_get S hg hw (k := 1) (i := 0) rfl rfl rfl iWX3 1 (by decide) hk rfl hd kk
set_option maxHeartbeats 1000000 in
theorem p1_1 (S : CallFix p m c cc nL s args WU own) (hg : GI D cI e0 A s s.heap) (hS : va_S A s.heap H locs) (hw : HT D cI e0 A ad K M ap o od H) {v : Int32} (hk : Cond.fieldLink own index "SnapshotArena$Ledger" "count" "I" ∈ WU) (hd : decode cc pc = .ok (.putfield index, 3)) (kk : ∀ (H1 : Heap) (locs1 : List Loc), HT D cI e0 A ad (k3 K 1 1 0 v) M ap o od H1 → va_S A s.heap H1 locs1 → W p l e R s m args below meth c H1 locs1 cells slots Q (F0 m (pc + 3) ls rest)) : W p l e R s m args below meth c H locs cells slots Q (F0 m pc ls (.int v :: .ref (ad 1 0) :: rest)) := by
  obtain ⟨av, hw⟩ := hw
  refine r_put S hg hS hw (k := 1) (i := 0) rfl rfl rfl iWX3 tyX3 tyX3_ok nmX3 1 (by decide) hk rfl rfl rfl (Nat.le_of_ble_eq_true rfl) hd (fun H1 locs1 hw hS => kk H1 locs1 ⟨av, hw.same (fun _ _ h => h) (fun _ _ _ => rfl) (fun k i2 hl => ?_)⟩ hS)
  by_cases hc : k = 1 ∧ i2 = 0
  · obtain ⟨rfl, rfl⟩ := hc
    rw [hU_s]
    simp [ctK, k3_s, k3_b, k3_a, List.set]
  · rw [hU_n _ _ hc]
    by_cases hk2 : k = 1
    · subst hk2
      have hc2 : ¬ i2 = 0 := fun h => hc ⟨rfl, h⟩
      exact absurd hl hc2
    · unfold ctK
      split <;> first | rfl | (exact absurd rfl hk2)
theorem g2_0 (S : CallFix p m c cc nL s args WU own) (hg : GI D cI e0 A s s.heap) (hw : HT D cI e0 A ad K M ap o od H) (hk : Cond.fieldLink own index "SnapshotArena$BlockStore" "kept" "[I" ∈ WU) (hd : decode cc pc = .ok (.getfield index, 3)) (kk : W p l e R s m args below meth c H locs cells slots Q (F0 m (pc + 3) ls (.ref (ad 10 2) :: rest))) : W p l e R s m args below meth c H locs cells slots Q (F0 m pc ls (.ref (ad 2 0) :: rest)) := by
  obtain ⟨av, hw⟩ := hw
  exact r_get S hg hw (k := 2) (i := 0) rfl rfl rfl iWX0 0 (by decide) hk rfl hd kk
theorem g2_1 (S : CallFix p m c cc nL s args WU own) (hg : GI D cI e0 A s s.heap) (hw : HT D cI e0 A ad K M ap o od H) (hk : Cond.fieldLink own index "SnapshotArena$BlockStore" "uses" "[I" ∈ WU) (hd : decode cc pc = .ok (.getfield index, 3)) (kk : W p l e R s m args below meth c H locs cells slots Q (F0 m (pc + 3) ls (.ref (ad 10 3) :: rest))) : W p l e R s m args below meth c H locs cells slots Q (F0 m pc ls (.ref (ad 2 0) :: rest)) := by
  obtain ⟨av, hw⟩ := hw
  exact r_get S hg hw (k := 2) (i := 0) rfl rfl rfl iWX0 1 (by decide) hk rfl hd kk
theorem g4_0 (S : CallFix p m c cc nL s args WU own) (hg : GI D cI e0 A s s.heap) (hw : HT D cI e0 A ad K M ap o od H) {i : Nat} (hi : i < nC K) (hk : Cond.fieldLink own index "SnapshotArena$Card" "number" "I" ∈ WU) (hd : decode cc pc = .ok (.getfield index, 3)) (kk : W p l e R s m args below meth c H locs cells slots Q (F0 m (pc + 3) ls (.int (K 4 0 i) :: rest))) : W p l e R s m args below meth c H locs cells slots Q (F0 m pc ls (.ref (ad 4 i) :: rest)) := by
  obtain ⟨av, hw⟩ := hw
  exact r_get S hg hw (k := 4) (i := i) hi rfl rfl iWX1 0 (by decide) hk rfl hd kk
theorem g4_1 (S : CallFix p m c cc nL s args WU own) (hg : GI D cI e0 A s s.heap) (hw : HT D cI e0 A ad K M ap o od H) {i : Nat} (hi : i < nC K) (hk : Cond.fieldLink own index "SnapshotArena$Card" "kind" "I" ∈ WU) (hd : decode cc pc = .ok (.getfield index, 3)) (kk : W p l e R s m args below meth c H locs cells slots Q (F0 m (pc + 3) ls (.int (K 4 1 i) :: rest))) : W p l e R s m args below meth c H locs cells slots Q (F0 m pc ls (.ref (ad 4 i) :: rest)) := by
  obtain ⟨av, hw⟩ := hw
  exact r_get S hg hw (k := 4) (i := i) hi rfl rfl iWX1 1 (by decide) hk rfl hd kk
theorem g4_2 (S : CallFix p m c cc nL s args WU own) (hg : GI D cI e0 A s s.heap) (hw : HT D cI e0 A ad K M ap o od H) {i : Nat} (hi : i < nC K) (hk : Cond.fieldLink own index "SnapshotArena$Card" "owner" "I" ∈ WU) (hd : decode cc pc = .ok (.getfield index, 3)) (kk : W p l e R s m args below meth c H locs cells slots Q (F0 m (pc + 3) ls (.int (K 4 2 i) :: rest))) : W p l e R s m args below meth c H locs cells slots Q (F0 m pc ls (.ref (ad 4 i) :: rest)) := by
  obtain ⟨av, hw⟩ := hw
  exact r_get S hg hw (k := 4) (i := i) hi rfl rfl iWX1 2 (by decide) hk rfl hd kk
set_option maxHeartbeats 1000000 in
theorem p4_2 (S : CallFix p m c cc nL s args WU own) (hg : GI D cI e0 A s s.heap) (hS : va_S A s.heap H locs) (hw : HT D cI e0 A ad K M ap o od H) {i : Nat} (hi : i < nC K) {v : Int32} (hk : Cond.fieldLink own index "SnapshotArena$Card" "owner" "I" ∈ WU) (hd : decode cc pc = .ok (.putfield index, 3)) (kk : ∀ (H1 : Heap) (locs1 : List Loc), HT D cI e0 A ad (k3 K 4 2 i v) M ap o od H1 → va_S A s.heap H1 locs1 → W p l e R s m args below meth c H1 locs1 cells slots Q (F0 m (pc + 3) ls rest)) : W p l e R s m args below meth c H locs cells slots Q (F0 m pc ls (.int v :: .ref (ad 4 i) :: rest)) := by
  obtain ⟨av, hw⟩ := hw
  refine r_put S hg hS hw (k := 4) (i := i) hi rfl rfl iWX1 tyX1 tyX1_ok nmX1 2 (by decide) hk rfl rfl rfl (Nat.le_of_ble_eq_true rfl) hd (fun H1 locs1 hw hS => kk H1 locs1 ⟨av, hw.same (fun _ _ h => h) (fun _ _ _ => rfl) (fun k i2 hl => ?_)⟩ hS)
  by_cases hc : k = 4 ∧ i2 = i
  · obtain ⟨rfl, rfl⟩ := hc
    rw [hU_s]
    simp [ctK, k3_s, k3_b, k3_a, List.set]
  · rw [hU_n _ _ hc]
    by_cases hk2 : k = 4
    · subst hk2
      have hc2 : ¬ i2 = i := fun h => hc ⟨rfl, h⟩
      simp [ctK, k3_c, hc2, k3_b]
    · unfold ctK
      split <;> first | rfl | (exact absurd rfl hk2)
theorem g4_3 (S : CallFix p m c cc nL s args WU own) (hg : GI D cI e0 A s s.heap) (hw : HT D cI e0 A ad K M ap o od H) {i : Nat} (hi : i < nC K) (hk : Cond.fieldLink own index "SnapshotArena$Card" "state" "C" ∈ WU) (hd : decode cc pc = .ok (.getfield index, 3)) (kk : W p l e R s m args below meth c H locs cells slots Q (F0 m (pc + 3) ls (.int (K 4 3 i) :: rest))) : W p l e R s m args below meth c H locs cells slots Q (F0 m pc ls (.ref (ad 4 i) :: rest)) := by
  obtain ⟨av, hw⟩ := hw
  exact r_get S hg hw (k := 4) (i := i) hi rfl rfl iWX1 3 (by decide) hk rfl hd kk
set_option maxHeartbeats 1000000 in
theorem p4_3 (S : CallFix p m c cc nL s args WU own) (hg : GI D cI e0 A s s.heap) (hS : va_S A s.heap H locs) (hw : HT D cI e0 A ad K M ap o od H) {i : Nat} (hi : i < nC K) {v : Int32} (hn : narrow .char (.int v) = .int v) (hf : fits .char (.int v) = true) (hk : Cond.fieldLink own index "SnapshotArena$Card" "state" "C" ∈ WU) (hd : decode cc pc = .ok (.putfield index, 3)) (kk : ∀ (H1 : Heap) (locs1 : List Loc), HT D cI e0 A ad (k3 K 4 3 i v) M ap o od H1 → va_S A s.heap H1 locs1 → W p l e R s m args below meth c H1 locs1 cells slots Q (F0 m (pc + 3) ls rest)) : W p l e R s m args below meth c H locs cells slots Q (F0 m pc ls (.int v :: .ref (ad 4 i) :: rest)) := by
  obtain ⟨av, hw⟩ := hw
  refine r_put S hg hS hw (k := 4) (i := i) hi rfl rfl iWX1 tyX1 tyX1_ok nmX1 3 (by decide) hk rfl hn hf (Nat.le_of_ble_eq_true rfl) hd (fun H1 locs1 hw hS => kk H1 locs1 ⟨av, hw.same (fun _ _ h => h) (fun _ _ _ => rfl) (fun k i2 hl => ?_)⟩ hS)
  by_cases hc : k = 4 ∧ i2 = i
  · obtain ⟨rfl, rfl⟩ := hc
    rw [hU_s]
    simp [ctK, k3_s, k3_b, k3_a, List.set]
  · rw [hU_n _ _ hc]
    by_cases hk2 : k = 4
    · subst hk2
      have hc2 : ¬ i2 = i := fun h => hc ⟨rfl, h⟩
      simp [ctK, k3_c, hc2, k3_b]
    · unfold ctK
      split <;> first | rfl | (exact absurd rfl hk2)
theorem g4_4 (S : CallFix p m c cc nL s args WU own) (hg : GI D cI e0 A s s.heap) (hw : HT D cI e0 A ad K M ap o od H) {i : Nat} (hi : i < nC K) (hk : Cond.fieldLink own index "SnapshotArena$Card" "offered" "Z" ∈ WU) (hd : decode cc pc = .ok (.getfield index, 3)) (kk : W p l e R s m args below meth c H locs cells slots Q (F0 m (pc + 3) ls (.int (K 4 4 i) :: rest))) : W p l e R s m args below meth c H locs cells slots Q (F0 m pc ls (.ref (ad 4 i) :: rest)) := by
  obtain ⟨av, hw⟩ := hw
  exact r_get S hg hw (k := 4) (i := i) hi rfl rfl iWX1 4 (by decide) hk rfl hd kk
set_option maxHeartbeats 1000000 in
theorem p4_4 (S : CallFix p m c cc nL s args WU own) (hg : GI D cI e0 A s s.heap) (hS : va_S A s.heap H locs) (hw : HT D cI e0 A ad K M ap o od H) {i : Nat} (hi : i < nC K) {v : Int32} (hn : narrow .boolean (.int v) = .int v) (hf : fits .boolean (.int v) = true) (hk : Cond.fieldLink own index "SnapshotArena$Card" "offered" "Z" ∈ WU) (hd : decode cc pc = .ok (.putfield index, 3)) (kk : ∀ (H1 : Heap) (locs1 : List Loc), HT D cI e0 A ad (k3 K 4 4 i v) M ap o od H1 → va_S A s.heap H1 locs1 → W p l e R s m args below meth c H1 locs1 cells slots Q (F0 m (pc + 3) ls rest)) : W p l e R s m args below meth c H locs cells slots Q (F0 m pc ls (.int v :: .ref (ad 4 i) :: rest)) := by
  obtain ⟨av, hw⟩ := hw
  refine r_put S hg hS hw (k := 4) (i := i) hi rfl rfl iWX1 tyX1 tyX1_ok nmX1 4 (by decide) hk rfl hn hf (Nat.le_of_ble_eq_true rfl) hd (fun H1 locs1 hw hS => kk H1 locs1 ⟨av, hw.same (fun _ _ h => h) (fun _ _ _ => rfl) (fun k i2 hl => ?_)⟩ hS)
  by_cases hc : k = 4 ∧ i2 = i
  · obtain ⟨rfl, rfl⟩ := hc
    rw [hU_s]
    simp [ctK, k3_s, k3_b, k3_a, List.set]
  · rw [hU_n _ _ hc]
    by_cases hk2 : k = 4
    · subst hk2
      have hc2 : ¬ i2 = i := fun h => hc ⟨rfl, h⟩
      simp [ctK, k3_c, hc2, k3_b]
    · unfold ctK
      split <;> first | rfl | (exact absurd rfl hk2)
theorem g4_5 (S : CallFix p m c cc nL s args WU own) (hg : GI D cI e0 A s s.heap) (hw : HT D cI e0 A ad K M ap o od H) {i : Nat} (hi : i < nC K) (hk : Cond.fieldLink own index "SnapshotArena$Card" "duel" "I" ∈ WU) (hd : decode cc pc = .ok (.getfield index, 3)) (kk : W p l e R s m args below meth c H locs cells slots Q (F0 m (pc + 3) ls (.int (K 4 5 i) :: rest))) : W p l e R s m args below meth c H locs cells slots Q (F0 m pc ls (.ref (ad 4 i) :: rest)) := by
  obtain ⟨av, hw⟩ := hw
  exact r_get S hg hw (k := 4) (i := i) hi rfl rfl iWX1 5 (by decide) hk rfl hd kk
set_option maxHeartbeats 1000000 in
theorem p4_5 (S : CallFix p m c cc nL s args WU own) (hg : GI D cI e0 A s s.heap) (hS : va_S A s.heap H locs) (hw : HT D cI e0 A ad K M ap o od H) {i : Nat} (hi : i < nC K) {v : Int32} (hk : Cond.fieldLink own index "SnapshotArena$Card" "duel" "I" ∈ WU) (hd : decode cc pc = .ok (.putfield index, 3)) (kk : ∀ (H1 : Heap) (locs1 : List Loc), HT D cI e0 A ad (k3 K 4 5 i v) M ap o od H1 → va_S A s.heap H1 locs1 → W p l e R s m args below meth c H1 locs1 cells slots Q (F0 m (pc + 3) ls rest)) : W p l e R s m args below meth c H locs cells slots Q (F0 m pc ls (.int v :: .ref (ad 4 i) :: rest)) := by
  obtain ⟨av, hw⟩ := hw
  refine r_put S hg hS hw (k := 4) (i := i) hi rfl rfl iWX1 tyX1 tyX1_ok nmX1 5 (by decide) hk rfl rfl rfl (Nat.le_of_ble_eq_true rfl) hd (fun H1 locs1 hw hS => kk H1 locs1 ⟨av, hw.same (fun _ _ h => h) (fun _ _ _ => rfl) (fun k i2 hl => ?_)⟩ hS)
  by_cases hc : k = 4 ∧ i2 = i
  · obtain ⟨rfl, rfl⟩ := hc
    rw [hU_s]
    simp [ctK, k3_s, k3_b, k3_a, List.set]
  · rw [hU_n _ _ hc]
    by_cases hk2 : k = 4
    · subst hk2
      have hc2 : ¬ i2 = i := fun h => hc ⟨rfl, h⟩
      simp [ctK, k3_c, hc2, k3_b]
    · unfold ctK
      split <;> first | rfl | (exact absurd rfl hk2)
theorem g5_0 (S : CallFix p m c cc nL s args WU own) (hg : GI D cI e0 A s s.heap) (hw : HT D cI e0 A ad K M ap o od H) {i : Nat} (hi : i < nO K) (hk : Cond.fieldLink own index "SnapshotArena$Offer" "card" "LSnapshotArena$Card;" ∈ WU) (hd : decode cc pc = .ok (.getfield index, 3)) (kk : W p l e R s m args below meth c H locs cells slots Q (F0 m (pc + 3) ls (.ref (ad 4 (K 5 0 i).toNatClampNeg) :: rest))) : W p l e R s m args below meth c H locs cells slots Q (F0 m pc ls (.ref (ad 5 i) :: rest)) := by
  obtain ⟨av, hw⟩ := hw
  exact r_get S hg hw (k := 5) (i := i) hi rfl rfl iWX4 0 (by decide) hk rfl hd kk
theorem g5_1 (S : CallFix p m c cc nL s args WU own) (hg : GI D cI e0 A s s.heap) (hw : HT D cI e0 A ad K M ap o od H) {i : Nat} (hi : i < nO K) (hk : Cond.fieldLink own index "SnapshotArena$Offer" "price" "I" ∈ WU) (hd : decode cc pc = .ok (.getfield index, 3)) (kk : W p l e R s m args below meth c H locs cells slots Q (F0 m (pc + 3) ls (.int (K 5 1 i) :: rest))) : W p l e R s m args below meth c H locs cells slots Q (F0 m pc ls (.ref (ad 5 i) :: rest)) := by
  obtain ⟨av, hw⟩ := hw
  exact r_get S hg hw (k := 5) (i := i) hi rfl rfl iWX4 1 (by decide) hk rfl hd kk
theorem g5_2 (S : CallFix p m c cc nL s args WU own) (hg : GI D cI e0 A s s.heap) (hw : HT D cI e0 A ad K M ap o od H) {i : Nat} (hi : i < nO K) (hk : Cond.fieldLink own index "SnapshotArena$Offer" "seller" "I" ∈ WU) (hd : decode cc pc = .ok (.getfield index, 3)) (kk : W p l e R s m args below meth c H locs cells slots Q (F0 m (pc + 3) ls (.int (K 5 2 i) :: rest))) : W p l e R s m args below meth c H locs cells slots Q (F0 m pc ls (.ref (ad 5 i) :: rest)) := by
  obtain ⟨av, hw⟩ := hw
  exact r_get S hg hw (k := 5) (i := i) hi rfl rfl iWX4 2 (by decide) hk rfl hd kk
theorem g5_3 (S : CallFix p m c cc nL s args WU own) (hg : GI D cI e0 A s s.heap) (hw : HT D cI e0 A ad K M ap o od H) {i : Nat} (hi : i < nO K) (hk : Cond.fieldLink own index "SnapshotArena$Offer" "buyer" "I" ∈ WU) (hd : decode cc pc = .ok (.getfield index, 3)) (kk : W p l e R s m args below meth c H locs cells slots Q (F0 m (pc + 3) ls (.int (K 5 3 i) :: rest))) : W p l e R s m args below meth c H locs cells slots Q (F0 m pc ls (.ref (ad 5 i) :: rest)) := by
  obtain ⟨av, hw⟩ := hw
  exact r_get S hg hw (k := 5) (i := i) hi rfl rfl iWX4 3 (by decide) hk rfl hd kk
set_option maxHeartbeats 1000000 in
theorem p5_3 (S : CallFix p m c cc nL s args WU own) (hg : GI D cI e0 A s s.heap) (hS : va_S A s.heap H locs) (hw : HT D cI e0 A ad K M ap o od H) {i : Nat} (hi : i < nO K) {v : Int32} (hk : Cond.fieldLink own index "SnapshotArena$Offer" "buyer" "I" ∈ WU) (hd : decode cc pc = .ok (.putfield index, 3)) (kk : ∀ (H1 : Heap) (locs1 : List Loc), HT D cI e0 A ad (k3 K 5 3 i v) M ap o od H1 → va_S A s.heap H1 locs1 → W p l e R s m args below meth c H1 locs1 cells slots Q (F0 m (pc + 3) ls rest)) : W p l e R s m args below meth c H locs cells slots Q (F0 m pc ls (.int v :: .ref (ad 5 i) :: rest)) := by
  obtain ⟨av, hw⟩ := hw
  refine r_put S hg hS hw (k := 5) (i := i) hi rfl rfl iWX4 tyX4 tyX4_ok nmX4 3 (by decide) hk rfl rfl rfl (Nat.le_of_ble_eq_true rfl) hd (fun H1 locs1 hw hS => kk H1 locs1 ⟨av, hw.same (fun _ _ h => h) (fun _ _ _ => rfl) (fun k i2 hl => ?_)⟩ hS)
  by_cases hc : k = 5 ∧ i2 = i
  · obtain ⟨rfl, rfl⟩ := hc
    rw [hU_s]
    simp [ctK, k3_s, k3_b, k3_a, List.set]
  · rw [hU_n _ _ hc]
    by_cases hk2 : k = 5
    · subst hk2
      have hc2 : ¬ i2 = i := fun h => hc ⟨rfl, h⟩
      simp [ctK, k3_c, hc2, k3_b]
    · unfold ctK
      split <;> first | rfl | (exact absurd rfl hk2)
theorem g5_4 (S : CallFix p m c cc nL s args WU own) (hg : GI D cI e0 A s s.heap) (hw : HT D cI e0 A ad K M ap o od H) {i : Nat} (hi : i < nO K) (hk : Cond.fieldLink own index "SnapshotArena$Offer" "state" "C" ∈ WU) (hd : decode cc pc = .ok (.getfield index, 3)) (kk : W p l e R s m args below meth c H locs cells slots Q (F0 m (pc + 3) ls (.int (K 5 4 i) :: rest))) : W p l e R s m args below meth c H locs cells slots Q (F0 m pc ls (.ref (ad 5 i) :: rest)) := by
  obtain ⟨av, hw⟩ := hw
  exact r_get S hg hw (k := 5) (i := i) hi rfl rfl iWX4 4 (by decide) hk rfl hd kk
set_option maxHeartbeats 1000000 in
theorem p5_4 (S : CallFix p m c cc nL s args WU own) (hg : GI D cI e0 A s s.heap) (hS : va_S A s.heap H locs) (hw : HT D cI e0 A ad K M ap o od H) {i : Nat} (hi : i < nO K) {v : Int32} (hn : narrow .char (.int v) = .int v) (hf : fits .char (.int v) = true) (hk : Cond.fieldLink own index "SnapshotArena$Offer" "state" "C" ∈ WU) (hd : decode cc pc = .ok (.putfield index, 3)) (kk : ∀ (H1 : Heap) (locs1 : List Loc), HT D cI e0 A ad (k3 K 5 4 i v) M ap o od H1 → va_S A s.heap H1 locs1 → W p l e R s m args below meth c H1 locs1 cells slots Q (F0 m (pc + 3) ls rest)) : W p l e R s m args below meth c H locs cells slots Q (F0 m pc ls (.int v :: .ref (ad 5 i) :: rest)) := by
  obtain ⟨av, hw⟩ := hw
  refine r_put S hg hS hw (k := 5) (i := i) hi rfl rfl iWX4 tyX4 tyX4_ok nmX4 4 (by decide) hk rfl hn hf (Nat.le_of_ble_eq_true rfl) hd (fun H1 locs1 hw hS => kk H1 locs1 ⟨av, hw.same (fun _ _ h => h) (fun _ _ _ => rfl) (fun k i2 hl => ?_)⟩ hS)
  by_cases hc : k = 5 ∧ i2 = i
  · obtain ⟨rfl, rfl⟩ := hc
    rw [hU_s]
    simp [ctK, k3_s, k3_b, k3_a, List.set]
  · rw [hU_n _ _ hc]
    by_cases hk2 : k = 5
    · subst hk2
      have hc2 : ¬ i2 = i := fun h => hc ⟨rfl, h⟩
      simp [ctK, k3_c, hc2, k3_b]
    · unfold ctK
      split <;> first | rfl | (exact absurd rfl hk2)
theorem g5_5 (S : CallFix p m c cc nL s args WU own) (hg : GI D cI e0 A s s.heap) (hw : HT D cI e0 A ad K M ap o od H) {i : Nat} (hi : i < nO K) (hk : Cond.fieldLink own index "SnapshotArena$Offer" "duelToWaitFor" "I" ∈ WU) (hd : decode cc pc = .ok (.getfield index, 3)) (kk : W p l e R s m args below meth c H locs cells slots Q (F0 m (pc + 3) ls (.int (K 5 5 i) :: rest))) : W p l e R s m args below meth c H locs cells slots Q (F0 m pc ls (.ref (ad 5 i) :: rest)) := by
  obtain ⟨av, hw⟩ := hw
  exact r_get S hg hw (k := 5) (i := i) hi rfl rfl iWX4 5 (by decide) hk rfl hd kk
set_option maxHeartbeats 1000000 in
theorem p5_5 (S : CallFix p m c cc nL s args WU own) (hg : GI D cI e0 A s s.heap) (hS : va_S A s.heap H locs) (hw : HT D cI e0 A ad K M ap o od H) {i : Nat} (hi : i < nO K) {v : Int32} (hk : Cond.fieldLink own index "SnapshotArena$Offer" "duelToWaitFor" "I" ∈ WU) (hd : decode cc pc = .ok (.putfield index, 3)) (kk : ∀ (H1 : Heap) (locs1 : List Loc), HT D cI e0 A ad (k3 K 5 5 i v) M ap o od H1 → va_S A s.heap H1 locs1 → W p l e R s m args below meth c H1 locs1 cells slots Q (F0 m (pc + 3) ls rest)) : W p l e R s m args below meth c H locs cells slots Q (F0 m pc ls (.int v :: .ref (ad 5 i) :: rest)) := by
  obtain ⟨av, hw⟩ := hw
  refine r_put S hg hS hw (k := 5) (i := i) hi rfl rfl iWX4 tyX4 tyX4_ok nmX4 5 (by decide) hk rfl rfl rfl (Nat.le_of_ble_eq_true rfl) hd (fun H1 locs1 hw hS => kk H1 locs1 ⟨av, hw.same (fun _ _ h => h) (fun _ _ _ => rfl) (fun k i2 hl => ?_)⟩ hS)
  by_cases hc : k = 5 ∧ i2 = i
  · obtain ⟨rfl, rfl⟩ := hc
    rw [hU_s]
    simp [ctK, k3_s, k3_b, k3_a, List.set]
  · rw [hU_n _ _ hc]
    by_cases hk2 : k = 5
    · subst hk2
      have hc2 : ¬ i2 = i := fun h => hc ⟨rfl, h⟩
      simp [ctK, k3_c, hc2, k3_b]
    · unfold ctK
      split <;> first | rfl | (exact absurd rfl hk2)
theorem g6_0 (S : CallFix p m c cc nL s args WU own) (hg : GI D cI e0 A s s.heap) (hw : HT D cI e0 A ad K M ap o od H) {i : Nat} (hi : i < nD K) (hk : Cond.fieldLink own index "SnapshotArena$Duel" "first" "LSnapshotArena$Side;" ∈ WU) (hd : decode cc pc = .ok (.getfield index, 3)) (kk : W p l e R s m args below meth c H locs cells slots Q (F0 m (pc + 3) ls (.ref (ad 7 (2 * i)) :: rest))) : W p l e R s m args below meth c H locs cells slots Q (F0 m pc ls (.ref (ad 6 i) :: rest)) := by
  obtain ⟨av, hw⟩ := hw
  exact r_get S hg hw (k := 6) (i := i) hi rfl rfl iWX2 0 (by decide) hk rfl hd kk
theorem g6_1 (S : CallFix p m c cc nL s args WU own) (hg : GI D cI e0 A s s.heap) (hw : HT D cI e0 A ad K M ap o od H) {i : Nat} (hi : i < nD K) (hk : Cond.fieldLink own index "SnapshotArena$Duel" "second" "LSnapshotArena$Side;" ∈ WU) (hd : decode cc pc = .ok (.getfield index, 3)) (kk : W p l e R s m args below meth c H locs cells slots Q (F0 m (pc + 3) ls (.ref (ad 7 (2 * i + 1)) :: rest))) : W p l e R s m args below meth c H locs cells slots Q (F0 m pc ls (.ref (ad 6 i) :: rest)) := by
  obtain ⟨av, hw⟩ := hw
  exact r_get S hg hw (k := 6) (i := i) hi rfl rfl iWX2 1 (by decide) hk rfl hd kk
theorem g6_2 (S : CallFix p m c cc nL s args WU own) (hg : GI D cI e0 A s s.heap) (hw : HT D cI e0 A ad K M ap o od H) {i : Nat} (hi : i < nD K) (hk : Cond.fieldLink own index "SnapshotArena$Duel" "state" "C" ∈ WU) (hd : decode cc pc = .ok (.getfield index, 3)) (kk : W p l e R s m args below meth c H locs cells slots Q (F0 m (pc + 3) ls (.int (K 6 2 i) :: rest))) : W p l e R s m args below meth c H locs cells slots Q (F0 m pc ls (.ref (ad 6 i) :: rest)) := by
  obtain ⟨av, hw⟩ := hw
  exact r_get S hg hw (k := 6) (i := i) hi rfl rfl iWX2 2 (by decide) hk rfl hd kk
set_option maxHeartbeats 1000000 in
theorem p6_2 (S : CallFix p m c cc nL s args WU own) (hg : GI D cI e0 A s s.heap) (hS : va_S A s.heap H locs) (hw : HT D cI e0 A ad K M ap o od H) {i : Nat} (hi : i < nD K) {v : Int32} (hn : narrow .char (.int v) = .int v) (hf : fits .char (.int v) = true) (hk : Cond.fieldLink own index "SnapshotArena$Duel" "state" "C" ∈ WU) (hd : decode cc pc = .ok (.putfield index, 3)) (kk : ∀ (H1 : Heap) (locs1 : List Loc), HT D cI e0 A ad (k3 K 6 2 i v) M ap o od H1 → va_S A s.heap H1 locs1 → W p l e R s m args below meth c H1 locs1 cells slots Q (F0 m (pc + 3) ls rest)) : W p l e R s m args below meth c H locs cells slots Q (F0 m pc ls (.int v :: .ref (ad 6 i) :: rest)) := by
  obtain ⟨av, hw⟩ := hw
  refine r_put S hg hS hw (k := 6) (i := i) hi rfl rfl iWX2 tyX2 tyX2_ok nmX2 2 (by decide) hk rfl hn hf (Nat.le_of_ble_eq_true rfl) hd (fun H1 locs1 hw hS => kk H1 locs1 ⟨av, hw.same (fun _ _ h => h) (fun _ _ _ => rfl) (fun k i2 hl => ?_)⟩ hS)
  by_cases hc : k = 6 ∧ i2 = i
  · obtain ⟨rfl, rfl⟩ := hc
    rw [hU_s]
    simp [ctK, k3_s, k3_b, k3_a, List.set]
  · rw [hU_n _ _ hc]
    by_cases hk2 : k = 6
    · subst hk2
      have hc2 : ¬ i2 = i := fun h => hc ⟨rfl, h⟩
      simp [ctK, k3_c, hc2, k3_b]
    · unfold ctK
      split <;> first | rfl | (exact absurd rfl hk2)
theorem g6_3 (S : CallFix p m c cc nL s args WU own) (hg : GI D cI e0 A s s.heap) (hw : HT D cI e0 A ad K M ap o od H) {i : Nat} (hi : i < nD K) (hk : Cond.fieldLink own index "SnapshotArena$Duel" "winner" "I" ∈ WU) (hd : decode cc pc = .ok (.getfield index, 3)) (kk : W p l e R s m args below meth c H locs cells slots Q (F0 m (pc + 3) ls (.int (K 6 3 i) :: rest))) : W p l e R s m args below meth c H locs cells slots Q (F0 m pc ls (.ref (ad 6 i) :: rest)) := by
  obtain ⟨av, hw⟩ := hw
  exact r_get S hg hw (k := 6) (i := i) hi rfl rfl iWX2 3 (by decide) hk rfl hd kk
set_option maxHeartbeats 1000000 in
theorem p6_3 (S : CallFix p m c cc nL s args WU own) (hg : GI D cI e0 A s s.heap) (hS : va_S A s.heap H locs) (hw : HT D cI e0 A ad K M ap o od H) {i : Nat} (hi : i < nD K) {v : Int32} (hk : Cond.fieldLink own index "SnapshotArena$Duel" "winner" "I" ∈ WU) (hd : decode cc pc = .ok (.putfield index, 3)) (kk : ∀ (H1 : Heap) (locs1 : List Loc), HT D cI e0 A ad (k3 K 6 3 i v) M ap o od H1 → va_S A s.heap H1 locs1 → W p l e R s m args below meth c H1 locs1 cells slots Q (F0 m (pc + 3) ls rest)) : W p l e R s m args below meth c H locs cells slots Q (F0 m pc ls (.int v :: .ref (ad 6 i) :: rest)) := by
  obtain ⟨av, hw⟩ := hw
  refine r_put S hg hS hw (k := 6) (i := i) hi rfl rfl iWX2 tyX2 tyX2_ok nmX2 3 (by decide) hk rfl rfl rfl (Nat.le_of_ble_eq_true rfl) hd (fun H1 locs1 hw hS => kk H1 locs1 ⟨av, hw.same (fun _ _ h => h) (fun _ _ _ => rfl) (fun k i2 hl => ?_)⟩ hS)
  by_cases hc : k = 6 ∧ i2 = i
  · obtain ⟨rfl, rfl⟩ := hc
    rw [hU_s]
    simp [ctK, k3_s, k3_b, k3_a, List.set]
  · rw [hU_n _ _ hc]
    by_cases hk2 : k = 6
    · subst hk2
      have hc2 : ¬ i2 = i := fun h => hc ⟨rfl, h⟩
      simp [ctK, k3_c, hc2, k3_b]
    · unfold ctK
      split <;> first | rfl | (exact absurd rfl hk2)
theorem g6_4 (S : CallFix p m c cc nL s args WU own) (hg : GI D cI e0 A s s.heap) (hw : HT D cI e0 A ad K M ap o od H) {i : Nat} (hi : i < nD K) (hk : Cond.fieldLink own index "SnapshotArena$Duel" "mana" "I" ∈ WU) (hd : decode cc pc = .ok (.getfield index, 3)) (kk : W p l e R s m args below meth c H locs cells slots Q (F0 m (pc + 3) ls (.int (K 6 4 i) :: rest))) : W p l e R s m args below meth c H locs cells slots Q (F0 m pc ls (.ref (ad 6 i) :: rest)) := by
  obtain ⟨av, hw⟩ := hw
  exact r_get S hg hw (k := 6) (i := i) hi rfl rfl iWX2 4 (by decide) hk rfl hd kk
set_option maxHeartbeats 1000000 in
theorem p6_4 (S : CallFix p m c cc nL s args WU own) (hg : GI D cI e0 A s s.heap) (hS : va_S A s.heap H locs) (hw : HT D cI e0 A ad K M ap o od H) {i : Nat} (hi : i < nD K) {v : Int32} (hk : Cond.fieldLink own index "SnapshotArena$Duel" "mana" "I" ∈ WU) (hd : decode cc pc = .ok (.putfield index, 3)) (kk : ∀ (H1 : Heap) (locs1 : List Loc), HT D cI e0 A ad (k3 K 6 4 i v) M ap o od H1 → va_S A s.heap H1 locs1 → W p l e R s m args below meth c H1 locs1 cells slots Q (F0 m (pc + 3) ls rest)) : W p l e R s m args below meth c H locs cells slots Q (F0 m pc ls (.int v :: .ref (ad 6 i) :: rest)) := by
  obtain ⟨av, hw⟩ := hw
  refine r_put S hg hS hw (k := 6) (i := i) hi rfl rfl iWX2 tyX2 tyX2_ok nmX2 4 (by decide) hk rfl rfl rfl (Nat.le_of_ble_eq_true rfl) hd (fun H1 locs1 hw hS => kk H1 locs1 ⟨av, hw.same (fun _ _ h => h) (fun _ _ _ => rfl) (fun k i2 hl => ?_)⟩ hS)
  by_cases hc : k = 6 ∧ i2 = i
  · obtain ⟨rfl, rfl⟩ := hc
    rw [hU_s]
    simp [ctK, k3_s, k3_b, k3_a, List.set]
  · rw [hU_n _ _ hc]
    by_cases hk2 : k = 6
    · subst hk2
      have hc2 : ¬ i2 = i := fun h => hc ⟨rfl, h⟩
      simp [ctK, k3_c, hc2, k3_b]
    · unfold ctK
      split <;> first | rfl | (exact absurd rfl hk2)
theorem g6_5 (S : CallFix p m c cc nL s args WU own) (hg : GI D cI e0 A s s.heap) (hw : HT D cI e0 A ad K M ap o od H) {i : Nat} (hi : i < nD K) (hk : Cond.fieldLink own index "SnapshotArena$Duel" "turns" "I" ∈ WU) (hd : decode cc pc = .ok (.getfield index, 3)) (kk : W p l e R s m args below meth c H locs cells slots Q (F0 m (pc + 3) ls (.int (K 6 5 i) :: rest))) : W p l e R s m args below meth c H locs cells slots Q (F0 m pc ls (.ref (ad 6 i) :: rest)) := by
  obtain ⟨av, hw⟩ := hw
  exact r_get S hg hw (k := 6) (i := i) hi rfl rfl iWX2 5 (by decide) hk rfl hd kk
set_option maxHeartbeats 1000000 in
theorem p6_5 (S : CallFix p m c cc nL s args WU own) (hg : GI D cI e0 A s s.heap) (hS : va_S A s.heap H locs) (hw : HT D cI e0 A ad K M ap o od H) {i : Nat} (hi : i < nD K) {v : Int32} (hk : Cond.fieldLink own index "SnapshotArena$Duel" "turns" "I" ∈ WU) (hd : decode cc pc = .ok (.putfield index, 3)) (kk : ∀ (H1 : Heap) (locs1 : List Loc), HT D cI e0 A ad (k3 K 6 5 i v) M ap o od H1 → va_S A s.heap H1 locs1 → W p l e R s m args below meth c H1 locs1 cells slots Q (F0 m (pc + 3) ls rest)) : W p l e R s m args below meth c H locs cells slots Q (F0 m pc ls (.int v :: .ref (ad 6 i) :: rest)) := by
  obtain ⟨av, hw⟩ := hw
  refine r_put S hg hS hw (k := 6) (i := i) hi rfl rfl iWX2 tyX2 tyX2_ok nmX2 5 (by decide) hk rfl rfl rfl (Nat.le_of_ble_eq_true rfl) hd (fun H1 locs1 hw hS => kk H1 locs1 ⟨av, hw.same (fun _ _ h => h) (fun _ _ _ => rfl) (fun k i2 hl => ?_)⟩ hS)
  by_cases hc : k = 6 ∧ i2 = i
  · obtain ⟨rfl, rfl⟩ := hc
    rw [hU_s]
    simp [ctK, k3_s, k3_b, k3_a, List.set]
  · rw [hU_n _ _ hc]
    by_cases hk2 : k = 6
    · subst hk2
      have hc2 : ¬ i2 = i := fun h => hc ⟨rfl, h⟩
      simp [ctK, k3_c, hc2, k3_b]
    · unfold ctK
      split <;> first | rfl | (exact absurd rfl hk2)
theorem g6_6 (S : CallFix p m c cc nL s args WU own) (hg : GI D cI e0 A s s.heap) (hw : HT D cI e0 A ad K M ap o od H) {i : Nat} (hi : i < nD K) (hk : Cond.fieldLink own index "SnapshotArena$Duel" "stack" "[I" ∈ WU) (hd : decode cc pc = .ok (.getfield index, 3)) (kk : W p l e R s m args below meth c H locs cells slots Q (F0 m (pc + 3) ls (.ref (ad 17 i) :: rest))) : W p l e R s m args below meth c H locs cells slots Q (F0 m pc ls (.ref (ad 6 i) :: rest)) := by
  obtain ⟨av, hw⟩ := hw
  exact r_get S hg hw (k := 6) (i := i) hi rfl rfl iWX2 6 (by decide) hk rfl hd kk
theorem g6_7 (S : CallFix p m c cc nL s args WU own) (hg : GI D cI e0 A s s.heap) (hw : HT D cI e0 A ad K M ap o od H) {i : Nat} (hi : i < nD K) (hk : Cond.fieldLink own index "SnapshotArena$Duel" "depth" "I" ∈ WU) (hd : decode cc pc = .ok (.getfield index, 3)) (kk : W p l e R s m args below meth c H locs cells slots Q (F0 m (pc + 3) ls (.int (K 6 7 i) :: rest))) : W p l e R s m args below meth c H locs cells slots Q (F0 m pc ls (.ref (ad 6 i) :: rest)) := by
  obtain ⟨av, hw⟩ := hw
  exact r_get S hg hw (k := 6) (i := i) hi rfl rfl iWX2 7 (by decide) hk rfl hd kk
set_option maxHeartbeats 1000000 in
theorem p6_7 (S : CallFix p m c cc nL s args WU own) (hg : GI D cI e0 A s s.heap) (hS : va_S A s.heap H locs) (hw : HT D cI e0 A ad K M ap o od H) {i : Nat} (hi : i < nD K) {v : Int32} (hk : Cond.fieldLink own index "SnapshotArena$Duel" "depth" "I" ∈ WU) (hd : decode cc pc = .ok (.putfield index, 3)) (kk : ∀ (H1 : Heap) (locs1 : List Loc), HT D cI e0 A ad (k3 K 6 7 i v) M ap o od H1 → va_S A s.heap H1 locs1 → W p l e R s m args below meth c H1 locs1 cells slots Q (F0 m (pc + 3) ls rest)) : W p l e R s m args below meth c H locs cells slots Q (F0 m pc ls (.int v :: .ref (ad 6 i) :: rest)) := by
  obtain ⟨av, hw⟩ := hw
  refine r_put S hg hS hw (k := 6) (i := i) hi rfl rfl iWX2 tyX2 tyX2_ok nmX2 7 (by decide) hk rfl rfl rfl (Nat.le_of_ble_eq_true rfl) hd (fun H1 locs1 hw hS => kk H1 locs1 ⟨av, hw.same (fun _ _ h => h) (fun _ _ _ => rfl) (fun k i2 hl => ?_)⟩ hS)
  by_cases hc : k = 6 ∧ i2 = i
  · obtain ⟨rfl, rfl⟩ := hc
    rw [hU_s]
    simp [ctK, k3_s, k3_b, k3_a, List.set]
  · rw [hU_n _ _ hc]
    by_cases hk2 : k = 6
    · subst hk2
      have hc2 : ¬ i2 = i := fun h => hc ⟨rfl, h⟩
      simp [ctK, k3_c, hc2, k3_b]
    · unfold ctK
      split <;> first | rfl | (exact absurd rfl hk2)
theorem g6_8 (S : CallFix p m c cc nL s args WU own) (hg : GI D cI e0 A s s.heap) (hw : HT D cI e0 A ad K M ap o od H) {i : Nat} (hi : i < nD K) (hk : Cond.fieldLink own index "SnapshotArena$Duel" "snapshotCount" "I" ∈ WU) (hd : decode cc pc = .ok (.getfield index, 3)) (kk : W p l e R s m args below meth c H locs cells slots Q (F0 m (pc + 3) ls (.int (K 6 8 i) :: rest))) : W p l e R s m args below meth c H locs cells slots Q (F0 m pc ls (.ref (ad 6 i) :: rest)) := by
  obtain ⟨av, hw⟩ := hw
  exact r_get S hg hw (k := 6) (i := i) hi rfl rfl iWX2 8 (by decide) hk rfl hd kk
set_option maxHeartbeats 1000000 in
theorem p6_8 (S : CallFix p m c cc nL s args WU own) (hg : GI D cI e0 A s s.heap) (hS : va_S A s.heap H locs) (hw : HT D cI e0 A ad K M ap o od H) {i : Nat} (hi : i < nD K) {v : Int32} (hk : Cond.fieldLink own index "SnapshotArena$Duel" "snapshotCount" "I" ∈ WU) (hd : decode cc pc = .ok (.putfield index, 3)) (kk : ∀ (H1 : Heap) (locs1 : List Loc), HT D cI e0 A ad (k3 K 6 8 i v) M ap o od H1 → va_S A s.heap H1 locs1 → W p l e R s m args below meth c H1 locs1 cells slots Q (F0 m (pc + 3) ls rest)) : W p l e R s m args below meth c H locs cells slots Q (F0 m pc ls (.int v :: .ref (ad 6 i) :: rest)) := by
  obtain ⟨av, hw⟩ := hw
  refine r_put S hg hS hw (k := 6) (i := i) hi rfl rfl iWX2 tyX2 tyX2_ok nmX2 8 (by decide) hk rfl rfl rfl (Nat.le_of_ble_eq_true rfl) hd (fun H1 locs1 hw hS => kk H1 locs1 ⟨av, hw.same (fun _ _ h => h) (fun _ _ _ => rfl) (fun k i2 hl => ?_)⟩ hS)
  by_cases hc : k = 6 ∧ i2 = i
  · obtain ⟨rfl, rfl⟩ := hc
    rw [hU_s]
    simp [ctK, k3_s, k3_b, k3_a, List.set]
  · rw [hU_n _ _ hc]
    by_cases hk2 : k = 6
    · subst hk2
      have hc2 : ¬ i2 = i := fun h => hc ⟨rfl, h⟩
      simp [ctK, k3_c, hc2, k3_b]
    · unfold ctK
      split <;> first | rfl | (exact absurd rfl hk2)
theorem g6_9 (S : CallFix p m c cc nL s args WU own) (hg : GI D cI e0 A s s.heap) (hw : HT D cI e0 A ad K M ap o od H) {i : Nat} (hi : i < nD K) (hk : Cond.fieldLink own index "SnapshotArena$Duel" "keptBlocks" "[[I" ∈ WU) (hd : decode cc pc = .ok (.getfield index, 3)) (kk : W p l e R s m args below meth c H locs cells slots Q (F0 m (pc + 3) ls (.ref (ad 12 i) :: rest))) : W p l e R s m args below meth c H locs cells slots Q (F0 m pc ls (.ref (ad 6 i) :: rest)) := by
  obtain ⟨av, hw⟩ := hw
  exact r_get S hg hw (k := 6) (i := i) hi rfl rfl iWX2 9 (by decide) hk rfl hd kk
theorem g6_10 (S : CallFix p m c cc nL s args WU own) (hg : GI D cI e0 A s s.heap) (hw : HT D cI e0 A ad K M ap o od H) {i : Nat} (hi : i < nD K) (hk : Cond.fieldLink own index "SnapshotArena$Duel" "keptStacks" "[[I" ∈ WU) (hd : decode cc pc = .ok (.getfield index, 3)) (kk : W p l e R s m args below meth c H locs cells slots Q (F0 m (pc + 3) ls (.ref (ad 21 i) :: rest))) : W p l e R s m args below meth c H locs cells slots Q (F0 m pc ls (.ref (ad 6 i) :: rest)) := by
  obtain ⟨av, hw⟩ := hw
  exact r_get S hg hw (k := 6) (i := i) hi rfl rfl iWX2 10 (by decide) hk rfl hd kk
theorem g7_0 (S : CallFix p m c cc nL s args WU own) (hg : GI D cI e0 A s s.heap) (hw : HT D cI e0 A ad K M ap o od H) {i : Nat} (hi : i < 2 * nD K) (hk : Cond.fieldLink own index "SnapshotArena$Side" "player" "I" ∈ WU) (hd : decode cc pc = .ok (.getfield index, 3)) (kk : W p l e R s m args below meth c H locs cells slots Q (F0 m (pc + 3) ls (.int (K 7 0 i) :: rest))) : W p l e R s m args below meth c H locs cells slots Q (F0 m pc ls (.ref (ad 7 i) :: rest)) := by
  obtain ⟨av, hw⟩ := hw
  exact r_get S hg hw (k := 7) (i := i) hi rfl rfl iWX5 0 (by decide) hk rfl hd kk
theorem g7_1 (S : CallFix p m c cc nL s args WU own) (hg : GI D cI e0 A s s.heap) (hw : HT D cI e0 A ad K M ap o od H) {i : Nat} (hi : i < 2 * nD K) (hk : Cond.fieldLink own index "SnapshotArena$Side" "life" "I" ∈ WU) (hd : decode cc pc = .ok (.getfield index, 3)) (kk : W p l e R s m args below meth c H locs cells slots Q (F0 m (pc + 3) ls (.int (K 7 1 i) :: rest))) : W p l e R s m args below meth c H locs cells slots Q (F0 m pc ls (.ref (ad 7 i) :: rest)) := by
  obtain ⟨av, hw⟩ := hw
  exact r_get S hg hw (k := 7) (i := i) hi rfl rfl iWX5 1 (by decide) hk rfl hd kk
set_option maxHeartbeats 1000000 in
theorem p7_1 (S : CallFix p m c cc nL s args WU own) (hg : GI D cI e0 A s s.heap) (hS : va_S A s.heap H locs) (hw : HT D cI e0 A ad K M ap o od H) {i : Nat} (hi : i < 2 * nD K) {v : Int32} (hk : Cond.fieldLink own index "SnapshotArena$Side" "life" "I" ∈ WU) (hd : decode cc pc = .ok (.putfield index, 3)) (kk : ∀ (H1 : Heap) (locs1 : List Loc), HT D cI e0 A ad (k3 K 7 1 i v) M ap o od H1 → va_S A s.heap H1 locs1 → W p l e R s m args below meth c H1 locs1 cells slots Q (F0 m (pc + 3) ls rest)) : W p l e R s m args below meth c H locs cells slots Q (F0 m pc ls (.int v :: .ref (ad 7 i) :: rest)) := by
  obtain ⟨av, hw⟩ := hw
  refine r_put S hg hS hw (k := 7) (i := i) hi rfl rfl iWX5 tyX5 tyX5_ok nmX5 1 (by decide) hk rfl rfl rfl (Nat.le_of_ble_eq_true rfl) hd (fun H1 locs1 hw hS => kk H1 locs1 ⟨av, hw.same (fun _ _ h => h) (fun _ _ _ => rfl) (fun k i2 hl => ?_)⟩ hS)
  by_cases hc : k = 7 ∧ i2 = i
  · obtain ⟨rfl, rfl⟩ := hc
    rw [hU_s]
    simp [ctK, k3_s, k3_b, k3_a, List.set]
  · rw [hU_n _ _ hc]
    by_cases hk2 : k = 7
    · subst hk2
      have hc2 : ¬ i2 = i := fun h => hc ⟨rfl, h⟩
      simp [ctK, k3_c, hc2, k3_b]
    · unfold ctK
      split <;> first | rfl | (exact absurd rfl hk2)
theorem g7_2 (S : CallFix p m c cc nL s args WU own) (hg : GI D cI e0 A s s.heap) (hw : HT D cI e0 A ad K M ap o od H) {i : Nat} (hi : i < 2 * nD K) (hk : Cond.fieldLink own index "SnapshotArena$Side" "staked" "Ljava/util/ArrayList;" ∈ WU) (hd : decode cc pc = .ok (.getfield index, 3)) (kk : W p l e R s m args below meth c H locs cells slots Q (F0 m (pc + 3) ls (.ref (ad 8 (i + 4)) :: rest))) : W p l e R s m args below meth c H locs cells slots Q (F0 m pc ls (.ref (ad 7 i) :: rest)) := by
  obtain ⟨av, hw⟩ := hw
  exact r_get S hg hw (k := 7) (i := i) hi rfl rfl iWX5 2 (by decide) hk rfl hd kk
theorem g7_3 (S : CallFix p m c cc nL s args WU own) (hg : GI D cI e0 A s s.heap) (hw : HT D cI e0 A ad K M ap o od H) {i : Nat} (hi : i < 2 * nD K) (hk : Cond.fieldLink own index "SnapshotArena$Side" "played" "[I" ∈ WU) (hd : decode cc pc = .ok (.getfield index, 3)) (kk : W p l e R s m args below meth c H locs cells slots Q (F0 m (pc + 3) ls (.ref (ad 18 i) :: rest))) : W p l e R s m args below meth c H locs cells slots Q (F0 m pc ls (.ref (ad 7 i) :: rest)) := by
  obtain ⟨av, hw⟩ := hw
  exact r_get S hg hw (k := 7) (i := i) hi rfl rfl iWX5 3 (by decide) hk rfl hd kk
theorem a10 (S : CallFix p m c cc nL s args WU own) (hg : GI D cI e0 A s s.heap) (hw : HT D cI e0 A ad K M ap o od H) {i : Nat} (hi : i < 4) {j : Int32} (hj : vp_in j (aLen i)) (hd : decode cc pc = .ok (.iaload, 1)) (kk : W p l e R s m args below meth c H locs cells slots Q (F0 m (pc + 1) ls (.int (K 10 i j.toNatClampNeg) :: rest))) : W p l e R s m args below meth c H locs cells slots Q (F0 m pc ls (.int j :: .ref (ad 10 i) :: rest)) := by
  obtain ⟨av, hw⟩ := hw
  exact r_iald S hg hw (k := 10) (i := i) hi rfl hj hd kk
set_option maxHeartbeats 1000000 in
theorem s10 (S : CallFix p m c cc nL s args WU own) (hg : GI D cI e0 A s s.heap) (hS : va_S A s.heap H locs) (hw : HT D cI e0 A ad K M ap o od H) {i : Nat} (hi : i < 4) {j x : Int32} (hj : vp_in j (aLen i)) (hd : decode cc pc = .ok (.iastore, 1)) (kk : ∀ (H1 : Heap) (locs1 : List Loc), HT D cI e0 A ad (k3 K 10 i j.toNatClampNeg x) M ap o od H1 → va_S A s.heap H1 locs1 → W p l e R s m args below meth c H1 locs1 cells slots Q (F0 m (pc + 1) ls rest)) : W p l e R s m args below meth c H locs cells slots Q (F0 m pc ls (.int x :: .int j :: .ref (ad 10 i) :: rest)) := by
  obtain ⟨av, hw⟩ := hw
  refine r_iast S hg hS hw (k := 10) (i := i) hi rfl hj hd (fun H1 locs1 hw hS => kk H1 locs1 ⟨av, hw.same (fun _ _ h => h) (fun _ _ _ => rfl) (fun k i2 hl => ?_)⟩ hS)
  by_cases hc : k = 10 ∧ i2 = i
  · obtain ⟨rfl, rfl⟩ := hc
    rw [hU_s]
    simp [ctK, k3_r]
  · rw [hU_n _ _ hc]
    by_cases hk2 : k = 10
    · subst hk2
      have hc2 : ¬ i2 = i := fun h => hc ⟨rfl, h⟩
      simp [ctK, k3_b, hc2]
    · unfold ctK
      split <;> first | rfl | (exact absurd rfl hk2)
theorem n10 (S : CallFix p m c cc nL s args WU own) (hg : GI D cI e0 A s s.heap) (hw : HT D cI e0 A ad K M ap o od H) {i : Nat} (hi : i < 4) (hd : decode cc pc = .ok (.arraylength, 1)) (kk : W p l e R s m args below meth c H locs cells slots Q (F0 m (pc + 1) ls (.int (nI (aLen i)) :: rest))) : W p l e R s m args below meth c H locs cells slots Q (F0 m pc ls (.ref (ad 10 i) :: rest)) := by
  obtain ⟨av, hw⟩ := hw
  exact r_alen S hg hw (k := 10) (i := i) hi 0 rfl rfl hd kk
theorem a16 (S : CallFix p m c cc nL s args WU own) (hg : GI D cI e0 A s s.heap) (hw : HT D cI e0 A ad K M ap o od H) {i : Nat} (hi : i = 0) {j : Int32} (hj : vp_in j (8)) (hd : decode cc pc = .ok (.iaload, 1)) (kk : W p l e R s m args below meth c H locs cells slots Q (F0 m (pc + 1) ls (.int (M 16 i j.toNatClampNeg) :: rest))) : W p l e R s m args below meth c H locs cells slots Q (F0 m pc ls (.int j :: .ref (ad 16 i) :: rest)) := by
  obtain ⟨av, hw⟩ := hw
  exact r_iald S hg hw (k := 16) (i := i) hi rfl hj hd kk
set_option maxHeartbeats 1000000 in
theorem s16 (S : CallFix p m c cc nL s args WU own) (hg : GI D cI e0 A s s.heap) (hS : va_S A s.heap H locs) (hw : HT D cI e0 A ad K M ap o od H) {i : Nat} (hi : i = 0) {j x : Int32} (hj : vp_in j (8)) (hd : decode cc pc = .ok (.iastore, 1)) (kk : ∀ (H1 : Heap) (locs1 : List Loc), HT D cI e0 A ad K (k3 M 16 i j.toNatClampNeg x) ap o od H1 → va_S A s.heap H1 locs1 → W p l e R s m args below meth c H1 locs1 cells slots Q (F0 m (pc + 1) ls rest)) : W p l e R s m args below meth c H locs cells slots Q (F0 m pc ls (.int x :: .int j :: .ref (ad 16 i) :: rest)) := by
  obtain ⟨av, hw⟩ := hw
  refine r_iast S hg hS hw (k := 16) (i := i) hi rfl hj hd (fun H1 locs1 hw hS => kk H1 locs1 ⟨av, hw.same (fun _ _ h => h) (fun _ _ _ => rfl) (fun k i2 hl => ?_)⟩ hS)
  by_cases hc : k = 16 ∧ i2 = i
  · obtain ⟨rfl, rfl⟩ := hc
    rw [hU_s]
    simp [ctK, k3_r]
  · rw [hU_n _ _ hc]
    by_cases hk2 : k = 16
    · subst hk2
      have hc2 : ¬ i2 = i := fun h => hc ⟨rfl, h⟩
      simp [ctK, k3_b, hc2]
    · unfold ctK
      split <;> first | rfl | (exact absurd rfl hk2)
theorem n16 (S : CallFix p m c cc nL s args WU own) (hg : GI D cI e0 A s s.heap) (hw : HT D cI e0 A ad K M ap o od H) {i : Nat} (hi : i = 0) (hd : decode cc pc = .ok (.arraylength, 1)) (kk : W p l e R s m args below meth c H locs cells slots Q (F0 m (pc + 1) ls (.int (nI (8)) :: rest))) : W p l e R s m args below meth c H locs cells slots Q (F0 m pc ls (.ref (ad 16 i) :: rest)) := by
  obtain ⟨av, hw⟩ := hw
  exact r_alen S hg hw (k := 16) (i := i) hi 0 rfl rfl hd kk
theorem a17 (S : CallFix p m c cc nL s args WU own) (hg : GI D cI e0 A s s.heap) (hw : HT D cI e0 A ad K M ap o od H) {i : Nat} (hi : i < nD K) {j : Int32} (hj : vp_in j (8)) (hd : decode cc pc = .ok (.iaload, 1)) (kk : W p l e R s m args below meth c H locs cells slots Q (F0 m (pc + 1) ls (.int (K 17 i j.toNatClampNeg) :: rest))) : W p l e R s m args below meth c H locs cells slots Q (F0 m pc ls (.int j :: .ref (ad 17 i) :: rest)) := by
  obtain ⟨av, hw⟩ := hw
  exact r_iald S hg hw (k := 17) (i := i) hi rfl hj hd kk
set_option maxHeartbeats 1000000 in
theorem s17 (S : CallFix p m c cc nL s args WU own) (hg : GI D cI e0 A s s.heap) (hS : va_S A s.heap H locs) (hw : HT D cI e0 A ad K M ap o od H) {i : Nat} (hi : i < nD K) {j x : Int32} (hj : vp_in j (8)) (hd : decode cc pc = .ok (.iastore, 1)) (kk : ∀ (H1 : Heap) (locs1 : List Loc), HT D cI e0 A ad (k3 K 17 i j.toNatClampNeg x) M ap o od H1 → va_S A s.heap H1 locs1 → W p l e R s m args below meth c H1 locs1 cells slots Q (F0 m (pc + 1) ls rest)) : W p l e R s m args below meth c H locs cells slots Q (F0 m pc ls (.int x :: .int j :: .ref (ad 17 i) :: rest)) := by
  obtain ⟨av, hw⟩ := hw
  refine r_iast S hg hS hw (k := 17) (i := i) hi rfl hj hd (fun H1 locs1 hw hS => kk H1 locs1 ⟨av, hw.same (fun _ _ h => h) (fun _ _ _ => rfl) (fun k i2 hl => ?_)⟩ hS)
  by_cases hc : k = 17 ∧ i2 = i
  · obtain ⟨rfl, rfl⟩ := hc
    rw [hU_s]
    simp [ctK, k3_r]
  · rw [hU_n _ _ hc]
    by_cases hk2 : k = 17
    · subst hk2
      have hc2 : ¬ i2 = i := fun h => hc ⟨rfl, h⟩
      simp [ctK, k3_b, hc2]
    · unfold ctK
      split <;> first | rfl | (exact absurd rfl hk2)
theorem n17 (S : CallFix p m c cc nL s args WU own) (hg : GI D cI e0 A s s.heap) (hw : HT D cI e0 A ad K M ap o od H) {i : Nat} (hi : i < nD K) (hd : decode cc pc = .ok (.arraylength, 1)) (kk : W p l e R s m args below meth c H locs cells slots Q (F0 m (pc + 1) ls (.int (nI (8)) :: rest))) : W p l e R s m args below meth c H locs cells slots Q (F0 m pc ls (.ref (ad 17 i) :: rest)) := by
  obtain ⟨av, hw⟩ := hw
  exact r_alen S hg hw (k := 17) (i := i) hi 0 rfl rfl hd kk
theorem a18 (S : CallFix p m c cc nL s args WU own) (hg : GI D cI e0 A s s.heap) (hw : HT D cI e0 A ad K M ap o od H) {i : Nat} (hi : i < 2 * nD K) {j : Int32} (hj : vp_in j (8)) (hd : decode cc pc = .ok (.iaload, 1)) (kk : W p l e R s m args below meth c H locs cells slots Q (F0 m (pc + 1) ls (.int (K 18 i j.toNatClampNeg) :: rest))) : W p l e R s m args below meth c H locs cells slots Q (F0 m pc ls (.int j :: .ref (ad 18 i) :: rest)) := by
  obtain ⟨av, hw⟩ := hw
  exact r_iald S hg hw (k := 18) (i := i) hi rfl hj hd kk
set_option maxHeartbeats 1000000 in
theorem s18 (S : CallFix p m c cc nL s args WU own) (hg : GI D cI e0 A s s.heap) (hS : va_S A s.heap H locs) (hw : HT D cI e0 A ad K M ap o od H) {i : Nat} (hi : i < 2 * nD K) {j x : Int32} (hj : vp_in j (8)) (hd : decode cc pc = .ok (.iastore, 1)) (kk : ∀ (H1 : Heap) (locs1 : List Loc), HT D cI e0 A ad (k3 K 18 i j.toNatClampNeg x) M ap o od H1 → va_S A s.heap H1 locs1 → W p l e R s m args below meth c H1 locs1 cells slots Q (F0 m (pc + 1) ls rest)) : W p l e R s m args below meth c H locs cells slots Q (F0 m pc ls (.int x :: .int j :: .ref (ad 18 i) :: rest)) := by
  obtain ⟨av, hw⟩ := hw
  refine r_iast S hg hS hw (k := 18) (i := i) hi rfl hj hd (fun H1 locs1 hw hS => kk H1 locs1 ⟨av, hw.same (fun _ _ h => h) (fun _ _ _ => rfl) (fun k i2 hl => ?_)⟩ hS)
  by_cases hc : k = 18 ∧ i2 = i
  · obtain ⟨rfl, rfl⟩ := hc
    rw [hU_s]
    simp [ctK, k3_r]
  · rw [hU_n _ _ hc]
    by_cases hk2 : k = 18
    · subst hk2
      have hc2 : ¬ i2 = i := fun h => hc ⟨rfl, h⟩
      simp [ctK, k3_b, hc2]
    · unfold ctK
      split <;> first | rfl | (exact absurd rfl hk2)
theorem n18 (S : CallFix p m c cc nL s args WU own) (hg : GI D cI e0 A s s.heap) (hw : HT D cI e0 A ad K M ap o od H) {i : Nat} (hi : i < 2 * nD K) (hd : decode cc pc = .ok (.arraylength, 1)) (kk : W p l e R s m args below meth c H locs cells slots Q (F0 m (pc + 1) ls (.int (nI (8)) :: rest))) : W p l e R s m args below meth c H locs cells slots Q (F0 m pc ls (.ref (ad 18 i) :: rest)) := by
  obtain ⟨av, hw⟩ := hw
  exact r_alen S hg hw (k := 18) (i := i) hi 0 rfl rfl hd kk
theorem a19 (S : CallFix p m c cc nL s args WU own) (hg : GI D cI e0 A s s.heap) (hw : HT D cI e0 A ad K M ap o od H) {i : Nat} (hi : i < 6 * nD K) {j : Int32} (hj : vp_in j (6)) (hd : decode cc pc = .ok (.iaload, 1)) (kk : W p l e R s m args below meth c H locs cells slots Q (F0 m (pc + 1) ls (.int (K 19 i j.toNatClampNeg) :: rest))) : W p l e R s m args below meth c H locs cells slots Q (F0 m pc ls (.int j :: .ref (ad 19 i) :: rest)) := by
  obtain ⟨av, hw⟩ := hw
  exact r_iald S hg hw (k := 19) (i := i) hi rfl hj hd kk
set_option maxHeartbeats 1000000 in
theorem s19 (S : CallFix p m c cc nL s args WU own) (hg : GI D cI e0 A s s.heap) (hS : va_S A s.heap H locs) (hw : HT D cI e0 A ad K M ap o od H) {i : Nat} (hi : i < 6 * nD K) {j x : Int32} (hj : vp_in j (6)) (hd : decode cc pc = .ok (.iastore, 1)) (kk : ∀ (H1 : Heap) (locs1 : List Loc), HT D cI e0 A ad (k3 K 19 i j.toNatClampNeg x) M ap o od H1 → va_S A s.heap H1 locs1 → W p l e R s m args below meth c H1 locs1 cells slots Q (F0 m (pc + 1) ls rest)) : W p l e R s m args below meth c H locs cells slots Q (F0 m pc ls (.int x :: .int j :: .ref (ad 19 i) :: rest)) := by
  obtain ⟨av, hw⟩ := hw
  refine r_iast S hg hS hw (k := 19) (i := i) hi rfl hj hd (fun H1 locs1 hw hS => kk H1 locs1 ⟨av, hw.same (fun _ _ h => h) (fun _ _ _ => rfl) (fun k i2 hl => ?_)⟩ hS)
  by_cases hc : k = 19 ∧ i2 = i
  · obtain ⟨rfl, rfl⟩ := hc
    rw [hU_s]
    simp [ctK, k3_r]
  · rw [hU_n _ _ hc]
    by_cases hk2 : k = 19
    · subst hk2
      have hc2 : ¬ i2 = i := fun h => hc ⟨rfl, h⟩
      simp [ctK, k3_b, hc2]
    · unfold ctK
      split <;> first | rfl | (exact absurd rfl hk2)
theorem n19 (S : CallFix p m c cc nL s args WU own) (hg : GI D cI e0 A s s.heap) (hw : HT D cI e0 A ad K M ap o od H) {i : Nat} (hi : i < 6 * nD K) (hd : decode cc pc = .ok (.arraylength, 1)) (kk : W p l e R s m args below meth c H locs cells slots Q (F0 m (pc + 1) ls (.int (nI (6)) :: rest))) : W p l e R s m args below meth c H locs cells slots Q (F0 m pc ls (.ref (ad 19 i) :: rest)) := by
  obtain ⟨av, hw⟩ := hw
  exact r_alen S hg hw (k := 19) (i := i) hi 0 rfl rfl hd kk
theorem a20 (S : CallFix p m c cc nL s args WU own) (hg : GI D cI e0 A s s.heap) (hw : HT D cI e0 A ad K M ap o od H) {i : Nat} (hi : i < 6 * nD K) {j : Int32} (hj : vp_in j (8)) (hd : decode cc pc = .ok (.iaload, 1)) (kk : W p l e R s m args below meth c H locs cells slots Q (F0 m (pc + 1) ls (.int (K 20 i j.toNatClampNeg) :: rest))) : W p l e R s m args below meth c H locs cells slots Q (F0 m pc ls (.int j :: .ref (ad 20 i) :: rest)) := by
  obtain ⟨av, hw⟩ := hw
  exact r_iald S hg hw (k := 20) (i := i) hi rfl hj hd kk
set_option maxHeartbeats 1000000 in
theorem s20 (S : CallFix p m c cc nL s args WU own) (hg : GI D cI e0 A s s.heap) (hS : va_S A s.heap H locs) (hw : HT D cI e0 A ad K M ap o od H) {i : Nat} (hi : i < 6 * nD K) {j x : Int32} (hj : vp_in j (8)) (hd : decode cc pc = .ok (.iastore, 1)) (kk : ∀ (H1 : Heap) (locs1 : List Loc), HT D cI e0 A ad (k3 K 20 i j.toNatClampNeg x) M ap o od H1 → va_S A s.heap H1 locs1 → W p l e R s m args below meth c H1 locs1 cells slots Q (F0 m (pc + 1) ls rest)) : W p l e R s m args below meth c H locs cells slots Q (F0 m pc ls (.int x :: .int j :: .ref (ad 20 i) :: rest)) := by
  obtain ⟨av, hw⟩ := hw
  refine r_iast S hg hS hw (k := 20) (i := i) hi rfl hj hd (fun H1 locs1 hw hS => kk H1 locs1 ⟨av, hw.same (fun _ _ h => h) (fun _ _ _ => rfl) (fun k i2 hl => ?_)⟩ hS)
  by_cases hc : k = 20 ∧ i2 = i
  · obtain ⟨rfl, rfl⟩ := hc
    rw [hU_s]
    simp [ctK, k3_r]
  · rw [hU_n _ _ hc]
    by_cases hk2 : k = 20
    · subst hk2
      have hc2 : ¬ i2 = i := fun h => hc ⟨rfl, h⟩
      simp [ctK, k3_b, hc2]
    · unfold ctK
      split <;> first | rfl | (exact absurd rfl hk2)
theorem n20 (S : CallFix p m c cc nL s args WU own) (hg : GI D cI e0 A s s.heap) (hw : HT D cI e0 A ad K M ap o od H) {i : Nat} (hi : i < 6 * nD K) (hd : decode cc pc = .ok (.arraylength, 1)) (kk : W p l e R s m args below meth c H locs cells slots Q (F0 m (pc + 1) ls (.int (nI (8)) :: rest))) : W p l e R s m args below meth c H locs cells slots Q (F0 m pc ls (.ref (ad 20 i) :: rest)) := by
  obtain ⟨av, hw⟩ := hw
  exact r_alen S hg hw (k := 20) (i := i) hi 0 rfl rfl hd kk
theorem a12 (S : CallFix p m c cc nL s args WU own) (hg : GI D cI e0 A s s.heap) (hw : HT D cI e0 A ad K M ap o od H) {i : Nat} (hi : i < nD K) {j : Int32} (hj : vp_in j 6) (hd : decode cc pc = .ok (.aaload, 1)) (kk : W p l e R s m args below meth c H locs cells slots Q (F0 m (pc + 1) ls (.ref (ad 19 (6 * i + j.toNatClampNeg)) :: rest))) : W p l e R s m args below meth c H locs cells slots Q (F0 m pc ls (.int j :: .ref (ad 12 i) :: rest)) := by
  obtain ⟨av, hw⟩ := hw
  exact r_aald S hg hw (k := 12) (i := i) hi rfl hj (if_pos (Nat.not_le.mp fun q => hj (Or.inr q))) hd kk
theorem a21 (S : CallFix p m c cc nL s args WU own) (hg : GI D cI e0 A s s.heap) (hw : HT D cI e0 A ad K M ap o od H) {i : Nat} (hi : i < nD K) {j : Int32} (hj : vp_in j 6) (hd : decode cc pc = .ok (.aaload, 1)) (kk : W p l e R s m args below meth c H locs cells slots Q (F0 m (pc + 1) ls (.ref (ad 20 (6 * i + j.toNatClampNeg)) :: rest))) : W p l e R s m args below meth c H locs cells slots Q (F0 m pc ls (.int j :: .ref (ad 21 i) :: rest)) := by
  obtain ⟨av, hw⟩ := hw
  exact r_aald S hg hw (k := 21) (i := i) hi rfl hj (if_pos (Nat.not_le.mp fun q => hj (Or.inr q))) hd kk
end TYPED
