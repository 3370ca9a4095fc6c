/-! The law from its entry to its loop. -/
def K00 : KS := fun a b c => if a = 1 ∧ b = 5 ∧ c = 0 then 216 else 0
def M00 : KS := fun _ _ _ => 0
def L00 : List (Nat × Nat) := [(0, 0), (1, 0), (2, 0), (8, 0), (8, 1), (8, 2), (8, 3), (10, 0), (10, 1), (10, 2), (10, 3), (11, 0), (16, 0)]
theorem lv00 {k i : Nat} (h : lvK K00 k i) : (k, i) ∈ L00 := by
  have hd : nD K00 = 0 := by decide
  have hc : nC K00 = 0 := by decide
  have ho : nO K00 = 0 := by decide
  unfold lvK at h
  split at h
  · subst h; decide
  · subst h; decide
  · subst h; decide
  · rw [hc] at h; omega
  · rw [ho] at h; omega
  · rw [hd] at h; omega
  · rw [hd] at h; omega
  · rw [hd] at h
    rcases (by omega : i = 0 ∨ i = 1 ∨ i = 2 ∨ i = 3) with rfl | rfl | rfl | rfl <;> decide
  · exact absurd rfl h.2
  · rcases (by omega : i = 0 ∨ i = 1 ∨ i = 2 ∨ i = 3) with rfl | rfl | rfl | rfl <;> decide
  · subst h; decide
  · rw [hd] at h; omega
  · subst h; decide
  · rw [hd] at h; omega
  · rw [hd] at h; omega
  · rw [hd] at h; omega
  · rw [hd] at h; omega
  · rw [hd] at h; omega
  · exact h.elim
section START
variable {p : Program} {l : Launch} {e : Env} {R : Room} {s : State} {m : MethodId} {args : Array Value} {below : List Frame} {meth : Method} {c : Code} {H : Heap} {locs : List Loc} {cells slots : Nat} {Q : State → Prop}
variable {D : va_G} {cI : Nat → ClassId} {e0 : Nat} {A : Nat → Prop} {adr : Nat → Nat → Nat} {G : Nat → Nat → va_E} {live : Nat → Nat → Prop}
variable {cc : ByteArray} {nL pc : Nat} {ls : Array Slot} {rest : List Value} {own : String} {index : Nat}
theorem ht00 (hw : HW D A live adr G H) (hl : ∀ q ∈ L00, live q.1 q.2) (hG : ∀ q ∈ L00, ctK cI e0 adr adr K00 M00 0 0 0 q.1 q.2 = G q.1 q.2) : HT D cI e0 A adr K00 M00 0 0 0 H :=
  ⟨adr, hw.same (fun k i h => hl _ (lv00 h)) (fun k i _ => by unfold adK; split <;> rfl) (fun k i h => hG _ (lv00 h))⟩
end START
set_option maxHeartbeats 8000000 in
set_option maxRecDepth 100000 in
theorem law_start (hI : ∃ n : Nat, wL_law_30 n 13 1722 0 0 0 0 0 0 K00 M00) {p : Program} {e : Env} {s : State} {m : MethodId} {below : List Frame} {meth : Method} {c : Code} (l : Launch) (hfl : l.stackTraces = false) {b L : Nat} {xs : Nat → Int32} (hL : L ≤ 260) (C0 : lw_At p s m meth c b L xs) : W p l e room_1 s m #[Value.ref b] below meth c s.heap [] 0 0 (lw_Z below #[Value.ref b] s) (entryFrame m ([Value.ref b] : List Value).toArray 24) := by
  obtain ⟨D, cI, e0, hg⟩ := gi_of C0
  obtain ⟨hx, hb, hr, hml, hown, hts, hX, hbl, hlocks, hgv⟩ := id C0
  have S : CallFix p m c cL_law 24 s #[Value.ref b] WU RL := ⟨hx, hb, hml, hown, fun w hw => hts w (List.mem_filter.mp hw).1⟩
  have hS : va_S (fun q : Nat => s.heap.size ≤ q) s.heap s.heap [] := va_S.rf
  have hw : HW D (fun q : Nat => s.heap.size ≤ q) (fun _ _ => False) (fun _ _ => 0) (fun _ _ => .inr (0, [])) s.heap := ⟨[], (fun k i h => h.elim), (fun k q h => by simp [hws] at h), (fun i j p q h => by simp [hws] at h), (fun k q h => by simp [hws] at h)⟩
  have hl := lv_entry ([.ref b]) (n := 24) (Nat.le_of_ble_eq_true rfl)
  rw [lg_entry_eq]
  generalize (lg_sl ([.ref b]) ++ List.replicate (24 - (lg_sl ([.ref b])).length) Slot.unset).toArray = ls at hl ⊢
  have hl : lv_has ls 24 [(0, .ref b)] := hl
  refine r_new S hg hS hw 0 0 (ci := 9) (fs := [.null, .int 0, .int 0, .int 0, .int 0, .null, .null, .null, .null, .null, .null, .null]) rfl iWX6 tyX6 tyX6_ok u54 u55 u27 (by decide +kernel) ⟨Nat.le_of_ble_eq_true rfl, Nat.le_of_ble_eq_true rfl⟩ dL_law_0 (fun x0 H hw hS => ?_)
  refine lv_dup S.1 S.2.1 dL_law_3 rfl ?_
  refine r_callI (rest := [.ref x0]) S hg hS (mtX6_init (Or.inr ⟨rfl, rfl⟩) (hU_s _ _ _ _) (hU_s _ _ _ _)) u56 u57 u27 u58 rfl hdX6_init hw ⟨Nat.le_of_ble_eq_true rfl, Nat.le_of_ble_eq_true rfl⟩ ⟨Nat.le_of_ble_eq_true rfl, Nat.le_of_ble_eq_true rfl⟩ hl.1 (Nat.le_of_ble_eq_true rfl) rfl dL_law_4 (fun rv H locs hq hS => ?_)
  obtain ⟨rfl, sq1, sq2, sq3, sq4, sq5, sq6, sq7, sq8, sq9, sq10, sq11, hw⟩ := hq
  refine lv_astore_n (lv' := [(1, .ref x0), (0, .ref b)]) S.1 S.2.1 dL_law_7 rfl hl (by decide) rfl (fun ls hl => ?_)
  refine lv_iconst (v := 0) S.1 S.2.1 dL_law_8 (by decide) ?_
  refine lv_istore_n (lv' := [(2, .int 0), (1, .ref x0), (0, .ref b)]) S.1 S.2.1 dL_law_9 rfl hl (by decide) rfl (fun ls hl => ?_)
  refine lv_iconst (v := 0) S.1 S.2.1 dL_law_10 (by decide) ?_
  refine lv_istore_n (lv' := [(3, .int 0), (2, .int 0), (1, .ref x0), (0, .ref b)]) S.1 S.2.1 dL_law_11 rfl hl (by decide) rfl (fun ls hl => ?_)
  refine lv_iconst (v := 0) S.1 S.2.1 dL_law_12 (by decide) ?_
  refine lv_istore (lv' := [(4, .int 0), (3, .int 0), (2, .int 0), (1, .ref x0), (0, .ref b)]) S.1 S.2.1 dL_law_13 hl (by decide) rfl (fun ls hl => ?_)
  refine lv_iconst (v := 0) S.1 S.2.1 dL_law_15 (by decide) ?_
  refine lv_istore (lv' := [(5, .int 0), (4, .int 0), (3, .int 0), (2, .int 0), (1, .ref x0), (0, .ref b)]) S.1 S.2.1 dL_law_16 hl (by decide) rfl (fun ls hl => ?_)
  refine lv_iconst (v := 0) S.1 S.2.1 dL_law_18 (by decide) ?_
  refine lv_istore (lv' := [(6, .int 0), (5, .int 0), (4, .int 0), (3, .int 0), (2, .int 0), (1, .ref x0), (0, .ref b)]) S.1 S.2.1 dL_law_19 hl (by decide) rfl (fun ls hl => ?_)
  refine lv_bipush (v := 8) S.1 S.2.1 dL_law_21 (by decide) ?_
  refine r_inew S hg hS hw 16 0 (n := 8) (N := 8) u88 (by decide) (by decide) (by decide) (Nat.le_of_ble_eq_true rfl) (Nat.le_of_ble_eq_true rfl) dL_law_23 (fun x16 H hw hS => ?_)
  refine lv_astore (lv' := [(7, .ref x16), (6, .int 0), (5, .int 0), (4, .int 0), (3, .int 0), (2, .int 0), (1, .ref x0), (0, .ref b)]) S.1 S.2.1 dL_law_25 hl (by decide) rfl (fun ls hl => ?_)
  refine lv_iconst (v := 0) S.1 S.2.1 dL_law_27 (by decide) ?_
  refine lv_istore (lv' := [(8, .int 0), (7, .ref x16), (6, .int 0), (5, .int 0), (4, .int 0), (3, .int 0), (2, .int 0), (1, .ref x0), (0, .ref b)]) S.1 S.2.1 dL_law_28 hl (by decide) rfl (fun ls hl => ?_)
  have ht := ht00 (cI := cI) (e0 := e0) hw (List.forall_mem_cons.mpr ⟨Or.inl (Or.inl (Or.inl (Or.inl (Or.inl (Or.inl (Or.inl (Or.inl (Or.inl (Or.inl (Or.inl (Or.inl (Or.inr ⟨rfl, rfl⟩)))))))))))), List.forall_mem_cons.mpr ⟨Or.inl (Or.inl (Or.inl (Or.inl (Or.inl (Or.inl (Or.inr ⟨rfl, rfl⟩)))))), List.forall_mem_cons.mpr ⟨Or.inl (Or.inl (Or.inl (Or.inl (Or.inr ⟨rfl, rfl⟩)))), List.forall_mem_cons.mpr ⟨Or.inl (Or.inl (Or.inl (Or.inl (Or.inl (Or.inl (Or.inl (Or.inl (Or.inl (Or.inl (Or.inr ⟨rfl, rfl⟩)))))))))), List.forall_mem_cons.mpr ⟨Or.inl (Or.inl (Or.inl (Or.inl (Or.inl (Or.inl (Or.inl (Or.inl (Or.inl (Or.inr ⟨rfl, rfl⟩))))))))), List.forall_mem_cons.mpr ⟨Or.inl (Or.inl (Or.inl (Or.inl (Or.inl (Or.inl (Or.inl (Or.inl (Or.inr ⟨rfl, rfl⟩)))))))), List.forall_mem_cons.mpr ⟨Or.inl (Or.inl (Or.inl (Or.inl (Or.inl (Or.inl (Or.inl (Or.inr ⟨rfl, rfl⟩))))))), List.forall_mem_cons.mpr ⟨Or.inl (Or.inl (Or.inl (Or.inl (Or.inl (Or.inl (Or.inl (Or.inl (Or.inl (Or.inl (Or.inl (Or.inr ⟨rfl, rfl⟩))))))))))), List.forall_mem_cons.mpr ⟨Or.inl (Or.inr ⟨rfl, rfl⟩), List.forall_mem_cons.mpr ⟨Or.inl (Or.inl (Or.inl (Or.inr ⟨rfl, rfl⟩))), List.forall_mem_cons.mpr ⟨Or.inl (Or.inl (Or.inr ⟨rfl, rfl⟩)), List.forall_mem_cons.mpr ⟨Or.inl (Or.inl (Or.inl (Or.inl (Or.inl (Or.inr ⟨rfl, rfl⟩))))), List.forall_mem_cons.mpr ⟨Or.inr ⟨rfl, rfl⟩, fun _ h => absurd h List.not_mem_nil⟩⟩⟩⟩⟩⟩⟩⟩⟩⟩⟩⟩⟩) (List.forall_mem_cons.mpr ⟨rfl, List.forall_mem_cons.mpr ⟨rfl, List.forall_mem_cons.mpr ⟨rfl, List.forall_mem_cons.mpr ⟨rfl, List.forall_mem_cons.mpr ⟨rfl, List.forall_mem_cons.mpr ⟨rfl, List.forall_mem_cons.mpr ⟨rfl, List.forall_mem_cons.mpr ⟨rfl, List.forall_mem_cons.mpr ⟨rfl, List.forall_mem_cons.mpr ⟨rfl, List.forall_mem_cons.mpr ⟨rfl, List.forall_mem_cons.mpr ⟨rfl, List.forall_mem_cons.mpr ⟨rfl, fun _ h => absurd h List.not_mem_nil⟩⟩⟩⟩⟩⟩⟩⟩⟩⟩⟩⟩⟩)
  have hl := lv_sub hl [8, 7, 6, 5, 4, 3, 2, 1, 0] rfl
  obtain ⟨n, hI⟩ := hI
  exact bL_law_30 (K := K00) (M := M00) (ap := 0) (o := 0) (od := 0) ⟨hfl, C0, hg, hL, fun q h => h⟩ n hS ht hl (Nat.le_of_ble_eq_true rfl) (Nat.le_of_ble_eq_true rfl) hI
