/-! rollBack, the reference's way to its two phases. -/
theorem ml_rb {post : Int32 → KS → Int64 → Prop} {K M : KS} {ap : Int64} {nd d s : Nat} {sn : Nat → Nat} (nd3 : M 3 13 0 = nI nd) (nd4 : nd ≤ 8) (n1 : ∀ d, d < 8 → M 16 26 d = nI (sn d) ∧ sn d ≤ 6) (hd : d < nd) (hs : s < sn d) (eM : ∀ e, e < nd → K 7 0 (2 * e) = M 16 14 e ∧ K 7 0 (2 * e + 1) = M 16 15 e ∧ K 6 2 e = M 13 16 e) (f2 : (K 6 2 d = 111 ∨ K 6 2 d = 102) → wpX7_fails post (k3 M 3 0 0 0) ap 2) (f3 : ¬ K 6 2 d = 111 → ¬ K 6 2 d = 102 → ((∃ e, e < nd ∧ e ≠ d ∧ bzd K (K 7 0 (2 * d)) e) ∨ (∃ e, e < nd ∧ e ≠ d ∧ bzd K (K 7 0 (2 * d + 1)) e)) → wpX7_fails post (k3 M 3 0 0 0) ap 3) (fg : ¬ K 6 2 d = 111 → ¬ K 6 2 d = 102 → (∀ e, e < nd → e ≠ d → ¬ bzd K (K 7 0 (2 * d)) e) → (∀ e, e < nd → e ≠ d → ¬ bzd K (K 7 0 (2 * d + 1)) e) → ¬ K 6 2 d = 101 → wX7_rollBack_106 post (nI d) (nI s) 0 (k3 M 3 0 0 0) ap) (fe : (∀ e, e < nd → e ≠ d → ¬ bzd K (K 7 0 (2 * d)) e) → (∀ e, e < nd → e ≠ d → ¬ bzd K (K 7 0 (2 * d + 1)) e) → K 6 2 d = 101 → wpX7_undoes (fun r36 M37 ap38 => wpX7_restakes (fun _ M39 ap40 => wX7_rollBack_106 post (nI d) (nI s) r36 M39 ap40) M37 ap38 (nI d)) (k3 M 3 0 0 0) ap (nI d)) : wpX7_rollBack post M ap (nI d) (nI s) := by
  have hs6 := (n1 d (by omega)).2
  have e16 : (k3 M 3 0 0 0) 13 16 (nI d).toNatClampNeg = K 6 2 d := by rw [nI_clamp (by omega)]; exact (eM d hd).2.2.symm
  have e14 : (k3 M 3 0 0 0) 16 14 (nI d).toNatClampNeg = K 7 0 (2 * d) := by rw [nI_clamp (by omega)]; exact (eM d hd).1.symm
  have e15 : (k3 M 3 0 0 0) 16 15 (nI d).toNatClampNeg = K 7 0 (2 * d + 1) := by rw [nI_clamp (by omega)]; exact (eM d hd).2.1.symm
  have hne : ∀ e, e < nd → nI e ≠ nI d → e ≠ d := fun e _ q z => q (by rw [z])
  have hne2 : ∀ e, e < nd → e ≠ d → nI e ≠ nI d := fun e he q z => q ((nI_eq (by omega) (by omega)).mp z)
  unfold wpX7_rollBack
  refine ms_snap (M := k3 M 3 0 0 0) (n := nd) (sn := sn) nd3 nd4 (fun e he => (n1 e he).1) (fun e he => (n1 e he).2) (fun d2 s2 hd2 hs2 z1 z2 => ⟨fun _ => ⟨vp_in_nI (by omega) (by omega), ?_⟩, fun q => absurd q (by decide)⟩) (fun z => absurd rfl (z d s hd hs rfl))
  rw [e16, e14, e15]
  refine ⟨fun q => f2 (Or.inl q), fun q1 => ⟨fun q2 => ⟨vp_in_nI (by omega) (by omega), ?_⟩, fun q => f2 (Or.inr q)⟩⟩
  unfold wpX7_isBusy
  refine ⟨nd + 1, ml_busy (M := k3 M 3 0 0 0) (K := K) nd3 nd4 eM (fun e he n b => ⟨fun _ => f3 q1 q2 (Or.inl ⟨e, he, hne e he n, b⟩), fun q => absurd q (by decide)⟩) (fun b1 => ⟨fun q => absurd rfl q, fun _ => ⟨vp_in_nI (by omega) (by omega), ?_⟩⟩) nd 0 (by omega) (fun e he => absurd he (Nat.not_lt_zero e))⟩
  refine ⟨nd + 1, ml_busy (M := k3 M 3 0 0 0) (K := K) nd3 nd4 eM (fun e he n b => ⟨fun q => absurd q (by decide), fun _ => f3 q1 q2 (Or.inr ⟨e, he, hne e he n, b⟩)⟩) (fun b2 => ⟨fun _ => ⟨fun z => ?_, fun z => ?_⟩, fun q => absurd rfl q⟩) nd 0 (by omega) (fun e he => absurd he (Nat.not_lt_zero e))⟩
  · exact fg q1 q2 (fun e he n => b1 e he (hne2 e he n)) (fun e he n => b2 e he (hne2 e he n)) z
  · exact fe (fun e he n => b1 e he (hne2 e he n)) (fun e he n => b2 e he (hne2 e he n)) z
