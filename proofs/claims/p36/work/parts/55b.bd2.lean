/-! Bounds of the coins behind a rollback. -/
theorem bd_up {np B B2 : Nat} {K : KS} (h : B ≤ B2) (hb : BD np B K) : BD np B2 K :=
  ⟨fun p hp => ⟨(hb.1 p hp).1, by have := (hb.1 p hp).2; omega⟩, hb.2.1, by have := hb.2.2; omega⟩
theorem bd_undo {K : KS} {np ns no d r2 : Nat} {sl : Nat → Nat} {F3 : Nat → Int32} {y : LXp} (hns : ns ≤ 60) (h : ∀ j, j < ns → ∃ x, 1 ≤ x ∧ x ≤ 999 ∧ K 5 1 (sl j) = nI x) (B : Nat) (hB : B < 2 ^ 30) (hb : BD np B K) : BD np (B + 60000) (kH (kr (oZ (uP K d sl ns) d no) 4 3 F3) r2 y) := by
  have hx : ∀ x : Nat, x ≤ 999 → (nI x).toInt = (x : Int) := fun x hx => nI_toInt (by omega)
  refine ⟨fun p hp => ?_, ?_⟩
  · have hs := sumI_bd (f := fun i => fBu K d p (sl i)) (c := 999) ns hns (by omega) (fun i hi => by
      obtain ⟨x, x1, x2, x3⟩ := h i hi
      show 0 ≤ (fBu K d p (sl i)).toInt ∧ (fBu K d p (sl i)).toInt ≤ _
      unfold fBu
      split
      · rw [x3, hx _ x2]
        omega
      · exact ⟨by decide, by decide⟩)
    have hb1 := hb.1 p hp
    have e2 : (K 10 0 p + sumI (fun i => fBu K d p (sl i)) ns).toInt = _ := toInt_addS rfl rfl (by omega) (by omega)
    show 0 ≤ (K 10 0 p + sumI (fun i => fBu K d p (sl i)) ns).toInt ∧ (K 10 0 p + sumI (fun i => fBu K d p (sl i)) ns).toInt ≤ _
    rw [e2]
    omega
  · have hb1 := hb.2
    show 0 ≤ (K 0 3 0).toInt ∧ (K 0 3 0).toInt ≤ _
    omega
