/-! A world as a map from names (a kind and a number) to cells: where each lies (adr), what each holds (G). -/
def hU {α : Type} (f : Nat → Nat → α) (k i : Nat) (v : α) : Nat → Nat → α := fun k' i' => if k' = k ∧ i' = i then v else f k' i'
theorem hU_s {α : Type} (f : Nat → Nat → α) (k i : Nat) (v : α) : hU f k i v k i = v := by simp [hU]
theorem hU_n {α : Type} (f : Nat → Nat → α) {k i k' i' : Nat} (v : α) (h : ¬ (k' = k ∧ i' = i)) : hU f k i v k' i' = f k' i' := by simp [hU, h]
def hws (ids : List (Nat × Nat)) (adr : Nat → Nat → Nat) (G : Nat → Nat → va_E) : va_W := ids.map (fun q => (adr q.1 q.2, G q.1 q.2))
theorem va_P_iff {D : va_G} {cl : List vw_C} {ws : va_W} {H : Heap} : va_P D cl ws H ↔ ∀ q ∈ ws, va_at D cl q H := by
  constructor
  · intro h q hq
    obtain ⟨i, hi⟩ := List.getElem?_of_mem hq
    exact h i q hi
  · intro h k q hk
    exact h q (List.mem_of_getElem? hk)
theorem va_D_iff {A : Nat → Prop} {ws : va_W} : va_D A ws ↔ (ws.map Prod.fst).Nodup ∧ ∀ q ∈ ws, A q.1 := by
  constructor
  · intro h
    refine ⟨?_, fun q hq => ?_⟩
    · refine List.pairwise_iff_getElem.mpr ?_
      intro i j hi hj hij e
      rw [List.length_map] at hi hj
      rw [List.getElem_map, List.getElem_map] at e
      have := h.1 i j _ _ (List.getElem?_eq_getElem hi) (List.getElem?_eq_getElem hj) e
      omega
    · obtain ⟨i, hi⟩ := List.getElem?_of_mem hq
      exact h.2 i q hi
  · intro h
    refine ⟨?_, fun k q hk => h.2 q (List.mem_of_getElem? hk)⟩
    intro i j p q hi hj e
    have h1 := List.pairwise_iff_getElem.mp h.1
    obtain ⟨li, ei⟩ := List.getElem?_eq_some_iff.mp hi
    obtain ⟨lj, ej⟩ := List.getElem?_eq_some_iff.mp hj
    have li2 : i < (ws.map Prod.fst).length := by rw [List.length_map]; exact li
    have lj2 : j < (ws.map Prod.fst).length := by rw [List.length_map]; exact lj
    rcases Nat.lt_trichotomy i j with t | t | t
    · exact absurd (by rw [List.getElem_map, List.getElem_map, ei, ej]; exact e) (h1 i j li2 lj2 t)
    · exact t
    · exact absurd (by rw [List.getElem_map, List.getElem_map, ei, ej]; exact e.symm) (h1 j i lj2 li2 t)
/-- the world: the names that live are among ids; each lies in the heap; the addresses are apart, and in A -/
def HW (D : va_G) (A : Nat → Prop) (live : Nat → Nat → Prop) (adr : Nat → Nat → Nat) (G : Nat → Nat → va_E) (H : Heap) : Prop :=
  ∃ ids : List (Nat × Nat), (∀ k i, live k i → (k, i) ∈ ids) ∧ va_P D vwCl (hws ids adr G) H ∧ va_D A (hws ids adr G)
theorem HW.weak {D : va_G} {A : Nat → Prop} {live live' : Nat → Nat → Prop} {adr : Nat → Nat → Nat} {G : Nat → Nat → va_E} {H : Heap} (h : HW D A live adr G H) (hl : ∀ k i, live' k i → live k i) : HW D A live' adr G H := by
  obtain ⟨ids, h1, h2, h3⟩ := h
  exact ⟨ids, fun k i q => h1 k i (hl k i q), h2, h3⟩
theorem HW.only {D : va_G} {A : Nat → Prop} {live : Nat → Nat → Prop} {adr adr' : Nat → Nat → Nat} {G G' : Nat → Nat → va_E} {H : Heap} (h : HW D A live adr G H) (ha : ∀ k i, live k i → adr' k i = adr k i) (hG : ∀ k i, live k i → G' k i = G k i) : HW D A live adr' G' H := by
  obtain ⟨ids, h1, h2, h3⟩ := h
  let P : Nat × Nat → Bool := fun q => @decide (live q.1 q.2) (Classical.propDecidable _)
  have hP : ∀ q, P q = true ↔ live q.1 q.2 := fun q => by simp [P]
  have e : hws (ids.filter P) adr' G' = hws (ids.filter P) adr G := by
    unfold hws
    apply List.map_congr_left
    intro q hq
    have := (hP q).mp (List.mem_filter.mp hq).2
    rw [ha _ _ this, hG _ _ this]
  have hs : List.Sublist (hws (ids.filter P) adr G) (hws ids adr G) := List.Sublist.map _ List.filter_sublist
  refine ⟨ids.filter P, fun k i q => List.mem_filter.mpr ⟨h1 k i q, (hP _).mpr q⟩, ?_, ?_⟩
  · rw [e]
    exact va_P_iff.mpr fun q hq => va_P_iff.mp h2 q (hs.subset hq)
  · rw [e]
    have h4 := va_D_iff.mp h3
    exact va_D_iff.mpr ⟨List.Nodup.sublist (hs.map Prod.fst) h4.1, fun q hq => h4.2 q (hs.subset hq)⟩
theorem HW.same {D : va_G} {A : Nat → Prop} {live live' : Nat → Nat → Prop} {adr adr' : Nat → Nat → Nat} {G G' : Nat → Nat → va_E} {H : Heap} (h : HW D A live adr G H) (hl : ∀ k i, live' k i → live k i) (ha : ∀ k i, live' k i → adr' k i = adr k i) (hG : ∀ k i, live' k i → G' k i = G k i) : HW D A live' adr' G' H := (h.weak hl).only ha hG
theorem hws_at {ids : List (Nat × Nat)} {adr : Nat → Nat → Nat} {G : Nat → Nat → va_E} {k i : Nat} (h : (k, i) ∈ ids) : ∃ n : Nat, ids[n]? = some (k, i) ∧ (hws ids adr G)[n]? = some (adr k i, G k i) := by
  obtain ⟨n, hn⟩ := List.getElem?_of_mem h
  exact ⟨n, hn, by simp [hws, hn]⟩
theorem hws_set {A : Nat → Prop} {ids : List (Nat × Nat)} {adr : Nat → Nat → Nat} {G : Nat → Nat → va_E} {k i n : Nat} (hD : va_D A (hws ids adr G)) (hn : ids[n]? = some (k, i)) (e : va_E) : (hws ids adr G).set n (adr k i, e) = hws ids adr (hU G k i e) := by
  have hN : (hws ids adr G)[n]? = some (adr k i, G k i) := by simp [hws, hn]
  apply List.ext_getElem?
  intro j
  rw [List.getElem?_set]
  by_cases hj : n = j
  · subst hj
    have hl : n < (hws ids adr G).length := by
      rcases Nat.lt_or_ge n (hws ids adr G).length with q | q
      · exact q
      · rw [List.getElem?_eq_none q] at hN; cases hN
    rw [if_pos rfl, if_pos hl]
    simp [hws, hn, hU]
  · rw [if_neg hj]
    cases hq : ids[j]? with
    | none => simp [hws, hq]
    | some q =>
      have hQ : (hws ids adr G)[j]? = some (adr q.1 q.2, G q.1 q.2) := by simp [hws, hq]
      have hne : ¬ (q.1 = k ∧ q.2 = i) := by
        rintro ⟨rfl, rfl⟩
        exact hj (hD.1 n j _ _ hN hQ rfl)
      simp [hws, hq, hU, hne]
theorem HW.set {D : va_G} {A : Nat → Prop} {live : Nat → Nat → Prop} {adr : Nat → Nat → Nat} {G : Nat → Nat → va_E} {H1 : Heap} {ids : List (Nat × Nat)} {k i n : Nat} {e : va_E} (h0 : va_D A (hws ids adr G)) (h1 : ∀ k i, live k i → (k, i) ∈ ids) (hn : ids[n]? = some (k, i)) (hP : va_P D vwCl ((hws ids adr G).set n (adr k i, e)) H1) (hD : va_D A ((hws ids adr G).set n (adr k i, e))) : HW D A live adr (hU G k i e) H1 := by
  rw [hws_set h0 hn e] at hP hD
  exact ⟨ids, h1, hP, hD⟩
/-- a cell more, under a name that is new, or whose cell is forgotten by that -/
theorem HW.push {D : va_G} {A : Nat → Prop} {live live' : Nat → Nat → Prop} {adr : Nat → Nat → Nat} {G : Nat → Nat → va_E} {H1 : Heap} {ids : List (Nat × Nat)} {k i q : Nat} {e : va_E} (h1 : ∀ k i, live k i → (k, i) ∈ ids) (hP : va_P D vwCl (hws ids adr G ++ [(q, e)]) H1) (hD : va_D A (hws ids adr G ++ [(q, e)])) (hl : ∀ k' i', live' k' i' → live k' i' ∨ (k' = k ∧ i' = i)) : HW D A live' (hU adr k i q) (hU G k i e) H1 := by
  have hs : List.Sublist (hws (ids.filter (fun z => !decide (z.1 = k ∧ z.2 = i))) adr G ++ [(q, e)]) (hws ids adr G ++ [(q, e)]) := List.Sublist.append (List.Sublist.map _ List.filter_sublist) (List.Sublist.refl _)
  have e1 : hws (ids.filter (fun z => !decide (z.1 = k ∧ z.2 = i)) ++ [(k, i)]) (hU adr k i q) (hU G k i e) = hws (ids.filter (fun z => !decide (z.1 = k ∧ z.2 = i))) adr G ++ [(q, e)] := by
    unfold hws
    rw [List.map_append]
    congr 1
    · apply List.map_congr_left
      intro z hz
      have hz2 := (List.mem_filter.mp hz).2
      have hne : ¬ (z.1 = k ∧ z.2 = i) := by
        intro hh
        rw [decide_eq_true hh] at hz2
        cases hz2
      rw [hU_n _ _ hne, hU_n _ _ hne]
    · simp [hU]
  refine ⟨ids.filter (fun z => !decide (z.1 = k ∧ z.2 = i)) ++ [(k, i)], ?_, ?_, ?_⟩
  · intro k' i' h
    by_cases c : k' = k ∧ i' = i
    · obtain ⟨rfl, rfl⟩ := c
      simp
    · rcases hl k' i' h with h | h
      · exact List.mem_append_left _ (List.mem_filter.mpr ⟨h1 _ _ h, by simp [c]⟩)
      · exact absurd h c
  · rw [e1]
    exact va_P_iff.mpr fun z hz => va_P_iff.mp hP z (hs.subset hz)
  · rw [e1]
    have h4 := va_D_iff.mp hD
    exact va_D_iff.mpr ⟨List.Nodup.sublist (hs.map Prod.fst) h4.1, fun z hz => h4.2 z (hs.subset hz)⟩
