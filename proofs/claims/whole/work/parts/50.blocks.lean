/-! The number of blocks. -/
def nzc (f : Nat → Nat) : Nat → Nat
  | 0 => 0
  | n + 1 => nzc f n + if f n = 0 then 0 else 1
def fB (p : Nat → Bool) (bl : Nat → Nat) : Nat → Nat
  | 0 => 0
  | R + 1 => fB p bl R + if p R = true ∧ refB p bl (bl R) R = 0 then 1 else 0
theorem nzc_cong {f g : Nat → Nat} {n : Nat} (h : ∀ i, i < n → f i = g i) : nzc f n = nzc g n := by
  induction n with
  | zero => rfl
  | succ n ih =>
    show nzc f n + (if f n = 0 then 0 else 1) = nzc g n + (if g n = 0 then 0 else 1)
    rw [ih (fun i hi => h i (by omega)), h n (by omega)]
theorem nzc_zero {f : Nat → Nat} {n : Nat} (h : ∀ i, i < n → f i = 0) : nzc f n = 0 := by
  induction n with
  | zero => rfl
  | succ n ih =>
    show nzc f n + (if f n = 0 then 0 else 1) = 0
    rw [ih (fun i hi => h i (by omega)), if_pos (h n (by omega))]
theorem nzc_up {f g : Nat → Nat} {b0 n : Nat} (hb : b0 < n) (hg : g b0 ≠ 0) (h : ∀ i, i ≠ b0 → g i = f i) : nzc g n = nzc f n + if f b0 = 0 then 1 else 0 := by
  induction n with
  | zero => omega
  | succ n ih =>
    show nzc g n + (if g n = 0 then 0 else 1) = nzc f n + (if f n = 0 then 0 else 1) + if f b0 = 0 then 1 else 0
    by_cases q : b0 = n
    · subst q
      rw [nzc_cong (f := g) (g := f) (fun i hi => h i (by omega)), if_neg hg]
      by_cases z : f b0 = 0
      · rw [if_pos z, if_pos z]
      · rw [if_neg z, if_neg z]
    · rw [ih (by omega), h n (fun e => q e.symm)]
      omega
theorem nzc_fB {p : Nat → Bool} {bl : Nat → Nat} {m : Nat} (hb : ∀ R, R < m → p R = true → bl R < m) : ∀ N, N ≤ m → nzc (fun b => refB p bl b N) m = fB p bl N := by
  intro N
  induction N with
  | zero =>
    intro _
    exact nzc_zero (fun i _ => rfl)
  | succ N ih =>
    intro hN
    have e := ih (by omega)
    show _ = fB p bl N + if p N = true ∧ refB p bl (bl N) N = 0 then 1 else 0
    by_cases q : p N = true
    · rw [nzc_up (f := fun b => refB p bl b N) (g := fun b => refB p bl b (N + 1)) (b0 := bl N) (n := m) (hb N (by omega) q), e]
      · by_cases z : refB p bl (bl N) N = 0
        · rw [if_pos z, if_pos ⟨q, z⟩]
        · rw [if_neg z, if_neg (fun y => z y.2)]
      · show refB p bl (bl N) N + (if p N = true ∧ bl N = bl N then 1 else 0) ≠ 0
        rw [if_pos ⟨q, rfl⟩]
        omega
      · intro i hi
        show refB p bl i N + (if p N = true ∧ bl N = i then 1 else 0) = refB p bl i N
        rw [if_neg (fun y => hi y.2.symm), Nat.add_zero]
    · rw [if_neg (fun y => q y.1), Nat.add_zero, ← e]
      refine nzc_cong (f := fun b => refB p bl b (N + 1)) (g := fun b => refB p bl b N) (fun i _ => ?_)
      show refB p bl i N + (if p N = true ∧ bl N = i then 1 else 0) = refB p bl i N
      rw [if_neg (fun y => q y.1), Nat.add_zero]
theorem fB_le (p : Nat → Bool) (bl : Nat → Nat) (N : Nat) : fB p bl N ≤ N := by
  induction N with
  | zero => exact Nat.le_refl 0
  | succ N ih =>
    show fB p bl N + (if p N = true ∧ refB p bl (bl N) N = 0 then 1 else 0) ≤ N + 1
    by_cases q : p N = true ∧ refB p bl (bl N) N = 0
    · rw [if_pos q]
      omega
    · rw [if_neg q]
      omega
theorem nzc_le (f : Nat → Nat) (n : Nat) : nzc f n ≤ n := by
  induction n with
  | zero => exact Nat.le_refl 0
  | succ n ih =>
    show nzc f n + (if f n = 0 then 0 else 1) ≤ n + 1
    by_cases q : f n = 0
    · rw [if_pos q]
      omega
    · rw [if_neg q]
      omega
theorem cl_kept {post : Int32 → Prop} {K : KS} {f : Nat → Nat} (hk : ∀ b, b < 288 → K 10 3 b = nI (f b) ∧ f b ≤ 288) (hp : post (nI (nzc f 288))) : ∀ m i, i + m = 288 → wX0_countKept_4 post (m + 1) (nI (nzc f i)) (nI i) K := by
  intro m
  induction m with
  | zero =>
    intro i hi
    have hi2 : i = 288 := by omega
    subst hi2
    unfold wX0_countKept_4
    exact ⟨fun _ => hp, fun z => absurd (nI_le (a := 288) (b := 288) (by omega) (by omega)) z⟩
  | succ m ih =>
    intro i hi
    have a := ih (i + 1) (by omega)
    have b := hk i (by omega)
    unfold wX0_countKept_4
    rw [nI_clamp (n := i) (by omega), b.1]
    refine ⟨fun z => absurd z (nI_ge (a := i) (b := 288) (by omega) (by omega)), fun _ => ⟨vp_in_nI (by omega) (by omega), fun z => ?_, fun z => ?_⟩⟩
    · unfold wX0_countKept_23
      have e : f i = 0 := by
        have := (nI_leI (a := f i) (b := 0) (by omega) (by omega)).mp z
        omega
      have e2 : nzc f (i + 1) = nzc f i := by
        show nzc f i + (if f i = 0 then 0 else 1) = _
        rw [if_pos e, Nat.add_zero]
      rw [e2, ← nI_1 (a := i)] at a
      exact a
    · unfold wX0_countKept_23
      have e : ¬ f i = 0 := fun w => z (by rw [w]; exact Int32.le_refl 0)
      have e2 : nI (nzc f (i + 1)) = nI (nzc f i) + 1 := by
        rw [nI_1]
        show nI (nzc f i + (if f i = 0 then 0 else 1)) = _
        rw [if_neg e]
      rw [e2, ← nI_1 (a := i)] at a
      exact a
theorem div36 {x : Nat} (h : x < 600) : nI x / 36 = nI (x / 36) := pk_div (a := x) (d := 36) (by omega) (by omega) (by omega)
theorem div6 {x : Nat} (h : x < 600) : nI x / 6 = nI (x / 6) := pk_div (a := x) (d := 6) (by omega) (by omega) (by omega)
theorem rem6 {x : Nat} (h : x < 600) : nI x - nI x / 6 * 6 = nI (x % 6) := pk_rem (a := x) (d := 6) (by omega) (by omega) (by omega)
theorem ml_kept {post : Int32 → Prop} {M : KS} {ap : Int64} {sn : Nat → Nat} {R : Nat} (hR : R < 288) (hs : ∀ d, d < 8 → M 16 26 d = nI (sn d) ∧ sn d ≤ 6) (h1 : kpB sn R = true → post 1) (h0 : ¬ kpB sn R = true → post 0) : wpX7_isKept post M ap (nI R) := by
  have a := hs (R / 36) (by omega)
  unfold wpX7_isKept
  rw [div36 (by omega), div6 (by omega), rem6 (by omega), nI_clamp (n := R / 36) (by omega), a.1]
  have e : kpB sn R = true ↔ R / 6 % 6 < sn (R / 36) := by
    unfold kpB
    exact decide_eq_true_iff
  refine ⟨vp_in_nI (by omega) (by omega), fun z => h0 (fun y => ?_), fun z => h1 (e.mpr ?_)⟩
  · have := (nI_leI (a := sn (R / 36)) (b := R / 6 % 6) (by omega) (by omega)).mp z
    have := e.mp y
    omega
  · refine Nat.lt_of_not_le (fun w => z (nI_le w (by omega)))
theorem ml_like {post : Int32 → KS → Int64 → Prop} {bk9 : Int32 → Int32 → KS → Int64 → Prop} {bk25 : Int32 → Int32 → Int32 → Int32 → KS → Int64 → Prop} {M : KS} {ap : Int64} {l1 : Int32} {R R2 : Nat} {Q : Prop} (hR : R < 288) (hR2 : R2 < 288) (hA : (Q ∧ ∀ j, j < 4 → M 16 27 (4 * R2 + j) = M 16 27 (4 * R + j)) → bk25 l1 (nI R) 0 (nI (R2 + 1)) M ap) (hB : ¬ (Q ∧ ∀ j, j < 4 → M 16 27 (4 * R2 + j) = M 16 27 (4 * R + j)) → bk25 l1 (nI R) 1 (nI (R2 + 1)) M ap) : ∀ r i v, i + r = 4 → (¬ v = 0 ↔ (Q ∧ ∀ j, j < i → M 16 27 (4 * R2 + j) = M 16 27 (4 * R + j))) → wX7_blocks_46 post bk9 bk25 (r + 1) l1 (nI R) (nI R2) v (nI i) M ap := by
  intro r
  induction r with
  | zero =>
    intro i v hi hv
    have hi2 : i = 4 := by omega
    subst hi2
    unfold wX7_blocks_46
    refine ⟨fun _ => ⟨fun z => ?_, fun z => ?_⟩, fun z => absurd (nI_le (a := 4) (b := 4) (by omega) (by omega)) z⟩
    · unfold wX7_blocks_106
      rw [nI_1]
      exact hA (hv.mp z)
    · unfold wX7_blocks_106
      rw [nI_1]
      exact hB (fun y => hv.mpr y z)
  | succ r ih =>
    intro i v hi hv
    unfold wX7_blocks_46
    rw [ix4, ix4, nI_clamp (n := 4 * R2 + i) (by omega), nI_clamp (n := 4 * R + i) (by omega)]
    refine ⟨fun z => absurd z (nI_ge (a := i) (b := 4) (by omega) (by omega)), fun _ => ⟨fun z => ?_, fun z => ⟨vp_in_nI (by omega) (by omega), vp_in_nI (by omega) (by omega), fun w => ?_, fun w => ?_⟩⟩⟩
    · unfold wX7_blocks_87 wX7_blocks_88
      rw [nI_1]
      exact ih (i + 1) 0 (by omega) ⟨fun y => absurd rfl y, fun y => absurd z (hv.mpr ⟨y.1, fun j hj => y.2 j (by omega)⟩)⟩
    · unfold wX7_blocks_87 wX7_blocks_88
      rw [nI_1]
      exact ih (i + 1) 0 (by omega) ⟨fun y => absurd rfl y, fun y => absurd (y.2 i (by omega)) w⟩
    · unfold wX7_blocks_88
      rw [nI_1]
      refine ih (i + 1) 1 (by omega) ⟨fun _ => ⟨(hv.mp z).1, fun j hj => ?_⟩, fun _ => by decide⟩
      rcases Nat.lt_or_ge j i with y | y
      · exact (hv.mp z).2 j y
      · rw [show j = i by omega]
        exact w
theorem ml_first {post : Int32 → KS → Int64 → Prop} {bk9 : Int32 → Int32 → KS → Int64 → Prop} {M : KS} {ap : Int64} {l1 : Int32} {R : Nat} {sn bl : Nat → Nat} (hR : R < 288) (hs : ∀ d, d < 8 → M 16 26 d = nI (sn d) ∧ sn d ≤ 6) (hq : ∀ R R2, R < 288 → R2 < 288 → kpB sn R = true → kpB sn R2 = true → ((∀ j, j < 4 → M 16 27 (4 * R2 + j) = M 16 27 (4 * R + j)) ↔ bl R2 = bl R)) (hA : (kpB sn R = true ∧ refB (kpB sn) bl (bl R) R = 0) → bk9 (l1 + 1) (nI (R + 1)) M ap) (hB : ¬ (kpB sn R = true ∧ refB (kpB sn) bl (bl R) R = 0) → bk9 l1 (nI (R + 1)) M ap) : ∀ r i v, i + r = R → (¬ v = 0 ↔ (kpB sn R = true ∧ refB (kpB sn) bl (bl R) i = 0)) → wX7_blocks_25 post bk9 (r + 1) l1 (nI R) v (nI i) M ap := by
  have mono : ∀ a b, a ≤ b → refB (kpB sn) bl (bl R) b = 0 → refB (kpB sn) bl (bl R) a = 0 := by
    intro a b hab hz
    induction b with
    | zero =>
      rw [show a = 0 by omega]
      rfl
    | succ b ih =>
      have hz2 : refB (kpB sn) bl (bl R) b + (if kpB sn b = true ∧ bl b = bl R then 1 else 0) = 0 := hz
      rcases Nat.lt_or_ge a (b + 1) with y | y
      · exact ih (by omega) (by omega)
      · rw [show a = b + 1 by omega]
        exact hz
  intro r
  induction r with
  | zero =>
    intro i v hi hv
    have hi2 : i = R := by omega
    subst hi2
    unfold wX7_blocks_25
    refine ⟨fun _ => ?_, fun z => absurd (nI_le (a := i) (b := i) (by omega) (by omega)) z⟩
    unfold wX7_blocks_113 wX7_blocks_123
    rw [nI_1, Int32.add_zero]
    exact ⟨fun z => hB (fun y => hv.mpr y z), fun z => hA (hv.mp z)⟩
  | succ r ih =>
    intro i v hi hv
    unfold wX7_blocks_25
    refine ⟨fun z => absurd z (nI_ge (a := i) (b := R) (by omega) (by omega)), fun _ => ⟨fun z => ?_, fun z => ?_⟩⟩
    · unfold wX7_blocks_113 wX7_blocks_123
      rw [nI_1, Int32.add_zero]
      exact ⟨fun _ => hB (fun y => hv.mpr ⟨y.1, mono i R (by omega) y.2⟩ z), fun y => absurd z y⟩
    · have hv2 := hv.mp z
      have st : refB (kpB sn) bl (bl R) (i + 1) = (if kpB sn i = true ∧ bl i = bl R then 1 else 0) := by
        show refB (kpB sn) bl (bl R) i + (if kpB sn i = true ∧ bl i = bl R then 1 else 0) = _
        rw [hv2.2, Nat.zero_add]
      have fin : ∀ v0 : Int32, (¬ v0 = 0 ↔ kpB sn i = true) → ∃ n1 : Nat, wX7_blocks_46 post bk9 (wX7_blocks_25 post bk9 (r + 1)) n1 l1 (nI R) (nI i) v0 0 M ap := by
        intro v0 hv0
        refine ⟨4 + 1, ml_like (Q := kpB sn i = true) (R := R) (R2 := i) (by omega) (by omega) (fun y => ?_) (fun y => ?_) 4 0 v0 rfl ⟨fun y => ⟨hv0.mp y, fun j hj => absurd hj (Nat.not_lt_zero j)⟩, fun y => hv0.mpr y.1⟩⟩
        · refine ih (i + 1) 0 (by omega) ⟨fun w => absurd rfl w, fun w => ?_⟩
          rw [st, if_pos ⟨y.1, (hq R i (by omega) (by omega) hv2.1 y.1).mp y.2⟩] at w
          exact absurd w.2 (by omega)
        · refine ih (i + 1) 1 (by omega) ⟨fun _ => ⟨hv2.1, ?_⟩, fun _ => by decide⟩
          rw [st, if_neg (fun w => y ⟨w.1, (hq R i (by omega) (by omega) hv2.1 w.1).mpr w.2⟩)]
      exact ml_kept (by omega) hs (fun y => fin 1 ⟨fun _ => y, fun _ => by decide⟩) (fun y => fin 0 ⟨fun w => absurd rfl w, fun w => absurd w y⟩)
theorem ml_blocks {post : Int32 → KS → Int64 → Prop} {M : KS} {ap : Int64} {sn bl : Nat → Nat} (hs : ∀ d, d < 8 → M 16 26 d = nI (sn d) ∧ sn d ≤ 6) (hq : ∀ R R2, R < 288 → R2 < 288 → kpB sn R = true → kpB sn R2 = true → ((∀ j, j < 4 → M 16 27 (4 * R2 + j) = M 16 27 (4 * R + j)) ↔ bl R2 = bl R)) (hp : post (nI (fB (kpB sn) bl 288)) M ap) : ∀ m R, R + m = 288 → wX7_blocks_9 post (m + 1) (nI (fB (kpB sn) bl R)) (nI R) M ap := by
  intro m
  induction m with
  | zero =>
    intro R hR
    have hi2 : R = 288 := by omega
    subst hi2
    unfold wX7_blocks_9
    exact ⟨fun _ => hp, fun z => absurd (nI_le (a := 288) (b := 288) (by omega) (by omega)) z⟩
  | succ m ih =>
    intro R hR
    have a := ih (R + 1) (by omega)
    unfold wX7_blocks_9
    refine ⟨fun z => absurd z (nI_ge (a := R) (b := 288) (by omega) (by omega)), fun _ => ?_⟩
    have fin : ∀ v0 : Int32, (¬ v0 = 0 ↔ kpB sn R = true) → ∃ n1 : Nat, wX7_blocks_25 post (wX7_blocks_9 post (m + 1)) n1 (nI (fB (kpB sn) bl R)) (nI R) v0 0 M ap := by
      intro v0 hv0
      refine ⟨R + 1, ml_first (by omega) hs hq (fun y => ?_) (fun y => ?_) R 0 v0 (by omega) ⟨fun y => ⟨hv0.mp y, rfl⟩, fun y => hv0.mpr y.1⟩⟩
      · have e : fB (kpB sn) bl (R + 1) = fB (kpB sn) bl R + 1 := by
          show fB (kpB sn) bl R + (if kpB sn R = true ∧ refB (kpB sn) bl (bl R) R = 0 then 1 else 0) = _
          rw [if_pos y]
        rw [e] at a
        rw [nI_1]
        exact a
      · have e : fB (kpB sn) bl (R + 1) = fB (kpB sn) bl R := by
          show fB (kpB sn) bl R + (if kpB sn R = true ∧ refB (kpB sn) bl (bl R) R = 0 then 1 else 0) = _
          rw [if_neg y, Nat.add_zero]
        rw [e] at a
        exact a
    exact ml_kept (by omega) hs (fun y => fin 1 ⟨fun _ => y, fun _ => by decide⟩) (fun y => fin 0 ⟨fun w => absurd rfl w, fun w => absurd w y⟩)
theorem c_blocks {t uc us : Nat} {K M : KS} {ap o : Int64} {od : UInt64} (ht : t < 512) (hI : InvC t uc us K M ap) : st_blocks (InvC (t + 1)) uc us K M ap o od := by
  obtain ⟨_, hu, hs, np, nc, nd, no, ns, P, r, cn, sn, dp, ew, go, bl, sl, sk, h⟩ := hI
  have n1 := rx_n1 h
  have n2 := rx_n2 h
  obtain ⟨b1, b2, b3⟩ := n2
  have hbl : ∀ R, R < 288 → kpB sn R = true → bl R < 288 := fun R hR q => (b1 R hR q).2.1
  have rp : ∀ R, R < 288 → kpB sn R = true → 0 < refB (kpB sn) bl (bl R) 288 := fun R hR q => Nat.pos_of_ne_zero (fun w => refB_zero (p := kpB sn) (bl := bl) (b := bl R) (n := 288) w R hR q rfl)
  unfold st_blocks wpX6_blocks wpX0_countKept
  refine ⟨288 + 1, cl_kept (f := fun b => refB (kpB sn) bl b 288) (fun b hb => ⟨b2 b hb, refB_le _ _ _ _⟩) ?_ 288 0 rfl⟩
  unfold wpX7_blocks
  refine ⟨288 + 1, ml_blocks (sn := sn) (bl := bl) (M := k3 M 3 0 0 0) (fun d hd => ⟨(n1 d hd).1, (n1 d hd).2.1⟩) (fun R R2 hR hR2 q q2 => ⟨fun w => ?_, fun w j hj => ?_⟩) ?_ 288 0 rfl⟩
  · refine b3 (bl R2) (bl R) (hbl R2 hR2 q2) (hbl R hR q) (rp R2 hR2 q2) (rp R hR q) (fun j hj => ?_)
    rw [(b1 R2 hR2 q2).2.2 j hj, (b1 R hR q).2.2 j hj]
    exact w j hj
  · have a1 := (b1 R2 hR2 q2).2.2 j hj
    have a2 := (b1 R hR q).2.2 j hj
    rw [w] at a1
    exact a1.symm.trans a2
  · rw [nzc_fB hbl 288 (by omega)]
    exact ⟨rfl, inv_rd (mc := 0) (ms := 0) 0 ht hu hs (by omega) (by omega) h⟩
