/-! The relation of class and reference. -/
def phv (a b : Nat) : Int32 := if a = 0 then (if b = 0 then 111 else 103) else if a = 1 then 101 else 102
def lifeOK (x : Int32) : Prop := ∃ a : Nat, 1 ≤ a ∧ a ≤ 20 ∧ x = nI a
def okE (x : Int32) : Prop := ∃ a b c : Nat, a ≤ 1 ∧ b ≤ 3 ∧ 1 ≤ c ∧ c ≤ 4 ∧ x = nI (100 * a + 10 * b + c)
def lcp (x : Int32) (n : Nat) : Prop := ∃ q, x = nI q ∧ n ≤ q ∧ q ≤ 10 + 2 * n ∧ (q = 0 ∨ 2 ≤ q)
def rOK (r : Nat) : Prop := r = 216 ∨ r = 432 ∨ r = 864 ∨ r = 1728 ∨ r = 3456 ∨ r = 6912 ∨ r = 13824
def refB (p : Nat → Bool) (bl : Nat → Nat) (b : Nat) : Nat → Nat
  | 0 => 0
  | R + 1 => refB p bl b R + if p R = true ∧ bl R = b then 1 else 0
def kpB (sn : Nat → Nat) (R : Nat) : Bool := decide (R / 6 % 6 < sn (R / 36))
def BS (p : Nat → Bool) (bl : Nat → Nat) (k2 ks : Nat → Int32) (k19 : Nat → Nat → Int32) (m : Nat → Int32) : Prop := (∀ R, R < 288 → p R = true → k19 (R / 6) (R % 6) = nI (bl R) ∧ bl R < 288 ∧ ∀ j, j < 4 → k2 (4 * bl R + j) = m (4 * R + j)) ∧ (∀ b, b < 288 → ks b = nI (refB p bl b 288)) ∧ ∀ b b2, b < 288 → b2 < 288 → 0 < refB p bl b 288 → 0 < refB p bl b2 288 → (∀ j, j < 4 → k2 (4 * b + j) = k2 (4 * b2 + j)) → b = b2
def KV (t a b : Nat) (f g : Nat → Int32) : Prop := lifeOK (f 0) ∧ lifeOK (f 1) ∧ (∃ τ dq, τ ≤ t ∧ f 3 = nI τ ∧ f 20 = nI dq ∧ dq ≤ 8 ∧ dq ≤ cntE (fun i => f (4 + 8 * (τ % 2) + i)) 1 8 ∧ ∀ i, i < dq → okE (g i)) ∧ (∀ i, i < 16 → f (4 + i) = 0 ∨ f (4 + i) = 1) ∧ (∀ i, i < 8 → a ≤ i → f (4 + i) = 0) ∧ ∀ i, i < 8 → b ≤ i → f (12 + i) = 0
def ChOk (kw kc kb ks : Nat → Int32) (sl : Nat → Nat) (d : Nat) (B : (Nat → Int32) → Prop) : Nat → (Nat → Int32) → Prop
  | 0, o => B o
  | j + 1, o => (kw (sl j) = nI d → o (kc (sl j)).toNatClampNeg = kb (sl j) ∧ ChOk kw kc kb ks sl d B j (va_up o (kc (sl j)).toNatClampNeg (ks (sl j)))) ∧ (¬ kw (sl j) = nI d → ChOk kw kc kb ks sl d B j o)
def ChB (cn : Nat → Nat) (sk : Nat → Nat → Nat) (w p : Nat → Int32) (d : Nat) (o : Nat → Int32) : Prop := ∀ s, (s = 2 * d ∨ s = 2 * d + 1) → ∀ i, i < cn s → o (sk s i) = if w d = -1 then p s else w d
def RR (t e np nc nd no ns P r : Nat) (cn sn dp ew ev go bl sl : Nat → Nat) (sk : Nat → Nat → Nat) (K M : KS) (ap : Int64) : Prop :=
  (K 0 1 0 = nI np) ∧
  (M 3 1 0 = nI np) ∧
  (np ≤ 6) ∧
  (K 8 2 0 = nI nc) ∧
  (K 0 20 0 = nI nc) ∧
  (M 3 5 0 = nI nc) ∧
  (nc ≤ 40) ∧
  (K 8 2 1 = nI nd) ∧
  (K 0 22 0 = nI nd) ∧
  (M 3 13 0 = nI nd) ∧
  (nd ≤ 8) ∧
  (K 8 2 2 = nI no) ∧
  (K 0 21 0 = nI no) ∧
  (M 3 29 0 = nI no) ∧
  (no ≤ 60) ∧
  (K 8 2 3 = nI ns) ∧
  (M 3 37 0 = nI ns) ∧
  (ns ≤ no) ∧
  (lcp (K 8 3 0) nc) ∧
  (lcp (K 8 3 1) nd) ∧
  (lcp (K 8 3 2) no) ∧
  (lcp (K 8 3 3) ns) ∧
  (∀ j, j < nc → K 9 0 j = nI j) ∧
  (∀ j, j < nd → K 9 1 j = nI j) ∧
  (∀ j, j < no → K 9 2 j = nI j) ∧
  (∀ p, p < np → K 10 0 p = M 16 2 p) ∧
  (K 0 3 0 + K 0 4 0 + sumI (K 10 0) np = K 0 2 0) ∧
  (K 0 3 0 = M 3 3 0) ∧
  ((K 0 4 0).toInt64 = ap) ∧
  (-(60000 * (t : Int)) ≤ (K 0 4 0).toInt ∧ (K 0 4 0).toInt ≤ 60000 * (t : Int)) ∧
  (∀ c, c < nc → K 4 0 c = nI c) ∧
  (∀ c, c < nc → K 4 1 c = M 16 6 c ∧ ∃ x, x ≤ 15 ∧ K 4 1 c = nI x) ∧
  (∀ c, c < nc → K 4 2 c = M 16 7 c ∧ ∃ p, p < np ∧ K 4 2 c = nI p) ∧
  (∀ c, c < nc → K 4 3 c = M 13 8 c ∧ ((K 4 3 c = 45 ∧ K 4 5 c = -1) ∨ (K 4 5 c = M 16 9 c ∧ ∃ d, d < nd ∧ K 4 5 c = nI d ∧ ((ew d = 0 ∧ K 4 3 c = 115) ∨ (ew d = 1 ∧ K 4 3 c = 119))))) ∧
  (∀ c, c < nc → (M 16 10 c = -1 ∧ K 4 4 c = 0) ∨ (∃ k, k < no ∧ M 16 10 c = nI k ∧ K 4 4 c = 1 ∧ K 5 0 k = nI c ∧ K 5 4 k = 111)) ∧
  (∀ c, c < nc → ∀ d, d < nd → K 4 5 c = nI d → ∃ s, (s = 2 * d ∨ s = 2 * d + 1) ∧ ∃ i, i < cn s ∧ sk s i = c) ∧
  (∀ d, d < nd → ew d ≠ 2 → cntE (K 4 5) (nI d) nc = cn (2 * d) + cn (2 * d + 1)) ∧
  (K 1 1 0 = nI P) ∧
  (M 3 11 0 = nI P) ∧
  (K 1 5 0 = nI r) ∧
  (rOK r) ∧
  (3 * P ≤ r) ∧
  (∀ j, j < 3 * P → K 11 0 j = M 16 12 j) ∧
  (∀ c, c < nc → lastH (K 11 0) (nI c) P = K 4 2 c) ∧
  (P + cntE (K 5 4) 98 no + 8 * (np + nd + sumN cn (2 * nd)) + 7 * nc ≤ 8 * e) ∧
  ((∃ s, s < 2 * nd ∧ cn s = 8) ∨ P + cntE (K 5 4) 98 no ≤ 7 * e) ∧
  (∀ d, d < nd → K 7 0 (2 * d) = M 16 14 d ∧ K 7 0 (2 * d + 1) = M 16 15 d ∧ ∃ a b, a < np ∧ b < np ∧ a ≠ b ∧ K 7 0 (2 * d) = nI a ∧ K 7 0 (2 * d + 1) = nI b) ∧
  (∀ d, d < nd → K 6 2 d = M 13 16 d ∧ K 6 2 d = phv (ev d) (go d) ∧ ev d ≤ 2 ∧ go d ≤ 1 ∧ (ev d ≠ 0 → go d = 1)) ∧
  (∀ s, s < 2 * nd → K 7 1 s = M 16 18 s) ∧
  (∀ d, d < nd → ev d ≠ 0 → K 6 3 d = M 16 17 d ∧ (K 6 3 d = -1 ∨ K 6 3 d = K 7 0 (2 * d) ∨ K 6 3 d = K 7 0 (2 * d + 1))) ∧
  (∀ d, d < nd → ev d = 0 → lifeOK (K 7 1 (2 * d)) ∧ lifeOK (K 7 1 (2 * d + 1)) ∧ (go d = 1 → K 6 4 d = M 16 19 d)) ∧
  (∀ d, d < nd → ev d = 0 → ∃ τ, τ ≤ t ∧ K 6 5 d = nI τ ∧ M 16 20 d = nI τ ∧ dp d ≤ cntE (K 18 (2 * d + τ % 2)) 1 8) ∧
  (∀ d, d < nd → ∃ τ, τ ≤ t ∧ M 16 20 d = nI τ) ∧
  (∀ s, s < 2 * nd → K 8 2 (s + 4) = nI (cn s) ∧ M 16 21 s = nI (cn s) ∧ cn s ≤ 8 ∧ lcp (K 8 3 (s + 4)) (cn s)) ∧
  (∀ s, s < 2 * nd → ∀ i, i < cn s → K 9 (s + 4) i = nI (sk s i) ∧ M 16 22 (8 * s + i) = nI (sk s i) ∧ sk s i < nc) ∧
  (∀ s, s < 2 * nd → ∀ i, i < 8 → (K 18 s i = 0 ∨ K 18 s i = 1) ∧ (i < cn s → K 18 s i = M 16 23 (8 * s + i)) ∧ (cn s ≤ i → K 18 s i = 0)) ∧
  (∀ d, d < nd → K 6 7 d = nI (dp d) ∧ M 16 24 d = nI (dp d) ∧ dp d ≤ 8 ∧ (ev d ≠ 0 ∨ go d = 0 → dp d = 0)) ∧
  (∀ d, d < nd → ∀ i, i < 8 → K 17 d i = M 16 25 (16 * d + i) ∧ (i < dp d → okE (K 17 d i))) ∧
  (∀ d, d < nd → ew d ≠ 2 → ∀ s, (s = 2 * d ∨ s = 2 * d + 1) → ∀ i, i < cn s → K 4 5 (sk s i) = nI d) ∧
  (∀ d, d < nd → ew d = 0 → ∀ s, (s = 2 * d ∨ s = 2 * d + 1) → ∀ i, i < cn s → K 4 2 (sk s i) = K 7 0 s) ∧
  (∀ d, d < nd → ∀ s s2, (s = 2 * d ∨ s = 2 * d + 1) → (s2 = 2 * d ∨ s2 = 2 * d + 1) → ∀ i j, i < cn s → j < cn s2 → sk s i = sk s2 j → s = s2 ∧ i = j) ∧
  (∀ d, nd ≤ d → d < 8 → M 16 20 d = 0 ∧ M 16 21 (2 * d) = 0 ∧ M 16 21 (2 * d + 1) = 0 ∧ M 16 24 d = 0 ∧ ∀ i, i < 8 → M 16 25 (16 * d + i) = 0) ∧
  (∀ d, d < 8 → M 16 26 d = nI (sn d) ∧ sn d ≤ 6 ∧ (nd ≤ d → sn d = 0) ∧ (go d = 0 → sn d = 0)) ∧
  (∀ d, d < nd → K 6 8 d = nI (sn d)) ∧
  (BS (kpB sn) bl (K 10 2) (K 10 3) (K 19) (M 16 27)) ∧
  (∀ d, d < nd → ∀ s, s < sn d → ∀ i, i < 8 → K 20 (6 * d + s) i = M 16 28 (16 * (6 * d + s) + i)) ∧
  (∀ d, d < nd → ∀ s, s < sn d → KV t (cn (2 * d)) (cn (2 * d + 1)) (fun i => M 16 27 (24 * (6 * d + s) + i)) (fun i => M 16 28 (16 * (6 * d + s) + i))) ∧
  (∀ k, k < no → ∃ c, c < nc ∧ K 5 0 k = nI c ∧ M 16 30 k = nI c) ∧
  (∀ k, k < no → K 5 1 k = M 16 31 k ∧ ∃ x, 1 ≤ x ∧ x ≤ 999 ∧ K 5 1 k = nI x) ∧
  (∀ k, k < no → K 5 4 k = M 13 32 k ∧ (K 5 4 k = 111 ∨ K 5 4 k = 98 ∨ K 5 4 k = 103)) ∧
  (∀ k, k < no → K 5 2 k = M 16 33 k ∧ ∃ p, p < np ∧ K 5 2 k = nI p) ∧
  (∀ k, k < no → K 5 4 k = 98 → K 5 3 k = M 16 34 k ∧ K 5 3 k ≠ K 5 2 k ∧ (∃ p, p < np ∧ K 5 3 k = nI p) ∧ K 5 5 k = M 16 35 k ∧ ∃ j, j < ns ∧ sl j = k) ∧
  (∀ k, k < no → K 5 5 k = -1 ∨ (K 5 4 k = 98 ∧ ∃ d, d < nd ∧ K 5 5 k = nI d ∧ ew d = 1 ∧ ∃ c, c < nc ∧ K 5 0 k = nI c ∧ K 4 5 c = nI d)) ∧
  (∀ k, k < no → K 5 4 k = 111 → ∃ c, c < nc ∧ K 5 0 k = nI c ∧ M 16 10 c = nI k ∧ K 5 2 k = K 4 2 c ∧ K 4 3 c ≠ 115) ∧
  (∀ k, k < no → K 5 4 k = 111 → M 16 35 k = -1) ∧
  (∀ j, j < ns → K 9 3 j = nI (sl j) ∧ sl j < no ∧ M 16 36 (sl j) = nI j ∧ K 5 4 (sl j) ≠ 111) ∧
  (∀ d, d < nd → ew d = 1 → ChOk (K 5 5) (K 5 0) (K 5 3) (K 5 2) sl d (ChB cn sk (K 6 3) (K 7 0) d) ns (K 4 2))
theorem rx_np1 {t e np nc nd no ns P r : Nat} {cn sn dp ew ev go bl sl : Nat → Nat} {sk : Nat → Nat → Nat} {K M : KS} {ap : Int64} (h : RR t e np nc nd no ns P r cn sn dp ew ev go bl sl sk K M ap) : K 0 1 0 = nI np := h.1
theorem rx_np2 {t e np nc nd no ns P r : Nat} {cn sn dp ew ev go bl sl : Nat → Nat} {sk : Nat → Nat → Nat} {K M : KS} {ap : Int64} (h : RR t e np nc nd no ns P r cn sn dp ew ev go bl sl sk K M ap) : M 3 1 0 = nI np := h.2.1
theorem rx_np3 {t e np nc nd no ns P r : Nat} {cn sn dp ew ev go bl sl : Nat → Nat} {sk : Nat → Nat → Nat} {K M : KS} {ap : Int64} (h : RR t e np nc nd no ns P r cn sn dp ew ev go bl sl sk K M ap) : np ≤ 6 := h.2.2.1
theorem rx_nc1 {t e np nc nd no ns P r : Nat} {cn sn dp ew ev go bl sl : Nat → Nat} {sk : Nat → Nat → Nat} {K M : KS} {ap : Int64} (h : RR t e np nc nd no ns P r cn sn dp ew ev go bl sl sk K M ap) : K 8 2 0 = nI nc := h.2.2.2.1
theorem rx_nc2 {t e np nc nd no ns P r : Nat} {cn sn dp ew ev go bl sl : Nat → Nat} {sk : Nat → Nat → Nat} {K M : KS} {ap : Int64} (h : RR t e np nc nd no ns P r cn sn dp ew ev go bl sl sk K M ap) : K 0 20 0 = nI nc := h.2.2.2.2.1
theorem rx_nc3 {t e np nc nd no ns P r : Nat} {cn sn dp ew ev go bl sl : Nat → Nat} {sk : Nat → Nat → Nat} {K M : KS} {ap : Int64} (h : RR t e np nc nd no ns P r cn sn dp ew ev go bl sl sk K M ap) : M 3 5 0 = nI nc := h.2.2.2.2.2.1
theorem rx_nc4 {t e np nc nd no ns P r : Nat} {cn sn dp ew ev go bl sl : Nat → Nat} {sk : Nat → Nat → Nat} {K M : KS} {ap : Int64} (h : RR t e np nc nd no ns P r cn sn dp ew ev go bl sl sk K M ap) : nc ≤ 40 := h.2.2.2.2.2.2.1
theorem rx_nd1 {t e np nc nd no ns P r : Nat} {cn sn dp ew ev go bl sl : Nat → Nat} {sk : Nat → Nat → Nat} {K M : KS} {ap : Int64} (h : RR t e np nc nd no ns P r cn sn dp ew ev go bl sl sk K M ap) : K 8 2 1 = nI nd := h.2.2.2.2.2.2.2.1
theorem rx_nd2 {t e np nc nd no ns P r : Nat} {cn sn dp ew ev go bl sl : Nat → Nat} {sk : Nat → Nat → Nat} {K M : KS} {ap : Int64} (h : RR t e np nc nd no ns P r cn sn dp ew ev go bl sl sk K M ap) : K 0 22 0 = nI nd := h.2.2.2.2.2.2.2.2.1
theorem rx_nd3 {t e np nc nd no ns P r : Nat} {cn sn dp ew ev go bl sl : Nat → Nat} {sk : Nat → Nat → Nat} {K M : KS} {ap : Int64} (h : RR t e np nc nd no ns P r cn sn dp ew ev go bl sl sk K M ap) : M 3 13 0 = nI nd := h.2.2.2.2.2.2.2.2.2.1
theorem rx_nd4 {t e np nc nd no ns P r : Nat} {cn sn dp ew ev go bl sl : Nat → Nat} {sk : Nat → Nat → Nat} {K M : KS} {ap : Int64} (h : RR t e np nc nd no ns P r cn sn dp ew ev go bl sl sk K M ap) : nd ≤ 8 := h.2.2.2.2.2.2.2.2.2.2.1
theorem rx_no1 {t e np nc nd no ns P r : Nat} {cn sn dp ew ev go bl sl : Nat → Nat} {sk : Nat → Nat → Nat} {K M : KS} {ap : Int64} (h : RR t e np nc nd no ns P r cn sn dp ew ev go bl sl sk K M ap) : K 8 2 2 = nI no := h.2.2.2.2.2.2.2.2.2.2.2.1
theorem rx_no2 {t e np nc nd no ns P r : Nat} {cn sn dp ew ev go bl sl : Nat → Nat} {sk : Nat → Nat → Nat} {K M : KS} {ap : Int64} (h : RR t e np nc nd no ns P r cn sn dp ew ev go bl sl sk K M ap) : K 0 21 0 = nI no := h.2.2.2.2.2.2.2.2.2.2.2.2.1
theorem rx_no3 {t e np nc nd no ns P r : Nat} {cn sn dp ew ev go bl sl : Nat → Nat} {sk : Nat → Nat → Nat} {K M : KS} {ap : Int64} (h : RR t e np nc nd no ns P r cn sn dp ew ev go bl sl sk K M ap) : M 3 29 0 = nI no := h.2.2.2.2.2.2.2.2.2.2.2.2.2.1
theorem rx_no4 {t e np nc nd no ns P r : Nat} {cn sn dp ew ev go bl sl : Nat → Nat} {sk : Nat → Nat → Nat} {K M : KS} {ap : Int64} (h : RR t e np nc nd no ns P r cn sn dp ew ev go bl sl sk K M ap) : no ≤ 60 := h.2.2.2.2.2.2.2.2.2.2.2.2.2.2.1
theorem rx_ns1 {t e np nc nd no ns P r : Nat} {cn sn dp ew ev go bl sl : Nat → Nat} {sk : Nat → Nat → Nat} {K M : KS} {ap : Int64} (h : RR t e np nc nd no ns P r cn sn dp ew ev go bl sl sk K M ap) : K 8 2 3 = nI ns := h.2.2.2.2.2.2.2.2.2.2.2.2.2.2.2.1
theorem rx_ns2 {t e np nc nd no ns P r : Nat} {cn sn dp ew ev go bl sl : Nat → Nat} {sk : Nat → Nat → Nat} {K M : KS} {ap : Int64} (h : RR t e np nc nd no ns P r cn sn dp ew ev go bl sl sk K M ap) : M 3 37 0 = nI ns := h.2.2.2.2.2.2.2.2.2.2.2.2.2.2.2.2.1
theorem rx_ns3 {t e np nc nd no ns P r : Nat} {cn sn dp ew ev go bl sl : Nat → Nat} {sk : Nat → Nat → Nat} {K M : KS} {ap : Int64} (h : RR t e np nc nd no ns P r cn sn dp ew ev go bl sl sk K M ap) : ns ≤ no := h.2.2.2.2.2.2.2.2.2.2.2.2.2.2.2.2.2.1
theorem rx_lc0 {t e np nc nd no ns P r : Nat} {cn sn dp ew ev go bl sl : Nat → Nat} {sk : Nat → Nat → Nat} {K M : KS} {ap : Int64} (h : RR t e np nc nd no ns P r cn sn dp ew ev go bl sl sk K M ap) : lcp (K 8 3 0) nc := h.2.2.2.2.2.2.2.2.2.2.2.2.2.2.2.2.2.2.1
theorem rx_lc1 {t e np nc nd no ns P r : Nat} {cn sn dp ew ev go bl sl : Nat → Nat} {sk : Nat → Nat → Nat} {K M : KS} {ap : Int64} (h : RR t e np nc nd no ns P r cn sn dp ew ev go bl sl sk K M ap) : lcp (K 8 3 1) nd := h.2.2.2.2.2.2.2.2.2.2.2.2.2.2.2.2.2.2.2.1
theorem rx_lc2 {t e np nc nd no ns P r : Nat} {cn sn dp ew ev go bl sl : Nat → Nat} {sk : Nat → Nat → Nat} {K M : KS} {ap : Int64} (h : RR t e np nc nd no ns P r cn sn dp ew ev go bl sl sk K M ap) : lcp (K 8 3 2) no := h.2.2.2.2.2.2.2.2.2.2.2.2.2.2.2.2.2.2.2.2.1
theorem rx_lc3 {t e np nc nd no ns P r : Nat} {cn sn dp ew ev go bl sl : Nat → Nat} {sk : Nat → Nat → Nat} {K M : KS} {ap : Int64} (h : RR t e np nc nd no ns P r cn sn dp ew ev go bl sl sk K M ap) : lcp (K 8 3 3) ns := h.2.2.2.2.2.2.2.2.2.2.2.2.2.2.2.2.2.2.2.2.2.1
theorem rx_l0 {t e np nc nd no ns P r : Nat} {cn sn dp ew ev go bl sl : Nat → Nat} {sk : Nat → Nat → Nat} {K M : KS} {ap : Int64} (h : RR t e np nc nd no ns P r cn sn dp ew ev go bl sl sk K M ap) : ∀ j, j < nc → K 9 0 j = nI j := h.2.2.2.2.2.2.2.2.2.2.2.2.2.2.2.2.2.2.2.2.2.2.1
theorem rx_l1 {t e np nc nd no ns P r : Nat} {cn sn dp ew ev go bl sl : Nat → Nat} {sk : Nat → Nat → Nat} {K M : KS} {ap : Int64} (h : RR t e np nc nd no ns P r cn sn dp ew ev go bl sl sk K M ap) : ∀ j, j < nd → K 9 1 j = nI j := h.2.2.2.2.2.2.2.2.2.2.2.2.2.2.2.2.2.2.2.2.2.2.2.1
theorem rx_l2 {t e np nc nd no ns P r : Nat} {cn sn dp ew ev go bl sl : Nat → Nat} {sk : Nat → Nat → Nat} {K M : KS} {ap : Int64} (h : RR t e np nc nd no ns P r cn sn dp ew ev go bl sl sk K M ap) : ∀ j, j < no → K 9 2 j = nI j := h.2.2.2.2.2.2.2.2.2.2.2.2.2.2.2.2.2.2.2.2.2.2.2.2.1
theorem rx_pl {t e np nc nd no ns P r : Nat} {cn sn dp ew ev go bl sl : Nat → Nat} {sk : Nat → Nat → Nat} {K M : KS} {ap : Int64} (h : RR t e np nc nd no ns P r cn sn dp ew ev go bl sl sk K M ap) : ∀ p, p < np → K 10 0 p = M 16 2 p := h.2.2.2.2.2.2.2.2.2.2.2.2.2.2.2.2.2.2.2.2.2.2.2.2.2.1
theorem rx_sd {t e np nc nd no ns P r : Nat} {cn sn dp ew ev go bl sl : Nat → Nat} {sk : Nat → Nat → Nat} {K M : KS} {ap : Int64} (h : RR t e np nc nd no ns P r cn sn dp ew ev go bl sl sk K M ap) : K 0 3 0 + K 0 4 0 + sumI (K 10 0) np = K 0 2 0 := h.2.2.2.2.2.2.2.2.2.2.2.2.2.2.2.2.2.2.2.2.2.2.2.2.2.2.1
theorem rx_hs_ {t e np nc nd no ns P r : Nat} {cn sn dp ew ev go bl sl : Nat → Nat} {sk : Nat → Nat → Nat} {K M : KS} {ap : Int64} (h : RR t e np nc nd no ns P r cn sn dp ew ev go bl sl sk K M ap) : K 0 3 0 = M 3 3 0 := h.2.2.2.2.2.2.2.2.2.2.2.2.2.2.2.2.2.2.2.2.2.2.2.2.2.2.2.1
theorem rx_av {t e np nc nd no ns P r : Nat} {cn sn dp ew ev go bl sl : Nat → Nat} {sk : Nat → Nat → Nat} {K M : KS} {ap : Int64} (h : RR t e np nc nd no ns P r cn sn dp ew ev go bl sl sk K M ap) : (K 0 4 0).toInt64 = ap := h.2.2.2.2.2.2.2.2.2.2.2.2.2.2.2.2.2.2.2.2.2.2.2.2.2.2.2.2.1
theorem rx_ab {t e np nc nd no ns P r : Nat} {cn sn dp ew ev go bl sl : Nat → Nat} {sk : Nat → Nat → Nat} {K M : KS} {ap : Int64} (h : RR t e np nc nd no ns P r cn sn dp ew ev go bl sl sk K M ap) : -(60000 * (t : Int)) ≤ (K 0 4 0).toInt ∧ (K 0 4 0).toInt ≤ 60000 * (t : Int) := h.2.2.2.2.2.2.2.2.2.2.2.2.2.2.2.2.2.2.2.2.2.2.2.2.2.2.2.2.2.1
theorem rx_c0 {t e np nc nd no ns P r : Nat} {cn sn dp ew ev go bl sl : Nat → Nat} {sk : Nat → Nat → Nat} {K M : KS} {ap : Int64} (h : RR t e np nc nd no ns P r cn sn dp ew ev go bl sl sk K M ap) : ∀ c, c < nc → K 4 0 c = nI c := h.2.2.2.2.2.2.2.2.2.2.2.2.2.2.2.2.2.2.2.2.2.2.2.2.2.2.2.2.2.2.1
theorem rx_c1 {t e np nc nd no ns P r : Nat} {cn sn dp ew ev go bl sl : Nat → Nat} {sk : Nat → Nat → Nat} {K M : KS} {ap : Int64} (h : RR t e np nc nd no ns P r cn sn dp ew ev go bl sl sk K M ap) : ∀ c, c < nc → K 4 1 c = M 16 6 c ∧ ∃ x, x ≤ 15 ∧ K 4 1 c = nI x := h.2.2.2.2.2.2.2.2.2.2.2.2.2.2.2.2.2.2.2.2.2.2.2.2.2.2.2.2.2.2.2.1
theorem rx_c2 {t e np nc nd no ns P r : Nat} {cn sn dp ew ev go bl sl : Nat → Nat} {sk : Nat → Nat → Nat} {K M : KS} {ap : Int64} (h : RR t e np nc nd no ns P r cn sn dp ew ev go bl sl sk K M ap) : ∀ c, c < nc → K 4 2 c = M 16 7 c ∧ ∃ p, p < np ∧ K 4 2 c = nI p := h.2.2.2.2.2.2.2.2.2.2.2.2.2.2.2.2.2.2.2.2.2.2.2.2.2.2.2.2.2.2.2.2.1
theorem rx_c3 {t e np nc nd no ns P r : Nat} {cn sn dp ew ev go bl sl : Nat → Nat} {sk : Nat → Nat → Nat} {K M : KS} {ap : Int64} (h : RR t e np nc nd no ns P r cn sn dp ew ev go bl sl sk K M ap) : ∀ c, c < nc → K 4 3 c = M 13 8 c ∧ ((K 4 3 c = 45 ∧ K 4 5 c = -1) ∨ (K 4 5 c = M 16 9 c ∧ ∃ d, d < nd ∧ K 4 5 c = nI d ∧ ((ew d = 0 ∧ K 4 3 c = 115) ∨ (ew d = 1 ∧ K 4 3 c = 119)))) := h.2.2.2.2.2.2.2.2.2.2.2.2.2.2.2.2.2.2.2.2.2.2.2.2.2.2.2.2.2.2.2.2.2.1
theorem rx_c4 {t e np nc nd no ns P r : Nat} {cn sn dp ew ev go bl sl : Nat → Nat} {sk : Nat → Nat → Nat} {K M : KS} {ap : Int64} (h : RR t e np nc nd no ns P r cn sn dp ew ev go bl sl sk K M ap) : ∀ c, c < nc → (M 16 10 c = -1 ∧ K 4 4 c = 0) ∨ (∃ k, k < no ∧ M 16 10 c = nI k ∧ K 4 4 c = 1 ∧ K 5 0 k = nI c ∧ K 5 4 k = 111) := h.2.2.2.2.2.2.2.2.2.2.2.2.2.2.2.2.2.2.2.2.2.2.2.2.2.2.2.2.2.2.2.2.2.2.1
theorem rx_c6 {t e np nc nd no ns P r : Nat} {cn sn dp ew ev go bl sl : Nat → Nat} {sk : Nat → Nat → Nat} {K M : KS} {ap : Int64} (h : RR t e np nc nd no ns P r cn sn dp ew ev go bl sl sk K M ap) : ∀ c, c < nc → ∀ d, d < nd → K 4 5 c = nI d → ∃ s, (s = 2 * d ∨ s = 2 * d + 1) ∧ ∃ i, i < cn s ∧ sk s i = c := h.2.2.2.2.2.2.2.2.2.2.2.2.2.2.2.2.2.2.2.2.2.2.2.2.2.2.2.2.2.2.2.2.2.2.2.1
theorem rx_c7 {t e np nc nd no ns P r : Nat} {cn sn dp ew ev go bl sl : Nat → Nat} {sk : Nat → Nat → Nat} {K M : KS} {ap : Int64} (h : RR t e np nc nd no ns P r cn sn dp ew ev go bl sl sk K M ap) : ∀ d, d < nd → ew d ≠ 2 → cntE (K 4 5) (nI d) nc = cn (2 * d) + cn (2 * d + 1) := h.2.2.2.2.2.2.2.2.2.2.2.2.2.2.2.2.2.2.2.2.2.2.2.2.2.2.2.2.2.2.2.2.2.2.2.2.1
theorem rx_g1 {t e np nc nd no ns P r : Nat} {cn sn dp ew ev go bl sl : Nat → Nat} {sk : Nat → Nat → Nat} {K M : KS} {ap : Int64} (h : RR t e np nc nd no ns P r cn sn dp ew ev go bl sl sk K M ap) : K 1 1 0 = nI P := h.2.2.2.2.2.2.2.2.2.2.2.2.2.2.2.2.2.2.2.2.2.2.2.2.2.2.2.2.2.2.2.2.2.2.2.2.2.1
theorem rx_g2 {t e np nc nd no ns P r : Nat} {cn sn dp ew ev go bl sl : Nat → Nat} {sk : Nat → Nat → Nat} {K M : KS} {ap : Int64} (h : RR t e np nc nd no ns P r cn sn dp ew ev go bl sl sk K M ap) : M 3 11 0 = nI P := h.2.2.2.2.2.2.2.2.2.2.2.2.2.2.2.2.2.2.2.2.2.2.2.2.2.2.2.2.2.2.2.2.2.2.2.2.2.2.1
theorem rx_g3 {t e np nc nd no ns P r : Nat} {cn sn dp ew ev go bl sl : Nat → Nat} {sk : Nat → Nat → Nat} {K M : KS} {ap : Int64} (h : RR t e np nc nd no ns P r cn sn dp ew ev go bl sl sk K M ap) : K 1 5 0 = nI r := h.2.2.2.2.2.2.2.2.2.2.2.2.2.2.2.2.2.2.2.2.2.2.2.2.2.2.2.2.2.2.2.2.2.2.2.2.2.2.2.1
theorem rx_g4 {t e np nc nd no ns P r : Nat} {cn sn dp ew ev go bl sl : Nat → Nat} {sk : Nat → Nat → Nat} {K M : KS} {ap : Int64} (h : RR t e np nc nd no ns P r cn sn dp ew ev go bl sl sk K M ap) : rOK r := h.2.2.2.2.2.2.2.2.2.2.2.2.2.2.2.2.2.2.2.2.2.2.2.2.2.2.2.2.2.2.2.2.2.2.2.2.2.2.2.2.1
theorem rx_g5 {t e np nc nd no ns P r : Nat} {cn sn dp ew ev go bl sl : Nat → Nat} {sk : Nat → Nat → Nat} {K M : KS} {ap : Int64} (h : RR t e np nc nd no ns P r cn sn dp ew ev go bl sl sk K M ap) : 3 * P ≤ r := h.2.2.2.2.2.2.2.2.2.2.2.2.2.2.2.2.2.2.2.2.2.2.2.2.2.2.2.2.2.2.2.2.2.2.2.2.2.2.2.2.2.1
theorem rx_g6 {t e np nc nd no ns P r : Nat} {cn sn dp ew ev go bl sl : Nat → Nat} {sk : Nat → Nat → Nat} {K M : KS} {ap : Int64} (h : RR t e np nc nd no ns P r cn sn dp ew ev go bl sl sk K M ap) : ∀ j, j < 3 * P → K 11 0 j = M 16 12 j := h.2.2.2.2.2.2.2.2.2.2.2.2.2.2.2.2.2.2.2.2.2.2.2.2.2.2.2.2.2.2.2.2.2.2.2.2.2.2.2.2.2.2.1
theorem rx_g7 {t e np nc nd no ns P r : Nat} {cn sn dp ew ev go bl sl : Nat → Nat} {sk : Nat → Nat → Nat} {K M : KS} {ap : Int64} (h : RR t e np nc nd no ns P r cn sn dp ew ev go bl sl sk K M ap) : ∀ c, c < nc → lastH (K 11 0) (nI c) P = K 4 2 c := h.2.2.2.2.2.2.2.2.2.2.2.2.2.2.2.2.2.2.2.2.2.2.2.2.2.2.2.2.2.2.2.2.2.2.2.2.2.2.2.2.2.2.2.1
theorem rx_g8 {t e np nc nd no ns P r : Nat} {cn sn dp ew ev go bl sl : Nat → Nat} {sk : Nat → Nat → Nat} {K M : KS} {ap : Int64} (h : RR t e np nc nd no ns P r cn sn dp ew ev go bl sl sk K M ap) : P + cntE (K 5 4) 98 no + 8 * (np + nd + sumN cn (2 * nd)) + 7 * nc ≤ 8 * e := h.2.2.2.2.2.2.2.2.2.2.2.2.2.2.2.2.2.2.2.2.2.2.2.2.2.2.2.2.2.2.2.2.2.2.2.2.2.2.2.2.2.2.2.2.1
theorem rx_g9 {t e np nc nd no ns P r : Nat} {cn sn dp ew ev go bl sl : Nat → Nat} {sk : Nat → Nat → Nat} {K M : KS} {ap : Int64} (h : RR t e np nc nd no ns P r cn sn dp ew ev go bl sl sk K M ap) : (∃ s, s < 2 * nd ∧ cn s = 8) ∨ P + cntE (K 5 4) 98 no ≤ 7 * e := h.2.2.2.2.2.2.2.2.2.2.2.2.2.2.2.2.2.2.2.2.2.2.2.2.2.2.2.2.2.2.2.2.2.2.2.2.2.2.2.2.2.2.2.2.2.1
theorem rx_d1 {t e np nc nd no ns P r : Nat} {cn sn dp ew ev go bl sl : Nat → Nat} {sk : Nat → Nat → Nat} {K M : KS} {ap : Int64} (h : RR t e np nc nd no ns P r cn sn dp ew ev go bl sl sk K M ap) : ∀ d, d < nd → K 7 0 (2 * d) = M 16 14 d ∧ K 7 0 (2 * d + 1) = M 16 15 d ∧ ∃ a b, a < np ∧ b < np ∧ a ≠ b ∧ K 7 0 (2 * d) = nI a ∧ K 7 0 (2 * d + 1) = nI b := h.2.2.2.2.2.2.2.2.2.2.2.2.2.2.2.2.2.2.2.2.2.2.2.2.2.2.2.2.2.2.2.2.2.2.2.2.2.2.2.2.2.2.2.2.2.2.1
theorem rx_d2 {t e np nc nd no ns P r : Nat} {cn sn dp ew ev go bl sl : Nat → Nat} {sk : Nat → Nat → Nat} {K M : KS} {ap : Int64} (h : RR t e np nc nd no ns P r cn sn dp ew ev go bl sl sk K M ap) : ∀ d, d < nd → K 6 2 d = M 13 16 d ∧ K 6 2 d = phv (ev d) (go d) ∧ ev d ≤ 2 ∧ go d ≤ 1 ∧ (ev d ≠ 0 → go d = 1) := h.2.2.2.2.2.2.2.2.2.2.2.2.2.2.2.2.2.2.2.2.2.2.2.2.2.2.2.2.2.2.2.2.2.2.2.2.2.2.2.2.2.2.2.2.2.2.2.1
theorem rx_d3 {t e np nc nd no ns P r : Nat} {cn sn dp ew ev go bl sl : Nat → Nat} {sk : Nat → Nat → Nat} {K M : KS} {ap : Int64} (h : RR t e np nc nd no ns P r cn sn dp ew ev go bl sl sk K M ap) : ∀ s, s < 2 * nd → K 7 1 s = M 16 18 s := h.2.2.2.2.2.2.2.2.2.2.2.2.2.2.2.2.2.2.2.2.2.2.2.2.2.2.2.2.2.2.2.2.2.2.2.2.2.2.2.2.2.2.2.2.2.2.2.2.1
theorem rx_d4 {t e np nc nd no ns P r : Nat} {cn sn dp ew ev go bl sl : Nat → Nat} {sk : Nat → Nat → Nat} {K M : KS} {ap : Int64} (h : RR t e np nc nd no ns P r cn sn dp ew ev go bl sl sk K M ap) : ∀ d, d < nd → ev d ≠ 0 → K 6 3 d = M 16 17 d ∧ (K 6 3 d = -1 ∨ K 6 3 d = K 7 0 (2 * d) ∨ K 6 3 d = K 7 0 (2 * d + 1)) := h.2.2.2.2.2.2.2.2.2.2.2.2.2.2.2.2.2.2.2.2.2.2.2.2.2.2.2.2.2.2.2.2.2.2.2.2.2.2.2.2.2.2.2.2.2.2.2.2.2.1
theorem rx_d5 {t e np nc nd no ns P r : Nat} {cn sn dp ew ev go bl sl : Nat → Nat} {sk : Nat → Nat → Nat} {K M : KS} {ap : Int64} (h : RR t e np nc nd no ns P r cn sn dp ew ev go bl sl sk K M ap) : ∀ d, d < nd → ev d = 0 → lifeOK (K 7 1 (2 * d)) ∧ lifeOK (K 7 1 (2 * d + 1)) ∧ (go d = 1 → K 6 4 d = M 16 19 d) := h.2.2.2.2.2.2.2.2.2.2.2.2.2.2.2.2.2.2.2.2.2.2.2.2.2.2.2.2.2.2.2.2.2.2.2.2.2.2.2.2.2.2.2.2.2.2.2.2.2.2.1
theorem rx_d6 {t e np nc nd no ns P r : Nat} {cn sn dp ew ev go bl sl : Nat → Nat} {sk : Nat → Nat → Nat} {K M : KS} {ap : Int64} (h : RR t e np nc nd no ns P r cn sn dp ew ev go bl sl sk K M ap) : ∀ d, d < nd → ev d = 0 → ∃ τ, τ ≤ t ∧ K 6 5 d = nI τ ∧ M 16 20 d = nI τ ∧ dp d ≤ cntE (K 18 (2 * d + τ % 2)) 1 8 := h.2.2.2.2.2.2.2.2.2.2.2.2.2.2.2.2.2.2.2.2.2.2.2.2.2.2.2.2.2.2.2.2.2.2.2.2.2.2.2.2.2.2.2.2.2.2.2.2.2.2.2.1
theorem rx_dt {t e np nc nd no ns P r : Nat} {cn sn dp ew ev go bl sl : Nat → Nat} {sk : Nat → Nat → Nat} {K M : KS} {ap : Int64} (h : RR t e np nc nd no ns P r cn sn dp ew ev go bl sl sk K M ap) : ∀ d, d < nd → ∃ τ, τ ≤ t ∧ M 16 20 d = nI τ := h.2.2.2.2.2.2.2.2.2.2.2.2.2.2.2.2.2.2.2.2.2.2.2.2.2.2.2.2.2.2.2.2.2.2.2.2.2.2.2.2.2.2.2.2.2.2.2.2.2.2.2.2.1
theorem rx_d7 {t e np nc nd no ns P r : Nat} {cn sn dp ew ev go bl sl : Nat → Nat} {sk : Nat → Nat → Nat} {K M : KS} {ap : Int64} (h : RR t e np nc nd no ns P r cn sn dp ew ev go bl sl sk K M ap) : ∀ s, s < 2 * nd → K 8 2 (s + 4) = nI (cn s) ∧ M 16 21 s = nI (cn s) ∧ cn s ≤ 8 ∧ lcp (K 8 3 (s + 4)) (cn s) := h.2.2.2.2.2.2.2.2.2.2.2.2.2.2.2.2.2.2.2.2.2.2.2.2.2.2.2.2.2.2.2.2.2.2.2.2.2.2.2.2.2.2.2.2.2.2.2.2.2.2.2.2.2.1
theorem rx_d8 {t e np nc nd no ns P r : Nat} {cn sn dp ew ev go bl sl : Nat → Nat} {sk : Nat → Nat → Nat} {K M : KS} {ap : Int64} (h : RR t e np nc nd no ns P r cn sn dp ew ev go bl sl sk K M ap) : ∀ s, s < 2 * nd → ∀ i, i < cn s → K 9 (s + 4) i = nI (sk s i) ∧ M 16 22 (8 * s + i) = nI (sk s i) ∧ sk s i < nc := h.2.2.2.2.2.2.2.2.2.2.2.2.2.2.2.2.2.2.2.2.2.2.2.2.2.2.2.2.2.2.2.2.2.2.2.2.2.2.2.2.2.2.2.2.2.2.2.2.2.2.2.2.2.2.1
theorem rx_d9 {t e np nc nd no ns P r : Nat} {cn sn dp ew ev go bl sl : Nat → Nat} {sk : Nat → Nat → Nat} {K M : KS} {ap : Int64} (h : RR t e np nc nd no ns P r cn sn dp ew ev go bl sl sk K M ap) : ∀ s, s < 2 * nd → ∀ i, i < 8 → (K 18 s i = 0 ∨ K 18 s i = 1) ∧ (i < cn s → K 18 s i = M 16 23 (8 * s + i)) ∧ (cn s ≤ i → K 18 s i = 0) := h.2.2.2.2.2.2.2.2.2.2.2.2.2.2.2.2.2.2.2.2.2.2.2.2.2.2.2.2.2.2.2.2.2.2.2.2.2.2.2.2.2.2.2.2.2.2.2.2.2.2.2.2.2.2.2.1
theorem rx_d10 {t e np nc nd no ns P r : Nat} {cn sn dp ew ev go bl sl : Nat → Nat} {sk : Nat → Nat → Nat} {K M : KS} {ap : Int64} (h : RR t e np nc nd no ns P r cn sn dp ew ev go bl sl sk K M ap) : ∀ d, d < nd → K 6 7 d = nI (dp d) ∧ M 16 24 d = nI (dp d) ∧ dp d ≤ 8 ∧ (ev d ≠ 0 ∨ go d = 0 → dp d = 0) := h.2.2.2.2.2.2.2.2.2.2.2.2.2.2.2.2.2.2.2.2.2.2.2.2.2.2.2.2.2.2.2.2.2.2.2.2.2.2.2.2.2.2.2.2.2.2.2.2.2.2.2.2.2.2.2.2.1
theorem rx_d11 {t e np nc nd no ns P r : Nat} {cn sn dp ew ev go bl sl : Nat → Nat} {sk : Nat → Nat → Nat} {K M : KS} {ap : Int64} (h : RR t e np nc nd no ns P r cn sn dp ew ev go bl sl sk K M ap) : ∀ d, d < nd → ∀ i, i < 8 → K 17 d i = M 16 25 (16 * d + i) ∧ (i < dp d → okE (K 17 d i)) := h.2.2.2.2.2.2.2.2.2.2.2.2.2.2.2.2.2.2.2.2.2.2.2.2.2.2.2.2.2.2.2.2.2.2.2.2.2.2.2.2.2.2.2.2.2.2.2.2.2.2.2.2.2.2.2.2.2.1
theorem rx_d12 {t e np nc nd no ns P r : Nat} {cn sn dp ew ev go bl sl : Nat → Nat} {sk : Nat → Nat → Nat} {K M : KS} {ap : Int64} (h : RR t e np nc nd no ns P r cn sn dp ew ev go bl sl sk K M ap) : ∀ d, d < nd → ew d ≠ 2 → ∀ s, (s = 2 * d ∨ s = 2 * d + 1) → ∀ i, i < cn s → K 4 5 (sk s i) = nI d := h.2.2.2.2.2.2.2.2.2.2.2.2.2.2.2.2.2.2.2.2.2.2.2.2.2.2.2.2.2.2.2.2.2.2.2.2.2.2.2.2.2.2.2.2.2.2.2.2.2.2.2.2.2.2.2.2.2.2.1
theorem rx_d13 {t e np nc nd no ns P r : Nat} {cn sn dp ew ev go bl sl : Nat → Nat} {sk : Nat → Nat → Nat} {K M : KS} {ap : Int64} (h : RR t e np nc nd no ns P r cn sn dp ew ev go bl sl sk K M ap) : ∀ d, d < nd → ew d = 0 → ∀ s, (s = 2 * d ∨ s = 2 * d + 1) → ∀ i, i < cn s → K 4 2 (sk s i) = K 7 0 s := h.2.2.2.2.2.2.2.2.2.2.2.2.2.2.2.2.2.2.2.2.2.2.2.2.2.2.2.2.2.2.2.2.2.2.2.2.2.2.2.2.2.2.2.2.2.2.2.2.2.2.2.2.2.2.2.2.2.2.2.1
theorem rx_d14 {t e np nc nd no ns P r : Nat} {cn sn dp ew ev go bl sl : Nat → Nat} {sk : Nat → Nat → Nat} {K M : KS} {ap : Int64} (h : RR t e np nc nd no ns P r cn sn dp ew ev go bl sl sk K M ap) : ∀ d, d < nd → ∀ s s2, (s = 2 * d ∨ s = 2 * d + 1) → (s2 = 2 * d ∨ s2 = 2 * d + 1) → ∀ i j, i < cn s → j < cn s2 → sk s i = sk s2 j → s = s2 ∧ i = j := h.2.2.2.2.2.2.2.2.2.2.2.2.2.2.2.2.2.2.2.2.2.2.2.2.2.2.2.2.2.2.2.2.2.2.2.2.2.2.2.2.2.2.2.2.2.2.2.2.2.2.2.2.2.2.2.2.2.2.2.2.1
theorem rx_z0 {t e np nc nd no ns P r : Nat} {cn sn dp ew ev go bl sl : Nat → Nat} {sk : Nat → Nat → Nat} {K M : KS} {ap : Int64} (h : RR t e np nc nd no ns P r cn sn dp ew ev go bl sl sk K M ap) : ∀ d, nd ≤ d → d < 8 → M 16 20 d = 0 ∧ M 16 21 (2 * d) = 0 ∧ M 16 21 (2 * d + 1) = 0 ∧ M 16 24 d = 0 ∧ ∀ i, i < 8 → M 16 25 (16 * d + i) = 0 := h.2.2.2.2.2.2.2.2.2.2.2.2.2.2.2.2.2.2.2.2.2.2.2.2.2.2.2.2.2.2.2.2.2.2.2.2.2.2.2.2.2.2.2.2.2.2.2.2.2.2.2.2.2.2.2.2.2.2.2.2.2.1
theorem rx_n1 {t e np nc nd no ns P r : Nat} {cn sn dp ew ev go bl sl : Nat → Nat} {sk : Nat → Nat → Nat} {K M : KS} {ap : Int64} (h : RR t e np nc nd no ns P r cn sn dp ew ev go bl sl sk K M ap) : ∀ d, d < 8 → M 16 26 d = nI (sn d) ∧ sn d ≤ 6 ∧ (nd ≤ d → sn d = 0) ∧ (go d = 0 → sn d = 0) := h.2.2.2.2.2.2.2.2.2.2.2.2.2.2.2.2.2.2.2.2.2.2.2.2.2.2.2.2.2.2.2.2.2.2.2.2.2.2.2.2.2.2.2.2.2.2.2.2.2.2.2.2.2.2.2.2.2.2.2.2.2.2.1
theorem rx_n0 {t e np nc nd no ns P r : Nat} {cn sn dp ew ev go bl sl : Nat → Nat} {sk : Nat → Nat → Nat} {K M : KS} {ap : Int64} (h : RR t e np nc nd no ns P r cn sn dp ew ev go bl sl sk K M ap) : ∀ d, d < nd → K 6 8 d = nI (sn d) := h.2.2.2.2.2.2.2.2.2.2.2.2.2.2.2.2.2.2.2.2.2.2.2.2.2.2.2.2.2.2.2.2.2.2.2.2.2.2.2.2.2.2.2.2.2.2.2.2.2.2.2.2.2.2.2.2.2.2.2.2.2.2.2.1
theorem rx_n2 {t e np nc nd no ns P r : Nat} {cn sn dp ew ev go bl sl : Nat → Nat} {sk : Nat → Nat → Nat} {K M : KS} {ap : Int64} (h : RR t e np nc nd no ns P r cn sn dp ew ev go bl sl sk K M ap) : BS (kpB sn) bl (K 10 2) (K 10 3) (K 19) (M 16 27) := h.2.2.2.2.2.2.2.2.2.2.2.2.2.2.2.2.2.2.2.2.2.2.2.2.2.2.2.2.2.2.2.2.2.2.2.2.2.2.2.2.2.2.2.2.2.2.2.2.2.2.2.2.2.2.2.2.2.2.2.2.2.2.2.2.1
theorem rx_n5 {t e np nc nd no ns P r : Nat} {cn sn dp ew ev go bl sl : Nat → Nat} {sk : Nat → Nat → Nat} {K M : KS} {ap : Int64} (h : RR t e np nc nd no ns P r cn sn dp ew ev go bl sl sk K M ap) : ∀ d, d < nd → ∀ s, s < sn d → ∀ i, i < 8 → K 20 (6 * d + s) i = M 16 28 (16 * (6 * d + s) + i) := h.2.2.2.2.2.2.2.2.2.2.2.2.2.2.2.2.2.2.2.2.2.2.2.2.2.2.2.2.2.2.2.2.2.2.2.2.2.2.2.2.2.2.2.2.2.2.2.2.2.2.2.2.2.2.2.2.2.2.2.2.2.2.2.2.2.1
theorem rx_n6 {t e np nc nd no ns P r : Nat} {cn sn dp ew ev go bl sl : Nat → Nat} {sk : Nat → Nat → Nat} {K M : KS} {ap : Int64} (h : RR t e np nc nd no ns P r cn sn dp ew ev go bl sl sk K M ap) : ∀ d, d < nd → ∀ s, s < sn d → KV t (cn (2 * d)) (cn (2 * d + 1)) (fun i => M 16 27 (24 * (6 * d + s) + i)) (fun i => M 16 28 (16 * (6 * d + s) + i)) := h.2.2.2.2.2.2.2.2.2.2.2.2.2.2.2.2.2.2.2.2.2.2.2.2.2.2.2.2.2.2.2.2.2.2.2.2.2.2.2.2.2.2.2.2.2.2.2.2.2.2.2.2.2.2.2.2.2.2.2.2.2.2.2.2.2.2.1
theorem rx_o1 {t e np nc nd no ns P r : Nat} {cn sn dp ew ev go bl sl : Nat → Nat} {sk : Nat → Nat → Nat} {K M : KS} {ap : Int64} (h : RR t e np nc nd no ns P r cn sn dp ew ev go bl sl sk K M ap) : ∀ k, k < no → ∃ c, c < nc ∧ K 5 0 k = nI c ∧ M 16 30 k = nI c := h.2.2.2.2.2.2.2.2.2.2.2.2.2.2.2.2.2.2.2.2.2.2.2.2.2.2.2.2.2.2.2.2.2.2.2.2.2.2.2.2.2.2.2.2.2.2.2.2.2.2.2.2.2.2.2.2.2.2.2.2.2.2.2.2.2.2.2.1
theorem rx_o2 {t e np nc nd no ns P r : Nat} {cn sn dp ew ev go bl sl : Nat → Nat} {sk : Nat → Nat → Nat} {K M : KS} {ap : Int64} (h : RR t e np nc nd no ns P r cn sn dp ew ev go bl sl sk K M ap) : ∀ k, k < no → K 5 1 k = M 16 31 k ∧ ∃ x, 1 ≤ x ∧ x ≤ 999 ∧ K 5 1 k = nI x := h.2.2.2.2.2.2.2.2.2.2.2.2.2.2.2.2.2.2.2.2.2.2.2.2.2.2.2.2.2.2.2.2.2.2.2.2.2.2.2.2.2.2.2.2.2.2.2.2.2.2.2.2.2.2.2.2.2.2.2.2.2.2.2.2.2.2.2.2.1
theorem rx_o3 {t e np nc nd no ns P r : Nat} {cn sn dp ew ev go bl sl : Nat → Nat} {sk : Nat → Nat → Nat} {K M : KS} {ap : Int64} (h : RR t e np nc nd no ns P r cn sn dp ew ev go bl sl sk K M ap) : ∀ k, k < no → K 5 4 k = M 13 32 k ∧ (K 5 4 k = 111 ∨ K 5 4 k = 98 ∨ K 5 4 k = 103) := h.2.2.2.2.2.2.2.2.2.2.2.2.2.2.2.2.2.2.2.2.2.2.2.2.2.2.2.2.2.2.2.2.2.2.2.2.2.2.2.2.2.2.2.2.2.2.2.2.2.2.2.2.2.2.2.2.2.2.2.2.2.2.2.2.2.2.2.2.2.1
theorem rx_o4 {t e np nc nd no ns P r : Nat} {cn sn dp ew ev go bl sl : Nat → Nat} {sk : Nat → Nat → Nat} {K M : KS} {ap : Int64} (h : RR t e np nc nd no ns P r cn sn dp ew ev go bl sl sk K M ap) : ∀ k, k < no → K 5 2 k = M 16 33 k ∧ ∃ p, p < np ∧ K 5 2 k = nI p := h.2.2.2.2.2.2.2.2.2.2.2.2.2.2.2.2.2.2.2.2.2.2.2.2.2.2.2.2.2.2.2.2.2.2.2.2.2.2.2.2.2.2.2.2.2.2.2.2.2.2.2.2.2.2.2.2.2.2.2.2.2.2.2.2.2.2.2.2.2.2.1
theorem rx_o5 {t e np nc nd no ns P r : Nat} {cn sn dp ew ev go bl sl : Nat → Nat} {sk : Nat → Nat → Nat} {K M : KS} {ap : Int64} (h : RR t e np nc nd no ns P r cn sn dp ew ev go bl sl sk K M ap) : ∀ k, k < no → K 5 4 k = 98 → K 5 3 k = M 16 34 k ∧ K 5 3 k ≠ K 5 2 k ∧ (∃ p, p < np ∧ K 5 3 k = nI p) ∧ K 5 5 k = M 16 35 k ∧ ∃ j, j < ns ∧ sl j = k := h.2.2.2.2.2.2.2.2.2.2.2.2.2.2.2.2.2.2.2.2.2.2.2.2.2.2.2.2.2.2.2.2.2.2.2.2.2.2.2.2.2.2.2.2.2.2.2.2.2.2.2.2.2.2.2.2.2.2.2.2.2.2.2.2.2.2.2.2.2.2.2.1
theorem rx_o6 {t e np nc nd no ns P r : Nat} {cn sn dp ew ev go bl sl : Nat → Nat} {sk : Nat → Nat → Nat} {K M : KS} {ap : Int64} (h : RR t e np nc nd no ns P r cn sn dp ew ev go bl sl sk K M ap) : ∀ k, k < no → K 5 5 k = -1 ∨ (K 5 4 k = 98 ∧ ∃ d, d < nd ∧ K 5 5 k = nI d ∧ ew d = 1 ∧ ∃ c, c < nc ∧ K 5 0 k = nI c ∧ K 4 5 c = nI d) := h.2.2.2.2.2.2.2.2.2.2.2.2.2.2.2.2.2.2.2.2.2.2.2.2.2.2.2.2.2.2.2.2.2.2.2.2.2.2.2.2.2.2.2.2.2.2.2.2.2.2.2.2.2.2.2.2.2.2.2.2.2.2.2.2.2.2.2.2.2.2.2.2.1
theorem rx_o7 {t e np nc nd no ns P r : Nat} {cn sn dp ew ev go bl sl : Nat → Nat} {sk : Nat → Nat → Nat} {K M : KS} {ap : Int64} (h : RR t e np nc nd no ns P r cn sn dp ew ev go bl sl sk K M ap) : ∀ k, k < no → K 5 4 k = 111 → ∃ c, c < nc ∧ K 5 0 k = nI c ∧ M 16 10 c = nI k ∧ K 5 2 k = K 4 2 c ∧ K 4 3 c ≠ 115 := h.2.2.2.2.2.2.2.2.2.2.2.2.2.2.2.2.2.2.2.2.2.2.2.2.2.2.2.2.2.2.2.2.2.2.2.2.2.2.2.2.2.2.2.2.2.2.2.2.2.2.2.2.2.2.2.2.2.2.2.2.2.2.2.2.2.2.2.2.2.2.2.2.2.1
theorem rx_ow {t e np nc nd no ns P r : Nat} {cn sn dp ew ev go bl sl : Nat → Nat} {sk : Nat → Nat → Nat} {K M : KS} {ap : Int64} (h : RR t e np nc nd no ns P r cn sn dp ew ev go bl sl sk K M ap) : ∀ k, k < no → K 5 4 k = 111 → M 16 35 k = -1 := h.2.2.2.2.2.2.2.2.2.2.2.2.2.2.2.2.2.2.2.2.2.2.2.2.2.2.2.2.2.2.2.2.2.2.2.2.2.2.2.2.2.2.2.2.2.2.2.2.2.2.2.2.2.2.2.2.2.2.2.2.2.2.2.2.2.2.2.2.2.2.2.2.2.2.1
theorem rx_o8 {t e np nc nd no ns P r : Nat} {cn sn dp ew ev go bl sl : Nat → Nat} {sk : Nat → Nat → Nat} {K M : KS} {ap : Int64} (h : RR t e np nc nd no ns P r cn sn dp ew ev go bl sl sk K M ap) : ∀ j, j < ns → K 9 3 j = nI (sl j) ∧ sl j < no ∧ M 16 36 (sl j) = nI j ∧ K 5 4 (sl j) ≠ 111 := h.2.2.2.2.2.2.2.2.2.2.2.2.2.2.2.2.2.2.2.2.2.2.2.2.2.2.2.2.2.2.2.2.2.2.2.2.2.2.2.2.2.2.2.2.2.2.2.2.2.2.2.2.2.2.2.2.2.2.2.2.2.2.2.2.2.2.2.2.2.2.2.2.2.2.2.1
theorem rx_o9 {t e np nc nd no ns P r : Nat} {cn sn dp ew ev go bl sl : Nat → Nat} {sk : Nat → Nat → Nat} {K M : KS} {ap : Int64} (h : RR t e np nc nd no ns P r cn sn dp ew ev go bl sl sk K M ap) : ∀ d, d < nd → ew d = 1 → ChOk (K 5 5) (K 5 0) (K 5 3) (K 5 2) sl d (ChB cn sk (K 6 3) (K 7 0) d) ns (K 4 2) := h.2.2.2.2.2.2.2.2.2.2.2.2.2.2.2.2.2.2.2.2.2.2.2.2.2.2.2.2.2.2.2.2.2.2.2.2.2.2.2.2.2.2.2.2.2.2.2.2.2.2.2.2.2.2.2.2.2.2.2.2.2.2.2.2.2.2.2.2.2.2.2.2.2.2.2.2
theorem rr_up {t e np nc nd no ns P r : Nat} {cn sn dp ew ev go bl sl : Nat → Nat} {sk : Nat → Nat → Nat} {K M : KS} {ap : Int64} {t2 e2 : Nat} (ht : t ≤ t2) (he : e ≤ e2) (h : RR t e np nc nd no ns P r cn sn dp ew ev go bl sl sk K M ap) : RR t2 e2 np nc nd no ns P r cn sn dp ew ev go bl sl sk K M ap := by
  obtain ⟨np1, np2, np3, nc1, nc2, nc3, nc4, nd1, nd2, nd3, nd4, no1, no2, no3, no4, ns1, ns2, ns3, lc0, lc1, lc2, lc3, l0, l1, l2, pl, sd, hs_, av, ab, c0, c1, c2, c3, c4, c6, c7, g1, g2, g3, g4, g5, g6, g7, g8, g9, d1, d2, d3, d4, d5, d6, dt, d7, d8, d9, d10, d11, d12, d13, d14, z0, n1, n0, n2, n5, n6, o1, o2, o3, o4, o5, o6, o7, ow, o8, o9⟩ := h
  unfold RR
  refine ⟨np1, np2, np3, nc1, nc2, nc3, nc4, nd1, nd2, nd3, nd4, no1, no2, no3, no4, ns1, ns2, ns3, lc0, lc1, lc2, lc3, l0, l1, l2, pl, sd, hs_, av, ?_, c0, c1, c2, c3, c4, c6, c7, g1, g2, g3, g4, g5, g6, g7, ?_, ?_, d1, d2, d3, d4, d5, ?_, ?_, d7, d8, d9, d10, d11, d12, d13, d14, z0, n1, n0, n2, n5, ?_, o1, o2, o3, o4, o5, o6, o7, ow, o8, o9⟩
  · obtain ⟨a, b⟩ := ab
    have : (t : Int) ≤ t2 := Int.ofNat_le.mpr ht
    exact ⟨by omega, by omega⟩
  · omega
  · rcases g9 with q | q
    · exact Or.inl q
    · exact Or.inr (by omega)
  · intro d hd hq
    obtain ⟨τ, a1, a2⟩ := d6 d hd hq
    exact ⟨τ, by omega, a2⟩
  · intro d hd
    obtain ⟨τ, a1, a2⟩ := dt d hd
    exact ⟨τ, by omega, a2⟩
  · intro d hd s hs
    obtain ⟨a1, a2, ⟨τ, dq, b1, b2⟩, a4⟩ := n6 d hd s hs
    exact ⟨a1, a2, ⟨τ, dq, by omega, b2⟩, a4⟩
theorem rr_code {t e np nc nd no ns P r : Nat} {cn sn dp ew ev go bl sl : Nat → Nat} {sk : Nat → Nat → Nat} {K M : KS} {ap : Int64} (v : Int32) (h : RR t e np nc nd no ns P r cn sn dp ew ev go bl sl sk K M ap) : RR t e np nc nd no ns P r cn sn dp ew ev go bl sl sk K (k3 M 3 0 0 v) ap := by
  obtain ⟨np1, np2, np3, nc1, nc2, nc3, nc4, nd1, nd2, nd3, nd4, no1, no2, no3, no4, ns1, ns2, ns3, lc0, lc1, lc2, lc3, l0, l1, l2, pl, sd, hs_, av, ab, c0, c1, c2, c3, c4, c6, c7, g1, g2, g3, g4, g5, g6, g7, g8, g9, d1, d2, d3, d4, d5, d6, dt, d7, d8, d9, d10, d11, d12, d13, d14, z0, n1, n0, n2, n5, n6, o1, o2, o3, o4, o5, o6, o7, ow, o8, o9⟩ := h
  unfold RR
  refine ⟨np1, np2, np3, nc1, nc2, nc3, nc4, nd1, nd2, nd3, nd4, no1, no2, no3, no4, ns1, ns2, ns3, lc0, lc1, lc2, lc3, l0, l1, l2, pl, sd, hs_, av, ab, c0, c1, c2, c3, c4, c6, c7, g1, g2, g3, g4, g5, g6, g7, g8, g9, d1, d2, d3, d4, d5, d6, dt, d7, d8, d9, d10, d11, d12, d13, d14, z0, n1, n0, n2, n5, n6, o1, o2, o3, o4, o5, o6, o7, ow, o8, o9⟩
theorem phv_111 {a b : Nat} (hb : b ≤ 1) : phv a b = 111 ↔ a = 0 ∧ b = 0 := by
  unfold phv
  rcases Nat.lt_or_ge 1 a with q | q
  · rw [if_neg (by omega), if_neg (by omega)]
    exact ⟨fun z => absurd z (by decide), fun z => absurd z.1 (by omega)⟩
  · rcases (by omega : a = 0 ∨ a = 1) with rfl | rfl <;> rcases (by omega : b = 0 ∨ b = 1) with rfl | rfl <;> decide
theorem phv_103 {a b : Nat} (hb : b ≤ 1) : phv a b = 103 ↔ a = 0 ∧ b = 1 := by
  unfold phv
  rcases Nat.lt_or_ge 1 a with q | q
  · rw [if_neg (by omega), if_neg (by omega)]
    exact ⟨fun z => absurd z (by decide), fun z => absurd z.1 (by omega)⟩
  · rcases (by omega : a = 0 ∨ a = 1) with rfl | rfl <;> rcases (by omega : b = 0 ∨ b = 1) with rfl | rfl <;> decide
theorem phv_101 {a b : Nat} (hb : b ≤ 1) : phv a b = 101 ↔ a = 1 := by
  unfold phv
  rcases Nat.lt_or_ge 1 a with q | q
  · rw [if_neg (by omega), if_neg (by omega)]
    exact ⟨fun z => absurd z (by decide), fun z => absurd z (by omega)⟩
  · rcases (by omega : a = 0 ∨ a = 1) with rfl | rfl <;> rcases (by omega : b = 0 ∨ b = 1) with rfl | rfl <;> decide
theorem phv_102 {a b : Nat} (hb : b ≤ 1) : phv a b = 102 ↔ 2 ≤ a := by
  unfold phv
  rcases Nat.lt_or_ge 1 a with q | q
  · rw [if_neg (by omega), if_neg (by omega)]
    exact ⟨fun z => q, fun z => rfl⟩
  · rcases (by omega : a = 0 ∨ a = 1) with rfl | rfl <;> rcases (by omega : b = 0 ∨ b = 1) with rfl | rfl <;> decide
/-- postings are fewer than the reference's room -/
theorem rr_P {t e np nc nd no ns P r : Nat} {cn sn dp ew ev go bl sl : Nat → Nat} {sk : Nat → Nat → Nat} {K M : KS} {ap : Int64} (h : RR t e np nc nd no ns P r cn sn dp ew ev go bl sl sk K M ap) (he : e ≤ 512) : P ≤ 3994 := by
  obtain ⟨_, _, np3, _, _, _, _, _, _, _, _, _, _, _, _, _, _, _, _, _, _, _, _, _, _, _, _, _, _, _, _, _, _, _, _, _, _, _, _, _, _, _, _, _, g8, g9, d1, _, _, _, _, _, _, d7, d8, _, _, _, _, _, d14, _, _, _, _, _, _, _, _, _, _, _, _, _, _, _, _⟩ := h
  rcases g9 with ⟨s, hs, h8⟩ | q
  · obtain ⟨_, _, a, b, ha, hb, hab, _⟩ := d1 (s / 2) (by omega)
    have hS := sumN_ge (f := cn) hs
    have h0 := (d8 s hs 0 (by omega)).2.2
    have h1 := (d8 s hs 1 (by omega)).2.2
    have hne : sk s 0 ≠ sk s 1 := fun q => by
      have := (d14 (s / 2) (by omega) s s (by omega) (by omega) 0 1 (by omega) (by omega) q).2
      omega
    omega
  · omega

