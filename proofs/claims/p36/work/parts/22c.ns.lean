/-! A number kept with a snapshot, as the class has it. -/
def NS (K : KS) (d s i : Nat) : Int32 := K 10 2 (4 * (K 19 (6 * d + s) (i / 4)).toNatClampNeg + i % 4)
theorem ns_val {t e np nc nd no ns P r : Nat} {cn sn dp ew ev go bl sl : Nat → Nat} {sk : Nat → Nat → Nat} {K M : KS} {ap : Int64} {d s i : Nat} (h : RR t e np nc nd no ns P r cn sn dp ew ev go bl sl sk K M ap) (hd : d < nd) (hs : s < sn d) (hi : i < 24) : NS K d s i = M 16 27 (24 * (6 * d + s) + i) := by
  have nd4 := rx_nd4 h
  have hs6 := ((rx_n1 h) d (by omega)).2.1
  have n2 := rx_n2 h
  have h4 : i / 4 < 6 := by omega
  have hq : (6 * (6 * d + s) + i / 4) / 6 = 6 * d + s := by omega
  have hr : (6 * (6 * d + s) + i / 4) % 6 = i / 4 := by omega
  have hk : kpB sn (6 * (6 * d + s) + i / 4) = true := by
    unfold kpB
    refine decide_eq_true ?_
    rw [hq, show (6 * (6 * d + s) + i / 4) / 36 = d by omega, show (6 * d + s) % 6 = s by omega]
    exact hs
  obtain ⟨w1, w2, w3⟩ := n2.1 (6 * (6 * d + s) + i / 4) (by omega) hk
  rw [hq, hr] at w1
  unfold NS
  rw [w1, nI_clamp (by omega), w3 (i % 4) (by omega)]
  congr 1
  omega
