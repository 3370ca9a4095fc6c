/-! The step of the law. -/
theorem inv_step : LawStep InvC :=
  ⟨fun t uc us K M ap h => ⟨by have h1 := h.1; have h2 := h.2.1; omega, by have h1 := h.1; have h2 := h.2.2.1; omega⟩,
   fun t uc us K M ap ht h => by
     obtain ⟨_, hu, hs, np, nc, nd, no, ns, P, r, cn, sn, dp, ew, go, bl, sl, sk, hR⟩ := h
     exact inv_mk (mc := 0) (ms := 0) ht hu hs (by omega) (by omega) (rr_up (Nat.le_succ t) (Nat.le_succ t) hR),
   fun t uc us K M ap o od p1 p2 p3 ht h => ⟨c_player ht h, c_make ht h, c_ownerOf ht h, c_ownerByPostings ht h, c_stateOf ht h, c_cardsOf ht h, c_coinsOf ht h, c_postings ht h, c_posting ht h, c_duel ht h, c_stake ht h, c_start ht h, c_play ht h, c_endTurn ht h, c_duelState ht h, c_life ht h, c_mana ht h, c_depth ht h, c_winner ht h, c_close ht h, c_snapshot ht h, c_inSnapshot ht h, c_blocks ht h, c_rollBack ht h, c_offer ht h, c_withdraw ht h, c_buy ht h, c_offerState ht h, c_house ht h, c_apart ht h, c_wonBits ht h, c_meanPrice ht h, c_isSound ht h⟩⟩
