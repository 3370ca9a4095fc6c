section
-- ===== PART A: goes FIRST, ahead of the names: the tables' words, and 'selects' of the private methods out of them =====
/-- a private method of a class that the tables say can be made, by its rows of tables_1 -/
def lw_okq (q : MethodName × Nat) : Prop := (q.1.cls ≠ "java/lang/invoke/MethodHandle" ∧ q.1.cls ≠ "java/lang/invoke/VarHandle") ∧ Cond.instantiable q.1.cls q.2 ∈ tables_1 ∧ Cond.privateMethod q.1 ∈ tables_1 ∧ Cond.instanceMethod q.1 ∈ tables_1
theorem lw_p0 : lw_okq (⟨"SnapshotArena$Ledger", "numberAt", "(I)I"⟩, 2) := ⟨⟨by decide +kernel, by decide +kernel⟩, List.mem_of_getElem? (i := 67) (by decide +kernel), List.mem_of_getElem? (i := 182) (by decide +kernel), List.mem_of_getElem? (i := 183) (by decide +kernel)⟩
theorem lw_p1 : lw_okq (⟨"java/lang/Throwable", "fillInStackTrace", "(I)Ljava/lang/Throwable;"⟩, 6) := ⟨⟨by decide +kernel, by decide +kernel⟩, List.mem_of_getElem? (i := 241) (by decide +kernel), List.mem_of_getElem? (i := 239) (by decide +kernel), List.mem_of_getElem? (i := 240) (by decide +kernel)⟩
theorem lw_p2 : lw_okq (⟨"SnapshotArena", "needPlayer", "(I)V"⟩, 12) := ⟨⟨by decide +kernel, by decide +kernel⟩, List.mem_of_getElem? (i := 32) (by decide +kernel), List.mem_of_getElem? (i := 318) (by decide +kernel), List.mem_of_getElem? (i := 319) (by decide +kernel)⟩
theorem lw_p3 : lw_okq (⟨"java/util/ArrayList", "add", "(Ljava/lang/Object;[Ljava/lang/Object;I)V"⟩, 3) := ⟨⟨by decide +kernel, by decide +kernel⟩, List.mem_of_getElem? (i := 40) (by decide +kernel), List.mem_of_getElem? (i := 370) (by decide +kernel), List.mem_of_getElem? (i := 371) (by decide +kernel)⟩
theorem lw_p4 : lw_okq (⟨"java/util/ArrayList", "grow", "()[Ljava/lang/Object;"⟩, 3) := ⟨⟨by decide +kernel, by decide +kernel⟩, List.mem_of_getElem? (i := 40) (by decide +kernel), List.mem_of_getElem? (i := 374) (by decide +kernel), List.mem_of_getElem? (i := 375) (by decide +kernel)⟩
theorem lw_p5 : lw_okq (⟨"java/util/ArrayList", "grow", "(I)[Ljava/lang/Object;"⟩, 3) := ⟨⟨by decide +kernel, by decide +kernel⟩, List.mem_of_getElem? (i := 40) (by decide +kernel), List.mem_of_getElem? (i := 378) (by decide +kernel), List.mem_of_getElem? (i := 379) (by decide +kernel)⟩
theorem lw_p6 : lw_okq (⟨"SnapshotArena", "cardAt", "(I)LSnapshotArena$Card;"⟩, 12) := ⟨⟨by decide +kernel, by decide +kernel⟩, List.mem_of_getElem? (i := 32) (by decide +kernel), List.mem_of_getElem? (i := 450) (by decide +kernel), List.mem_of_getElem? (i := 451) (by decide +kernel)⟩
theorem lw_p7 : lw_okq (⟨"SnapshotArena", "isBusy", "(ILSnapshotArena$Duel;)Z"⟩, 12) := ⟨⟨by decide +kernel, by decide +kernel⟩, List.mem_of_getElem? (i := 32) (by decide +kernel), List.mem_of_getElem? (i := 506) (by decide +kernel), List.mem_of_getElem? (i := 507) (by decide +kernel)⟩
theorem lw_p8 : lw_okq (⟨"SnapshotArena", "duelAt", "(I)LSnapshotArena$Duel;"⟩, 12) := ⟨⟨by decide +kernel, by decide +kernel⟩, List.mem_of_getElem? (i := 32) (by decide +kernel), List.mem_of_getElem? (i := 605) (by decide +kernel), List.mem_of_getElem? (i := 606) (by decide +kernel)⟩
theorem lw_p9 : lw_okq (⟨"SnapshotArena$Duel", "numberOnTurn", "()I"⟩, 11) := ⟨⟨by decide +kernel, by decide +kernel⟩, List.mem_of_getElem? (i := 520) (by decide +kernel), List.mem_of_getElem? (i := 661) (by decide +kernel), List.mem_of_getElem? (i := 662) (by decide +kernel)⟩
theorem lw_p10 : lw_okq (⟨"SnapshotArena$Duel", "hurtOtherOf", "(II)V"⟩, 11) := ⟨⟨by decide +kernel, by decide +kernel⟩, List.mem_of_getElem? (i := 520) (by decide +kernel), List.mem_of_getElem? (i := 702) (by decide +kernel), List.mem_of_getElem? (i := 703) (by decide +kernel)⟩
theorem lw_p11 : lw_okq (⟨"SnapshotArena$Duel", "end", "(I)V"⟩, 11) := ⟨⟨by decide +kernel, by decide +kernel⟩, List.mem_of_getElem? (i := 520) (by decide +kernel), List.mem_of_getElem? (i := 706) (by decide +kernel), List.mem_of_getElem? (i := 707) (by decide +kernel)⟩
theorem lw_p12 : lw_okq (⟨"SnapshotArena$Duel", "healOwn", "(II)V"⟩, 11) := ⟨⟨by decide +kernel, by decide +kernel⟩, List.mem_of_getElem? (i := 520) (by decide +kernel), List.mem_of_getElem? (i := 710) (by decide +kernel), List.mem_of_getElem? (i := 711) (by decide +kernel)⟩
theorem lw_p13 : lw_okq (⟨"SnapshotArena$Duel", "playerWithMoreLife", "()I"⟩, 11) := ⟨⟨by decide +kernel, by decide +kernel⟩, List.mem_of_getElem? (i := 520) (by decide +kernel), List.mem_of_getElem? (i := 724) (by decide +kernel), List.mem_of_getElem? (i := 725) (by decide +kernel)⟩
theorem lw_p14 : lw_okq (⟨"SnapshotArena", "awardCards", "(LSnapshotArena$Side;I)V"⟩, 12) := ⟨⟨by decide +kernel, by decide +kernel⟩, List.mem_of_getElem? (i := 32) (by decide +kernel), List.mem_of_getElem? (i := 728) (by decide +kernel), List.mem_of_getElem? (i := 729) (by decide +kernel)⟩
theorem lw_p15 : lw_okq (⟨"SnapshotArena", "hand", "(LSnapshotArena$Card;I)V"⟩, 12) := ⟨⟨by decide +kernel, by decide +kernel⟩, List.mem_of_getElem? (i := 32) (by decide +kernel), List.mem_of_getElem? (i := 732) (by decide +kernel), List.mem_of_getElem? (i := 733) (by decide +kernel)⟩
def lw_privs_1 : List (MethodName × Nat) := [(⟨"SnapshotArena$Ledger", "numberAt", "(I)I"⟩, 2), (⟨"java/lang/Throwable", "fillInStackTrace", "(I)Ljava/lang/Throwable;"⟩, 6), (⟨"SnapshotArena", "needPlayer", "(I)V"⟩, 12), (⟨"java/util/ArrayList", "add", "(Ljava/lang/Object;[Ljava/lang/Object;I)V"⟩, 3), (⟨"java/util/ArrayList", "grow", "()[Ljava/lang/Object;"⟩, 3), (⟨"java/util/ArrayList", "grow", "(I)[Ljava/lang/Object;"⟩, 3), (⟨"SnapshotArena", "cardAt", "(I)LSnapshotArena$Card;"⟩, 12), (⟨"SnapshotArena", "isBusy", "(ILSnapshotArena$Duel;)Z"⟩, 12), (⟨"SnapshotArena", "duelAt", "(I)LSnapshotArena$Duel;"⟩, 12), (⟨"SnapshotArena$Duel", "numberOnTurn", "()I"⟩, 11), (⟨"SnapshotArena$Duel", "hurtOtherOf", "(II)V"⟩, 11), (⟨"SnapshotArena$Duel", "end", "(I)V"⟩, 11), (⟨"SnapshotArena$Duel", "healOwn", "(II)V"⟩, 11), (⟨"SnapshotArena$Duel", "playerWithMoreLife", "()I"⟩, 11), (⟨"SnapshotArena", "awardCards", "(LSnapshotArena$Side;I)V"⟩, 12), (⟨"SnapshotArena", "hand", "(LSnapshotArena$Card;I)V"⟩, 12)]
theorem lw_r1 : ∀ q ∈ lw_privs_1, lw_okq q := List.forall_mem_cons.mpr ⟨lw_p0, List.forall_mem_cons.mpr ⟨lw_p1, List.forall_mem_cons.mpr ⟨lw_p2, List.forall_mem_cons.mpr ⟨lw_p3, List.forall_mem_cons.mpr ⟨lw_p4, List.forall_mem_cons.mpr ⟨lw_p5, List.forall_mem_cons.mpr ⟨lw_p6, List.forall_mem_cons.mpr ⟨lw_p7, List.forall_mem_cons.mpr ⟨lw_p8, List.forall_mem_cons.mpr ⟨lw_p9, List.forall_mem_cons.mpr ⟨lw_p10, List.forall_mem_cons.mpr ⟨lw_p11, List.forall_mem_cons.mpr ⟨lw_p12, List.forall_mem_cons.mpr ⟨lw_p13, List.forall_mem_cons.mpr ⟨lw_p14, List.forall_mem_cons.mpr ⟨lw_p15, fun _ h => absurd h List.not_mem_nil⟩⟩⟩⟩⟩⟩⟩⟩⟩⟩⟩⟩⟩⟩⟩⟩
theorem lw_p16 : lw_okq (⟨"SnapshotArena", "freeCards", "(LSnapshotArena$Side;)V"⟩, 12) := ⟨⟨by decide +kernel, by decide +kernel⟩, List.mem_of_getElem? (i := 32) (by decide +kernel), List.mem_of_getElem? (i := 796) (by decide +kernel), List.mem_of_getElem? (i := 797) (by decide +kernel)⟩
theorem lw_p17 : lw_okq (⟨"SnapshotArena", "payOutSales", "(I)V"⟩, 12) := ⟨⟨by decide +kernel, by decide +kernel⟩, List.mem_of_getElem? (i := 32) (by decide +kernel), List.mem_of_getElem? (i := 800) (by decide +kernel), List.mem_of_getElem? (i := 801) (by decide +kernel)⟩
theorem lw_p18 : lw_okq (⟨"SnapshotArena", "paySeller", "(LSnapshotArena$Offer;)V"⟩, 12) := ⟨⟨by decide +kernel, by decide +kernel⟩, List.mem_of_getElem? (i := 32) (by decide +kernel), List.mem_of_getElem? (i := 805) (by decide +kernel), List.mem_of_getElem? (i := 806) (by decide +kernel)⟩
theorem lw_p19 : lw_okq (⟨"SnapshotArena", "addCoins", "(II)V"⟩, 12) := ⟨⟨by decide +kernel, by decide +kernel⟩, List.mem_of_getElem? (i := 32) (by decide +kernel), List.mem_of_getElem? (i := 809) (by decide +kernel), List.mem_of_getElem? (i := 810) (by decide +kernel)⟩
theorem lw_p20 : lw_okq (⟨"SnapshotArena$BlockStore", "isAs", "(I[II)Z"⟩, 2) := ⟨⟨by decide +kernel, by decide +kernel⟩, List.mem_of_getElem? (i := 81) (by decide +kernel), List.mem_of_getElem? (i := 834) (by decide +kernel), List.mem_of_getElem? (i := 835) (by decide +kernel)⟩
theorem lw_p21 : lw_okq (⟨"SnapshotArena", "undoSales", "(I)I"⟩, 12) := ⟨⟨by decide +kernel, by decide +kernel⟩, List.mem_of_getElem? (i := 32) (by decide +kernel), List.mem_of_getElem? (i := 865) (by decide +kernel), List.mem_of_getElem? (i := 866) (by decide +kernel)⟩
theorem lw_p22 : lw_okq (⟨"SnapshotArena", "dropOffers", "(I)V"⟩, 12) := ⟨⟨by decide +kernel, by decide +kernel⟩, List.mem_of_getElem? (i := 32) (by decide +kernel), List.mem_of_getElem? (i := 869) (by decide +kernel), List.mem_of_getElem? (i := 870) (by decide +kernel)⟩
theorem lw_p23 : lw_okq (⟨"SnapshotArena", "takeCardsBack", "(LSnapshotArena$Side;)V"⟩, 12) := ⟨⟨by decide +kernel, by decide +kernel⟩, List.mem_of_getElem? (i := 32) (by decide +kernel), List.mem_of_getElem? (i := 873) (by decide +kernel), List.mem_of_getElem? (i := 874) (by decide +kernel)⟩
theorem lw_p24 : lw_okq (⟨"SnapshotArena", "offerAt", "(I)LSnapshotArena$Offer;"⟩, 12) := ⟨⟨by decide +kernel, by decide +kernel⟩, List.mem_of_getElem? (i := 32) (by decide +kernel), List.mem_of_getElem? (i := 935) (by decide +kernel), List.mem_of_getElem? (i := 936) (by decide +kernel)⟩
theorem lw_p25 : lw_okq (⟨"SnapshotArena", "sell", "(LSnapshotArena$Offer;I)V"⟩, 12) := ⟨⟨by decide +kernel, by decide +kernel⟩, List.mem_of_getElem? (i := 32) (by decide +kernel), List.mem_of_getElem? (i := 950) (by decide +kernel), List.mem_of_getElem? (i := 951) (by decide +kernel)⟩
theorem lw_p26 : lw_okq (⟨"SnapshotArenaModel", "fails", "(I)I"⟩, 38) := ⟨⟨by decide +kernel, by decide +kernel⟩, List.mem_of_getElem? (i := 997) (by decide +kernel), List.mem_of_getElem? (i := 1130) (by decide +kernel), List.mem_of_getElem? (i := 1131) (by decide +kernel)⟩
theorem lw_p27 : lw_okq (⟨"SnapshotArenaModel", "isPlayer", "(I)Z"⟩, 38) := ⟨⟨by decide +kernel, by decide +kernel⟩, List.mem_of_getElem? (i := 997) (by decide +kernel), List.mem_of_getElem? (i := 1138) (by decide +kernel), List.mem_of_getElem? (i := 1139) (by decide +kernel)⟩
theorem lw_p28 : lw_okq (⟨"SnapshotArenaModel", "posts", "(III)V"⟩, 38) := ⟨⟨by decide +kernel, by decide +kernel⟩, List.mem_of_getElem? (i := 997) (by decide +kernel), List.mem_of_getElem? (i := 1142) (by decide +kernel), List.mem_of_getElem? (i := 1143) (by decide +kernel)⟩
theorem lw_p29 : lw_okq (⟨"SnapshotArenaModel", "isCard", "(I)Z"⟩, 38) := ⟨⟨by decide +kernel, by decide +kernel⟩, List.mem_of_getElem? (i := 997) (by decide +kernel), List.mem_of_getElem? (i := 1150) (by decide +kernel), List.mem_of_getElem? (i := 1151) (by decide +kernel)⟩
theorem lw_p30 : lw_okq (⟨"SnapshotArenaModel", "failsChar", "(I)C"⟩, 38) := ⟨⟨by decide +kernel, by decide +kernel⟩, List.mem_of_getElem? (i := 997) (by decide +kernel), List.mem_of_getElem? (i := 1162) (by decide +kernel), List.mem_of_getElem? (i := 1163) (by decide +kernel)⟩
theorem lw_p31 : lw_okq (⟨"SnapshotArenaModel", "isBusy", "(II)Z"⟩, 38) := ⟨⟨by decide +kernel, by decide +kernel⟩, List.mem_of_getElem? (i := 997) (by decide +kernel), List.mem_of_getElem? (i := 1186) (by decide +kernel), List.mem_of_getElem? (i := 1187) (by decide +kernel)⟩
def lw_privs_2 : List (MethodName × Nat) := [(⟨"SnapshotArena", "freeCards", "(LSnapshotArena$Side;)V"⟩, 12), (⟨"SnapshotArena", "payOutSales", "(I)V"⟩, 12), (⟨"SnapshotArena", "paySeller", "(LSnapshotArena$Offer;)V"⟩, 12), (⟨"SnapshotArena", "addCoins", "(II)V"⟩, 12), (⟨"SnapshotArena$BlockStore", "isAs", "(I[II)Z"⟩, 2), (⟨"SnapshotArena", "undoSales", "(I)I"⟩, 12), (⟨"SnapshotArena", "dropOffers", "(I)V"⟩, 12), (⟨"SnapshotArena", "takeCardsBack", "(LSnapshotArena$Side;)V"⟩, 12), (⟨"SnapshotArena", "offerAt", "(I)LSnapshotArena$Offer;"⟩, 12), (⟨"SnapshotArena", "sell", "(LSnapshotArena$Offer;I)V"⟩, 12), (⟨"SnapshotArenaModel", "fails", "(I)I"⟩, 38), (⟨"SnapshotArenaModel", "isPlayer", "(I)Z"⟩, 38), (⟨"SnapshotArenaModel", "posts", "(III)V"⟩, 38), (⟨"SnapshotArenaModel", "isCard", "(I)Z"⟩, 38), (⟨"SnapshotArenaModel", "failsChar", "(I)C"⟩, 38), (⟨"SnapshotArenaModel", "isBusy", "(II)Z"⟩, 38)]
theorem lw_r2 : ∀ q ∈ lw_privs_2, lw_okq q := List.forall_mem_cons.mpr ⟨lw_p16, List.forall_mem_cons.mpr ⟨lw_p17, List.forall_mem_cons.mpr ⟨lw_p18, List.forall_mem_cons.mpr ⟨lw_p19, List.forall_mem_cons.mpr ⟨lw_p20, List.forall_mem_cons.mpr ⟨lw_p21, List.forall_mem_cons.mpr ⟨lw_p22, List.forall_mem_cons.mpr ⟨lw_p23, List.forall_mem_cons.mpr ⟨lw_p24, List.forall_mem_cons.mpr ⟨lw_p25, List.forall_mem_cons.mpr ⟨lw_p26, List.forall_mem_cons.mpr ⟨lw_p27, List.forall_mem_cons.mpr ⟨lw_p28, List.forall_mem_cons.mpr ⟨lw_p29, List.forall_mem_cons.mpr ⟨lw_p30, List.forall_mem_cons.mpr ⟨lw_p31, fun _ h => absurd h List.not_mem_nil⟩⟩⟩⟩⟩⟩⟩⟩⟩⟩⟩⟩⟩⟩⟩⟩
theorem lw_p32 : lw_okq (⟨"SnapshotArenaModel", "isDuel", "(I)Z"⟩, 38) := ⟨⟨by decide +kernel, by decide +kernel⟩, List.mem_of_getElem? (i := 997) (by decide +kernel), List.mem_of_getElem? (i := 1194) (by decide +kernel), List.mem_of_getElem? (i := 1195) (by decide +kernel)⟩
theorem lw_p33 : lw_okq (⟨"SnapshotArenaModel", "resolves", "(I)Z"⟩, 38) := ⟨⟨by decide +kernel, by decide +kernel⟩, List.mem_of_getElem? (i := 997) (by decide +kernel), List.mem_of_getElem? (i := 1210) (by decide +kernel), List.mem_of_getElem? (i := 1211) (by decide +kernel)⟩
theorem lw_p34 : lw_okq (⟨"SnapshotArenaModel", "areAllPlayed", "(I)Z"⟩, 38) := ⟨⟨by decide +kernel, by decide +kernel⟩, List.mem_of_getElem? (i := 997) (by decide +kernel), List.mem_of_getElem? (i := 1214) (by decide +kernel), List.mem_of_getElem? (i := 1215) (by decide +kernel)⟩
theorem lw_p35 : lw_okq (⟨"SnapshotArenaModel", "ends", "(I)V"⟩, 38) := ⟨⟨by decide +kernel, by decide +kernel⟩, List.mem_of_getElem? (i := 997) (by decide +kernel), List.mem_of_getElem? (i := 1218) (by decide +kernel), List.mem_of_getElem? (i := 1219) (by decide +kernel)⟩
theorem lw_p36 : lw_okq (⟨"SnapshotArenaModel", "pays", "(I)V"⟩, 38) := ⟨⟨by decide +kernel, by decide +kernel⟩, List.mem_of_getElem? (i := 997) (by decide +kernel), List.mem_of_getElem? (i := 1246) (by decide +kernel), List.mem_of_getElem? (i := 1247) (by decide +kernel)⟩
theorem lw_p37 : lw_okq (⟨"SnapshotArenaModel", "isSnapshot", "(II)Z"⟩, 38) := ⟨⟨by decide +kernel, by decide +kernel⟩, List.mem_of_getElem? (i := 997) (by decide +kernel), List.mem_of_getElem? (i := 1258) (by decide +kernel), List.mem_of_getElem? (i := 1259) (by decide +kernel)⟩
theorem lw_p38 : lw_okq (⟨"SnapshotArenaModel", "isKept", "(I)Z"⟩, 38) := ⟨⟨by decide +kernel, by decide +kernel⟩, List.mem_of_getElem? (i := 997) (by decide +kernel), List.mem_of_getElem? (i := 1266) (by decide +kernel), List.mem_of_getElem? (i := 1267) (by decide +kernel)⟩
theorem lw_p39 : lw_okq (⟨"SnapshotArenaModel", "undoes", "(I)I"⟩, 38) := ⟨⟨by decide +kernel, by decide +kernel⟩, List.mem_of_getElem? (i := 997) (by decide +kernel), List.mem_of_getElem? (i := 1274) (by decide +kernel), List.mem_of_getElem? (i := 1275) (by decide +kernel)⟩
theorem lw_p40 : lw_okq (⟨"SnapshotArenaModel", "restakes", "(I)V"⟩, 38) := ⟨⟨by decide +kernel, by decide +kernel⟩, List.mem_of_getElem? (i := 997) (by decide +kernel), List.mem_of_getElem? (i := 1278) (by decide +kernel), List.mem_of_getElem? (i := 1279) (by decide +kernel)⟩
theorem lw_p41 : lw_okq (⟨"SnapshotArenaModel", "isOffer", "(I)Z"⟩, 38) := ⟨⟨by decide +kernel, by decide +kernel⟩, List.mem_of_getElem? (i := 997) (by decide +kernel), List.mem_of_getElem? (i := 1290) (by decide +kernel), List.mem_of_getElem? (i := 1291) (by decide +kernel)⟩
def lw_privs_3 : List (MethodName × Nat) := [(⟨"SnapshotArenaModel", "isDuel", "(I)Z"⟩, 38), (⟨"SnapshotArenaModel", "resolves", "(I)Z"⟩, 38), (⟨"SnapshotArenaModel", "areAllPlayed", "(I)Z"⟩, 38), (⟨"SnapshotArenaModel", "ends", "(I)V"⟩, 38), (⟨"SnapshotArenaModel", "pays", "(I)V"⟩, 38), (⟨"SnapshotArenaModel", "isSnapshot", "(II)Z"⟩, 38), (⟨"SnapshotArenaModel", "isKept", "(I)Z"⟩, 38), (⟨"SnapshotArenaModel", "undoes", "(I)I"⟩, 38), (⟨"SnapshotArenaModel", "restakes", "(I)V"⟩, 38), (⟨"SnapshotArenaModel", "isOffer", "(I)Z"⟩, 38)]
theorem lw_r3 : ∀ q ∈ lw_privs_3, lw_okq q := List.forall_mem_cons.mpr ⟨lw_p32, List.forall_mem_cons.mpr ⟨lw_p33, List.forall_mem_cons.mpr ⟨lw_p34, List.forall_mem_cons.mpr ⟨lw_p35, List.forall_mem_cons.mpr ⟨lw_p36, List.forall_mem_cons.mpr ⟨lw_p37, List.forall_mem_cons.mpr ⟨lw_p38, List.forall_mem_cons.mpr ⟨lw_p39, List.forall_mem_cons.mpr ⟨lw_p40, List.forall_mem_cons.mpr ⟨lw_p41, fun _ h => absurd h List.not_mem_nil⟩⟩⟩⟩⟩⟩⟩⟩⟩⟩
def lw_privs : List (MethodName × Nat) := lw_privs_1 ++ (lw_privs_2 ++ (lw_privs_3))
def lw_tbl : List Cond := k2_sels lw_privs ++ tables_1
theorem lw_privs_ok : ∀ q ∈ lw_privs, lw_okq q := by
  show ∀ q ∈ lw_privs_1 ++ (lw_privs_2 ++ (lw_privs_3)), lw_okq q
  exact List.forall_mem_append.mpr ⟨lw_r1, List.forall_mem_append.mpr ⟨lw_r2, lw_r3⟩⟩
/-- the streams that the claim lets the run draw from -/
abbrev lw_cs : List Choice := [Jvm.Choice.named "NaN.bits"]
theorem lw_bits : nanBits ∈ lw_cs := by first | decide | exact List.mem_cons_self | simp [lw_cs, nanBits]
end
section
/-! ===== BEGIN words of one list among another's, by their places ===== -/
theorem goodIn_r {big : List Cond} (ws : List Cond) (ps : List Nat) (hp : ws = ps.filterMap (fun i => big[i]?)) (h : ws.all goodWord = true) : GoodIn big ws := by
  intro w hw
  have h1 := List.all_eq_true.mp h w hw
  rw [hp] at hw
  obtain ⟨i, -, hi⟩ := List.mem_filterMap.mp hw
  have hm : w ∈ big := by first | exact List.mem_of_getElem? hi | exact List.getElem?_mem hi
  exact ⟨hm, good_of_word h1⟩
theorem goodIn_app {big a b : List Cond} (ha : GoodIn big a) (hb : GoodIn big b) : GoodIn big (a ++ b) := fun w h => (List.mem_append.mp h).elim (ha w) (hb w)
theorem goodIn_ca {big a b : List Cond} {c : Cond} (ha : GoodIn big (c :: a)) (hb : GoodIn big b) : GoodIn big (c :: (a ++ b)) := fun w h => (List.mem_cons.mp h).elim (fun e => ha w (List.mem_cons.mpr (Or.inl e))) (fun h => (List.mem_append.mp h).elim (fun h => ha w (List.mem_cons.mpr (Or.inr h))) (hb w))
theorem goodIn_sub {big ws : List Cond} (hm : ∀ w ∈ ws, w ∈ big) (h : ws.all goodWord = true) : GoodIn big ws := fun w hw => ⟨hm w hw, good_of_word (List.all_eq_true.mp h w hw)⟩
/-! ===== END ===== -/

/-! arrays over arrays: the word of new T[n][m], as the kit's va_AO is for arrays of objects -/
def va_AOA (ty : FieldType) (U : State) : Prop := (Cond.arrayOver (.array ty)).before #[] U = true
theorem va_AOA.of {ty : FieldType} {A : Array Value} {U : State} (h : (Cond.arrayOver (.array ty)).before A U = true) : va_AOA ty U := h
theorem va_AOA.use {ty : FieldType} {A : Array Value} {U : State} (h : va_AOA ty U) : (Cond.arrayOver (.array ty)).before A U = true := h
theorem va_AOA.moved {ty : FieldType} {u U : State} (hvm : u.vm.Alike U.vm) (h : va_AOA ty u) : va_AOA ty U := by
  have h1 : (Cond.arrayOver (.array ty)).before #[] (u.setVm U.vm) = true := by
    rw [Cond.arrayOver_setVmC hvm]
    exact h
  exact h1
/-! ===== BEGIN new T[n][m]: the outer array a place, the inner ones among the pooled ===== -/
/-- f, but v at every address of l -/
def vr_up {α : Type} (f : Nat → α) (l : List Nat) (v : α) : Nat → α := fun a => if a ∈ l then v else f a
theorem vr_up_in {α : Type} {f : Nat → α} {l : List Nat} {v : α} {a : Nat} (h : a ∈ l) : vr_up f l v a = v := if_pos h
theorem vr_up_ne {α : Type} {f : Nat → α} {l : List Nat} {v : α} {a : Nat} (h : a ∉ l) : vr_up f l v a = f a := if_neg h
theorem vr_rows {L l : List Nat} {f : Nat → va_E} {e : va_E} (h : ∀ a, a ∈ l → a ∉ L) : va_pl L f ++ l.map (fun a => (a, e)) = va_pl (L ++ l) (vr_up f l e) := by
  unfold va_pl
  rw [List.map_append]
  congr 1
  · apply List.map_congr_left
    intro a ha
    rw [vr_up_ne (fun q => h a q ha)]
  · apply List.map_congr_left
    intro a ha
    rw [vr_up_in ha]
theorem vr_lay {X rows : va_W} {x : Nat × va_E} {pl : va_W} {D : va_G} {cl : List vw_C} {H : Heap} (hP : va_P D cl (((X ++ pl) ++ [x]) ++ rows) H) : va_P D cl ((X ++ [x]) ++ (pl ++ rows)) H := by
  rw [List.append_assoc (X ++ pl)] at hP
  have h := va_P.swap hP
  rw [← List.append_assoc X] at h
  have h2 := va_P.swap h
  rw [List.append_assoc (X ++ [x])] at h2
  exact h2
theorem vr_layD {X rows : va_W} {x : Nat × va_E} {pl : va_W} {A : Nat → Prop} (hD : va_D A (((X ++ pl) ++ [x]) ++ rows)) : va_D A ((X ++ [x]) ++ (pl ++ rows)) := by
  rw [List.append_assoc (X ++ pl)] at hD
  have h := va_D.swap hD
  rw [← List.append_assoc X] at h
  have h2 := va_D.swap h
  rw [List.append_assoc (X ++ [x])] at h2
  exact h2
theorem vr_outer (c : ClassId) (N h0 : Nat) : ∀ i : Nat, Jvm.Free.Multi.outerC c N h0 i = arrV c N (fun j => va_rf (if j < i then some (h0 + 1 + j) else none))
  | 0 => by
    show ({ cls := c, slots := Array.replicate N .null, vm := .none } : Cell) = _
    rw [arrV_new]
    refine congrArg (arrV c N) (funext fun j => ?_)
    simp [va_rf]
  | i + 1 => by
    show (Jvm.Free.Multi.outerC c N h0 i).setSlot i (.ref (h0 + 1 + i)) = _
    rw [vr_outer c N h0 i, arrV_store]
    refine congrArg (arrV c N) (funext fun j => ?_)
    by_cases e : j = i
    · subst e
      simp [updV, va_rf]
    · by_cases h : j < i
      · simp [updV, e, h, Nat.lt_succ_of_lt h]
      · simp [updV, e, h, show ¬ j < i + 1 by omega]
section VGM
variable {p : Program} {l : Launch} {e : Env} {R : Room} {s : State} {m : MethodId} {args : Array Value} {below : List Frame} {meth : Method} {c : Code} {H : Heap} {locs : List Loc} {cells slots : Nat} {Q : State → Prop}
variable {cc : ByteArray} {pc : Nat} {ls : Array Slot} {rest : List Value} {D : va_G} {cl : List vw_C} {A : Nat → Prop} {a : Nat} {tys : List (ClassId × FieldType)} {ws : va_W} {H0 : Heap}
theorem va_mna {X : va_W} {L : List Nat} {f : Nat → va_E} {cc : ByteArray} (hexec : p.tables.exec = Jvm.exec) (hb : c.code = cc) {own : String} {index : Nat} {ty : FieldType} {cy : ClassId} (hown : s.vm.findClass own = some m.cls) (hclink : (Cond.classLink own index ("[" ++ (FieldType.array ty).toString)).before args s = true) (hover : va_AOA ty s) (harr : (Cond.arrayClass ty).before args s = true) (hcy : s.vm.findClass (FieldType.array ty).toString = some cy)
    (hK : va_K D cl tys s) (hP : va_P D cl (X ++ va_pl L f) H) (hD : va_D A (X ++ va_pl L f)) (hS : va_S A H0 H locs) (hA : ∀ q, H0.size ≤ q → A q) {n k : Int32} {N' K' : Nat} {z : vp_A} (hn : ¬ n < 0) (hk : ¬ k < 0) (hN : n.toNatClampNeg = N') (hM : k.toNatClampNeg = K')
    (hb1 : N' * 4 ≤ 536870912) (hb2 : K' * componentBytes ty ≤ 536870912) (hb3 : K' ≤ 536870912) (hdf : fits ty (defaultValue ty) = true) (hdd : (defaultValue ty).isDefault = true) (hcells : cells + (1 + N') ≤ R.cells) (hslots : slots + (N' + N' * K') ≤ R.slots) (hz : ∀ c : ClassId, Jvm.Free.Multi.innerC c K' (defaultValue ty) = vp_cell c z) (hdg : decode cc pc = .ok (.multianewarray index 2, 4))
    (kk : ∀ (q : Nat) (r : Nat → Nat) (cA : ClassId) (H1 : Heap), (∀ i j : Nat, i < N' → j < N' → r i = r j → i = j) → (∀ i : Nat, i < N' → r i ∉ L) → va_K D cl (tys ++ [(cA, .array ty)]) s →
      va_P D cl ((X ++ [(q, .inl (cA, N', .inr (.inr (.inr (.inr (fun i => if i < N' then some (r i) else none))))))]) ++ va_pl (L ++ (List.range N').map r) (vr_up f ((List.range N').map r) (.inl (cy, z)))) H1 → va_D A ((X ++ [(q, .inl (cA, N', .inr (.inr (.inr (.inr (fun i => if i < N' then some (r i) else none))))))]) ++ va_pl (L ++ (List.range N').map r) (vr_up f ((List.range N').map r) (.inl (cy, z)))) → va_S A H0 H1 locs →
      W p l e R s m args below meth c H1 locs (cells + 1 + N') (slots + N' + N' * K') Q (F0 m (pc + 4) ls (.ref q :: rest))) : W p l e R s m args below meth c H locs cells slots Q (F0 m pc ls (.int k :: .int n :: rest)) := by
  subst hN
  subst hM
  intro T hT Xs
  obtain ⟨vm₁, cA, comp, -, fA, fC, hO, -, X', step⟩ := Xs.multianewarray2F hexec hown hclink (va_AOA.use hover) harr (g := F0 m pc ls (.int k :: .int n :: rest)) rfl (by rw [hb]; exact hdg) rfl hn hk hb1 hb2 hb3 hdf hdd hcells hslots
  have ec : some cy = some comp := hcy.symm.trans fC
  cases ec
  generalize hF : Jvm.Free.Multi.fill (T.setVm vm₁) cA cy n.toNatClampNeg k.toNatClampNeg (defaultValue ty) n.toNatClampNeg = F at X' step
  have hTh : (T.setVm vm₁).heap = H := hT
  obtain ⟨f1, f2, -, -⟩ := Jvm.Free.Multi.fill_facts (T.setVm vm₁) cA cy n.toNatClampNeg k.toNatClampNeg (defaultValue ty) n.toNatClampNeg
  rw [hF, hTh] at f1 f2
  have hold : ∀ x : Nat, x < H.size → F.heap[x]? = H[x]? := fun x hx => by
    have := Jvm.Free.Multi.fill_old (T.setVm vm₁) cA cy n.toNatClampNeg k.toNatClampNeg (defaultValue ty) (a := x) (by rw [hTh]; exact hx) n.toNatClampNeg
    rw [hF, hTh] at this
    exact this
  have hrow : ∀ j : Nat, j < n.toNatClampNeg → F.heap[H.size + 1 + j]? = some (vp_cell cy z) := fun j hj => by
    have := Jvm.Free.Multi.fill_inner (T.setVm vm₁) cA cy n.toNatClampNeg k.toNatClampNeg (defaultValue ty) n.toNatClampNeg j hj
    rw [hF, hTh, hz] at this
    exact this
  have hout : Jvm.Free.Multi.outerC cA n.toNatClampNeg H.size n.toNatClampNeg = vp_cell cA (n.toNatClampNeg, .inr (.inr (.inr (.inr (fun i => if i < n.toNatClampNeg then some (H.size + 1 + i) else none))))) := by
    rw [vp_cell_q]
    exact vr_outer cA n.toNatClampNeg H.size n.toNatClampNeg
  rw [hout] at f2
  have hlt : ∀ a, a ∈ L → a < H.size := fun a ha => by
    obtain ⟨k9, hk9⟩ := va_pl_get (X := X) (f := f) ha
    exact (hP k9 _ hk9).lt
  have hnl : ∀ i : Nat, i < n.toNatClampNeg → H.size + 1 + i ∉ L := fun i _ h => by
    have := hlt _ h
    omega
  have hnm : ∀ a, a ∈ (List.range n.toNatClampNeg).map (fun i => H.size + 1 + i) → a ∉ L := fun a ha h => by
    obtain ⟨i, -, rfl⟩ := List.mem_map.mp ha
    have := hlt _ h
    omega
  have hP0 : va_P D cl (X ++ va_pl L f) F.heap := hP.kept (fun k9 x hx => hold x.1 ((hP k9 x hx).lt))
  have hP1 : va_P D cl ((X ++ va_pl L f) ++ [(H.size, .inl (cA, n.toNatClampNeg, .inr (.inr (.inr (.inr (fun i => if i < n.toNatClampNeg then some (H.size + 1 + i) else none))))))]) F.heap := hP0.app (fun k9 x hx => by
    have h0 : k9 < 1 := (List.getElem?_eq_some_iff.mp hx).1
    rw [show k9 = 0 by omega] at hx
    cases hx
    exact f2)
  have hP2 : va_P D cl (((X ++ va_pl L f) ++ [(H.size, .inl (cA, n.toNatClampNeg, .inr (.inr (.inr (.inr (fun i => if i < n.toNatClampNeg then some (H.size + 1 + i) else none))))))]) ++ ((List.range n.toNatClampNeg).map (fun i => H.size + 1 + i)).map (fun a => (a, .inl (cy, z)))) F.heap := hP1.app (fun k9 x hx => by
    obtain ⟨a, ha, rfl⟩ := List.mem_map.mp (List.mem_of_getElem? hx)
    obtain ⟨i, hi, rfl⟩ := List.mem_map.mp ha
    exact hrow i (List.mem_range.mp hi))
  have hD2 : va_D A (((X ++ va_pl L f) ++ [(H.size, .inl (cA, n.toNatClampNeg, .inr (.inr (.inr (.inr (fun i => if i < n.toNatClampNeg then some (H.size + 1 + i) else none))))))]) ++ ((List.range n.toNatClampNeg).map (fun i => H.size + 1 + i)).map (fun a => (a, .inl (cy, z)))) := by
    have hD1 := hD.push (e := .inl (cA, n.toNatClampNeg, .inr (.inr (.inr (.inr (fun i => if i < n.toNatClampNeg then some (H.size + 1 + i) else none)))))) hP rfl (hA _ hS.1)
    generalize hW1 : (X ++ va_pl L f) ++ [(H.size, .inl (cA, n.toNatClampNeg, .inr (.inr (.inr (.inr (fun i => if i < n.toNatClampNeg then some (H.size + 1 + i) else none))))))] = W1 at hD1 hP1 ⊢
    have hle : ∀ (k9 : Nat) (x : Nat × va_E), W1[k9]? = some x → x.1 ≤ H.size := fun k9 x hx => by
      rw [← hW1] at hx
      by_cases hl : k9 < (X ++ va_pl L f).length
      · rw [List.getElem?_append_left hl] at hx
        exact Nat.le_of_lt ((hP k9 x hx).lt)
      · rw [List.getElem?_append_right (by omega)] at hx
        have h0 : k9 - (X ++ va_pl L f).length < 1 := (List.getElem?_eq_some_iff.mp hx).1
        rw [show k9 - (X ++ va_pl L f).length = 0 by omega] at hx
        cases hx
        exact Nat.le_refl _
    have hr : ∀ (k9 : Nat) (x : Nat × va_E), (((List.range n.toNatClampNeg).map (fun i => H.size + 1 + i)).map (fun a => ((a, .inl (cy, z)) : Nat × va_E)))[k9]? = some x → x.1 = H.size + 1 + k9 := fun k9 x hx => by
      rw [List.getElem?_map, List.getElem?_map] at hx
      by_cases h9 : k9 < n.toNatClampNeg
      · rw [List.getElem?_range h9] at hx
        cases hx
        rfl
      · have hn0 : (List.range n.toNatClampNeg)[k9]? = none := List.getElem?_eq_none (by rw [List.length_range]; omega)
        rw [hn0] at hx
        cases hx
    refine ⟨fun i j x y hi hj hxy => ?_, fun k9 x hx => ?_⟩
    · by_cases h1 : i < W1.length <;> by_cases h2 : j < W1.length
      · rw [List.getElem?_append_left h1] at hi
        rw [List.getElem?_append_left h2] at hj
        exact hD1.1 i j x y hi hj hxy
      · rw [List.getElem?_append_left h1] at hi
        rw [List.getElem?_append_right (by omega)] at hj
        have := hle _ _ hi
        have := hr _ _ hj
        omega
      · rw [List.getElem?_append_right (by omega)] at hi
        rw [List.getElem?_append_left h2] at hj
        have := hle _ _ hj
        have := hr _ _ hi
        omega
      · rw [List.getElem?_append_right (by omega)] at hi hj
        have := hr _ _ hi
        have := hr _ _ hj
        omega
    · by_cases h1 : k9 < W1.length
      · rw [List.getElem?_append_left h1] at hx
        exact hD1.2 k9 x hx
      · rw [List.getElem?_append_right (by omega)] at hx
        have := hr _ _ hx
        exact hA _ (by have := hS.1; omega)
  have hAr : ArrOfT s cA (.array ty) := fun N9 z9 => by
    obtain ⟨-, k9, hk9, cm9, hkk9⟩ := (hO 0 0 0).1
    exact ⟨(fun q hq => by cases hq), k9, hk9, cm9, hkk9⟩
  have hK2 : va_K D cl (tys ++ [(cA, .array ty)]) s := ⟨hK.1, fun k9 x hx => by
    by_cases hl : k9 < tys.length
    · rw [List.getElem?_append_left hl] at hx
      exact hK.2 k9 x hx
    · rw [List.getElem?_append_right (by omega)] at hx
      have h0 : k9 - tys.length < 1 := (List.getElem?_eq_some_iff.mp hx).1
      rw [show k9 - tys.length = 0 by omega] at hx
      cases hx
      exact ⟨hAr, fA⟩⟩
  obtain ⟨t, a1, b1⟩ := kk H.size (fun i => H.size + 1 + i) cA F.heap (fun i j _ _ h => by have h9 : H.size + 1 + i = H.size + 1 + j := h; omega) hnl hK2 (by rw [← vr_rows hnm]; exact vr_lay hP2) (by rw [← vr_rows hnm]; exact vr_layD hD2) ⟨by rw [f1]; have := hS.1; omega, fun x h1 h2 => (hold x (Nat.lt_of_lt_of_le h1 hS.1)).trans (hS.2.1 x h1 h2), hS.2.2⟩ F rfl X'
  refine ⟨t, step t ?_, b1⟩
  have e : T.heap.size = H.size := by rw [hT]
  rw [e]
  exact a1
end VGM
/-! ===== END ===== -/

/-! ===== BEGIN exceptions that leave a method, and their catching by the caller (launches without stack traces) ===== -/
section VXA
/-! The laws vx_back, vx_callV, vx_callS, vx_callSW, vx_throw0, vx_throwS follow proofs of the library, with one case more: JvmDerived/Free/Laws.lean (Back.of_free), Shelf42/LK1.lean (callV, callS), Shelf/KitTraced.lean (throwNew0V, throwNewS). -/
/-- where a method has thrown q: the class by its name, the cell, what was written, the world -/
def vx_T (XC : String → State → State → Prop) (st : State) (q : Addr) (t : State) (mc ms : Nat) (free : Addr → Prop) : Prop :=
  ∃ (E : String) (ce : Cell) (L : List Loc), XC E st t ∧ t.heap[q]? = some ce ∧ ce.vm = .none ∧ st.vm.findClass E = some ce.cls ∧ st.WarmedH t.vm ∧ st.sameButNew ({ t with vm := st.vm } : State) L mc ms ∧ ∀ z ∈ L, free z.base
def vx_Q (Qc : Array Value → State → Outcome → State → Prop) (XC : String → State → State → Prop) (mc ms : Nat) (free : Addr → Prop) : Array Value → State → Outcome → State → Prop := fun a st o t =>
  (Qc a st o t ∧ ∃ L, FrameEnd st o t L mc ms ∧ ∀ q ∈ L, free q.base) ∨ ∃ q, o = .threw q ∧ vx_T XC st q t mc ms free
/-- a callee that returns or throws -/
def vx_Met (l : Launch) (y : MethodName) (ws : List Cond) (rm : Room) (Pc : Array Value → State → Prop) (Qc : Array Value → State → Outcome → State → Prop) (XC : String → State → State → Prop) (mc ms : Nat) (free : Addr → Prop) : Prop :=
  MetFree l y (headSpec ws rm) Pc (fun _ _ _ _ _ => True) (vx_Q Qc XC mc ms free)
def vx_Post (XC : String → State → State → Prop) (mc ms : Nat) (free : Addr → Prop) : Pt → Array Value → Addr → Pt → Prop := fun A a q B =>
  ∃ (g : JFrame) (mk : MethodId) (t : State) (L : List Loc) (E : String) (ce : Cell), B.U.heap = t.heap ∧ B.U.vm = t.vm ∧ XC E (A.U.calling g mk a) t ∧ t.heap[q]? = some ce ∧ ce.vm = .none ∧ A.U.vm.findClass E = some ce.cls ∧ B.locs = A.locs ++ L ∧ (∀ z ∈ L, free z.base) ∧ B.cells = A.cells + mc ∧ B.slots = A.slots + ms
def vx_Back (l : Launch) (R : Room) (p : Program) (e : Env) (below : List Frame) (s : State) (sargs : Array Value) (y : MethodName) (len W9 : Nat)
    (Pre : Pt → Array Value → Prop) (Post : Pt → Array Value → Option Value → Pt → Prop) (PostX : Pt → Array Value → Addr → Pt → Prop) : Prop :=
  ∀ (m : MethodId) (meth : Method) (c : Code) (A : Pt) (g : JFrame) (ig : Instr) (mk : MethodId) (a : Array Value),
    Stand p l e R s m sargs below meth c A.U A.locs A.cells A.slots → g.method = m → g.locals.size = c.maxLocals → decode c.code g.pc = .ok (ig, len) →
    2 * g.monitorRoom + (g.stack.map fun v => v.category).sum ≤ W9 → A.U.methodNamed? y = some mk → Pre A a →
    (∃ (v : Option Value) (B : Pt), Stand p l e R s m sargs below meth c B.U B.locs B.cells B.slots ∧ Post A a v B ∧
      Steps p.tables e below (doInvoke e (A.U.setTop g) [] mk a).1 (B.U.setTop { g with pc := g.pc + len, stack := v.toList ++ g.stack })) ∨
    (∃ (q : Addr) (B : Pt), Stand p l e R s m sargs below meth c B.U B.locs B.cells B.slots ∧ PostX A a q B ∧
      Steps p.tables e below (doInvoke e (A.U.setTop g) [] mk a).1 ((B.U.setTop g).pushFrame (.throwing q)))
section Payer
variable {l : Launch} {R : Room} {p : Program} {e : Env} {below : List Frame} {s : State} {sargs : Array Value} {y : MethodName} {len W9 : Nat}
theorem vx_back {ws : List Cond} {rm : Room} {Pc : Array Value → State → Prop} {Qc : Array Value → State → Outcome → State → Prop} {XC : String → State → State → Prop} {mc ms : Nat} {free : Addr → Prop} {bytes : ByteArray} {maxL : Nat} {ret : Option FieldType}
    (hM : vx_Met l y ws rm Pc Qc XC mc ms free) (hblind : FrameBlind Pc) (hrc : rm.cells = mc) (hrs : rm.slots = ms)
    (hframes : rm.frames + 1 ≤ R.frames) (hlocals : W9 + (maxL + 11) + rm.locals ≤ R.locals)
    (hws : ∀ w ∈ ws, ∀ a' U, s.WarmedH U.vm → w.before a' U = true) (hcode : Cond.code y bytes maxL ret ∈ ws) (hinit : ∀ a' U, s.WarmedH U.vm → (Cond.initialized y.cls).before a' U = true) :
    vx_Back l R p e below s sargs y len W9 (PreOf R mc ms Pc) (PostOf Qc mc ms free) (vx_Post XC mc ms free) := by
  intro m meth c A g ig mk a X hg hsize hdg hW hn hp
  have h1 : (headSpec ws rm).pre.before a A.U = true := atoms_intro fun w hw => hws w hw _ _ X.warmed
  have h2 : (Cond.code y bytes maxL ret).before a A.U = true := hws _ hcode _ _ X.warmed
  have h3 : (Cond.initialized y.cls).before a A.U = true := hinit _ _ X.warmed
  have h4 : A.cells + (headSpec ws rm).room.cells ≤ R.cells := by rw [show (headSpec ws rm).room.cells = mc from hrc]; exact hp.1
  have h5 : A.slots + (headSpec ws rm).room.slots ≤ R.slots := by rw [show (headSpec ws rm).room.slots = ms from hrs]; exact hp.2.1
  have hPc : Pc a (A.U.calling g mk a) := hblind _ _ _ _ hp.2.2
  obtain ⟨U, Ls, c0, s0⟩ := A
  dsimp only [Pt.U, Pt.locs, Pt.cells, Pt.slots] at h1 h2 h3 h4 h5 X hn hPc ⊢
  obtain ⟨methY, cY, hmY, hcY, -, hlY, -, -, -, -⟩ := Cond.code_spec hn h2
  obtain ⟨kY, hkY, -⟩ := className_of_methodNamed hn
  have hinitY : kY.init = .initialized := Cond.initialized_spec (findClass_of_methodNamed hn) hkY h3
  have h : At U g.method c below := by rw [hg]; exact X.here
  have hlocals9 : W9 + (maxL + 11) + (headSpec ws rm).room.locals ≤ R.locals := hlocals
  have happ : (headSpec ws rm).appliesLoose y e.platform (U.calling g mk a) = true :=
    Spec.appliesLoose_calling (g := g) h hdg hn hkY hinitY
      (X.room_calling (g := g) (R' := (headSpec ws rm).room) hsize hmY hcY hframes (by rw [hlY]; omega) h4 h5) h1
  obtain ⟨mid, hmid⟩ := h.above
  have hfr : (U.setTop g).frames = (.java g :: mid) ++ below := by rw [State.frames_setTop' g h.top, hmid]; rfl
  obtain ⟨o, s₂, hsteps, -, hend, hq⟩ := Steps.callFree hM p X.admits X.cas X.clock (acts := []) hfr happ hPc trivial
  have hq' : vx_Q Qc XC mc ms free a (U.calling g mk a) o s₂ := hq
  rw [State.frames_setTop' g h.top] at hend
  obtain ⟨g₀, hg0⟩ := Option.isSome_iff_exists.mp h.top
  obtain ⟨r, hr⟩ := State.topJava?_eq_some.mp hg0
  have hr' : (({ U with heap := s₂.heap, slotsUsed := s₂.slotsUsed } : State).setVm s₂.vm).frames = .java g₀ :: r := hr
  rcases hq' with ⟨hqc, L, hfe, hL⟩ | ⟨q, rfl, E, ce, L, hx, hce, hcv, hcl, hW₂, hsm, hL⟩
  · obtain ⟨⟨v, rfl⟩, hW₂, e2, q2, q3, q4, q5, q6⟩ := id hfe
    have e3 : s₂ = ({ (U.calling g mk a).setFrames s₂.frames with heap := s₂.heap, slotsUsed := s₂.slotsUsed } : State).setVm s₂.vm := by
      have : s₂ = ({ s₂ with vm := (U.calling g mk a).vm } : State).setVm s₂.vm := rfl
      rw [e2] at this
      exact this
    obtain ⟨c₂, i₂, len₂, hc₂, hd₂, hf₂⟩ := hend
    have hW' : U.WarmedH s₂.vm := hW₂
    have hcc : c₂ = c := by
      have h1 : s₂.code? g.method = U.code? g.method := by
        rw [State.code?_eq, State.code?_eq, hW'.alike.method?]
      exact Option.some.inj (hc₂.symm.trans (h1.trans h.code))
    subst hcc
    have hlen : len₂ = len := by rw [hdg] at hd₂; cases hd₂; rfl
    subst hlen
    have hs₂ : s₂ = (({ U with heap := s₂.heap, slotsUsed := s₂.slotsUsed } : State).setVm s₂.vm).setTop { g with pc := g.pc + len₂, stack := v.toList ++ g.stack } := by
      refine e3.trans ?_
      rw [hf₂, State.calling_eq h.top, State.setFrames_setFrames, State.setTop_of_frames _ hr', hr]
      rfl
    have hsame : U.sameButNew ({ U with heap := s₂.heap, slotsUsed := s₂.slotsUsed } : State) L mc ms := by
      refine ⟨?_, q2, q3, q4, q5, q6⟩
      obtain ⟨t, ht, -⟩ := State.frames_cons hr
      show ({ U with heap := s₂.heap, slotsUsed := s₂.slotsUsed } : State) = { U.setFrames U.frames with heap := s₂.heap, slotsUsed := s₂.slotsUsed }
      rw [State.setFrames_self ht]
    subst hg
    refine Or.inl ⟨v, ⟨(({ U with heap := s₂.heap, slotsUsed := s₂.slotsUsed } : State).setVm s₂.vm), Ls ++ L, c0 + mc, s0 + ms⟩,
      ⟨X.admits, X.cas, X.clock, X.frames, X.room, X.hears, X.method, X.code, (X.here.setHeapUsed s₂.heap s₂.slotsUsed).setVm hW'.alike, X.tail, State.WarmedH.trans X.warmed hW', X.limits, X.bytes, X.same.trans (hsame.setVm s.vm)⟩,
      ⟨g, mk, s₂, L, rfl, rfl, hqc, rfl, hL, rfl, rfl⟩, ?_⟩
    show Steps p.tables e below _ ((({ U with heap := s₂.heap, slotsUsed := s₂.slotsUsed } : State).setVm s₂.vm).setTop { g with pc := g.pc + len₂, stack := v.toList ++ g.stack })
    rw [← hs₂]
    exact hsteps
  · obtain ⟨e2, q2, q3, q4, q5, q6⟩ := id hsm
    have e3 : s₂ = ({ (U.calling g mk a).setFrames s₂.frames with heap := s₂.heap, slotsUsed := s₂.slotsUsed } : State).setVm s₂.vm := by
      have : s₂ = ({ s₂ with vm := (U.calling g mk a).vm } : State).setVm s₂.vm := rfl
      rw [e2] at this
      exact this
    have hf₂ : s₂.frames = .throwing q :: .java g :: U.frames.tail := hend
    have hW' : U.WarmedH s₂.vm := hW₂
    have hs₂ : s₂ = ((({ U with heap := s₂.heap, slotsUsed := s₂.slotsUsed } : State).setVm s₂.vm).setTop g).pushFrame (.throwing q) := by
      refine e3.trans ?_
      rw [hf₂, State.calling_eq h.top, State.setFrames_setFrames, State.pushFrame, State.frames_setTop _ hr', State.setTop_of_frames _ hr', State.setFrames_setFrames, hr]
      rfl
    have hsame : U.sameButNew ({ U with heap := s₂.heap, slotsUsed := s₂.slotsUsed } : State) L mc ms := by
      refine ⟨?_, q2, q3, q4, q5, q6⟩
      obtain ⟨t, ht, -⟩ := State.frames_cons hr
      show ({ U with heap := s₂.heap, slotsUsed := s₂.slotsUsed } : State) = { U.setFrames U.frames with heap := s₂.heap, slotsUsed := s₂.slotsUsed }
      rw [State.setFrames_self ht]
    subst hg
    refine Or.inr ⟨q, ⟨(({ U with heap := s₂.heap, slotsUsed := s₂.slotsUsed } : State).setVm s₂.vm), Ls ++ L, c0 + mc, s0 + ms⟩,
      ⟨X.admits, X.cas, X.clock, X.frames, X.room, X.hears, X.method, X.code, (X.here.setHeapUsed s₂.heap s₂.slotsUsed).setVm hW'.alike, X.tail, State.WarmedH.trans X.warmed hW', X.limits, X.bytes, X.same.trans (hsame.setVm s.vm)⟩,
      ⟨g, mk, s₂, L, E, ce, rfl, rfl, hx, hce, hcv, hcl, rfl, hL, rfl, rfl⟩, ?_⟩
    show Steps p.tables e below _ (((({ U with heap := s₂.heap, slotsUsed := s₂.slotsUsed } : State).setVm s₂.vm).setTop g).pushFrame (.throwing q))
    rw [← hs₂]
    exact hsteps
end Payer
section Calls
variable {p : Program} {l : Launch} {e : Env} {R : Room} {s : State} {m : MethodId} {args : Array Value} {below : List Frame} {meth : Method} {c : Code} {T : State} {locs : List Loc} {cells slots : Nat}
theorem vx_callV (X : Stand p l e R s m args below meth c T locs cells slots) (hexec : p.tables.exec = Jvm.exec) {own C : String} {index : Nat} {y : MethodName} {bytes : ByteArray} {maxL : Nat} {ret : Option FieldType}
    (hown : s.vm.findClass own = some m.cls) (hlink : (Cond.methodLink own index y).before args s = true) (hinst : (Cond.instanceMethod y).before args s = true) (hsel : (Cond.selects C y y).before args s = true)
    (hcode : (Cond.code y bytes maxL ret).before args s = true) (hy : y.cls ≠ "java/lang/invoke/MethodHandle" ∧ y.cls ≠ "java/lang/invoke/VarHandle")
    {W9 : Nat} {Pre : Pt → Array Value → Prop} {Post : Pt → Array Value → Option Value → Pt → Prop} {PostX : Pt → Array Value → Addr → Pt → Prop} (hK : vx_Back l R p e below s args y 3 W9 Pre Post PostX)
    {b : Addr} {cellB : Cell} (hcell : T.heap[b]? = some cellB) (hobj : cellB.vm.isStatics = false) (hcls : s.vm.findClass C = some cellB.cls)
    {g : JFrame} (hg : g.method = m) (hsize : g.locals.size = c.maxLocals) {argsL rest : List Value} (hlen : ∀ sig, parseMethodDescriptor y.desc = some sig → argsL.length = sig.parameters.length)
    (hstack : g.stack = argsL.reverse ++ .ref b :: rest) (hW : 2 * g.monitorRoom + (rest.map fun v => v.category).sum ≤ W9) (hdg : decode c.code g.pc = .ok (.invokevirtual index, 3))
    (hpre : ∀ vm₁, s.WarmedH vm₁ → Pre ⟨T.setVm vm₁, locs, cells, slots⟩ (Value.ref b :: argsL).toArray) :
    (∃ (v : Option Value) (vm₁ : Vm) (B : Pt), s.WarmedH vm₁ ∧ Stand p l e R s m args below meth c B.U B.locs B.cells B.slots ∧ Post ⟨T.setVm vm₁, locs, cells, slots⟩ (Value.ref b :: argsL).toArray v B ∧
      ∀ target, Steps p.tables e below (B.U.setTop { g with pc := g.pc + 3, stack := v.toList ++ rest }) target → Steps p.tables e below (T.setTop g) target) ∨
    (∃ (q : Addr) (vm₁ : Vm) (B : Pt), s.WarmedH vm₁ ∧ Stand p l e R s m args below meth c B.U B.locs B.cells B.slots ∧ PostX ⟨T.setVm vm₁, locs, cells, slots⟩ (Value.ref b :: argsL).toArray q B ∧
      Steps p.tables e below (T.setTop g) ((B.U.setTop { g with stack := rest }).pushFrame (.throwing q))) := by
  obtain ⟨mk, methM, hnamed, hmethM, hstM, habM⟩ := Cond.instanceMethod_spec hinst
  obtain ⟨methM', cM, hmethM', -, -, -, -, -, -, hsigM⟩ := Cond.code_spec hnamed hcode
  cases hmethM.symm.trans hmethM'
  obtain ⟨c2, r2, m2, q1, q2, q3, q4, kP, hkP, hkPi⟩ := Cond.selects_spec hsel
  cases hcls.symm.trans q1
  cases (State.methodFound?_of_named hnamed hy).symm.trans q2
  cases hnamed.symm.trans q3
  have hselP : selectMethod e.platform s.vm cellB.cls mk = .method mk := by rw [Launch.admits_selectMethod X.admits]; exact q4
  obtain ⟨vm₁, X₁, hstep₁⟩ := X.invokevirtual hexec hown hlink hnamed hmethM hstM hkP hkPi hy (a := b) (cell := cellB) hcell
    (fun z h => by rw [h] at hobj; cases hobj) hselP hmethM habM hkP hkPi (g := g) hg (argsL := argsL) (rest := rest) (hlen _ hsigM) hstack hdg
  rcases hK m meth c ⟨T.setVm vm₁, locs, cells, slots⟩ { g with stack := rest } (.invokevirtual index) mk (Value.ref b :: argsL).toArray X₁ hg hsize hdg hW (X₁.named hnamed) (hpre vm₁ X₁.warmed) with ⟨v, B, X', hpost, hsteps⟩ | ⟨q, B, X', hpost, hsteps⟩
  · exact Or.inl ⟨v, vm₁, B, X₁.warmed, X', hpost, fun target h => hstep₁ _ fun acts => by rw [doInvoke_state]; exact hsteps.trans h⟩
  · exact Or.inr ⟨q, vm₁, B, X₁.warmed, X', hpost, hstep₁ _ fun acts => by rw [doInvoke_state]; exact hsteps⟩
theorem vx_callS (X : Stand p l e R s m args below meth c T locs cells slots) (hexec : p.tables.exec = Jvm.exec) {own : String} {index : Nat} {y : MethodName} {bytes : ByteArray} {maxL : Nat} {ret : Option FieldType}
    (hown : s.vm.findClass own = some m.cls) (hlink : (Cond.methodLink own index y).before args s = true) (hstat : (Cond.static y).before args s = true) (hinit : (Cond.initialized y.cls).before args s = true)
    (hcode : (Cond.code y bytes maxL ret).before args s = true) (hy : y.cls ≠ "java/lang/invoke/MethodHandle" ∧ y.cls ≠ "java/lang/invoke/VarHandle")
    {W9 : Nat} {Pre : Pt → Array Value → Prop} {Post : Pt → Array Value → Option Value → Pt → Prop} {PostX : Pt → Array Value → Addr → Pt → Prop} (hK : vx_Back l R p e below s args y 3 W9 Pre Post PostX)
    {g : JFrame} (hg : g.method = m) (hsize : g.locals.size = c.maxLocals) {argsL rest : List Value} (hlen : ∀ sig, parseMethodDescriptor y.desc = some sig → argsL.length = sig.parameters.length)
    (hstack : g.stack = argsL.reverse ++ rest) (hW : 2 * g.monitorRoom + (rest.map fun v => v.category).sum ≤ W9) (hdg : decode c.code g.pc = .ok (.invokestatic index, 3))
    (hpre : ∀ vm₁, s.WarmedH vm₁ → Pre ⟨T.setVm vm₁, locs, cells, slots⟩ argsL.toArray) :
    (∃ (v : Option Value) (vm₁ : Vm) (B : Pt), s.WarmedH vm₁ ∧ Stand p l e R s m args below meth c B.U B.locs B.cells B.slots ∧ Post ⟨T.setVm vm₁, locs, cells, slots⟩ argsL.toArray v B ∧
      ∀ target, Steps p.tables e below (B.U.setTop { g with pc := g.pc + 3, stack := v.toList ++ rest }) target → Steps p.tables e below (T.setTop g) target) ∨
    (∃ (q : Addr) (vm₁ : Vm) (B : Pt), s.WarmedH vm₁ ∧ Stand p l e R s m args below meth c B.U B.locs B.cells B.slots ∧ PostX ⟨T.setVm vm₁, locs, cells, slots⟩ argsL.toArray q B ∧
      Steps p.tables e below (T.setTop g) ((B.U.setTop { g with stack := rest }).pushFrame (.throwing q))) := by
  obtain ⟨mk, hnamed⟩ := Cond.code_named hcode
  obtain ⟨methM, cM, hmethM, -, -, -, -, -, -, hsigM⟩ := Cond.code_spec hnamed hcode
  have hstatic : methM.isStatic = true := Cond.static_spec hnamed hmethM hstat
  obtain ⟨kP, hkP, -⟩ := className_of_methodNamed hnamed
  have hinitP : kP.init = .initialized := Cond.initialized_spec (findClass_of_methodNamed hnamed) hkP hinit
  obtain ⟨vm₁, X₁, hstep₁⟩ := X.invokestatic hexec hown hlink hnamed hmethM hstatic hkP hinitP hy (g := g) hg (argsL := argsL) (rest := rest) (hlen _ hsigM) hstack hdg
  rcases hK m meth c ⟨T.setVm vm₁, locs, cells, slots⟩ { g with stack := rest } (.invokestatic index) mk argsL.toArray X₁ hg hsize hdg hW (X₁.named hnamed) (hpre vm₁ X₁.warmed) with ⟨v, B, X', hpost, hsteps⟩ | ⟨q, B, X', hpost, hsteps⟩
  · exact Or.inl ⟨v, vm₁, B, X₁.warmed, X', hpost, fun target h => hstep₁ _ fun acts => by rw [doInvoke_state]; exact hsteps.trans h⟩
  · exact Or.inr ⟨q, vm₁, B, X₁.warmed, X', hpost, hstep₁ _ fun acts => by rw [doInvoke_state]; exact hsteps⟩
end Calls
theorem vx_cls {s : State} {T : State} {vm₁ : Vm} {E : String} {k : ClassId} (hW : s.WarmedH vm₁) (h : (T.setVm vm₁).vm.findClass E = some k) : s.vm.findClass E = some k := by
  have h1 : vm₁.findClass E = some k := h
  rw [hW.alike.findClass] at h1
  exact h1
/-- the method's frame g, with q thrown over it -/
def vx_W (p : Program) (l : Launch) (e : Env) (R : Room) (s : State) (m : MethodId) (args : Array Value) (below : List Frame) (meth : Method) (c : Code) (H : Heap) (locs : List Loc) (cells slots : Nat) (Q : State → Prop) (g : JFrame) (q : Addr) : Prop :=
  ∀ T : State, T.heap = H → Stand p l e R s m args below meth c T locs cells slots → ∃ t, Steps p.tables e below ((T.setTop g).pushFrame (.throwing q)) t ∧ Q t
def vx_Run (p : Program) (l : Launch) (e : Env) (R : Room) (s : State) (m : MethodId) (args : Array Value) (below : List Frame) (meth : Method) (c : Code) (H : Heap) (locs : List Loc) (cells slots mc ms : Nat) (g : JFrame) (rest : List Value) (Qa : State → Outcome → State → Prop) (XC : String → State → State → Prop) (free : Addr → Prop) : Prop :=
  ∀ T : State, T.heap = H → Stand p l e R s m args below meth c T locs cells slots →
    (∃ (v : Option Value) (st₀ t T' : State) (L : List Loc), st₀.heap = H ∧ Stand p l e R s m args below meth c T' (locs ++ L) (cells + mc) (slots + ms) ∧ (∀ q ∈ L, free q.base) ∧ T'.heap = t.heap ∧ T'.vm = t.vm ∧ Qa st₀ (.returned v) t ∧
      Goes p e below T g T' { g with pc := g.pc + 3, stack := v.toList ++ rest }) ∨
    (∃ (q : Addr) (st₀ t T' : State) (L : List Loc) (E : String) (ce : Cell), st₀.heap = H ∧ Stand p l e R s m args below meth c T' (locs ++ L) (cells + mc) (slots + ms) ∧ (∀ z ∈ L, free z.base) ∧ T'.heap = t.heap ∧ T'.vm = t.vm ∧ XC E st₀ t ∧ t.heap[q]? = some ce ∧ ce.vm = .none ∧ s.vm.findClass E = some ce.cls ∧
      Steps p.tables e below (T.setTop g) ((T'.setTop { g with stack := rest }).pushFrame (.throwing q)))
def vx_X {S : Type} (px : S → Prop) (B : String → S → State → Prop) (A : Nat → Prop) : String → State → State → Prop := fun E st t => ∃ u : S, px u ∧ B E u t ∧ va_F A st t
section Runs
variable {p : Program} {l : Launch} {e : Env} {R : Room} {s : State} {m : MethodId} {args : Array Value} {below : List Frame} {meth : Method} {c : Code} {H : Heap} {locs : List Loc} {cells slots : Nat}
variable {y : MethodName} {bytes cc : ByteArray} {maxL nL mc ms n index : Nat} {ret : Option FieldType} {ws : List Cond} {rm : Room} {Pc : Array Value → State → Prop} {Qc : Array Value → State → Outcome → State → Prop} {XC : String → State → State → Prop} {free : Addr → Prop} {Ts : List Cond} {own C : String} {b : Addr} {As rest : List Value} {g : JFrame}
theorem vx_callBack (cb : CallB R s args own index y bytes maxL ret ws rm mc ms n) (hM : vx_Met l y ws rm Pc Qc XC mc ms free) (hbl : FrameBlind Pc) : vx_Back l R p e below s args y 3 8 (PreOf R mc ms Pc) (PostOf Qc mc ms free) (vx_Post XC mc ms free) := by
  obtain ⟨hrc, hrs, hfr, hlo, hws, hcw, -, hini, -⟩ := cb
  exact vx_back (bytes := bytes) (maxL := maxL) (ret := ret) hM hbl hrc hrs hfr hlo hws hcw (fun a' U hW => word_at hW (Or.inl (by first | rfl | simp [Cond.onTables, Cond.keeps, Cond.steady])) hini)
theorem vx_runV (S : CallFix p m c cc nL s args Ts own) (hM : vx_Met l y ws rm Pc Qc XC mc ms free) (cw : CallW R s args own C index y bytes maxL ret ws rm mc ms n) (hp : PreV s H C b Pc As)
    (hg : g.method = m) (hn : As.length = n) (hsize : g.locals.size = nL) (hstack : g.stack = As.reverse ++ .ref b :: rest) (hW : 2 * g.monitorRoom + (rest.map fun v => v.category).sum ≤ 8) (hdg : decode cc g.pc = .ok (.invokevirtual index, 3)) (hf : cells + mc ≤ R.cells ∧ slots + ms ≤ R.slots) :
    vx_Run p l e R s m args below meth c H locs cells slots mc ms g rest (Qc (Value.ref b :: As).toArray) XC free := by
  have hK : vx_Back l R p e below s args y 3 8 (PreOf R mc ms Pc) (PostOf Qc mc ms free) (vx_Post XC mc ms free) := vx_callBack cw.1 hM hp.1
  obtain ⟨⟨-, -, -, -, -, -, hcode, -, hy, hlen, hl⟩, hin, hse⟩ := cw
  obtain ⟨hx, hb, hml, ho, -⟩ := S
  obtain ⟨-, ⟨cellB, hcB, hoB, hclB⟩, hPc⟩ := hp
  intro T hT X
  rcases vx_callV X hx (C := C) (bytes := bytes) (maxL := maxL) (ret := ret) ho hl hin hse hcode hy hK (by rw [hT]; exact hcB) hoB hclB hg (hsize.trans hml.symm) (argsL := As) (rest := rest) (fun sig h => hn.trans (hlen sig h)) hstack hW (by rw [hb]; exact hdg)
    (fun vm₁ hW₁ => ⟨hf.1, hf.2, hPc (T.setVm vm₁) hT hW₁⟩) with ⟨v, vm₁, ⟨U', l2, c2, s2⟩, hW₁, X', ⟨g', mk, t, L, e1, e2, hq, h1, hL, h2, h3⟩, st⟩ | ⟨q, vm₁, ⟨U', l2, c2, s2⟩, hW₁, X', ⟨g', mk, t, L, E, ce, e1, e2, hq, hce, hcv, hcl, h1, hL, h2, h3⟩, st⟩
  · dsimp only [Pt.U, Pt.locs, Pt.cells, Pt.slots] at X' e1 e2 h1 h2 h3 st
    subst h1; subst h2; subst h3
    exact Or.inl ⟨v, (T.setVm vm₁).calling g' mk (Value.ref b :: As).toArray, t, U', L, hT, X', hL, e1, e2, hq, st⟩
  · dsimp only [Pt.U, Pt.locs, Pt.cells, Pt.slots] at X' e1 e2 h1 h2 h3 st hcl
    subst h1; subst h2; subst h3
    exact Or.inr ⟨q, (T.setVm vm₁).calling g' mk (Value.ref b :: As).toArray, t, U', L, E, ce, hT, X', hL, e1, e2, hq, hce, hcv, vx_cls hW₁ hcl, st⟩
theorem vx_runS (S : CallFix p m c cc nL s args Ts own) (hM : vx_Met l y ws rm Pc Qc XC mc ms free) (cw : CallB R s args own index y bytes maxL ret ws rm mc ms n ∧ (Cond.static y).before args s = true) (hp : PreS s H Pc As)
    (hg : g.method = m) (hn : As.length = n) (hsize : g.locals.size = nL) (hstack : g.stack = As.reverse ++ rest) (hW : 2 * g.monitorRoom + (rest.map fun v => v.category).sum ≤ 8) (hdg : decode cc g.pc = .ok (.invokestatic index, 3)) (hf : cells + mc ≤ R.cells ∧ slots + ms ≤ R.slots) :
    vx_Run p l e R s m args below meth c H locs cells slots mc ms g rest (Qc As.toArray) XC free := by
  have hK : vx_Back l R p e below s args y 3 8 (PreOf R mc ms Pc) (PostOf Qc mc ms free) (vx_Post XC mc ms free) := vx_callBack cw.1 hM hp.1
  obtain ⟨⟨-, -, -, -, -, -, hcode, hini, hy, hlen, hl⟩, hstt⟩ := cw
  obtain ⟨hx, hb, hml, ho, -⟩ := S
  intro T hT X
  rcases vx_callS X hx (bytes := bytes) (maxL := maxL) (ret := ret) ho hl hstt hini hcode hy hK hg (hsize.trans hml.symm) (argsL := As) (rest := rest) (fun sig h => hn.trans (hlen sig h)) hstack hW (by rw [hb]; exact hdg)
    (fun vm₁ hW₁ => ⟨hf.1, hf.2, hp.2 (T.setVm vm₁) hT hW₁⟩) with ⟨v, vm₁, ⟨U', l2, c2, s2⟩, hW₁, X', ⟨g', mk, t, L, e1, e2, hq, h1, hL, h2, h3⟩, st⟩ | ⟨q, vm₁, ⟨U', l2, c2, s2⟩, hW₁, X', ⟨g', mk, t, L, E, ce, e1, e2, hq, hce, hcv, hcl, h1, hL, h2, h3⟩, st⟩
  · dsimp only [Pt.U, Pt.locs, Pt.cells, Pt.slots] at X' e1 e2 h1 h2 h3 st
    subst h1; subst h2; subst h3
    exact Or.inl ⟨v, (T.setVm vm₁).calling g' mk As.toArray, t, U', L, hT, X', hL, e1, e2, hq, st⟩
  · dsimp only [Pt.U, Pt.locs, Pt.cells, Pt.slots] at X' e1 e2 h1 h2 h3 st hcl
    subst h1; subst h2; subst h3
    exact Or.inr ⟨q, (T.setVm vm₁).calling g' mk As.toArray, t, U', L, E, ce, hT, X', hL, e1, e2, hq, hce, hcv, vx_cls hW₁ hcl, st⟩
end Runs
section Rows
variable {p : Program} {l : Launch} {e : Env} {R : Room} {s : State} {m : MethodId} {args : Array Value} {below : List Frame} {meth : Method} {c : Code} {H : Heap} {locs : List Loc} {cells slots : Nat} {Q : State → Prop}
variable {mc ms : Nat} {free : Addr → Prop} {A0 A1 : Nat → Prop} {H0 : Heap} {a : Array Value} {pc : Nat} {ls : Array Slot} {st0 rest : List Value}
theorem vx_keep {st₀ t T' : State} {L : List Loc} (h0 : st₀.heap = H) (e1 : T'.heap = t.heap) (hS : va_S A0 H0 H locs) (hA : ∀ q, q < H.size → A1 q → A0 q) (hf : ∀ q, free q → A0 q) (hL : ∀ q ∈ L, free q.base) (hF : va_F A1 st₀ t) :
    H.size ≤ T'.heap.size ∧ (∀ q : Nat, q < H.size → ¬ A1 q → T'.heap[q]? = H[q]?) ∧ va_S A0 H0 T'.heap (locs ++ L) := by
  obtain ⟨hz, hk⟩ := hF
  rw [h0] at hz hk
  exact ⟨by rw [e1]; exact hz, fun q h1 h2 => by rw [e1]; exact hk q h1 h2,
    ⟨Nat.le_trans hS.1 (by rw [e1]; exact hz), fun q h1 h2 => by rw [e1, hk q (Nat.lt_of_lt_of_le h1 hS.1) (fun z => h2 (hA q (Nat.lt_of_lt_of_le h1 hS.1) z))]; exact hS.2.1 q h1 h2, fun q hq => by
      rcases List.mem_append.mp hq with h | h
      · exact hS.2.2 q h
      · exact hf _ (hL q h)⟩⟩
theorem vx_calli {S SX : Type} {post : Int32 → S → Prop} {px : SX → Prop} {B : S → State → Prop} {BX : String → SX → State → Prop} {AX : Nat → Prop} (hr : vx_Run p l e R s m args below meth c H locs cells slots mc ms (F0 m pc ls st0) rest (va_Qi post B A1 a) (vx_X px BX AX) free) (hS : va_S A0 H0 H locs) (hA : ∀ q, q < H.size → A1 q → A0 q) (hf : ∀ q, free q → A0 q) (hAX : ∀ q, q < H.size → AX q → A0 q)
    (kx : ∀ (E : String) (ce : Cell) (q9 : Addr) (u : SX) (t : State) (H1 : Heap) (locs1 : List Loc), t.heap = H1 → s.vm.Alike t.vm → px u → BX E u t → H.size ≤ H1.size → (∀ q : Nat, q < H.size → ¬ AX q → H1[q]? = H[q]?) → va_S A0 H0 H1 locs1 → H1[q9]? = some ce → ce.vm = .none → s.vm.findClass E = some ce.cls → vx_W p l e R s m args below meth c H1 locs1 (cells + mc) (slots + ms) Q (F0 m pc ls rest) q9)
    (kk : ∀ (r : Int32) (u : S) (t : State) (H1 : Heap) (locs1 : List Loc), t.heap = H1 → s.vm.Alike t.vm → post r u → B u t → H.size ≤ H1.size → (∀ q : Nat, q < H.size → ¬ A1 q → H1[q]? = H[q]?) → va_S A0 H0 H1 locs1 → W p l e R s m args below meth c H1 locs1 (cells + mc) (slots + ms) Q (F0 m (pc + 3) ls (.int r :: rest))) : W p l e R s m args below meth c H locs cells slots Q (F0 m pc ls st0) := by
  intro T hT X
  rcases hr T hT X with ⟨v, st₀, t, T', L, h0, X', hL, e1, e2, ⟨⟨r, u, hv, hp, hb⟩, hF⟩, st⟩ | ⟨q, st₀, t, T', L, E, ce, h0, X', hL, e1, e2, ⟨u, hp, hb, hF⟩, hce, hcv, hcl, st⟩
  · cases hv
    obtain ⟨k1, k2, k3⟩ := vx_keep h0 e1 hS hA hf hL hF
    obtain ⟨t2, a1, b1⟩ := kk r u t T'.heap (locs ++ L) e1.symm (by rw [← e2]; exact X'.warmed.alike) hp hb k1 k2 k3 T' rfl X'
    exact ⟨t2, st t2 a1, b1⟩
  · obtain ⟨k1, k2, k3⟩ := vx_keep h0 e1 hS hAX hf hL hF
    obtain ⟨t2, a1, b1⟩ := kx E ce q u t T'.heap (locs ++ L) e1.symm (by rw [← e2]; exact X'.warmed.alike) hp hb k1 k2 k3 (by rw [e1]; exact hce) hcv hcl T' rfl X'
    exact ⟨t2, st.trans a1, b1⟩
theorem vx_calll {S SX : Type} {post : Int64 → S → Prop} {px : SX → Prop} {B : S → State → Prop} {BX : String → SX → State → Prop} {AX : Nat → Prop} (hr : vx_Run p l e R s m args below meth c H locs cells slots mc ms (F0 m pc ls st0) rest (va_Ql post B A1 a) (vx_X px BX AX) free) (hS : va_S A0 H0 H locs) (hA : ∀ q, q < H.size → A1 q → A0 q) (hf : ∀ q, free q → A0 q) (hAX : ∀ q, q < H.size → AX q → A0 q)
    (kx : ∀ (E : String) (ce : Cell) (q9 : Addr) (u : SX) (t : State) (H1 : Heap) (locs1 : List Loc), t.heap = H1 → s.vm.Alike t.vm → px u → BX E u t → H.size ≤ H1.size → (∀ q : Nat, q < H.size → ¬ AX q → H1[q]? = H[q]?) → va_S A0 H0 H1 locs1 → H1[q9]? = some ce → ce.vm = .none → s.vm.findClass E = some ce.cls → vx_W p l e R s m args below meth c H1 locs1 (cells + mc) (slots + ms) Q (F0 m pc ls rest) q9)
    (kk : ∀ (r : Int64) (u : S) (t : State) (H1 : Heap) (locs1 : List Loc), t.heap = H1 → s.vm.Alike t.vm → post r u → B u t → H.size ≤ H1.size → (∀ q : Nat, q < H.size → ¬ A1 q → H1[q]? = H[q]?) → va_S A0 H0 H1 locs1 → W p l e R s m args below meth c H1 locs1 (cells + mc) (slots + ms) Q (F0 m (pc + 3) ls (.long r :: rest))) : W p l e R s m args below meth c H locs cells slots Q (F0 m pc ls st0) := by
  intro T hT X
  rcases hr T hT X with ⟨v, st₀, t, T', L, h0, X', hL, e1, e2, ⟨⟨r, u, hv, hp, hb⟩, hF⟩, st⟩ | ⟨q, st₀, t, T', L, E, ce, h0, X', hL, e1, e2, ⟨u, hp, hb, hF⟩, hce, hcv, hcl, st⟩
  · cases hv
    obtain ⟨k1, k2, k3⟩ := vx_keep h0 e1 hS hA hf hL hF
    obtain ⟨t2, a1, b1⟩ := kk r u t T'.heap (locs ++ L) e1.symm (by rw [← e2]; exact X'.warmed.alike) hp hb k1 k2 k3 T' rfl X'
    exact ⟨t2, st t2 a1, b1⟩
  · obtain ⟨k1, k2, k3⟩ := vx_keep h0 e1 hS hAX hf hL hF
    obtain ⟨t2, a1, b1⟩ := kx E ce q u t T'.heap (locs ++ L) e1.symm (by rw [← e2]; exact X'.warmed.alike) hp hb k1 k2 k3 (by rw [e1]; exact hce) hcv hcl T' rfl X'
    exact ⟨t2, st.trans a1, b1⟩
theorem vx_callf {S SX : Type} {post : UInt32 → S → Prop} {px : SX → Prop} {B : S → State → Prop} {BX : String → SX → State → Prop} {AX : Nat → Prop} (hr : vx_Run p l e R s m args below meth c H locs cells slots mc ms (F0 m pc ls st0) rest (va_Qf post B A1 a) (vx_X px BX AX) free) (hS : va_S A0 H0 H locs) (hA : ∀ q, q < H.size → A1 q → A0 q) (hf : ∀ q, free q → A0 q) (hAX : ∀ q, q < H.size → AX q → A0 q)
    (kx : ∀ (E : String) (ce : Cell) (q9 : Addr) (u : SX) (t : State) (H1 : Heap) (locs1 : List Loc), t.heap = H1 → s.vm.Alike t.vm → px u → BX E u t → H.size ≤ H1.size → (∀ q : Nat, q < H.size → ¬ AX q → H1[q]? = H[q]?) → va_S A0 H0 H1 locs1 → H1[q9]? = some ce → ce.vm = .none → s.vm.findClass E = some ce.cls → vx_W p l e R s m args below meth c H1 locs1 (cells + mc) (slots + ms) Q (F0 m pc ls rest) q9)
    (kk : ∀ (r : UInt32) (u : S) (t : State) (H1 : Heap) (locs1 : List Loc), t.heap = H1 → s.vm.Alike t.vm → post r u → B u t → H.size ≤ H1.size → (∀ q : Nat, q < H.size → ¬ A1 q → H1[q]? = H[q]?) → va_S A0 H0 H1 locs1 → W p l e R s m args below meth c H1 locs1 (cells + mc) (slots + ms) Q (F0 m (pc + 3) ls (.float r :: rest))) : W p l e R s m args below meth c H locs cells slots Q (F0 m pc ls st0) := by
  intro T hT X
  rcases hr T hT X with ⟨v, st₀, t, T', L, h0, X', hL, e1, e2, ⟨⟨r, u, hv, hp, hb⟩, hF⟩, st⟩ | ⟨q, st₀, t, T', L, E, ce, h0, X', hL, e1, e2, ⟨u, hp, hb, hF⟩, hce, hcv, hcl, st⟩
  · cases hv
    obtain ⟨k1, k2, k3⟩ := vx_keep h0 e1 hS hA hf hL hF
    obtain ⟨t2, a1, b1⟩ := kk r u t T'.heap (locs ++ L) e1.symm (by rw [← e2]; exact X'.warmed.alike) hp hb k1 k2 k3 T' rfl X'
    exact ⟨t2, st t2 a1, b1⟩
  · obtain ⟨k1, k2, k3⟩ := vx_keep h0 e1 hS hAX hf hL hF
    obtain ⟨t2, a1, b1⟩ := kx E ce q u t T'.heap (locs ++ L) e1.symm (by rw [← e2]; exact X'.warmed.alike) hp hb k1 k2 k3 (by rw [e1]; exact hce) hcv hcl T' rfl X'
    exact ⟨t2, st.trans a1, b1⟩
theorem vx_calld {S SX : Type} {post : UInt64 → S → Prop} {px : SX → Prop} {B : S → State → Prop} {BX : String → SX → State → Prop} {AX : Nat → Prop} (hr : vx_Run p l e R s m args below meth c H locs cells slots mc ms (F0 m pc ls st0) rest (va_Qd post B A1 a) (vx_X px BX AX) free) (hS : va_S A0 H0 H locs) (hA : ∀ q, q < H.size → A1 q → A0 q) (hf : ∀ q, free q → A0 q) (hAX : ∀ q, q < H.size → AX q → A0 q)
    (kx : ∀ (E : String) (ce : Cell) (q9 : Addr) (u : SX) (t : State) (H1 : Heap) (locs1 : List Loc), t.heap = H1 → s.vm.Alike t.vm → px u → BX E u t → H.size ≤ H1.size → (∀ q : Nat, q < H.size → ¬ AX q → H1[q]? = H[q]?) → va_S A0 H0 H1 locs1 → H1[q9]? = some ce → ce.vm = .none → s.vm.findClass E = some ce.cls → vx_W p l e R s m args below meth c H1 locs1 (cells + mc) (slots + ms) Q (F0 m pc ls rest) q9)
    (kk : ∀ (r : UInt64) (u : S) (t : State) (H1 : Heap) (locs1 : List Loc), t.heap = H1 → s.vm.Alike t.vm → post r u → B u t → H.size ≤ H1.size → (∀ q : Nat, q < H.size → ¬ A1 q → H1[q]? = H[q]?) → va_S A0 H0 H1 locs1 → W p l e R s m args below meth c H1 locs1 (cells + mc) (slots + ms) Q (F0 m (pc + 3) ls (.double r :: rest))) : W p l e R s m args below meth c H locs cells slots Q (F0 m pc ls st0) := by
  intro T hT X
  rcases hr T hT X with ⟨v, st₀, t, T', L, h0, X', hL, e1, e2, ⟨⟨r, u, hv, hp, hb⟩, hF⟩, st⟩ | ⟨q, st₀, t, T', L, E, ce, h0, X', hL, e1, e2, ⟨u, hp, hb, hF⟩, hce, hcv, hcl, st⟩
  · cases hv
    obtain ⟨k1, k2, k3⟩ := vx_keep h0 e1 hS hA hf hL hF
    obtain ⟨t2, a1, b1⟩ := kk r u t T'.heap (locs ++ L) e1.symm (by rw [← e2]; exact X'.warmed.alike) hp hb k1 k2 k3 T' rfl X'
    exact ⟨t2, st t2 a1, b1⟩
  · obtain ⟨k1, k2, k3⟩ := vx_keep h0 e1 hS hAX hf hL hF
    obtain ⟨t2, a1, b1⟩ := kx E ce q u t T'.heap (locs ++ L) e1.symm (by rw [← e2]; exact X'.warmed.alike) hp hb k1 k2 k3 (by rw [e1]; exact hce) hcv hcl T' rfl X'
    exact ⟨t2, st.trans a1, b1⟩
theorem vx_callv {S SX : Type} {post : S → Prop} {px : SX → Prop} {B : S → State → Prop} {BX : String → SX → State → Prop} {AX : Nat → Prop} (hr : vx_Run p l e R s m args below meth c H locs cells slots mc ms (F0 m pc ls st0) rest (va_Qv post B A1 a) (vx_X px BX AX) free) (hS : va_S A0 H0 H locs) (hA : ∀ q, q < H.size → A1 q → A0 q) (hf : ∀ q, free q → A0 q) (hAX : ∀ q, q < H.size → AX q → A0 q)
    (kx : ∀ (E : String) (ce : Cell) (q9 : Addr) (u : SX) (t : State) (H1 : Heap) (locs1 : List Loc), t.heap = H1 → s.vm.Alike t.vm → px u → BX E u t → H.size ≤ H1.size → (∀ q : Nat, q < H.size → ¬ AX q → H1[q]? = H[q]?) → va_S A0 H0 H1 locs1 → H1[q9]? = some ce → ce.vm = .none → s.vm.findClass E = some ce.cls → vx_W p l e R s m args below meth c H1 locs1 (cells + mc) (slots + ms) Q (F0 m pc ls rest) q9)
    (kk : ∀ (u : S) (t : State) (H1 : Heap) (locs1 : List Loc), t.heap = H1 → s.vm.Alike t.vm → post u → B u t → H.size ≤ H1.size → (∀ q : Nat, q < H.size → ¬ A1 q → H1[q]? = H[q]?) → va_S A0 H0 H1 locs1 → W p l e R s m args below meth c H1 locs1 (cells + mc) (slots + ms) Q (F0 m (pc + 3) ls (rest))) : W p l e R s m args below meth c H locs cells slots Q (F0 m pc ls st0) := by
  intro T hT X
  rcases hr T hT X with ⟨v, st₀, t, T', L, h0, X', hL, e1, e2, ⟨⟨u, hv, hp, hb⟩, hF⟩, st⟩ | ⟨q, st₀, t, T', L, E, ce, h0, X', hL, e1, e2, ⟨u, hp, hb, hF⟩, hce, hcv, hcl, st⟩
  · cases hv
    obtain ⟨k1, k2, k3⟩ := vx_keep h0 e1 hS hA hf hL hF
    obtain ⟨t2, a1, b1⟩ := kk u t T'.heap (locs ++ L) e1.symm (by rw [← e2]; exact X'.warmed.alike) hp hb k1 k2 k3 T' rfl X'
    exact ⟨t2, st t2 a1, b1⟩
  · obtain ⟨k1, k2, k3⟩ := vx_keep h0 e1 hS hAX hf hL hF
    obtain ⟨t2, a1, b1⟩ := kx E ce q u t T'.heap (locs ++ L) e1.symm (by rw [← e2]; exact X'.warmed.alike) hp hb k1 k2 k3 (by rw [e1]; exact hce) hcv hcl T' rfl X'
    exact ⟨t2, st.trans a1, b1⟩
/-- caught by the row x of this method's table; the rows ahead don't take it -/
theorem vx_catch {own name : String} {E : String} {ce : Cell} {q : Addr} (hown : s.vm.findClass own = some m.cls) (pre : List ExceptionTableEntry) (x : ExceptionTableEntry) (suf : List ExceptionTableEntry) (hsplit : c.exceptionTable.toList = pre ++ x :: suf)
    (hpass : ∀ z ∈ pre, covers z pc = false ∨ (z.catchType ≠ 0 ∧ ∃ nm : String, (Cond.classLink own z.catchType nm).before args s = true ∧ va_Nc E nm s)) (hx : covers x pc = true) (h0 : x.catchType ≠ 0)
    (hlink : (Cond.classLink own x.catchType name).before args s = true) (hcast : (Cond.castable E name).before args s = true) (hcell : H[q]? = some ce) (hv : ce.vm = .none) (hcl : s.vm.findClass E = some ce.cls)
    (kk : W p l e R s m args below meth c H locs cells slots Q (F0 m x.handlerPc ls [.ref q])) : vx_W p l e R s m args below meth c H locs cells slots Q (F0 m pc ls rest) q := by
  intro T hT X
  have hpl : e.platform.magicAccessors = ({} : Platform).magicAccessors := by rw [X.admits.platform]
  obtain ⟨c3, c4, hc3, hc4, hasg⟩ := Cond.castable_spec hcast
  cases Option.some.inj (hc3.symm.trans hcl)
  obtain ⟨c5, hc5, hcl5⟩ := Cond.classLink_spec hown hlink e.platform hpl
  cases Option.some.inj (hc4.symm.trans hc5)
  obtain ⟨vm', X', st⟩ := X.thenCaughtThrough q (g := F0 m pc ls rest) rfl (Steps.refl _) (by rw [hT]; exact hcell) (by rw [hv]; rfl) (by obtain ⟨k9, h9, -⟩ := Vm.findClass_spec hcl; exact ⟨k9, h9⟩) pre x suf hsplit
    (fun z hz => by
      rcases hpass z hz with h | ⟨hz0, nm, hl1, hn1⟩
      · exact Or.inl h
      · obtain ⟨c6, hc6, hcl6⟩ := Cond.classLink_spec hown hl1 e.platform hpl
        obtain ⟨a8, b8, h1, h2, h3⟩ := hn1
        cases Option.some.inj (h1.symm.trans hcl)
        cases Option.some.inj (h2.symm.trans hc6)
        exact Or.inr ⟨hz0, _, hcl6, h3⟩) hx (Or.inr ⟨h0, c4, hcl5, hasg⟩)
  obtain ⟨t, a1, b1⟩ := kk (T.setVm vm') hT X'
  exact ⟨t, st.trans a1, b1⟩
end Rows
section Ends
variable {p : Program} {l : Launch} {e : Env} {R : Room} {s : State} {m : MethodId} {args : Array Value} {below : List Frame} {meth : Method} {c : Code} {H : Heap} {locs : List Loc} {cells slots : Nat} {Q : State → Prop}
variable {mc ms : Nat} {free : Addr → Prop} {A0 A1 : Nat → Prop} {H0 : Heap} {a : Array Value} {ls : Array Slot} {st0 rest : List Value}
variable {Qc : Array Value → State → Outcome → State → Prop} {XC : String → State → State → Prop}
/-- what a body that may throw owes at its end -/
def vx_MQ (below : List Frame) (Qc : Array Value → State → Outcome → State → Prop) (XC : String → State → State → Prop) (a : Array Value) (s : State) (mc ms : Nat) (free : Addr → Prop) : State → Prop := fun t =>
  ∃ o, t.status = .running ∧ Ended t below o ∧ vx_Q Qc XC mc ms free a s o t
theorem vx_ret {g : JFrame} {mc ms : Nat} (k : W p l e R s m args below meth c H locs cells slots (MQ below Qc args s mc ms free) g) : W p l e R s m args below meth c H locs cells slots (vx_MQ below Qc XC args s mc ms free) g := by
  intro T hT X
  obtain ⟨t, a1, o, b1, b2, b3, b4⟩ := k T hT X
  exact ⟨t, a1, o, b1, b2, Or.inl ⟨b3, b4⟩⟩
/-- not caught here: it goes on to the caller -/
theorem vx_widen {g : JFrame} {q : Addr} {k n : Nat} (h1 : cells ≤ k) (h2 : slots ≤ n) (kk : vx_W p l e R s m args below meth c H locs k n Q g q) : vx_W p l e R s m args below meth c H locs cells slots Q g q := fun T hT X => kk T hT (stand_widen X h1 h2)
theorem vx_out {pc : Nat} {E : String} {ce : Cell} {q : Addr} {mc ms : Nat} (hout : ∀ x ∈ c.exceptionTable.toList, covers x pc = false) (hlocks : meth.locks = false) (hcell : H[q]? = some ce) (hv : ce.vm = .none) (hcl : s.vm.findClass E = some ce.cls)
    (hx : ∀ t : State, t.heap = H → s.vm.Alike t.vm → XC E s t) (hf : ∀ z ∈ locs, free z.base) (hc : cells ≤ mc) (hs : slots ≤ ms) :
    vx_W p l e R s m args below meth c H locs cells slots (vx_MQ below Qc XC args s mc ms free) (F0 m pc ls rest) q := by
  intro T hT X
  obtain ⟨st1, hrun, hend, hW, hsm⟩ := X.leaveThrown q (g := F0 m pc ls rest) rfl rfl rfl hout hlocks
  have hcell9 : (T.setFrames (.throwing q :: below)).heap[q]? = some ce := by
    show T.heap[q]? = some ce
    rw [hT]; exact hcell
  exact ⟨_, st1, .threw q, hrun, hend, Or.inr ⟨q, rfl, E, ce, locs, hx _ hT hW.alike, hcell9, hv, hcl, hW, hsm.mono hc hs, hf⟩⟩
theorem vx_frame {U : State} {k n : Nat} (h : s.sameButNew ({ U with vm := s.vm } : State) locs k n) : s.heap.size ≤ U.heap.size ∧ ∀ q : Nat, q < s.heap.size → (∀ z ∈ locs, z.base ≠ q) → U.heap[q]? = s.heap[q]? := by
  obtain ⟨-, h2, -, -, -, h6⟩ := h
  refine ⟨h2, fun q hq hz => ?_⟩
  obtain ⟨c9, e1, e2, e3, e4⟩ := h6 q _ (Array.getElem?_eq_getElem hq)
  have hs : c9.slots = (s.heap[q]).slots := Array.ext_getElem? fun i => e4 i fun hm => hz _ hm rfl
  have h9 : c9 = s.heap[q] := by
    rw [hs] at e2
    exact e2
  have e5 : U.heap[q]? = some c9 := e1
  rw [e5, h9, Array.getElem?_eq_getElem hq]
/-- the words of a throw but the four that speak of the heap -/
def vx_no (w : Cond) : Bool := decide (w ≠ .isRef (.static Bundle.tN "UNASSIGNED_STACK" Bundle.steD)) && decide (w ≠ .isRef (.static Bundle.tN "SUPPRESSED_SENTINEL" Bundle.listD)) && decide (w ≠ .laysStatic Bundle.tN "UNASSIGNED_STACK" Bundle.steD) && decide (w ≠ .laysStatic Bundle.tN "SUPPRESSED_SENTINEL" Bundle.listD)
def vx_at0 (own : String) (ic : Nat) (X : String) (names : List String) : List Cond := (Bundle.ownAtoms0 own ic X names).filter vx_no
def vx_atS (own : String) (ic : Nat) (X : String) (names : List String) : List Cond := (Bundle.ownAtoms own ic X names).filter vx_no
/-- a word that the tables alone decide, or a good one -/
def vx_ot (w : Cond) : Bool := w.onTables || goodWord w
theorem vx_ot_at {args a' : Array Value} {s U : State} {w : Cond} (hW : s.WarmedH U.vm) (hvm : s.vm = U.vm) (hg : vx_ot w = true) (h : w.before args s = true) : w.before a' U = true := by
  simp only [vx_ot, Bool.or_eq_true] at hg
  rcases hg with hg | hg
  · exact va_tabs hg hvm h
  · exact word_at hW (good_of_word hg) h
/-- a list's words: the good ones out of the method's own list, the others by premises of their own -/
theorem vx_hat {args : Array Value} {s : State} {L B : List Cond} (h1 : ∀ w ∈ L.filter goodWord, w.before args s = true) (h2 : ∀ w ∈ L.filter (fun w => !goodWord w), w ∈ B) (h3 : ∀ w ∈ B, w.before args s = true) : ∀ w ∈ L, w.before args s = true := by
  intro w hw
  by_cases g : goodWord w = true
  · exact h1 w (List.mem_filter.mpr ⟨hw, g⟩)
  · refine h3 w (h2 w (List.mem_filter.mpr ⟨hw, ?_⟩))
    show (!goodWord w) = true
    cases hgw : goodWord w
    · rfl
    · exact absurd hgw g
theorem vx_c {args : Array Value} {s : State} {w : Cond} {B : List Cond} (h : w.before args s = true) (t : ∀ w ∈ B, w.before args s = true) : ∀ w' ∈ w :: B, w'.before args s = true := fun w' h' => (List.mem_cons.mp h').elim (fun e => by rw [e]; exact h) (t w')
theorem vx_n {args : Array Value} {s : State} : ∀ w ∈ ([] : List Cond), w.before args s = true := fun _ h => nomatch h
theorem vx_own {args : Array Value} {s : State} {L : List Cond} (h1 : ∀ w ∈ L.filter vx_no, w.before args s = true)
    (hU : (Cond.isRef (.static Bundle.tN "UNASSIGNED_STACK" Bundle.steD)).before args s = true) (hN : (Cond.isRef (.static Bundle.tN "SUPPRESSED_SENTINEL" Bundle.listD)).before args s = true)
    (lU : (Cond.laysStatic Bundle.tN "UNASSIGNED_STACK" Bundle.steD).before args s = true) (lN : (Cond.laysStatic Bundle.tN "SUPPRESSED_SENTINEL" Bundle.listD).before args s = true) : ∀ w ∈ L, w.before args s = true := by
  intro w hw
  by_cases e1 : w = .isRef (.static Bundle.tN "UNASSIGNED_STACK" Bundle.steD)
  · rw [e1]; exact hU
  · by_cases e2 : w = .isRef (.static Bundle.tN "SUPPRESSED_SENTINEL" Bundle.listD)
    · rw [e2]; exact hN
    · by_cases e3 : w = .laysStatic Bundle.tN "UNASSIGNED_STACK" Bundle.steD
      · rw [e3]; exact lU
      · by_cases e4 : w = .laysStatic Bundle.tN "SUPPRESSED_SENTINEL" Bundle.listD
        · rw [e4]; exact lN
        · exact h1 w (List.mem_filter.mpr ⟨hw, by unfold vx_no; rw [decide_eq_true e1, decide_eq_true e2, decide_eq_true e3, decide_eq_true e4]; rfl⟩)
/-- where a static field lies, its class's statics cell in H -/
def vx_L (C n d : String) (A : Nat → Prop) (U : State) (H : Heap) : Prop := ∃ (c : ClassId) (k : Class) (i : Nat) (f : Field) (a : Nat) (cell : Cell), U.vm.findClass C = some c ∧ U.fieldFound? C n d = some (c, k, i, f) ∧ f.isStatic = true ∧ k.statics = some a ∧ H[a]? = some cell ∧ cell.vm.isStatics = true ∧ cell.cls = c ∧ f.slot < cell.slots.size ∧ k.staticTypes[f.slot]? = some f.type ∧ ¬ A a
theorem vx_L.moved {C n d : String} {A : Nat → Prop} {u U : State} {H : Heap} (hvm : u.vm.Alike U.vm) (h : vx_L C n d A u H) : vx_L C n d A U H := by
  obtain ⟨c, k, i, f, a, cell, h1, h2, h3, h4, h5, h6, h7, h8, h9, h10⟩ := h
  obtain ⟨k', hi', he⟩ := State.fieldFound?_setVm hvm h2
  exact ⟨c, k', i, f, a, cell, by rw [hvm.findClass]; exact h1, hi', h3, by rw [he]; exact h4, h5, h6, h7, h8, by rw [he]; exact h9, h10⟩
theorem vx_L.kept {C n d : String} {A : Nat → Prop} {U : State} {H H1 : Heap} (h : vx_L C n d A U H) (hq : ∀ a : Nat, a < H.size → ¬ A a → H1[a]? = H[a]?) : vx_L C n d A U H1 := by
  obtain ⟨c, k, i, f, a, cell, h1, h2, h3, h4, h5, h6, h7, h8, h9, h10⟩ := h
  exact ⟨c, k, i, f, a, cell, h1, h2, h3, h4, by rw [hq a (Array.getElem?_eq_some_iff.mp h5).1 h10]; exact h5, h6, h7, h8, h9, h10⟩
theorem vx_L.narrow {C n d : String} {A B : Nat → Prop} {U : State} {H : Heap} (h : vx_L C n d A U H) (hAB : ∀ q, B q → A q) : vx_L C n d B U H := by
  obtain ⟨c, k, i, f, a, cell, h1, h2, h3, h4, h5, h6, h7, h8, h9, h10⟩ := h
  exact ⟨c, k, i, f, a, cell, h1, h2, h3, h4, h5, h6, h7, h8, h9, fun z => h10 (hAB _ z)⟩
theorem vx_L.word {C n d : String} {A : Nat → Prop} {s : State} {args : Array Value} (h : vx_L C n d A s s.heap) : (Cond.laysStatic C n d).before args s = true := by
  obtain ⟨c, k, i, f, a, cell, h1, h2, h3, h4, h5, h6, h7, h8, h9, -⟩ := h
  show (Cond.laysStatic C n d).holds args s none s [] = true
  exact Cond.laysStatic_of h1 h2 h3 h4 h5 h6 h7 h8 h9
/-- .. and what it holds: null or some reference -/
def vx_Zq (C n d : String) (A : Nat → Prop) (U : State) (H : Heap) : Prop := va_Zq C n d A U H ∧ vx_L C n d A U H
theorem vx_Zq.moved {C n d : String} {A : Nat → Prop} {u U : State} {H : Heap} (hvm : u.vm.Alike U.vm) (h : vx_Zq C n d A u H) : vx_Zq C n d A U H := ⟨va_Zq.moved hvm h.1, vx_L.moved hvm h.2⟩
theorem vx_Zq.kept {C n d : String} {A : Nat → Prop} {U : State} {H H1 : Heap} (h : vx_Zq C n d A U H) (hq : ∀ a : Nat, a < H.size → ¬ A a → H1[a]? = H[a]?) : vx_Zq C n d A U H1 := ⟨va_Zq.kept h.1 hq, vx_L.kept h.2 hq⟩
theorem vx_Zq.narrow {C n d : String} {A B : Nat → Prop} {U : State} {H : Heap} (h : vx_Zq C n d A U H) (hAB : ∀ q, B q → A q) : vx_Zq C n d B U H := ⟨va_Zq.narrow h.1 hAB, vx_L.narrow h.2 hAB⟩
theorem vx_Zqof {args : Array Value} {s : State} {C n d : String} {A : Nat → Prop} (hl : (Cond.laysStatic C n d).before args s = true) (hini : (Cond.initialized C).before args s = true) (h : (Cond.isRef (.static C n d)).before args s = true) (hA : ∀ a : Nat, a < s.heap.size → ¬ A a) : vx_Zq C n d A s s.heap := by
  refine ⟨va_Zqof hl hini h hA, ?_⟩
  obtain ⟨c, k, i, f, a, cell, h1, h2, h3, h4, h5, h6, h7, h8, h9⟩ := Cond.laysStatic_spec hl
  exact ⟨c, k, i, f, a, cell, h1, h2, h3, h4, h5, h6, h7, h8, h9, hA a (Array.getElem?_eq_some_iff.mp h5).1⟩
theorem vx_isRef {C n d : String} {v : Value} {A : Nat → Prop} {s : State} {args : Array Value} (h : va_Z C n d v A s s.heap) (hv : v.isRef = true) : (Cond.isRef (.static C n d)).before args s = true := by
  obtain ⟨cf, kf, fi, f, a, cell, h1, h2, h3, h4, h5, h6, h7, -⟩ := h
  have he : (Term.static C n d).eval args s none [] s = some v := by
    simp [Term.eval, State.fieldNamed?, h1, h2, h4, h5, h6, h7]
  simp only [Cond.before, Cond.holds, Cond.value, he]
  cases v <;> simp_all [Value.isRef]
theorem vx_isRefq {C n d : String} {A : Nat → Prop} {s : State} {args : Array Value} (h : va_Zq C n d A s s.heap) : (Cond.isRef (.static C n d)).before args s = true := by
  rcases h with h | ⟨t, h⟩
  · exact vx_isRef h rfl
  · exact vx_isRef h rfl
/-- the same frame, seen from here: as if the method were called anew in this heap -/
theorem vx_rebase {T : State} (X : Stand p l e R s m args below meth c T locs cells slots) {R' : Room} (hf : R'.frames ≤ R.frames) (hl : R'.locals ≤ R.locals) (hc : cells + R'.cells ≤ R.cells) (hs : slots + R'.slots ≤ R.slots) :
    Stand p l e R' ((T.setVm s.vm).setFrames (.invoking m args :: below)) m args below meth c T [] 0 0 := by
  have htop : (T.setVm s.vm).topJava?.isSome := X.here.top
  have hF : ((T.setVm s.vm).setFrames (.invoking m args :: below)).frames = .invoking m args :: below := State.frames_setFrames _ (State.cur_lt_of_top htop)
  obtain ⟨g₀, hg0⟩ := Option.isSome_iff_exists.mp htop
  obtain ⟨r, hr⟩ := State.topJava?_eq_some.mp hg0
  have hl9 : e.platform.stackLimits (T.setVm s.vm).me = e.platform.stackLimits s.me := X.limits
  have hb9 : (T.setVm s.vm).me.stackBytes = s.me.stackBytes := X.bytes
  refine ⟨X.admits, X.cas, X.clock, hF, ?_, X.hears, X.method, X.code, X.here, X.tail, X.warmed, ?_, ?_, ?_⟩
  · have h := X.room
    have hU : ((T.setVm s.vm).setFrames (.invoking m args :: below)).localsInUse = s.localsInUse := by
      rw [State.localsInUse_invoking hF (meth := meth) (c := c) X.method X.code, State.localsInUse_invoking X.frames X.method X.code]
    simp only [State.hasRoom, Bool.and_eq_true, decide_eq_true_eq] at h ⊢
    obtain ⟨⟨⟨⟨h1, h2, h3, h4, h5, h6⟩, h7⟩, h8⟩, h9⟩ := h
    rw [X.frames, List.length_cons] at h2 h3
    have q1 := X.heapSize
    have q2 := X.used
    simp only [hF, hU, List.length_cons, State.stackLimits_setFrames, State.stackBytes_setFrames, hl9, hb9]
    refine ⟨⟨⟨⟨by omega, by omega, by omega, by omega, by omega, h6⟩, ?_⟩, ?_⟩, X.book⟩
    · show T.heap.size + R'.cells ≤ e.platform.maxCells
      omega
    · show T.slotsUsed + R'.slots ≤ e.platform.maxSlots
      omega
  · rw [State.stackLimits_setFrames]; rfl
  · rw [State.stackBytes_setFrames]; rfl
  · refine ⟨?_, Nat.le_refl _, Nat.le_refl _, ?_, ?_, fun a c9 h9 => ⟨c9, h9, rfl, rfl, fun _ _ => rfl⟩⟩
    · obtain ⟨t, ht, -⟩ := State.frames_cons hr
      show T.setVm s.vm = { ((T.setVm s.vm).setFrames (.invoking m args :: below)).setFrames (T.setVm s.vm).frames with heap := T.heap, slotsUsed := T.slotsUsed }
      rw [State.setFrames_setFrames, State.setFrames_self ht]
      rfl
    · show T.slotsUsed = T.slotsUsed + ((T.heap.toList.drop T.heap.size).map (·.slots.size)).sum
      rw [List.drop_eq_nil_of_le (Nat.le_of_eq Array.length_toList)]
      rfl
    · show ((T.heap.toList.drop T.heap.size).map (·.slots.size)).sum ≤ 0
      rw [List.drop_eq_nil_of_le (Nat.le_of_eq Array.length_toList)]
      exact Nat.le_refl _
/-- 'throw new E()': new; dup; invokespecial; athrow -/
theorem vx_throw0 {cc : ByteArray} {pc : Nat} (hexec : p.tables.exec = Jvm.exec) (hb : c.code = cc) (hl : l.stackTraces = false) {own cls : String} {names : List String} {ik ic mc ms : Nat} {A : Nat → Prop}
    (hown : s.vm.findClass own = some m.cls) (hcls : Bundle.fit cls = true) (hnames : ∀ n ∈ names, Bundle.fit n = true)
    (hk : (Cond.classLink own ik cls).before args s = true) (hini : (Cond.initialized cls).before args s = true) (hat : ∀ w ∈ vx_at0 own ic cls names, w.before args s = true)
    (hgood : ∀ w ∈ Cond.classLink own ik cls :: Cond.initialized cls :: vx_at0 own ic cls names, vx_ot w = true)
    (hU : vx_Zq Bundle.tN "UNASSIGNED_STACK" Bundle.steD A s s.heap) (hN : vx_Zq Bundle.tN "SUPPRESSED_SENTINEL" Bundle.listD A s s.heap) (hS : va_S A s.heap H locs) (hsize : ls.size = c.maxLocals)
    (d0 : decode cc pc = .ok (.new ik, 3)) (d3 : decode cc (pc + 3) = .ok (.dup, 1)) (d4 : decode cc (pc + 4) = .ok (.invokespecial ic, 3)) (d7 : decode cc (pc + 7) = .ok (.athrow, 1))
    (hout : ∀ x ∈ c.exceptionTable.toList, covers x (pc + 7) = false)
    (hRframes : names.length + 3 < R.frames) (hRlocals : (rest.map fun v => v.category).sum + (13 * (names.length + 1) + 42) ≤ R.locals) (hRcells : cells + 1 ≤ R.cells) (hRslots : slots + 6 ≤ R.slots) (hlocks : meth.locks = false)
    (hx : ∀ t : State, s.vm.Alike t.vm → H.size ≤ t.heap.size → (∀ q : Nat, q < H.size → t.heap[q]? = H[q]?) → XC cls s t)
    (hf : ∀ z ∈ locs, free z.base) (hc : cells + 1 ≤ mc) (hs : slots + 6 ≤ ms) :
    W p l e R s m args below meth c H locs cells slots (vx_MQ below Qc XC args s mc ms free) (F0 m pc ls rest) := by
  intro T hT X
  have htr : e.platform.stackTraces = false := (show e.platform.stackTraces = l.stackTraces by rw [X.admits.platform]).trans hl
  have Y := vx_rebase X (R' := { frames := R.frames, locals := R.locals, cells := 1, slots := 6 }) (Nat.le_refl _) (Nat.le_refl _) hRcells hRslots
  obtain ⟨s', hA⟩ : ∃ z, z = (T.setVm s.vm).setFrames (.invoking m args :: below) := ⟨_, rfl⟩
  rw [← hA] at Y
  have hvm : s'.vm = s.vm := by rw [hA]; rfl
  have hhp : s'.heap = H := by rw [hA]; exact hT
  have hW0 : s.WarmedH s'.vm := by rw [hvm]; exact State.WarmedH.refl s
  have hat' : ∀ w ∈ vx_at0 own ic cls names, w.before args s' = true := fun w hw => vx_ot_at hW0 hvm.symm (hgood w (List.mem_cons_of_mem _ (List.mem_cons_of_mem _ hw))) (hat w hw)
  have hk' : (Cond.classLink own ik cls).before args s' = true := vx_ot_at hW0 hvm.symm (hgood _ List.mem_cons_self) hk
  have hini' : (Cond.initialized cls).before args s' = true := vx_ot_at hW0 hvm.symm (hgood _ (List.mem_cons_of_mem _ List.mem_cons_self)) hini
  have hU' : vx_Zq Bundle.tN "UNASSIGNED_STACK" Bundle.steD A s' s'.heap := by rw [hhp]; exact vx_Zq.moved hW0.alike (hU.kept hS.2.1)
  have hN' : vx_Zq Bundle.tN "SUPPRESSED_SENTINEL" Bundle.listD A s' s'.heap := by rw [hhp]; exact vx_Zq.moved hW0.alike (hN.kept hS.2.1)
  have h : ∀ w ∈ Bundle.ownAtoms0 own ic cls names, w.before args s' = true := vx_own hat' (vx_isRefq hU'.1) (vx_isRefq hN'.1) hU'.2.word hN'.2.word
  have hown' : s'.vm.findClass own = some m.cls := by rw [hvm]; exact hown
  have hins : (Cond.instantiable cls 6).before args s' = true := h _ (by simp [Bundle.ownAtoms0])
  obtain ⟨vm₁, cX, kX, hfX, hkX, -, -, X₁, st1⟩ := Y.newCold hexec (own := own) (C := cls) (index := ik) (n := 6) hown' hk' hins hini'
    (g := F0 m pc ls rest) rfl (by rw [hb]; exact d0) (Nat.le_refl _) (Nat.le_refl _)
  generalize hT1 : (T.setVm vm₁).pushCell { cls := cX, slots := kX.instanceTypes.map defaultValue, vm := .none } = T1 at X₁ st1
  have hcat : (Value.ref T.heap.size).category = 1 := rfl
  have hcellA : T1.heap[T.heap.size]? = some (freshCell cX kX) := by rw [← hT1]; exact State.heap_pushCell_size _ _
  have d3' : decode c.code (pc + 3) = .ok (.dup, 1) := by rw [hb]; exact d3
  obtain ⟨U, hsteps, hrun, hend, hW, hsame, ce, hce, hO⟩ := X₁.ctorThrow0 hexec htr (own := own) (cls := cls) (names := names) (ic := ic) hown' hcls hnames h (fun x hx => nomatch hx) hfX hkX hcellA (by rw [hhp, hT]; exact Nat.le_refl _)
    (g := { method := m, pc := pc + 4, locals := ls, stack := .ref T.heap.size :: .ref T.heap.size :: rest, locked := none }) rfl hsize rfl rfl (rest := rest) rfl
    (by rw [hb]; exact d4) (by rw [hb]; exact d7) hout hRframes (by simp only [List.map_cons, List.sum_cons, hcat]; omega) hlocks
  obtain ⟨f1, f2⟩ := vx_frame hsame
  rw [hhp] at f1 f2
  have hWs : s.WarmedH U.vm := State.WarmedH.trans hW0 hW
  have hcl : s.vm.findClass cls = some ce.cls := by
    have h9 := hO.cls
    rw [hvm] at h9
    exact h9
  have hall : s.sameButNew ({ U with vm := s.vm } : State) locs mc ms := by
    subst hA
    obtain ⟨e1, e2⟩ := hsame
    rw [State.setFrames_setFrames] at e1
    have h2 : (T.setVm s.vm).sameButNew ({ U with vm := s.vm } : State) [] (0 + 1) (0 + 6) := ⟨e1, e2⟩
    have h3 := X.same.trans h2
    rw [List.append_nil] at h3
    exact h3.mono hc hs
  refine ⟨U, ?_, .threw T.heap.size, hrun, hend, Or.inr ⟨T.heap.size, rfl, cls, ce, locs, hx U hWs.alike f1 (fun q hq => f2 q hq (fun z hz => nomatch hz)), hce, hO.vm, hcl, hWs, hall, hf⟩⟩
  refine st1 _ ?_
  show Steps p.tables e below (T1.setTop { method := m, pc := pc + 3, locals := ls, stack := .ref T.heap.size :: rest, locked := none }) _
  jvm_step X₁.here [X₁.here.top, hexec, d3', Value.category]
  exact hsteps
/-- 'throw new E("text")': new; dup; ldc; invokespecial; athrow -/
theorem vx_throwS {cc : ByteArray} {pc : Nat} (hexec : p.tables.exec = Jvm.exec) (hb : c.code = cc) (hl : l.stackTraces = false) {own cls text : String} {names : List String} {ik is ic mc ms sa : Nat} {A : Nat → Prop}
    (hown : s.vm.findClass own = some m.cls) (hcls : Bundle.fit cls = true) (hnames : ∀ n ∈ names, Bundle.fit n = true)
    (hk : (Cond.classLink own ik cls).before args s = true) (hini : (Cond.initialized cls).before args s = true) (hstr : vk_R own is text sa s) (hat : ∀ w ∈ vx_atS own ic cls names, w.before args s = true)
    (hgood : ∀ w ∈ Cond.classLink own ik cls :: Cond.initialized cls :: vx_atS own ic cls names, vx_ot w = true)
    (hU : vx_Zq Bundle.tN "UNASSIGNED_STACK" Bundle.steD A s s.heap) (hN : vx_Zq Bundle.tN "SUPPRESSED_SENTINEL" Bundle.listD A s s.heap) (hS : va_S A s.heap H locs) (hsize : ls.size = c.maxLocals)
    (d0 : decode cc pc = .ok (.new ik, 3)) (d3 : decode cc (pc + 3) = .ok (.dup, 1)) (d4 : decode cc (pc + 4) = .ok (.ldc is, 2)) (d6 : decode cc (pc + 6) = .ok (.invokespecial ic, 3)) (d9 : decode cc (pc + 9) = .ok (.athrow, 1))
    (hout : ∀ x ∈ c.exceptionTable.toList, covers x (pc + 9) = false)
    (hRframes : names.length + 3 < R.frames) (hRlocals : (rest.map fun v => v.category).sum + (13 * (names.length + 1) + 43) ≤ R.locals) (hRcells : cells + 1 ≤ R.cells) (hRslots : slots + 6 ≤ R.slots) (hlocks : meth.locks = false)
    (hx : ∀ t : State, s.vm.Alike t.vm → H.size ≤ t.heap.size → (∀ q : Nat, q < H.size → t.heap[q]? = H[q]?) → XC cls s t)
    (hf : ∀ z ∈ locs, free z.base) (hc : cells + 1 ≤ mc) (hs : slots + 6 ≤ ms) :
    W p l e R s m args below meth c H locs cells slots (vx_MQ below Qc XC args s mc ms free) (F0 m pc ls rest) := by
  intro T hT X
  have htr : e.platform.stackTraces = false := (show e.platform.stackTraces = l.stackTraces by rw [X.admits.platform]).trans hl
  have Y := vx_rebase X (R' := { frames := R.frames, locals := R.locals, cells := 1, slots := 6 }) (Nat.le_refl _) (Nat.le_refl _) hRcells hRslots
  obtain ⟨s', hA⟩ : ∃ z, z = (T.setVm s.vm).setFrames (.invoking m args :: below) := ⟨_, rfl⟩
  rw [← hA] at Y
  have hvm : s'.vm = s.vm := by rw [hA]; rfl
  have hhp : s'.heap = H := by rw [hA]; exact hT
  have hW0 : s.WarmedH s'.vm := by rw [hvm]; exact State.WarmedH.refl s
  have hat' : ∀ w ∈ vx_atS own ic cls names, w.before args s' = true := fun w hw => vx_ot_at hW0 hvm.symm (hgood w (List.mem_cons_of_mem _ (List.mem_cons_of_mem _ hw))) (hat w hw)
  have hk' : (Cond.classLink own ik cls).before args s' = true := vx_ot_at hW0 hvm.symm (hgood _ List.mem_cons_self) hk
  have hini' : (Cond.initialized cls).before args s' = true := vx_ot_at hW0 hvm.symm (hgood _ (List.mem_cons_of_mem _ List.mem_cons_self)) hini
  have hU' : vx_Zq Bundle.tN "UNASSIGNED_STACK" Bundle.steD A s' s'.heap := by rw [hhp]; exact vx_Zq.moved hW0.alike (hU.kept hS.2.1)
  have hN' : vx_Zq Bundle.tN "SUPPRESSED_SENTINEL" Bundle.listD A s' s'.heap := by rw [hhp]; exact vx_Zq.moved hW0.alike (hN.kept hS.2.1)
  have h : ∀ w ∈ Bundle.ownAtoms own ic cls names, w.before args s' = true := vx_own hat' (vx_isRefq hU'.1) (vx_isRefq hN'.1) hU'.2.word hN'.2.word
  have hown' : s'.vm.findClass own = some m.cls := by rw [hvm]; exact hown
  have hins : (Cond.instantiable cls 6).before args s' = true := h _ (by simp [Bundle.ownAtoms])
  obtain ⟨vm₁, cX, kX, hfX, hkX, -, -, X₁, st1⟩ := Y.newCold hexec (own := own) (C := cls) (index := ik) (n := 6) hown' hk' hins hini'
    (g := F0 m pc ls rest) rfl (by rw [hb]; exact d0) (Nat.le_refl _) (Nat.le_refl _)
  generalize hT1 : (T.setVm vm₁).pushCell { cls := cX, slots := kX.instanceTypes.map defaultValue, vm := .none } = T1 at X₁ st1
  have hcat : (Value.ref T.heap.size).category = 1 := rfl
  have hcellA : T1.heap[T.heap.size]? = some (freshCell cX kX) := by rw [← hT1]; exact State.heap_pushCell_size _ _
  have d3' : decode c.code (pc + 3) = .ok (.dup, 1) := by rw [hb]; exact d3
  have d4' : decode c.code (pc + 4) = .ok (.ldc is, 2) := by rw [hb]; exact d4
  have hstr' : vk_R own is text sa s' := vk_R.warm hW0 hstr
  obtain ⟨U, hsteps, hrun, hend, hW, hsame, ce, hce, hO⟩ := X₁.ctorThrowS hexec htr (own := own) (cls := cls) (names := names) (ic := ic) hown' hcls hnames h (fun x hx => nomatch hx) hfX hkX hcellA (by rw [hhp, hT]; exact Nat.le_refl _) (msg := .ref sa) rfl
    (g := { method := m, pc := pc + 6, locals := ls, stack := .ref sa :: .ref T.heap.size :: .ref T.heap.size :: rest, locked := none }) rfl hsize rfl rfl (rest := rest) rfl
    (by rw [hb]; exact d6) (by rw [hb]; exact d9) hout hRframes (by simp only [List.map_cons, List.sum_cons, hcat]; omega) hlocks
  obtain ⟨f1, f2⟩ := vx_frame hsame
  rw [hhp] at f1 f2
  have hWs : s.WarmedH U.vm := State.WarmedH.trans hW0 hW
  have hcl : s.vm.findClass cls = some ce.cls := by
    have h9 := hO.cls
    rw [hvm] at h9
    exact h9
  have hall : s.sameButNew ({ U with vm := s.vm } : State) locs mc ms := by
    subst hA
    obtain ⟨e1, e2⟩ := hsame
    rw [State.setFrames_setFrames] at e1
    have h2 : (T.setVm s.vm).sameButNew ({ U with vm := s.vm } : State) [] (0 + 1) (0 + 6) := ⟨e1, e2⟩
    have h3 := X.same.trans h2
    rw [List.append_nil] at h3
    exact h3.mono hc hs
  refine ⟨U, ?_, .threw T.heap.size, hrun, hend, Or.inr ⟨T.heap.size, rfl, cls, ce, locs, hx U hWs.alike f1 (fun q hq => f2 q hq (fun z hz => nomatch hz)), hce, hO.vm, hcl, hWs, hall, hf⟩⟩
  refine st1 _ ?_
  show Steps p.tables e below (T1.setTop { method := m, pc := pc + 3, locals := ls, stack := .ref T.heap.size :: rest, locked := none }) _
  jvm_step X₁.here [X₁.here.top, hexec, d3', Value.category]
  exact X₁.ldcString hexec (own := own) (text := text) (index := is) (a := sa) hown' hstr'.1 hstr'.2
    (g := { method := m, pc := pc + 4, locals := ls, stack := .ref T.heap.size :: .ref T.heap.size :: rest, locked := none }) rfl d4' _ hsteps
/-- 'throw new E("text")', the text by a wide index -/
theorem vx_throwSW {cc : ByteArray} {pc : Nat} (hexec : p.tables.exec = Jvm.exec) (hb : c.code = cc) (hl : l.stackTraces = false) {own cls text : String} {names : List String} {ik is ic mc ms sa : Nat} {A : Nat → Prop}
    (hown : s.vm.findClass own = some m.cls) (hcls : Bundle.fit cls = true) (hnames : ∀ n ∈ names, Bundle.fit n = true)
    (hk : (Cond.classLink own ik cls).before args s = true) (hini : (Cond.initialized cls).before args s = true) (hstr : vk_R own is text sa s) (hat : ∀ w ∈ vx_atS own ic cls names, w.before args s = true)
    (hgood : ∀ w ∈ Cond.classLink own ik cls :: Cond.initialized cls :: vx_atS own ic cls names, vx_ot w = true)
    (hU : vx_Zq Bundle.tN "UNASSIGNED_STACK" Bundle.steD A s s.heap) (hN : vx_Zq Bundle.tN "SUPPRESSED_SENTINEL" Bundle.listD A s s.heap) (hS : va_S A s.heap H locs) (hsize : ls.size = c.maxLocals)
    (d0 : decode cc pc = .ok (.new ik, 3)) (d3 : decode cc (pc + 3) = .ok (.dup, 1)) (d4 : decode cc (pc + 4) = .ok (.ldc_w is, 3)) (d7 : decode cc (pc + 7) = .ok (.invokespecial ic, 3)) (d10 : decode cc (pc + 10) = .ok (.athrow, 1))
    (hout : ∀ x ∈ c.exceptionTable.toList, covers x (pc + 10) = false)
    (hRframes : names.length + 3 < R.frames) (hRlocals : (rest.map fun v => v.category).sum + (13 * (names.length + 1) + 43) ≤ R.locals) (hRcells : cells + 1 ≤ R.cells) (hRslots : slots + 6 ≤ R.slots) (hlocks : meth.locks = false)
    (hx : ∀ t : State, s.vm.Alike t.vm → H.size ≤ t.heap.size → (∀ q : Nat, q < H.size → t.heap[q]? = H[q]?) → XC cls s t)
    (hf : ∀ z ∈ locs, free z.base) (hc : cells + 1 ≤ mc) (hs : slots + 6 ≤ ms) :
    W p l e R s m args below meth c H locs cells slots (vx_MQ below Qc XC args s mc ms free) (F0 m pc ls rest) := by
  intro T hT X
  have htr : e.platform.stackTraces = false := (show e.platform.stackTraces = l.stackTraces by rw [X.admits.platform]).trans hl
  have Y := vx_rebase X (R' := { frames := R.frames, locals := R.locals, cells := 1, slots := 6 }) (Nat.le_refl _) (Nat.le_refl _) hRcells hRslots
  obtain ⟨s', hA⟩ : ∃ z, z = (T.setVm s.vm).setFrames (.invoking m args :: below) := ⟨_, rfl⟩
  rw [← hA] at Y
  have hvm : s'.vm = s.vm := by rw [hA]; rfl
  have hhp : s'.heap = H := by rw [hA]; exact hT
  have hW0 : s.WarmedH s'.vm := by rw [hvm]; exact State.WarmedH.refl s
  have hat' : ∀ w ∈ vx_atS own ic cls names, w.before args s' = true := fun w hw => vx_ot_at hW0 hvm.symm (hgood w (List.mem_cons_of_mem _ (List.mem_cons_of_mem _ hw))) (hat w hw)
  have hk' : (Cond.classLink own ik cls).before args s' = true := vx_ot_at hW0 hvm.symm (hgood _ List.mem_cons_self) hk
  have hini' : (Cond.initialized cls).before args s' = true := vx_ot_at hW0 hvm.symm (hgood _ (List.mem_cons_of_mem _ List.mem_cons_self)) hini
  have hU' : vx_Zq Bundle.tN "UNASSIGNED_STACK" Bundle.steD A s' s'.heap := by rw [hhp]; exact vx_Zq.moved hW0.alike (hU.kept hS.2.1)
  have hN' : vx_Zq Bundle.tN "SUPPRESSED_SENTINEL" Bundle.listD A s' s'.heap := by rw [hhp]; exact vx_Zq.moved hW0.alike (hN.kept hS.2.1)
  have h : ∀ w ∈ Bundle.ownAtoms own ic cls names, w.before args s' = true := vx_own hat' (vx_isRefq hU'.1) (vx_isRefq hN'.1) hU'.2.word hN'.2.word
  have hown' : s'.vm.findClass own = some m.cls := by rw [hvm]; exact hown
  have hins : (Cond.instantiable cls 6).before args s' = true := h _ (by simp [Bundle.ownAtoms])
  obtain ⟨vm₁, cX, kX, hfX, hkX, -, -, X₁, st1⟩ := Y.newCold hexec (own := own) (C := cls) (index := ik) (n := 6) hown' hk' hins hini'
    (g := F0 m pc ls rest) rfl (by rw [hb]; exact d0) (Nat.le_refl _) (Nat.le_refl _)
  generalize hT1 : (T.setVm vm₁).pushCell { cls := cX, slots := kX.instanceTypes.map defaultValue, vm := .none } = T1 at X₁ st1
  have hcat : (Value.ref T.heap.size).category = 1 := rfl
  have hcellA : T1.heap[T.heap.size]? = some (freshCell cX kX) := by rw [← hT1]; exact State.heap_pushCell_size _ _
  have d3' : decode c.code (pc + 3) = .ok (.dup, 1) := by rw [hb]; exact d3
  have d4' : decode c.code (pc + 4) = .ok (.ldc_w is, 3) := by rw [hb]; exact d4
  have hstr' : vk_R own is text sa s' := vk_R.warm hW0 hstr
  obtain ⟨U, hsteps, hrun, hend, hW, hsame, ce, hce, hO⟩ := X₁.ctorThrowS hexec htr (own := own) (cls := cls) (names := names) (ic := ic) hown' hcls hnames h (fun x hx => nomatch hx) hfX hkX hcellA (by rw [hhp, hT]; exact Nat.le_refl _) (msg := .ref sa) rfl
    (g := { method := m, pc := pc + 7, locals := ls, stack := .ref sa :: .ref T.heap.size :: .ref T.heap.size :: rest, locked := none }) rfl hsize rfl rfl (rest := rest) rfl
    (by rw [hb]; exact d7) (by rw [hb]; exact d10) hout hRframes (by simp only [List.map_cons, List.sum_cons, hcat]; omega) hlocks
  obtain ⟨f1, f2⟩ := vx_frame hsame
  rw [hhp] at f1 f2
  have hWs : s.WarmedH U.vm := State.WarmedH.trans hW0 hW
  have hcl : s.vm.findClass cls = some ce.cls := by
    have h9 := hO.cls
    rw [hvm] at h9
    exact h9
  have hall : s.sameButNew ({ U with vm := s.vm } : State) locs mc ms := by
    subst hA
    obtain ⟨e1, e2⟩ := hsame
    rw [State.setFrames_setFrames] at e1
    have h2 : (T.setVm s.vm).sameButNew ({ U with vm := s.vm } : State) [] (0 + 1) (0 + 6) := ⟨e1, e2⟩
    have h3 := X.same.trans h2
    rw [List.append_nil] at h3
    exact h3.mono hc hs
  refine ⟨U, ?_, .threw T.heap.size, hrun, hend, Or.inr ⟨T.heap.size, rfl, cls, ce, locs, hx U hWs.alike f1 (fun q hq => f2 q hq (fun z hz => nomatch hz)), hce, hO.vm, hcl, hWs, hall, hf⟩⟩
  refine st1 _ ?_
  show Steps p.tables e below (T1.setTop { method := m, pc := pc + 3, locals := ls, stack := .ref T.heap.size :: rest, locked := none }) _
  jvm_step X₁.here [X₁.here.top, hexec, d3', Value.category]
  exact X₁.ldcStringW hexec (own := own) (text := text) (index := is) (a := sa) hown' hstr'.1 hstr'.2
    (g := { method := m, pc := pc + 4, locals := ls, stack := .ref T.heap.size :: .ref T.heap.size :: rest, locked := none }) rfl d4' _ hsteps
end Ends
section Bodies
variable {l : Launch}
theorem vx_ofW {y : MethodName} {ws ws' : List Cond} {rm : Room} {Pc : Array Value → State → Prop} {Qc : Array Value → State → Outcome → State → Prop} {XC : String → State → State → Prop} {mc ms : Nat} {free : Addr → Prop} {cc : ByteArray} {maxL : Nat} {ret : Option FieldType}
    (hy : plainName y.cls = true) (hw : ws = Cond.code y cc maxL ret :: ws')
    (body : ∀ p e s m args below meth c s₁, BodyLoose p l y (headSpec ws rm) cc maxL ret e s m args below meth c s₁ → c.maxLocals = maxL → (∀ x ∈ c.exceptionTable.toList, False) → Pc args s →
      W p l e (headSpec ws rm).room s m args below meth c s.heap [] 0 0 (vx_MQ below Qc XC args s mc ms free) (entryFrame m args maxL)) : vx_Met l y ws rm Pc Qc XC mc ms free := by
  refine MetFree.of_bodyS (code := cc) (maxLocals := maxL) (ret := ret) hy ?_ ?_
  · intro args s m h hn
    obtain ⟨meth, c, h1, h2, h3, h4, h5, h6, -, -⟩ := Cond.code_spec hn (atoms_spec (ws := ws) h _ (by rw [hw]; exact List.mem_cons_self))
    exact ⟨meth, c, h1, h2, h3, h4, h5, h6⟩
  · intro p e s m args below meth c s₁ B hml hP _
    have hh0 : s₁.heap = s.heap := by rw [B.state]; rfl
    have ht : ∀ x ∈ c.exceptionTable.toList, False := by
      obtain ⟨meth9, c9, h1, h2, -, -, -, -, h7, -⟩ := Cond.code_spec B.named (atoms_spec (ws := ws) B.pre _ (by rw [hw]; exact List.mem_cons_self))
      cases Option.some.inj (h1.symm.trans B.method)
      cases Option.some.inj (h2.symm.trans (Stand.of_body B).code)
      intro x hx
      rw [Array.isEmpty_iff.mp h7] at hx
      cases hx
    obtain ⟨t, a1, o, b1, b2, b3⟩ := body p e s m args below meth c s₁ B hml ht hP s₁ hh0 (Stand.of_body B)
    exact ⟨t, o, a1, b1, b2, b3⟩
/-- the table of a body with handlers -/
theorem vx_table {p : Program} {x y : MethodName} {S : Spec} {cc bytes : ByteArray} {maxL maxL' : Nat} {ret ret' : Option FieldType} {e : Env} {s s₁ : State} {m : MethodId} {args : Array Value} {below : List Frame} {meth : Method} {c : Code} {hh : List (Nat × Nat × Nat × Nat)}
    (B : BodyLoose p l y S cc maxL ret e s m args below meth c s₁) (h : (Cond.codeWith y bytes maxL' ret' hh).before args s = true) : c.exceptionTable.toList = tableOf hh := by
  obtain ⟨m9, meth9, c9, hn9, h1, h2, -, -, h6, -⟩ := Cond.codeWith_spec h
  cases Option.some.inj (hn9.symm.trans B.named)
  cases Option.some.inj (h1.symm.trans B.method)
  cases Option.some.inj (h2.symm.trans (Stand.of_body B).code)
  rw [← h6, table_eq]
end Bodies
end VXA
/-! ===== END ===== -/
/-! ===== BEGIN a static call of a method with an exception table ===== -/
section VXS
variable {p : Program} {l : Launch} {e : Env} {R : Room} {s : State} {m : MethodId} {args : Array Value} {below : List Frame} {meth : Method} {c : Code} {T : State} {H : Heap} {locs : List Loc} {cells slots : Nat}
abbrev vx_CSW (R : Room) (s : State) (args : Array Value) (own : String) (index : Nat) (y : MethodName) (bytes : ByteArray) (maxL : Nat) (ret : Option FieldType) (hh : List (Nat × Nat × Nat × Nat)) (ws : List Cond) (rm : Room) (mc ms n : Nat) : Prop :=
  (rm.cells = mc ∧ rm.slots = ms ∧ rm.frames + 1 ≤ R.frames ∧ 8 + (maxL + 11) + rm.locals ≤ R.locals ∧ (∀ w ∈ ws, ∀ (a' : Array Value) (U : State), s.WarmedH U.vm → w.before a' U = true) ∧ Cond.codeWith y bytes maxL ret hh ∈ ws) ∧
  (Cond.codeWith y bytes maxL ret hh).before args s = true ∧ (Cond.initialized y.cls).before args s = true ∧ (y.cls ≠ "java/lang/invoke/MethodHandle" ∧ y.cls ≠ "java/lang/invoke/VarHandle") ∧
  (∀ sig, parseMethodDescriptor y.desc = some sig → n = sig.parameters.length) ∧ (Cond.methodLink own index y).before args s = true ∧ (Cond.static y).before args s = true
theorem vx_cwSW {own : String} {index maxL mc ms : Nat} {y : MethodName} {bytes : ByteArray} {ret : Option FieldType} {hh : List (Nat × Nat × Nat × Nat)} {Ts ws ws' : List Cond} {rm : Room} (n : Nat) (ht : ∀ w ∈ Ts, w.before args s = true) (hT : GoodIn Ts (va_wsS own index y ws)) (hw : ws = Cond.codeWith y bytes maxL ret hh :: ws') (hrc : rm.cells = mc) (hrs : rm.slots = ms)
    (hd : y.cls ≠ "java/lang/invoke/MethodHandle" ∧ y.cls ≠ "java/lang/invoke/VarHandle" ∧ (parseMethodDescriptor y.desc).map (fun d => d.parameters.length) = some n) (hR : rm.frames + 1 ≤ R.frames ∧ 8 + (maxL + 11) + rm.locals ≤ R.locals) :
    vx_CSW R s args own index y bytes maxL ret hh ws rm mc ms n := by
  have ok : ∀ w ∈ va_wsS own index y ws, w.before args s = true := fun w h => ht w (hT w h).1
  have hG : GoodIn Ts ws := fun w h => hT w (by unfold va_wsS; exact List.mem_append_right _ h)
  have hc : Cond.codeWith y bytes maxL ret hh ∈ ws := by rw [hw]; exact List.mem_cons_self
  refine ⟨⟨hrc, hrs, hR.1, hR.2, pay_in ht hG, hc⟩, ht _ (hG _ hc).1, ok _ (by simp [va_wsS]), ⟨hd.1, hd.2.1⟩, fun sig h => ?_, ok _ (by simp [va_wsS]), ok _ (by simp [va_wsS])⟩
  have h2 := hd.2.2
  rw [h] at h2
  exact (Option.some.inj h2).symm
theorem vx_callSW (X : Stand p l e R s m args below meth c T locs cells slots) (hexec : p.tables.exec = Jvm.exec) {own : String} {index : Nat} {y : MethodName} {bytes : ByteArray} {maxL : Nat} {ret : Option FieldType} {hh : List (Nat × Nat × Nat × Nat)}
    (hown : s.vm.findClass own = some m.cls) (hlink : (Cond.methodLink own index y).before args s = true) (hstat : (Cond.static y).before args s = true) (hinit : (Cond.initialized y.cls).before args s = true)
    (hcode : (Cond.codeWith y bytes maxL ret hh).before args s = true) (hy : y.cls ≠ "java/lang/invoke/MethodHandle" ∧ y.cls ≠ "java/lang/invoke/VarHandle")
    {W9 : Nat} {Pre : Pt → Array Value → Prop} {Post : Pt → Array Value → Option Value → Pt → Prop} (hK : Back l R p e below s args y 3 W9 Pre Post)
    {g : JFrame} (hg : g.method = m) (hsize : g.locals.size = c.maxLocals) {argsL rest : List Value} (hlen : ∀ sig, parseMethodDescriptor y.desc = some sig → argsL.length = sig.parameters.length)
    (hstack : g.stack = argsL.reverse ++ rest) (hW : 2 * g.monitorRoom + (rest.map fun v => v.category).sum ≤ W9) (hdg : decode c.code g.pc = .ok (.invokestatic index, 3))
    (hpre : ∀ vm₁, s.WarmedH vm₁ → Pre ⟨T.setVm vm₁, locs, cells, slots⟩ argsL.toArray) :
    ∃ (v : Option Value) (vm₁ : Vm) (B : Pt), s.WarmedH vm₁ ∧ Stand p l e R s m args below meth c B.U B.locs B.cells B.slots ∧ Post ⟨T.setVm vm₁, locs, cells, slots⟩ argsL.toArray v B ∧
      ∀ target, Steps p.tables e below (B.U.setTop { g with pc := g.pc + 3, stack := v.toList ++ rest }) target → Steps p.tables e below (T.setTop g) target := by
  obtain ⟨mk, methM, cM, hnamed, hmethM, -, -, -, -, -, -, hsigM⟩ := Cond.codeWith_spec hcode
  have hstatic : methM.isStatic = true := Cond.static_spec hnamed hmethM hstat
  obtain ⟨kP, hkP, -⟩ := className_of_methodNamed hnamed
  have hinitP : kP.init = .initialized := Cond.initialized_spec (findClass_of_methodNamed hnamed) hkP hinit
  obtain ⟨vm₁, X₁, hstep₁⟩ := X.invokestatic hexec hown hlink hnamed hmethM hstatic hkP hinitP hy (g := g) hg (argsL := argsL) (rest := rest) (hlen _ hsigM) hstack hdg
  obtain ⟨v, B, X', hpost, hsteps⟩ := hK m meth c ⟨T.setVm vm₁, locs, cells, slots⟩ { g with stack := rest } (.invokestatic index) mk argsL.toArray X₁ hg hsize hdg hW (X₁.named hnamed) (hpre vm₁ X₁.warmed)
  exact ⟨v, vm₁, B, X₁.warmed, X', hpost, fun target h => hstep₁ _ fun acts => by rw [doInvoke_state]; exact hsteps.trans h⟩
theorem vx_runSW {y : MethodName} {bytes cc : ByteArray} {maxL nL mc ms n index : Nat} {ret : Option FieldType} {hh : List (Nat × Nat × Nat × Nat)} {ws : List Cond} {rm : Room} {Pc : Array Value → State → Prop} {Qc : Array Value → State → Outcome → State → Prop} {free : Addr → Prop} {Ts : List Cond} {own : String} {As rest : List Value} {g : JFrame}
    (S : CallFix p m c cc nL s args Ts own) (hM : Met l y ws rm Pc Qc mc ms free) (cw : vx_CSW R s args own index y bytes maxL ret hh ws rm mc ms n) (hp : PreS s H Pc As)
    (hg : g.method = m) (hn : As.length = n) (hsize : g.locals.size = nL) (hstack : g.stack = As.reverse ++ rest) (hW : 2 * g.monitorRoom + (rest.map fun v => v.category).sum ≤ 8) (hdg : decode cc g.pc = .ok (.invokestatic index, 3)) (hf : cells + mc ≤ R.cells ∧ slots + ms ≤ R.slots) :
    va_Run p l e R s m args below meth c H locs cells slots mc ms g rest (Qc As.toArray) (free) := by
  obtain ⟨⟨hrc, hrs, hfr, hlo, hws, hcw⟩, hcode, hini, hy, hlen, hl, hstt⟩ := cw
  have hK : Back l R p e below s args y 3 8 (PreOf R mc ms Pc) (PostOf Qc mc ms free) := va_backW (hh := hh) (bytes := bytes) (maxL := maxL) (ret := ret) hM hp.1 hrc hrs hfr hlo hws hcw (fun a' U hW => word_at hW (Or.inl (by first | rfl | simp [Cond.onTables, Cond.keeps, Cond.steady])) hini)
  obtain ⟨hx, hb, hml, ho, -⟩ := S
  intro T hT X
  obtain ⟨v, vm₁, ⟨U', l2, c2, s2⟩, hW₁, X', ⟨g', mk, t, L, e1, e2, hq, h1, hL, h2, h3⟩, st⟩ := vx_callSW X hx (hh := hh) (bytes := bytes) (maxL := maxL) (ret := ret) ho hl hstt hini hcode hy hK hg (hsize.trans hml.symm) (argsL := As) (rest := rest) (fun sig h => hn.trans (hlen sig h)) hstack hW (by rw [hb]; exact hdg)
    (fun vm₁ hW₁ => ⟨hf.1, hf.2, hp.2 (T.setVm vm₁) hT hW₁⟩)
  dsimp only [Pt.U, Pt.locs, Pt.cells, Pt.slots] at X' e1 e2 h1 h2 h3 st
  subst h1; subst h2; subst h3
  exact ⟨v, (T.setVm vm₁).calling g' mk As.toArray, t, U', L, hT, X', hL, e1, e2, hq, st⟩
/-- not caught here, past rows that name other classes: it goes on to the caller -/
theorem vx_outP {p : Program} {l : Launch} {e : Env} {R : Room} {s : State} {m : MethodId} {args : Array Value} {below : List Frame} {meth : Method} {c : Code} {H : Heap} {locs : List Loc} {cells slots : Nat} {free : Addr → Prop} {ls : Array Slot} {rest : List Value} {Qc : Array Value → State → Outcome → State → Prop} {XC : String → State → State → Prop}
    {pc : Nat} {own E : String} {ce : Cell} {q : Addr} {mc ms : Nat} (hown : s.vm.findClass own = some m.cls) (hlocks : meth.locks = false)
    (hpass : ∀ z ∈ c.exceptionTable.toList, covers z pc = false ∨ (z.catchType ≠ 0 ∧ ∃ nm : String, (Cond.classLink own z.catchType nm).before args s = true ∧ va_Nc E nm s)) (hcell : H[q]? = some ce) (hv : ce.vm = .none) (hcl : s.vm.findClass E = some ce.cls)
    (hx : ∀ t : State, t.heap = H → s.vm.Alike t.vm → XC E s t) (hf : ∀ z ∈ locs, free z.base) (hc : cells ≤ mc) (hs : slots ≤ ms) :
    vx_W p l e R s m args below meth c H locs cells slots (vx_MQ below Qc XC args s mc ms free) (F0 m pc ls rest) q := by
  intro T hT X
  have hpl : e.platform.magicAccessors = ({} : Platform).magicAccessors := by rw [X.admits.platform]
  obtain ⟨vm', hW', X', st⟩ := X.outThrough hlocks q (g := F0 m pc ls rest) rfl rfl rfl (cell := ce) (by rw [hT]; exact hcell) (by rw [hv]; rfl)
    (by obtain ⟨k9, h9, -⟩ := Vm.findClass_spec hcl; exact ⟨k9, h9⟩) (fun z hz => by
      rcases hpass z hz with h | ⟨hz0, nm, hl1, hn1⟩
      · exact Or.inl h
      · obtain ⟨c6, hc6, hcl6⟩ := Cond.classLink_spec hown hl1 e.platform hpl
        obtain ⟨a8, b8, h1, h2, h3⟩ := hn1
        cases Option.some.inj (h1.symm.trans hcl)
        cases Option.some.inj (h2.symm.trans hc6)
        exact Or.inr ⟨hz0, _, hcl6, h3⟩)
  obtain ⟨g₀, hfr⟩ := X'.frames_eq
  have hcell9 : ((T.setVm vm').setFrames (.throwing q :: below)).heap[q]? = some ce := by
    show T.heap[q]? = some ce
    rw [hT]; exact hcell
  have hend : Ended ((T.setVm vm').setFrames (.throwing q :: below)) below (.threw q) := State.frames_setFrames _ (State.cur_lt_of_frames hfr)
  refine ⟨(T.setVm vm').setFrames (.throwing q :: below), ?_, .threw q, X'.here.running, hend, Or.inr ⟨q, rfl, E, ce, locs, hx _ hT (X'.ends _).1.alike, hcell9, hv, hcl, (X'.ends _).1, (X'.ends _).2.mono hc hs, hf⟩⟩
  rw [X.pushThrowing_eq]
  exact st
/-- a thing of a world lies in the heap -/
theorem vx_lt {D : va_G} {cl : List vw_C} {ws : va_W} {H1 : Heap} (h : va_P D cl ws H1) {k : Nat} {q : Nat × va_E} (hk : ws[k]? = some q) : q.1 < H1.size := (h k q hk).lt
end VXS
/-! ===== END ===== -/
/-! ===== BEGIN methods with a table of their own: called by a name, returning or throwing ===== -/
section VXH
/-! vx_backW, vx_callVX, vx_callSX, vx_callVW, vx_runVW, vx_runVX, vx_runSX, vx_ofWH follow the same proofs as their sisters above (Free/Laws.lean, Shelf42/LK1.lean); vx_outP calls Shelf42/NT130.lean (outThrough). -/
section
variable {l : Launch} {R : Room} {p : Program} {e : Env} {below : List Frame} {s : State} {sargs : Array Value} {y : MethodName} {len W9 : Nat}
theorem vx_backW {ws : List Cond} {rm : Room} {Pc : Array Value → State → Prop} {Qc : Array Value → State → Outcome → State → Prop} {XC : String → State → State → Prop} {mc ms : Nat} {free : Addr → Prop} {bytes : ByteArray} {maxL : Nat} {ret : Option FieldType} {hh : List (Nat × Nat × Nat × Nat)}
    (hM : vx_Met l y ws rm Pc Qc XC mc ms free) (hblind : FrameBlind Pc) (hrc : rm.cells = mc) (hrs : rm.slots = ms)
    (hframes : rm.frames + 1 ≤ R.frames) (hlocals : W9 + (maxL + 11) + rm.locals ≤ R.locals)
    (hws : ∀ w ∈ ws, ∀ a' U, s.WarmedH U.vm → w.before a' U = true) (hcode : Cond.codeWith y bytes maxL ret hh ∈ ws) (hinit : ∀ a' U, s.WarmedH U.vm → (Cond.initialized y.cls).before a' U = true) :
    vx_Back l R p e below s sargs y len W9 (PreOf R mc ms Pc) (PostOf Qc mc ms free) (vx_Post XC mc ms free) := by
  intro m meth c A g ig mk a X hg hsize hdg hW hn hp
  have h1 : (headSpec ws rm).pre.before a A.U = true := atoms_intro fun w hw => hws w hw _ _ X.warmed
  have h2 : (Cond.codeWith y bytes maxL ret hh).before a A.U = true := hws _ hcode _ _ X.warmed
  have h3 : (Cond.initialized y.cls).before a A.U = true := hinit _ _ X.warmed
  have h4 : A.cells + (headSpec ws rm).room.cells ≤ R.cells := by rw [show (headSpec ws rm).room.cells = mc from hrc]; exact hp.1
  have h5 : A.slots + (headSpec ws rm).room.slots ≤ R.slots := by rw [show (headSpec ws rm).room.slots = ms from hrs]; exact hp.2.1
  have hPc : Pc a (A.U.calling g mk a) := hblind _ _ _ _ hp.2.2
  obtain ⟨U, Ls, c0, s0⟩ := A
  dsimp only [Pt.U, Pt.locs, Pt.cells, Pt.slots] at h1 h2 h3 h4 h5 X hn hPc ⊢
  obtain ⟨m9, methY, cY, hn9, hmY, hcY, -, hlY, -⟩ := Cond.codeWith_spec h2
  cases Option.some.inj (hn9.symm.trans hn)
  obtain ⟨kY, hkY, -⟩ := className_of_methodNamed hn
  have hinitY : kY.init = .initialized := Cond.initialized_spec (findClass_of_methodNamed hn) hkY h3
  have h : At U g.method c below := by rw [hg]; exact X.here
  have hlocals9 : W9 + (maxL + 11) + (headSpec ws rm).room.locals ≤ R.locals := hlocals
  have happ : (headSpec ws rm).appliesLoose y e.platform (U.calling g mk a) = true :=
    Spec.appliesLoose_calling (g := g) h hdg hn hkY hinitY
      (X.room_calling (g := g) (R' := (headSpec ws rm).room) hsize hmY hcY hframes (by rw [hlY]; omega) h4 h5) h1
  obtain ⟨mid, hmid⟩ := h.above
  have hfr : (U.setTop g).frames = (.java g :: mid) ++ below := by rw [State.frames_setTop' g h.top, hmid]; rfl
  obtain ⟨o, s₂, hsteps, -, hend, hq⟩ := Steps.callFree hM p X.admits X.cas X.clock (acts := []) hfr happ hPc trivial
  have hq' : vx_Q Qc XC mc ms free a (U.calling g mk a) o s₂ := hq
  rw [State.frames_setTop' g h.top] at hend
  obtain ⟨g₀, hg0⟩ := Option.isSome_iff_exists.mp h.top
  obtain ⟨r, hr⟩ := State.topJava?_eq_some.mp hg0
  have hr' : (({ U with heap := s₂.heap, slotsUsed := s₂.slotsUsed } : State).setVm s₂.vm).frames = .java g₀ :: r := hr
  rcases hq' with ⟨hqc, L, hfe, hL⟩ | ⟨q, rfl, E, ce, L, hx, hce, hcv, hcl, hW₂, hsm, hL⟩
  · obtain ⟨⟨v, rfl⟩, hW₂, e2, q2, q3, q4, q5, q6⟩ := id hfe
    have e3 : s₂ = ({ (U.calling g mk a).setFrames s₂.frames with heap := s₂.heap, slotsUsed := s₂.slotsUsed } : State).setVm s₂.vm := by
      have : s₂ = ({ s₂ with vm := (U.calling g mk a).vm } : State).setVm s₂.vm := rfl
      rw [e2] at this
      exact this
    obtain ⟨c₂, i₂, len₂, hc₂, hd₂, hf₂⟩ := hend
    have hW' : U.WarmedH s₂.vm := hW₂
    have hcc : c₂ = c := by
      have h1 : s₂.code? g.method = U.code? g.method := by
        rw [State.code?_eq, State.code?_eq, hW'.alike.method?]
      exact Option.some.inj (hc₂.symm.trans (h1.trans h.code))
    subst hcc
    have hlen : len₂ = len := by rw [hdg] at hd₂; cases hd₂; rfl
    subst hlen
    have hs₂ : s₂ = (({ U with heap := s₂.heap, slotsUsed := s₂.slotsUsed } : State).setVm s₂.vm).setTop { g with pc := g.pc + len₂, stack := v.toList ++ g.stack } := by
      refine e3.trans ?_
      rw [hf₂, State.calling_eq h.top, State.setFrames_setFrames, State.setTop_of_frames _ hr', hr]
      rfl
    have hsame : U.sameButNew ({ U with heap := s₂.heap, slotsUsed := s₂.slotsUsed } : State) L mc ms := by
      refine ⟨?_, q2, q3, q4, q5, q6⟩
      obtain ⟨t, ht, -⟩ := State.frames_cons hr
      show ({ U with heap := s₂.heap, slotsUsed := s₂.slotsUsed } : State) = { U.setFrames U.frames with heap := s₂.heap, slotsUsed := s₂.slotsUsed }
      rw [State.setFrames_self ht]
    subst hg
    refine Or.inl ⟨v, ⟨(({ U with heap := s₂.heap, slotsUsed := s₂.slotsUsed } : State).setVm s₂.vm), Ls ++ L, c0 + mc, s0 + ms⟩,
      ⟨X.admits, X.cas, X.clock, X.frames, X.room, X.hears, X.method, X.code, (X.here.setHeapUsed s₂.heap s₂.slotsUsed).setVm hW'.alike, X.tail, State.WarmedH.trans X.warmed hW', X.limits, X.bytes, X.same.trans (hsame.setVm s.vm)⟩,
      ⟨g, mk, s₂, L, rfl, rfl, hqc, rfl, hL, rfl, rfl⟩, ?_⟩
    show Steps p.tables e below _ ((({ U with heap := s₂.heap, slotsUsed := s₂.slotsUsed } : State).setVm s₂.vm).setTop { g with pc := g.pc + len₂, stack := v.toList ++ g.stack })
    rw [← hs₂]
    exact hsteps
  · obtain ⟨e2, q2, q3, q4, q5, q6⟩ := id hsm
    have e3 : s₂ = ({ (U.calling g mk a).setFrames s₂.frames with heap := s₂.heap, slotsUsed := s₂.slotsUsed } : State).setVm s₂.vm := by
      have : s₂ = ({ s₂ with vm := (U.calling g mk a).vm } : State).setVm s₂.vm := rfl
      rw [e2] at this
      exact this
    have hf₂ : s₂.frames = .throwing q :: .java g :: U.frames.tail := hend
    have hW' : U.WarmedH s₂.vm := hW₂
    have hs₂ : s₂ = ((({ U with heap := s₂.heap, slotsUsed := s₂.slotsUsed } : State).setVm s₂.vm).setTop g).pushFrame (.throwing q) := by
      refine e3.trans ?_
      rw [hf₂, State.calling_eq h.top, State.setFrames_setFrames, State.pushFrame, State.frames_setTop _ hr', State.setTop_of_frames _ hr', State.setFrames_setFrames, hr]
      rfl
    have hsame : U.sameButNew ({ U with heap := s₂.heap, slotsUsed := s₂.slotsUsed } : State) L mc ms := by
      refine ⟨?_, q2, q3, q4, q5, q6⟩
      obtain ⟨t, ht, -⟩ := State.frames_cons hr
      show ({ U with heap := s₂.heap, slotsUsed := s₂.slotsUsed } : State) = { U.setFrames U.frames with heap := s₂.heap, slotsUsed := s₂.slotsUsed }
      rw [State.setFrames_self ht]
    subst hg
    refine Or.inr ⟨q, ⟨(({ U with heap := s₂.heap, slotsUsed := s₂.slotsUsed } : State).setVm s₂.vm), Ls ++ L, c0 + mc, s0 + ms⟩,
      ⟨X.admits, X.cas, X.clock, X.frames, X.room, X.hears, X.method, X.code, (X.here.setHeapUsed s₂.heap s₂.slotsUsed).setVm hW'.alike, X.tail, State.WarmedH.trans X.warmed hW', X.limits, X.bytes, X.same.trans (hsame.setVm s.vm)⟩,
      ⟨g, mk, s₂, L, E, ce, rfl, rfl, hx, hce, hcv, hcl, rfl, hL, rfl, rfl⟩, ?_⟩
    show Steps p.tables e below _ (((({ U with heap := s₂.heap, slotsUsed := s₂.slotsUsed } : State).setVm s₂.vm).setTop g).pushFrame (.throwing q))
    rw [← hs₂]
    exact hsteps
end
variable {p : Program} {l : Launch} {e : Env} {R : Room} {s : State} {m : MethodId} {args : Array Value} {below : List Frame} {meth : Method} {c : Code} {T : State} {H : Heap} {locs : List Loc} {cells slots : Nat}
theorem vx_callVX (X : Stand p l e R s m args below meth c T locs cells slots) (hexec : p.tables.exec = Jvm.exec) {own C : String} {index : Nat} {y : MethodName} {bytes : ByteArray} {maxL : Nat} {ret : Option FieldType} {hh : List (Nat × Nat × Nat × Nat)}
    (hown : s.vm.findClass own = some m.cls) (hlink : (Cond.methodLink own index y).before args s = true) (hinst : (Cond.instanceMethod y).before args s = true) (hsel : (Cond.selects C y y).before args s = true)
    (hcode : (Cond.codeWith y bytes maxL ret hh).before args s = true) (hy : y.cls ≠ "java/lang/invoke/MethodHandle" ∧ y.cls ≠ "java/lang/invoke/VarHandle")
    {W9 : Nat} {Pre : Pt → Array Value → Prop} {Post : Pt → Array Value → Option Value → Pt → Prop} {PostX : Pt → Array Value → Addr → Pt → Prop} (hK : vx_Back l R p e below s args y 3 W9 Pre Post PostX)
    {b : Addr} {cellB : Cell} (hcell : T.heap[b]? = some cellB) (hobj : cellB.vm.isStatics = false) (hcls : s.vm.findClass C = some cellB.cls)
    {g : JFrame} (hg : g.method = m) (hsize : g.locals.size = c.maxLocals) {argsL rest : List Value} (hlen : ∀ sig, parseMethodDescriptor y.desc = some sig → argsL.length = sig.parameters.length)
    (hstack : g.stack = argsL.reverse ++ .ref b :: rest) (hW : 2 * g.monitorRoom + (rest.map fun v => v.category).sum ≤ W9) (hdg : decode c.code g.pc = .ok (.invokevirtual index, 3))
    (hpre : ∀ vm₁, s.WarmedH vm₁ → Pre ⟨T.setVm vm₁, locs, cells, slots⟩ (Value.ref b :: argsL).toArray) :
    (∃ (v : Option Value) (vm₁ : Vm) (B : Pt), s.WarmedH vm₁ ∧ Stand p l e R s m args below meth c B.U B.locs B.cells B.slots ∧ Post ⟨T.setVm vm₁, locs, cells, slots⟩ (Value.ref b :: argsL).toArray v B ∧
      ∀ target, Steps p.tables e below (B.U.setTop { g with pc := g.pc + 3, stack := v.toList ++ rest }) target → Steps p.tables e below (T.setTop g) target) ∨
    (∃ (q : Addr) (vm₁ : Vm) (B : Pt), s.WarmedH vm₁ ∧ Stand p l e R s m args below meth c B.U B.locs B.cells B.slots ∧ PostX ⟨T.setVm vm₁, locs, cells, slots⟩ (Value.ref b :: argsL).toArray q B ∧
      Steps p.tables e below (T.setTop g) ((B.U.setTop { g with stack := rest }).pushFrame (.throwing q))) := by
  obtain ⟨mk, methM, hnamed, hmethM, hstM, habM⟩ := Cond.instanceMethod_spec hinst
  obtain ⟨m8, methM', cM, hn8, hmethM', -, -, -, -, -, -, hsigM⟩ := Cond.codeWith_spec hcode
  cases Option.some.inj (hn8.symm.trans hnamed)
  cases hmethM.symm.trans hmethM'
  obtain ⟨c2, r2, m2, q1, q2, q3, q4, kP, hkP, hkPi⟩ := Cond.selects_spec hsel
  cases hcls.symm.trans q1
  cases (State.methodFound?_of_named hnamed hy).symm.trans q2
  cases hnamed.symm.trans q3
  have hselP : selectMethod e.platform s.vm cellB.cls mk = .method mk := by rw [Launch.admits_selectMethod X.admits]; exact q4
  obtain ⟨vm₁, X₁, hstep₁⟩ := X.invokevirtual hexec hown hlink hnamed hmethM hstM hkP hkPi hy (a := b) (cell := cellB) hcell
    (fun z h => by rw [h] at hobj; cases hobj) hselP hmethM habM hkP hkPi (g := g) hg (argsL := argsL) (rest := rest) (hlen _ hsigM) hstack hdg
  rcases hK m meth c ⟨T.setVm vm₁, locs, cells, slots⟩ { g with stack := rest } (.invokevirtual index) mk (Value.ref b :: argsL).toArray X₁ hg hsize hdg hW (X₁.named hnamed) (hpre vm₁ X₁.warmed) with ⟨v, B, X', hpost, hsteps⟩ | ⟨q, B, X', hpost, hsteps⟩
  · exact Or.inl ⟨v, vm₁, B, X₁.warmed, X', hpost, fun target h => hstep₁ _ fun acts => by rw [doInvoke_state]; exact hsteps.trans h⟩
  · exact Or.inr ⟨q, vm₁, B, X₁.warmed, X', hpost, hstep₁ _ fun acts => by rw [doInvoke_state]; exact hsteps⟩
theorem vx_callSX (X : Stand p l e R s m args below meth c T locs cells slots) (hexec : p.tables.exec = Jvm.exec) {own : String} {index : Nat} {y : MethodName} {bytes : ByteArray} {maxL : Nat} {ret : Option FieldType} {hh : List (Nat × Nat × Nat × Nat)}
    (hown : s.vm.findClass own = some m.cls) (hlink : (Cond.methodLink own index y).before args s = true) (hstat : (Cond.static y).before args s = true) (hinit : (Cond.initialized y.cls).before args s = true)
    (hcode : (Cond.codeWith y bytes maxL ret hh).before args s = true) (hy : y.cls ≠ "java/lang/invoke/MethodHandle" ∧ y.cls ≠ "java/lang/invoke/VarHandle")
    {W9 : Nat} {Pre : Pt → Array Value → Prop} {Post : Pt → Array Value → Option Value → Pt → Prop} {PostX : Pt → Array Value → Addr → Pt → Prop} (hK : vx_Back l R p e below s args y 3 W9 Pre Post PostX)
    {g : JFrame} (hg : g.method = m) (hsize : g.locals.size = c.maxLocals) {argsL rest : List Value} (hlen : ∀ sig, parseMethodDescriptor y.desc = some sig → argsL.length = sig.parameters.length)
    (hstack : g.stack = argsL.reverse ++ rest) (hW : 2 * g.monitorRoom + (rest.map fun v => v.category).sum ≤ W9) (hdg : decode c.code g.pc = .ok (.invokestatic index, 3))
    (hpre : ∀ vm₁, s.WarmedH vm₁ → Pre ⟨T.setVm vm₁, locs, cells, slots⟩ argsL.toArray) :
    (∃ (v : Option Value) (vm₁ : Vm) (B : Pt), s.WarmedH vm₁ ∧ Stand p l e R s m args below meth c B.U B.locs B.cells B.slots ∧ Post ⟨T.setVm vm₁, locs, cells, slots⟩ argsL.toArray v B ∧
      ∀ target, Steps p.tables e below (B.U.setTop { g with pc := g.pc + 3, stack := v.toList ++ rest }) target → Steps p.tables e below (T.setTop g) target) ∨
    (∃ (q : Addr) (vm₁ : Vm) (B : Pt), s.WarmedH vm₁ ∧ Stand p l e R s m args below meth c B.U B.locs B.cells B.slots ∧ PostX ⟨T.setVm vm₁, locs, cells, slots⟩ argsL.toArray q B ∧
      Steps p.tables e below (T.setTop g) ((B.U.setTop { g with stack := rest }).pushFrame (.throwing q))) := by
  obtain ⟨mk, methM, cM, hnamed, hmethM, -, -, -, -, -, -, hsigM⟩ := Cond.codeWith_spec hcode
  have hstatic : methM.isStatic = true := Cond.static_spec hnamed hmethM hstat
  obtain ⟨kP, hkP, -⟩ := className_of_methodNamed hnamed
  have hinitP : kP.init = .initialized := Cond.initialized_spec (findClass_of_methodNamed hnamed) hkP hinit
  obtain ⟨vm₁, X₁, hstep₁⟩ := X.invokestatic hexec hown hlink hnamed hmethM hstatic hkP hinitP hy (g := g) hg (argsL := argsL) (rest := rest) (hlen _ hsigM) hstack hdg
  rcases hK m meth c ⟨T.setVm vm₁, locs, cells, slots⟩ { g with stack := rest } (.invokestatic index) mk argsL.toArray X₁ hg hsize hdg hW (X₁.named hnamed) (hpre vm₁ X₁.warmed) with ⟨v, B, X', hpost, hsteps⟩ | ⟨q, B, X', hpost, hsteps⟩
  · exact Or.inl ⟨v, vm₁, B, X₁.warmed, X', hpost, fun target h => hstep₁ _ fun acts => by rw [doInvoke_state]; exact hsteps.trans h⟩
  · exact Or.inr ⟨q, vm₁, B, X₁.warmed, X', hpost, hstep₁ _ fun acts => by rw [doInvoke_state]; exact hsteps⟩
theorem vx_callVW (X : Stand p l e R s m args below meth c T locs cells slots) (hexec : p.tables.exec = Jvm.exec) {own C : String} {index : Nat} {y : MethodName} {bytes : ByteArray} {maxL : Nat} {ret : Option FieldType} {hh : List (Nat × Nat × Nat × Nat)}
    (hown : s.vm.findClass own = some m.cls) (hlink : (Cond.methodLink own index y).before args s = true) (hinst : (Cond.instanceMethod y).before args s = true) (hsel : (Cond.selects C y y).before args s = true)
    (hcode : (Cond.codeWith y bytes maxL ret hh).before args s = true) (hy : y.cls ≠ "java/lang/invoke/MethodHandle" ∧ y.cls ≠ "java/lang/invoke/VarHandle")
    {W9 : Nat} {Pre : Pt → Array Value → Prop} {Post : Pt → Array Value → Option Value → Pt → Prop} (hK : Back l R p e below s args y 3 W9 Pre Post)
    {b : Addr} {cellB : Cell} (hcell : T.heap[b]? = some cellB) (hobj : cellB.vm.isStatics = false) (hcls : s.vm.findClass C = some cellB.cls)
    {g : JFrame} (hg : g.method = m) (hsize : g.locals.size = c.maxLocals) {argsL rest : List Value} (hlen : ∀ sig, parseMethodDescriptor y.desc = some sig → argsL.length = sig.parameters.length)
    (hstack : g.stack = argsL.reverse ++ .ref b :: rest) (hW : 2 * g.monitorRoom + (rest.map fun v => v.category).sum ≤ W9) (hdg : decode c.code g.pc = .ok (.invokevirtual index, 3))
    (hpre : ∀ vm₁, s.WarmedH vm₁ → Pre ⟨T.setVm vm₁, locs, cells, slots⟩ (Value.ref b :: argsL).toArray) :
    ∃ (v : Option Value) (vm₁ : Vm) (B : Pt), s.WarmedH vm₁ ∧ Stand p l e R s m args below meth c B.U B.locs B.cells B.slots ∧ Post ⟨T.setVm vm₁, locs, cells, slots⟩ (Value.ref b :: argsL).toArray v B ∧
      ∀ target, Steps p.tables e below (B.U.setTop { g with pc := g.pc + 3, stack := v.toList ++ rest }) target → Steps p.tables e below (T.setTop g) target := by
  obtain ⟨mk, methM, hnamed, hmethM, hstM, habM⟩ := Cond.instanceMethod_spec hinst
  obtain ⟨m8, methM', cM, hn8, hmethM', -, -, -, -, -, -, hsigM⟩ := Cond.codeWith_spec hcode
  cases Option.some.inj (hn8.symm.trans hnamed)
  cases hmethM.symm.trans hmethM'
  obtain ⟨c2, r2, m2, q1, q2, q3, q4, kP, hkP, hkPi⟩ := Cond.selects_spec hsel
  cases hcls.symm.trans q1
  cases (State.methodFound?_of_named hnamed hy).symm.trans q2
  cases hnamed.symm.trans q3
  have hselP : selectMethod e.platform s.vm cellB.cls mk = .method mk := by rw [Launch.admits_selectMethod X.admits]; exact q4
  obtain ⟨vm₁, X₁, hstep₁⟩ := X.invokevirtual hexec hown hlink hnamed hmethM hstM hkP hkPi hy (a := b) (cell := cellB) hcell
    (fun z h => by rw [h] at hobj; cases hobj) hselP hmethM habM hkP hkPi (g := g) hg (argsL := argsL) (rest := rest) (hlen _ hsigM) hstack hdg
  obtain ⟨v, B, X', hpost, hsteps⟩ := hK m meth c ⟨T.setVm vm₁, locs, cells, slots⟩ { g with stack := rest } (.invokevirtual index) mk (Value.ref b :: argsL).toArray X₁ hg hsize hdg hW (X₁.named hnamed) (hpre vm₁ X₁.warmed)
  exact ⟨v, vm₁, B, X₁.warmed, X', hpost, fun target h => hstep₁ _ fun acts => by rw [doInvoke_state]; exact hsteps.trans h⟩
abbrev vx_CVW (R : Room) (s : State) (args : Array Value) (own C : String) (index : Nat) (y : MethodName) (bytes : ByteArray) (maxL : Nat) (ret : Option FieldType) (hh : List (Nat × Nat × Nat × Nat)) (ws : List Cond) (rm : Room) (mc ms n : Nat) : Prop :=
  (rm.cells = mc ∧ rm.slots = ms ∧ rm.frames + 1 ≤ R.frames ∧ 8 + (maxL + 11) + rm.locals ≤ R.locals ∧ (∀ w ∈ ws, ∀ (a' : Array Value) (U : State), s.WarmedH U.vm → w.before a' U = true) ∧ Cond.codeWith y bytes maxL ret hh ∈ ws) ∧
  (Cond.codeWith y bytes maxL ret hh).before args s = true ∧ (Cond.initialized y.cls).before args s = true ∧ (y.cls ≠ "java/lang/invoke/MethodHandle" ∧ y.cls ≠ "java/lang/invoke/VarHandle") ∧
  (∀ sig, parseMethodDescriptor y.desc = some sig → n = sig.parameters.length) ∧ (Cond.methodLink own index y).before args s = true ∧ (Cond.instanceMethod y).before args s = true ∧ (Cond.selects C y y).before args s = true
theorem vx_cwVW {own C : String} {index maxL mc ms : Nat} {y : MethodName} {bytes : ByteArray} {ret : Option FieldType} {hh : List (Nat × Nat × Nat × Nat)} {Ts ws ws' : List Cond} {rm : Room} (n : Nat) (ht : ∀ w ∈ Ts, w.before args s = true) (hT : GoodIn Ts (wsV own index C y ws)) (hw : ws = Cond.codeWith y bytes maxL ret hh :: ws') (hrc : rm.cells = mc) (hrs : rm.slots = ms)
    (hd : y.cls = C ∧ y.cls ≠ "java/lang/invoke/MethodHandle" ∧ y.cls ≠ "java/lang/invoke/VarHandle" ∧ (parseMethodDescriptor y.desc).map (fun d => d.parameters.length) = some n) (hR : rm.frames + 1 ≤ R.frames ∧ 8 + (maxL + 11) + rm.locals ≤ R.locals) :
    vx_CVW R s args own C index y bytes maxL ret hh ws rm mc ms n := by
  obtain ⟨hC, hd⟩ := hd
  subst hC
  have ok : ∀ w ∈ wsV own index y.cls y ws, w.before args s = true := fun w h => ht w (hT w h).1
  have hG : GoodIn Ts ws := fun w h => hT w (by unfold wsV; exact List.mem_append_right _ h)
  have hc : Cond.codeWith y bytes maxL ret hh ∈ ws := by rw [hw]; exact List.mem_cons_self
  refine ⟨⟨hrc, hrs, hR.1, hR.2, pay_in ht hG, hc⟩, ht _ (hG _ hc).1, ok _ (by simp [wsV]), ⟨hd.1, hd.2.1⟩, fun sig h => ?_, ok _ (by simp [wsV]), ok _ (by simp [wsV]), ok _ (by simp [wsV])⟩
  have h2 := hd.2.2
  rw [h] at h2
  exact (Option.some.inj h2).symm
theorem vx_runVW {y : MethodName} {bytes cc : ByteArray} {maxL nL mc ms n index : Nat} {ret : Option FieldType} {hh : List (Nat × Nat × Nat × Nat)} {ws : List Cond} {rm : Room} {Pc : Array Value → State → Prop} {Qc : Array Value → State → Outcome → State → Prop} {free : Addr → Prop} {Ts : List Cond} {own C : String} {b : Addr} {As rest : List Value} {g : JFrame}
    (S : CallFix p m c cc nL s args Ts own) (hM : Met l y ws rm Pc Qc mc ms free) (cw : vx_CVW R s args own C index y bytes maxL ret hh ws rm mc ms n) (hp : PreV s H C b Pc As)
    (hg : g.method = m) (hn : As.length = n) (hsize : g.locals.size = nL) (hstack : g.stack = As.reverse ++ .ref b :: rest) (hW : 2 * g.monitorRoom + (rest.map fun v => v.category).sum ≤ 8) (hdg : decode cc g.pc = .ok (.invokevirtual index, 3)) (hf : cells + mc ≤ R.cells ∧ slots + ms ≤ R.slots) :
    va_Run p l e R s m args below meth c H locs cells slots mc ms g rest (Qc (Value.ref b :: As).toArray) free := by
  obtain ⟨⟨hrc, hrs, hfr, hlo, hws, hcw⟩, hcode, hini, hy, hlen, hl, hin, hse⟩ := cw
  have hK : Back l R p e below s args y 3 8 (PreOf R mc ms Pc) (PostOf Qc mc ms free) := va_backW (hh := hh) (bytes := bytes) (maxL := maxL) (ret := ret) hM hp.1 hrc hrs hfr hlo hws hcw (fun a' U hW => word_at hW (Or.inl (by first | rfl | simp [Cond.onTables, Cond.keeps, Cond.steady])) hini)
  obtain ⟨hx, hb, hml, ho, -⟩ := S
  obtain ⟨-, ⟨cellB, hcB, hoB, hclB⟩, hPc⟩ := hp
  intro T hT X
  obtain ⟨v, vm₁, ⟨U', l2, c2, s2⟩, hW₁, X', ⟨g', mk, t, L, e1, e2, hq, h1, hL, h2, h3⟩, st⟩ := vx_callVW X hx (C := C) (hh := hh) (bytes := bytes) (maxL := maxL) (ret := ret) ho hl hin hse hcode hy hK (by rw [hT]; exact hcB) hoB hclB hg (hsize.trans hml.symm) (argsL := As) (rest := rest) (fun sig h => hn.trans (hlen sig h)) hstack hW (by rw [hb]; exact hdg)
    (fun vm₁ hW₁ => ⟨hf.1, hf.2, hPc (T.setVm vm₁) hT hW₁⟩)
  dsimp only [Pt.U, Pt.locs, Pt.cells, Pt.slots] at X' e1 e2 h1 h2 h3 st
  subst h1; subst h2; subst h3
  exact ⟨v, (T.setVm vm₁).calling g' mk (Value.ref b :: As).toArray, t, U', L, hT, X', hL, e1, e2, hq, st⟩
section
variable {y : MethodName} {bytes cc : ByteArray} {maxL nL mc ms n index : Nat} {ret : Option FieldType} {ws : List Cond} {rm : Room} {Pc : Array Value → State → Prop} {Qc : Array Value → State → Outcome → State → Prop} {XC : String → State → State → Prop} {free : Addr → Prop} {Ts : List Cond} {own C : String} {b : Addr} {As rest : List Value} {g : JFrame}
theorem vx_runVX {hh : List (Nat × Nat × Nat × Nat)} (S : CallFix p m c cc nL s args Ts own) (hM : vx_Met l y ws rm Pc Qc XC mc ms free) (cw : vx_CVW R s args own C index y bytes maxL ret hh ws rm mc ms n) (hp : PreV s H C b Pc As)
    (hg : g.method = m) (hn : As.length = n) (hsize : g.locals.size = nL) (hstack : g.stack = As.reverse ++ .ref b :: rest) (hW : 2 * g.monitorRoom + (rest.map fun v => v.category).sum ≤ 8) (hdg : decode cc g.pc = .ok (.invokevirtual index, 3)) (hf : cells + mc ≤ R.cells ∧ slots + ms ≤ R.slots) :
    vx_Run p l e R s m args below meth c H locs cells slots mc ms g rest (Qc (Value.ref b :: As).toArray) XC free := by
  obtain ⟨⟨hrc, hrs, hfr, hlo, hws, hcw⟩, hcode, hini, hy, hlen, hl, hin, hse⟩ := cw
  have hK : vx_Back l R p e below s args y 3 8 (PreOf R mc ms Pc) (PostOf Qc mc ms free) (vx_Post XC mc ms free) := vx_backW (hh := hh) (bytes := bytes) (maxL := maxL) (ret := ret) hM hp.1 hrc hrs hfr hlo hws hcw (fun a' U hW => word_at hW (Or.inl (by first | rfl | simp [Cond.onTables, Cond.keeps, Cond.steady])) hini)
  obtain ⟨hx, hb, hml, ho, -⟩ := S
  obtain ⟨-, ⟨cellB, hcB, hoB, hclB⟩, hPc⟩ := hp
  intro T hT X
  rcases vx_callVX X hx (C := C) (hh := hh) (bytes := bytes) (maxL := maxL) (ret := ret) ho hl hin hse hcode hy hK (by rw [hT]; exact hcB) hoB hclB hg (hsize.trans hml.symm) (argsL := As) (rest := rest) (fun sig h => hn.trans (hlen sig h)) hstack hW (by rw [hb]; exact hdg)
    (fun vm₁ hW₁ => ⟨hf.1, hf.2, hPc (T.setVm vm₁) hT hW₁⟩) with ⟨v, vm₁, ⟨U', l2, c2, s2⟩, hW₁, X', ⟨g', mk, t, L, e1, e2, hq, h1, hL, h2, h3⟩, st⟩ | ⟨q, vm₁, ⟨U', l2, c2, s2⟩, hW₁, X', ⟨g', mk, t, L, E, ce, e1, e2, hq, hce, hcv, hcl, h1, hL, h2, h3⟩, st⟩
  · dsimp only [Pt.U, Pt.locs, Pt.cells, Pt.slots] at X' e1 e2 h1 h2 h3 st
    subst h1; subst h2; subst h3
    exact Or.inl ⟨v, (T.setVm vm₁).calling g' mk (Value.ref b :: As).toArray, t, U', L, hT, X', hL, e1, e2, hq, st⟩
  · dsimp only [Pt.U, Pt.locs, Pt.cells, Pt.slots] at X' e1 e2 h1 h2 h3 st hcl
    subst h1; subst h2; subst h3
    exact Or.inr ⟨q, (T.setVm vm₁).calling g' mk (Value.ref b :: As).toArray, t, U', L, E, ce, hT, X', hL, e1, e2, hq, hce, hcv, vx_cls hW₁ hcl, st⟩
theorem vx_runSX {hh : List (Nat × Nat × Nat × Nat)} (S : CallFix p m c cc nL s args Ts own) (hM : vx_Met l y ws rm Pc Qc XC mc ms free) (cw : vx_CSW R s args own index y bytes maxL ret hh ws rm mc ms n) (hp : PreS s H Pc As)
    (hg : g.method = m) (hn : As.length = n) (hsize : g.locals.size = nL) (hstack : g.stack = As.reverse ++ rest) (hW : 2 * g.monitorRoom + (rest.map fun v => v.category).sum ≤ 8) (hdg : decode cc g.pc = .ok (.invokestatic index, 3)) (hf : cells + mc ≤ R.cells ∧ slots + ms ≤ R.slots) :
    vx_Run p l e R s m args below meth c H locs cells slots mc ms g rest (Qc As.toArray) XC free := by
  obtain ⟨⟨hrc, hrs, hfr, hlo, hws, hcw⟩, hcode, hini, hy, hlen, hl, hstt⟩ := cw
  have hK : vx_Back l R p e below s args y 3 8 (PreOf R mc ms Pc) (PostOf Qc mc ms free) (vx_Post XC mc ms free) := vx_backW (hh := hh) (bytes := bytes) (maxL := maxL) (ret := ret) hM hp.1 hrc hrs hfr hlo hws hcw (fun a' U hW => word_at hW (Or.inl (by first | rfl | simp [Cond.onTables, Cond.keeps, Cond.steady])) hini)
  obtain ⟨hx, hb, hml, ho, -⟩ := S
  intro T hT X
  rcases vx_callSX X hx (hh := hh) (bytes := bytes) (maxL := maxL) (ret := ret) ho hl hstt hini hcode hy hK hg (hsize.trans hml.symm) (argsL := As) (rest := rest) (fun sig h => hn.trans (hlen sig h)) hstack hW (by rw [hb]; exact hdg)
    (fun vm₁ hW₁ => ⟨hf.1, hf.2, hp.2 (T.setVm vm₁) hT hW₁⟩) with ⟨v, vm₁, ⟨U', l2, c2, s2⟩, hW₁, X', ⟨g', mk, t, L, e1, e2, hq, h1, hL, h2, h3⟩, st⟩ | ⟨q, vm₁, ⟨U', l2, c2, s2⟩, hW₁, X', ⟨g', mk, t, L, E, ce, e1, e2, hq, hce, hcv, hcl, h1, hL, h2, h3⟩, st⟩
  · dsimp only [Pt.U, Pt.locs, Pt.cells, Pt.slots] at X' e1 e2 h1 h2 h3 st
    subst h1; subst h2; subst h3
    exact Or.inl ⟨v, (T.setVm vm₁).calling g' mk As.toArray, t, U', L, hT, X', hL, e1, e2, hq, st⟩
  · dsimp only [Pt.U, Pt.locs, Pt.cells, Pt.slots] at X' e1 e2 h1 h2 h3 st hcl
    subst h1; subst h2; subst h3
    exact Or.inr ⟨q, (T.setVm vm₁).calling g' mk As.toArray, t, U', L, E, ce, hT, X', hL, e1, e2, hq, hce, hcv, vx_cls hW₁ hcl, st⟩
end
end VXH
theorem vx_ofWH {l : Launch} {y : MethodName} {ws ws' : List Cond} {rm : Room} {Pc : Array Value → State → Prop} {Qc : Array Value → State → Outcome → State → Prop} {XC : String → State → State → Prop} {mc ms : Nat} {free : Addr → Prop} {cc : ByteArray} {maxL : Nat} {ret : Option FieldType} {hh : List (Nat × Nat × Nat × Nat)}
    (hy : plainName y.cls = true) (hw : ws = Cond.codeWith y cc maxL ret hh :: ws')
    (body : ∀ p e s m args below meth c s₁, BodyLoose p l y (headSpec ws rm) cc maxL ret e s m args below meth c s₁ → c.maxLocals = maxL → Pc args s →
      W p l e (headSpec ws rm).room s m args below meth c s.heap [] 0 0 (vx_MQ below Qc XC args s mc ms free) (entryFrame m args maxL)) : vx_Met l y ws rm Pc Qc XC mc ms free := by
  refine MetFree.of_bodyS (code := cc) (maxLocals := maxL) (ret := ret) hy ?_ ?_
  · intro args s m h hn
    obtain ⟨m9, meth, c, hn9, h1, h2, h3, h4, -, h5, h6, -⟩ := Cond.codeWith_spec (atoms_spec (ws := ws) h _ (by rw [hw]; exact List.mem_cons_self))
    cases hn.symm.trans hn9
    exact ⟨meth, c, h1, h2, h3, h4, h5, h6⟩
  · intro p e s m args below meth c s₁ B hml hP _
    have hh0 : s₁.heap = s.heap := by rw [B.state]; rfl
    obtain ⟨t, a1, o, b1, b2, b3⟩ := body p e s m args below meth c s₁ B hml hP s₁ hh0 (Stand.of_body B)
    exact ⟨t, o, a1, b1, b2, b3⟩
/-! ===== END ===== -/

/-! ===== BEGIN what the machine throws by itself, no traces kept ===== -/
section VXM
set_option maxHeartbeats 1000000 in
/-- the machine throws cls with the message text, no traces kept: from its note over the frame g to 'throwing' over the same frame (follows the proofs of Stand.vmThrowsMessage, Shelf/KitTracedVmS.lean, and Stand.throwsMessageColdBareV, StandMessageColdV.lean, without the step out of the frame) -/
theorem vx_vmAt {p : Program} {l : Launch} {e : Env} {R : Room} {s : State} {m₀ : MethodId} {args : Array Value} {below : List Frame} {meth : Method} {c : Code} {W : State} {locs : List Loc} {cells slots : Nat}
    (X : Stand p l e R s m₀ args below meth c W locs cells slots) (hexec : p.tables.exec = Jvm.exec) (htr : e.platform.stackTraces = false) {cls : String} {names : List String} {text : String}
    (hcls : Bundle.fit cls = true) (hnames : ∀ n ∈ names, Bundle.fit n = true) (hsoe : (cls == "java/lang/StackOverflowError") = false) (hoom : (cls == "java/lang/OutOfMemoryError") = false)
    (h : ∀ a ∈ Bundle.messageArmAtoms cls names, a.before args s = true)
    (hlocs : ∀ x ∈ locs, ∀ cell, s.heap[x.base]? = some cell → cell.vm.isStatics = false)
    (htext : (text == notModelled) = false) (hlimit : ¬ (stringBytes (stringToUtf16 text)).size > e.platform.arrayLengthLimit) (hheap : ¬ (stringBytes (stringToUtf16 text)).size * componentBytes .byte > e.platform.maxHeapBytes)
    {g : JFrame} (hg : g.method = m₀) (hsize : g.locals.size = c.maxLocals)
    (hRframes : names.length + 4 < R.frames) (hRlocals : 2 * g.monitorRoom + (g.stack.map fun v => v.category).sum + 10240 ≤ R.locals) (hshort : 13 * names.length + 55 ≤ 10240)
    (hRcells : cells + 3 ≤ R.cells) (hRslots : slots + ((stringBytes (stringToUtf16 text)).size + 4 + 6) ≤ R.slots) (hlocks : meth.locks = false) :
    ∃ (S : State) (q : Addr) (ce : Cell), (∀ target, Steps p.tables e below ((S.setTop g).pushFrame (.throwing q)) target → Steps p.tables e below ((W.setTop g).pushFrame (.throwNew cls (some text) none)) target) ∧
      Stand p l e R s m₀ args below meth c S locs (cells + 3) (slots + ((stringBytes (stringToUtf16 text)).size + 4 + 6)) ∧ S.heap[q]? = some ce ∧ s.vm.findClass cls = some ce.cls ∧ ce.vm = .none := by
  have howns : e.platform.frameOwnsMonitors = true := by rw [X.admits.platform]
  have hfin : e.platform.finalization = false := by rw [X.admits.platform]
  have hpl : e.platform.magicAccessors = ({} : Platform).magicAccessors := by rw [X.admits.platform]
  have a : ∀ x, x ∈ Bundle.messageArmAtoms cls names → x.holds args s none s [] = true := fun x hx => h x hx
  obtain ⟨T, Z0, L, -, Y⟩ := ThrowableC.of_atoms (args := args) howns hfin hpl (fun x hx => h x (by simp [Bundle.messageArmAtoms, hx]))
  obtain ⟨Z, M, LZ, LM, hnZ⟩ := Init0T.ofS_atoms (args := args) hpl L Y (fun x hx => h x (by simp [Bundle.messageArmAtoms, hx]))
  obtain ⟨P1, Ps, hlen, L1, hL, hP1m, hlink1, hlink⟩ := Bundle.chainS (args := args) hpl hnZ names cls hcls hnames (fun x hx => h x (by simp [Bundle.messageArmAtoms, hx]))
  obtain ⟨Zs, LZs, hn4, hfitv, hfitc⟩ := StringT.of_atoms (args := args) (fun x hx => h x (by simp [Bundle.messageArmAtoms, hx]))
  have hfound : s.vm.findClass cls = some P1.m.cls := findClass_of_methodNamed hP1m
  obtain ⟨c1, kX, hc1, hk, hord, -, -, hn6⟩ := Cond.instantiable_spec (a (.instantiable cls 6) (by simp [Bundle.messageArmAtoms]))
  cases Option.some.inj (hc1.symm.trans hfound)
  have hinit := Cond.initialized_spec hfound hk (a (.initialized cls) (by simp [Bundle.messageArmAtoms]))
  have hctor : kX.findMethod "<init>" "(Ljava/lang/String;)V" = some P1.m.idx := findMethod_of_methodNamed hP1m hk
  have hsel0 : selectMethod e.platform s.vm P1.m.cls T.fill0 = .method T.fill0 := by
    obtain ⟨c2, r2, m2, q1, q2, q3, q4, -⟩ := Cond.selects_spec (a (.selects cls Bundle.tFill0 Bundle.tFill0) (by simp [Bundle.messageArmAtoms]))
    cases Option.some.inj (q1.symm.trans hfound)
    cases Option.some.inj (q2.symm.trans (State.methodFound?_of_named Y.fill0 (by decide)))
    cases Option.some.inj (q3.symm.trans Y.fill0)
    rw [Launch.admits_selectMethod X.admits]; exact q4
  have hselF : selectMethod e.platform s.vm P1.m.cls T.fill = .method T.fill := by
    obtain ⟨c2, r2, m2, q1, q2, q3, q4, -⟩ := Cond.selects_spec (a (.selects cls Bundle.tFill Bundle.tFill) (by simp [Bundle.messageArmAtoms]))
    cases Option.some.inj (q1.symm.trans hfound)
    cases Option.some.inj (q2.symm.trans (State.methodFound?_of_named Y.fill (by decide)))
    cases Option.some.inj (q3.symm.trans Y.fill)
    rw [Launch.admits_selectMethod X.admits]; exact q4
  obtain ⟨cellS0, hcS0, hiss⟩ := Y.statics
  obtain ⟨u0, hu0⟩ := Cond.staticRefV Y.unassigned L.unassignedStatic L.statics hcS0 hiss (a (.isRef (.static Bundle.tN "UNASSIGNED_STACK" Bundle.steD)) (by simp [Bundle.messageArmAtoms]))
  obtain ⟨sen, hsen⟩ := Cond.staticRefV Y.sentinel L.sentinelStatic L.statics hcS0 hiss (a (.isRef (.static Bundle.tN "SUPPRESSED_SENTINEL" Bundle.listD)) (by simp [Bundle.messageArmAtoms]))
  obtain ⟨ci198, i198, fB, hk198, hg198, ha198, hsB, -, hnB, htB, hffB⟩ := Cond.ownField (t := .object "java/lang/Object") Y.found L.cls (by decide +kernel) (a (.fieldLink Bundle.tN 198 Bundle.tN "backtrace" "Ljava/lang/Object;") (by simp [Bundle.messageArmAtoms])) (a (.lays Bundle.tN Bundle.tN "backtrace" "Ljava/lang/Object;") (by simp [Bundle.messageArmAtoms])) e.platform hpl
  obtain ⟨cellS, hcS', heS, -, hkeep⟩ := X.same.2.2.2.2.2 T.aS cellS0 hcS0
  have hcellS : W.heap[T.aS]? = some cellS := hcS'
  have hout' : ∀ i, (⟨T.aS, i⟩ : Loc) ∉ locs := fun i hmem => by
    have := hlocs _ hmem cellS0 hcS0
    rw [hiss] at this; cases this
  have hknownS : cellS.vm ≠ .unknown := by
    rw [heS]; intro hu
    rw [show cellS0.vm = .unknown from hu] at hiss
    cases hiss
  have hvU : cellS.slots[T.fUnassigned.slot]? = some u0.v := by rw [hkeep _ (hout' _)]; exact hu0
  have hvSen : cellS.slots[T.fSentinel.slot]? = some sen.v := by rw [hkeep _ (hout' _)]; exact hsen
  obtain ⟨iM, hffM⟩ := Y.msg
  obtain ⟨tyC, dC, hdC, hdnC⟩ := Cond.laysAt hfound hk Y.cause (a (.lays cls Bundle.tN "cause" "Ljava/lang/Throwable;") (by simp [Bundle.messageArmAtoms]))
  obtain ⟨tyS, dS, hdS, hdnS⟩ := Cond.laysAt hfound hk Y.stack (a (.lays cls Bundle.tN "stackTrace" Bundle.steD) (by simp [Bundle.messageArmAtoms]))
  obtain ⟨tyP, dP, hdP, hdnP⟩ := Cond.laysAt hfound hk Y.supp (a (.lays cls Bundle.tN "suppressedExceptions" Bundle.listD) (by simp [Bundle.messageArmAtoms]))
  obtain ⟨tyM, dM, hdM, hdnM⟩ := Cond.laysAt hfound hk hffM (a (.lays cls Bundle.tN "detailMessage" "Ljava/lang/String;") (by simp [Bundle.messageArmAtoms]))
  obtain ⟨tyB, dB, hdB, hdnB⟩ := Cond.laysAt hfound hk hffB (a (.lays cls Bundle.tN "backtrace" "Ljava/lang/Object;") (by simp [Bundle.messageArmAtoms]))
  have bC := Cond.laysApart hdB hdC hdnB hdnC (by rw [hnB, Y.causeName]; decide)
  have bS := Cond.laysApart hdB hdS hdnB hdnS (by rw [hnB, Y.stackName]; decide)
  have bP := Cond.laysApart hdB hdP hdnB hdnP (by rw [hnB, Y.suppName]; decide)
  have hbk : ((preparedCellV T.toThrowableT (freshCell P1.m.cls kX) (W.heap.size + 2) u0 sen).withEntry W.cur).slots[fB.slot]? = some .null := by
    have := fresh_default (c := P1.m.cls) tyB
    rw [htB] at this
    simpa [preparedCellV, Cell.setSlot, Cell.withEntry, Array.getElem?_setIfInBounds, bC, bS, bP, bC.symm, bS.symm, bP.symm, defaultValue] using this
  have tkC := Takes.of_laid (v := .ref (W.heap.size + 2)) hk hord tyC (by rw [Y.causeType]; rfl)
  have tkS := Takes.of_laid (v := u0.v) hk hord tyS (by rw [Y.stackType]; exact fits_refV_array _ u0)
  have tkP := Takes.of_laid (v := sen.v) hk hord tyP (by rw [Y.suppType]; exact fits_refV_object _ sen)
  have tkM := Takes.of_laid (v := .ref (W.heap.size + 1)) hk hord tyM (by rw [Y.msgType]; rfl)
  have hskip : SkipFacts T e.platform s (fun u => u) u0 ((preparedCellV T.toThrowableT (freshCell P1.m.cls kX) (W.heap.size + 2) u0 sen).withEntry W.cur) := ⟨{ ci198 := ci198, i198 := i198, fBack := fB }, ⟨hk198, hg198, ha198, hsB⟩, hbk, fun _ _ => rfl⟩
  have h0 : At W g.method c below := by rw [hg]; exact X.here
  obtain ⟨hbeyond, hfreeW⟩ := X.vmMayThrow hsize (.throwNew cls (some text) none) (fun f hf => by cases hf) rfl hRlocals
  have hfr' : W.frames.length + Ps.length + 4 < (e.platform.stackLimits W.me).1 := by have := X.framesAbove hRframes; omega
  have hwd' : (stackUse (.java g :: W.frames.tail)).2 + 13 * Ps.length + 55 ≤ (e.platform.stackLimits W.me).2 := by have := X.stackAbove hsize (K := 13 * Ps.length + 55) (by omega); omega
  have hslots : W.slotsUsed + (stringBytes (stringToUtf16 text)).size + Zs.kS.instanceTypes.size + kX.instanceTypes.size ≤ e.platform.maxSlots := by
    have := X.slotsAbove hRslots
    rw [hn4, hn6]
    omega
  obtain ⟨vm', hW', st⟩ := Steps.vmThrowsMessageColdByV p (s₀ := s) (S := W) (g := g) h0 hexec T L Z LZ M LM X.warmed (t := W.cur) rfl Zs LZs P1 L1 Ps hL hlink1 hlink hsoe hoom hfound hk hinit hord hctor
    (Launch.admits_hotImplicitExceptions X.admits) hbeyond hfreeW htext hlimit hheap (X.cellsAbove hRcells) hslots (hfitv _) (hfitc _)
    (Nn := fun u => u) heapOnly_id (fun _ _ => rfl) (fun _ => rfl) (fun u x y => setCell_twice _ _ _ _) (fun _ => Nat.le_refl _) (cN := ((preparedCellV T.toThrowableT (freshCell P1.m.cls kX) (W.heap.size + 2) u0 sen).withEntry W.cur))
    hsel0 hcellS hknownS hvU tkS (fun _ hu => hu) (fun _ hu => hu) rfl rfl rfl (by simp [preparedCellV, Cell.setSlot, Cell.withEntry]) hskip (fun _ _ hA hW _ hroom _ hrest => L.nativeOff p htr hA hW hroom hrest) hselF hvSen tkC tkP tkM Y.objLocals rfl hfr' hwd'
  rw [plainBareV_eq T.toThrowableT (W.heap.size + 2) u0 sen (.ref (W.heap.size + 1)) W.cur rfl rfl] at st
  obtain ⟨-, -, w3, w4, -, -, -⟩ := withThrown_facts e.platform W Zs text P1.m.cls kX
  have X3 := ((X.pushed (bytesOf Zs.cB (stringToUtf16 text))).pushed (stringAt Zs.cS Zs.kS Zs.fv Zs.fc (stringToUtf16 text) W.heap.size)).pushed (freshCell P1.m.cls kX)
  rw [← withString_eq] at X3
  have X4 := X3.noted hW'
  have ha : (W.heap.size + 2) < ((withThrown W Zs text P1.m.cls kX).setVm vm').heap.size := by show _ < (withThrown W Zs text P1.m.cls kX).heap.size; rw [w3]; omega
  have hcell : ((withThrown W Zs text P1.m.cls kX).setVm vm').heap[(W.heap.size + 2)]? = some (freshCell P1.m.cls kX) := w4
  have X5 := ((((X4.stored hcell T.fCause.slot (.ref (W.heap.size + 2))).storedAgain ha T.fStack.slot u0.v).storedAgain ha T.fSupp.slot sen.v).storedAgain ha T.fStack.slot u0.v).storedAgain ha T.fMsg.slot (.ref (W.heap.size + 1))
  obtain ⟨g₁, hfrM⟩ := X5.frames_eq
  have hU : ((((withThrown W Zs text P1.m.cls kX).setVm vm').setCell (W.heap.size + 2) (plainBareV T.toThrowableT (freshCell P1.m.cls kX) (W.heap.size + 2) u0 sen (.ref (W.heap.size + 1)))).setTop g).pushFrame (.throwing (W.heap.size + 2)) = (((withThrown W Zs text P1.m.cls kX).setVm vm').setCell (W.heap.size + 2) (plainBareV T.toThrowableT (freshCell P1.m.cls kX) (W.heap.size + 2) u0 sen (.ref (W.heap.size + 1)))).setFrames (.throwing (W.heap.size + 2) :: .java g :: below) := by
    rw [State.pushFrame, State.frames_setTop _ hfrM, State.setTop_of_frames _ hfrM, State.setFrames_setFrames]
  have b1 : (bytesOf Zs.cB (stringToUtf16 text)).slots.size = (stringBytes (stringToUtf16 text)).size := by
    rw [(Cell.writeAll_facts _ _).2.2]; simp [bytes0]
  have b2 : (stringAt Zs.cS Zs.kS Zs.fv Zs.fc (stringToUtf16 text) W.heap.size).slots.size = 4 := by simp [string0, Cell.setSlot, hn4]
  have b3 : (freshCell P1.m.cls kX).slots.size = 6 := by simp [hn6]
  rw [b1, b2, b3] at X5
  have e9 : slots + (stringBytes (stringToUtf16 text)).size + 4 + 6 = slots + ((stringBytes (stringToUtf16 text)).size + 4 + 6) := by omega
  rw [e9] at X5
  simp only [List.append_assoc, List.cons_append, List.nil_append] at X5
  refine ⟨((withThrown W Zs text P1.m.cls kX).setVm vm').setCell (W.heap.size + 2) (plainBareV T.toThrowableT (freshCell P1.m.cls kX) (W.heap.size + 2) u0 sen (.ref (W.heap.size + 1))), W.heap.size + 2, _, fun target ht => st _ (by rw [X.tail, ← hU]; exact ht),
    X5.forget (fun y hy => ?_), heapAt_setCell_self _ ha, hfound, rfl⟩
  simp only [List.mem_cons, List.not_mem_nil, or_false] at hy
  have hge : s.heap.size ≤ W.heap.size := X.same.2.1
  rcases hy with rfl | rfl | rfl | rfl | rfl <;> exact Nat.le_trans hge (Nat.le_add_right _ 2)
set_option maxHeartbeats 1000000 in
/-- the machine throws NullPointerException, no traces kept: from its note over the frame g to 'throwing' over the same frame (follows the proof of Stand.vmThrowsNpe, Shelf42/KT2.lean; throwsNpeColdBareVAt, Shelf42/NT91.lean, called) -/
theorem vx_npeAt {p : Program} {l : Launch} {e : Env} {R : Room} {s : State} {m₀ : MethodId} {args : Array Value} {below : List Frame} {meth : Method} {c : Code} {W : State} {locs : List Loc} {cells slots : Nat}
    (X : Stand p l e R s m₀ args below meth c W locs cells slots) (hexec : p.tables.exec = Jvm.exec) (htr : e.platform.stackTraces = false) {n : Nat}
    (h : ∀ a ∈ Bundle.npeArmAtoms n, a.before args s = true)
    (hlocs : ∀ x ∈ locs, ∀ cell, s.heap[x.base]? = some cell → cell.vm.isStatics = false)
    {g : JFrame} (hg : g.method = m₀) (hsize : g.locals.size = c.maxLocals)
    (hRframes : 7 < R.frames) (hRlocals : 2 * g.monitorRoom + (g.stack.map fun v => v.category).sum + 10240 ≤ R.locals)
    (hRcells : cells + 1 ≤ R.cells) (hRslots : slots + n ≤ R.slots) (hlocks : meth.locks = false) :
    ∃ (S : State) (q : Addr) (ce : Cell), (∀ target, Steps p.tables e below ((S.setTop g).pushFrame (.throwing q)) target → Steps p.tables e below ((W.setTop g).pushFrame (.throwNew "java/lang/NullPointerException" none none)) target) ∧
      Stand p l e R s m₀ args below meth c S locs (cells + 1) (slots + n) ∧ S.heap[q]? = some ce ∧ s.vm.findClass "java/lang/NullPointerException" = some ce.cls ∧ ce.vm = .none := by
  have howns : e.platform.frameOwnsMonitors = true := by rw [X.admits.platform]
  have hfin : e.platform.finalization = false := by rw [X.admits.platform]
  have hpl : e.platform.magicAccessors = ({} : Platform).magicAccessors := by rw [X.admits.platform]
  have hpl2 : e.platform.arrayCloneIsPublic = true := by rw [X.admits.platform]
  have a' : ∀ x, x ∈ Bundle.npeArmAtoms n → x.holds args s none s [] = true := fun x hx => h x hx
  obtain ⟨T, Z, L, LZ, Y⟩ := ThrowableC.of_atoms (args := args) howns hfin hpl (fun x hx => h x (by simp [Bundle.npeArmAtoms, hx]))
  obtain ⟨N, LN, hcN, hnNF, hordN, hffS⟩ := NpeC.of_atoms (args := args) hpl hpl2 L Y (fun x hx => h x (by simp [Bundle.npeArmAtoms, hx]))
  obtain ⟨P1, L1, hP1m, hP1s⟩ := PassC.of_atoms (args := args) (s := s) hpl (X := Bundle.nN) (Y := Bundle.rN) (by decide) (by decide) LibCode.NullPointerException.Init0.at_0 LibCode.NullPointerException.Init0.at_1 LibCode.NullPointerException.Init0.at_4 (fun x hx => h x (by simp [Bundle.npeArmAtoms, hx]))
  obtain ⟨PR, LR, hPRm, hPRs⟩ := PassC.of_atoms (args := args) (s := s) hpl (X := Bundle.rN) (Y := Bundle.eN) (by decide) (by decide) LibCode.RuntimeException.Init0.at_0 LibCode.RuntimeException.Init0.at_1 LibCode.RuntimeException.Init0.at_4 (fun x hx => h x (by simp [Bundle.npeArmAtoms, hx]))
  obtain ⟨PE, LEx, hPEm, hPEs⟩ := PassC.of_atoms (args := args) (s := s) hpl (X := Bundle.eN) (Y := Bundle.tN) (by decide) (by decide) LibCode.Exception.Init0.at_0 LibCode.Exception.Init0.at_1 LibCode.Exception.Init0.at_4 (fun x hx => h x (by simp [Bundle.npeArmAtoms, hx]))
  have hfound : s.vm.findClass Bundle.nN = some P1.m.cls := findClass_of_methodNamed hP1m
  have ecls : N.cN = P1.m.cls := Option.some.inj (hcN.symm.trans hfound)
  have hk : s.vm.classes[P1.m.cls]? = some N.kN := by rw [← ecls]; exact LN.cls
  have hinit := Cond.initialized_spec hfound hk (a' (.initialized Bundle.nN) (by simp [Bundle.npeArmAtoms]))
  have hctor : N.kN.findMethod "<init>" "()V" = some P1.m.idx := findMethod_of_methodNamed hP1m hk
  obtain ⟨c1, k1, hc1, hk1, -, -, -, hn⟩ := Cond.instantiable_spec (a' (.instantiable Bundle.nN n) (by simp [Bundle.npeArmAtoms]))
  cases Option.some.inj (hc1.symm.trans hfound)
  cases Option.some.inj (hk1.symm.trans hk)
  have hfsz : (freshCell P1.m.cls N.kN).slots.size = n := by simp [hn]
  have hlink1 : P1.sup = PR.m := Option.some.inj (hP1s.symm.trans hPRm)
  have hlinkR : PR.sup = PE.m := Option.some.inj (hPRs.symm.trans hPEm)
  have hlinkE : PE.sup = Z.m T.toThrowableT := Option.some.inj (hPEs.symm.trans Y.init0)
  have hLs : ∀ P, P ∈ [PR, PE] → P.Links0 e.platform s := fun P hP => by
    simp only [List.mem_cons, List.not_mem_nil, or_false] at hP
    rcases hP with rfl | rfl
    · exact LR
    · exact LEx
  have hsel0 : selectMethod e.platform s.vm P1.m.cls T.fill0 = .method T.fill0 := by
    obtain ⟨c2, r2, m2, q1, q2, q3, q4, -⟩ := Cond.selects_spec (a' (.selects Bundle.nN Bundle.tFill0 Bundle.tFill0) (by simp [Bundle.npeArmAtoms]))
    cases Option.some.inj (q1.symm.trans hfound)
    cases Option.some.inj (q2.symm.trans (State.methodFound?_of_named Y.fill0 (by decide)))
    cases Option.some.inj (q3.symm.trans Y.fill0)
    rw [Launch.admits_selectMethod X.admits]; exact q4
  have hselF : selectMethod e.platform s.vm P1.m.cls T.fill = .method N.fill := by
    obtain ⟨c2, r2, m2, q1, q2, q3, q4, -⟩ := Cond.selects_spec (a' (.selects Bundle.nN Bundle.tFill Bundle.nFill) (by simp [Bundle.npeArmAtoms]))
    cases Option.some.inj (q1.symm.trans hfound)
    cases Option.some.inj (q2.symm.trans (State.methodFound?_of_named Y.fill (by decide)))
    cases Option.some.inj (q3.symm.trans hnNF)
    rw [Launch.admits_selectMethod X.admits]; exact q4
  obtain ⟨cellS0, hcS0, hiss⟩ := Y.statics
  obtain ⟨u0, hu0⟩ := Cond.staticRefV Y.unassigned L.unassignedStatic L.statics hcS0 hiss (a' (.isRef (.static Bundle.tN "UNASSIGNED_STACK" Bundle.steD)) (by simp [Bundle.npeArmAtoms]))
  obtain ⟨sen, hsen⟩ := Cond.staticRefV Y.sentinel L.sentinelStatic L.statics hcS0 hiss (a' (.isRef (.static Bundle.tN "SUPPRESSED_SENTINEL" Bundle.listD)) (by simp [Bundle.npeArmAtoms]))
  obtain ⟨ci198, i198, fB, hk198, hg198, ha198, hsB, -, hnB, htB, hffB⟩ := Cond.ownField (t := .object "java/lang/Object") Y.found L.cls (by decide +kernel) (a' (.fieldLink Bundle.tN 198 Bundle.tN "backtrace" Bundle.objD) (by simp [Bundle.npeArmAtoms])) (a' (.lays Bundle.tN Bundle.tN "backtrace" Bundle.objD) (by simp [Bundle.npeArmAtoms])) e.platform hpl
  obtain ⟨cellS, hcS', heS, -, hkeep⟩ := X.same.2.2.2.2.2 T.aS cellS0 hcS0
  have hcellS : W.heap[T.aS]? = some cellS := hcS'
  have hout' : ∀ i, (⟨T.aS, i⟩ : Loc) ∉ locs := fun i hmem => by
    have := hlocs _ hmem cellS0 hcS0
    rw [hiss] at this; cases this
  have hknownS : cellS.vm ≠ .unknown := by
    rw [heS]; intro hu
    rw [show cellS0.vm = .unknown from hu] at hiss
    cases hiss
  have hvU : cellS.slots[T.fUnassigned.slot]? = some u0.v := by rw [hkeep _ (hout' _)]; exact hu0
  have hvSen : cellS.slots[T.fSentinel.slot]? = some sen.v := by rw [hkeep _ (hout' _)]; exact hsen
  obtain ⟨tyC, dC, hdC, hdnC⟩ := Cond.laysAt hfound hk Y.cause (a' (.lays Bundle.nN Bundle.tN "cause" "Ljava/lang/Throwable;") (by simp [Bundle.npeArmAtoms]))
  obtain ⟨tyS, dS, hdS, hdnS⟩ := Cond.laysAt hfound hk Y.stack (a' (.lays Bundle.nN Bundle.tN "stackTrace" Bundle.steD) (by simp [Bundle.npeArmAtoms]))
  obtain ⟨tyP, dP, hdP, hdnP⟩ := Cond.laysAt hfound hk Y.supp (a' (.lays Bundle.nN Bundle.tN "suppressedExceptions" Bundle.listD) (by simp [Bundle.npeArmAtoms]))
  obtain ⟨tyX, dX, hdX, hdnX⟩ := Cond.laysAt hfound hk hffS (a' (.lays Bundle.nN Bundle.nN "extendedMessageState" "I") (by simp [Bundle.npeArmAtoms, Bundle.npeAtoms]))
  obtain ⟨hnX, htX⟩ := State.fieldFound?_type hffS (t := .int) (by decide +kernel)
  have xC := Cond.laysApart hdC hdX hdnC hdnX (by rw [hnX, Y.causeName]; decide)
  have xS := Cond.laysApart hdS hdX hdnS hdnX (by rw [hnX, Y.stackName]; decide)
  have xP := Cond.laysApart hdP hdX hdnP hdnX (by rw [hnX, Y.suppName]; decide)
  have hv0 : (freshCell P1.m.cls N.kN).slots[N.fState.slot]? = some (.int 0) := by
    have := fresh_default (c := P1.m.cls) tyX
    rw [htX] at this; exact this
  obtain ⟨tyB, dB, hdB, hdnB⟩ := Cond.laysAt hfound hk hffB (a' (.lays Bundle.nN Bundle.tN "backtrace" Bundle.objD) (by simp [Bundle.npeArmAtoms]))
  have bC := Cond.laysApart hdB hdC hdnB hdnC (by rw [hnB, Y.causeName]; decide)
  have bS := Cond.laysApart hdB hdS hdnB hdnS (by rw [hnB, Y.stackName]; decide)
  have bP := Cond.laysApart hdB hdP hdnB hdnP (by rw [hnB, Y.suppName]; decide)
  have bX := Cond.laysApart hdB hdX hdnB hdnX (by rw [hnB, hnX]; decide)
  have hbk : ((npeCell N.toNpeT (preparedCellV T.toThrowableT (freshCell P1.m.cls N.kN) W.heap.size u0 sen) W.cur).withEntry W.cur).slots[fB.slot]? = some .null := by
    have := fresh_default (c := P1.m.cls) tyB
    rw [htB] at this
    simpa [npeCell, preparedCellV, Cell.setSlot, Cell.withEntry, Array.getElem?_setIfInBounds, bC, bS, bP, bX, bC.symm, bS.symm, bP.symm, bX.symm, defaultValue] using this
  have tkC := Takes.of_laid (v := .ref W.heap.size) hk hordN tyC (by rw [Y.causeType]; rfl)
  have tkS := Takes.of_laid (v := u0.v) hk hordN tyS (by rw [Y.stackType]; exact fits_refV_array _ u0)
  have tkP := Takes.of_laid (v := sen.v) hk hordN tyP (by rw [Y.suppType]; exact fits_refV_object _ sen)
  have tkX := Takes.of_laid (v := .int 1) hk hordN tyX (by rw [htX]; rfl)
  have hskip : SkipFacts T e.platform s (fun u => u) u0 ((npeCell N.toNpeT (preparedCellV T.toThrowableT (freshCell P1.m.cls N.kN) W.heap.size u0 sen) W.cur).withEntry W.cur) := ⟨{ ci198 := ci198, i198 := i198, fBack := fB }, ⟨hk198, hg198, ha198, hsB⟩, hbk, fun _ _ => rfl⟩
  obtain ⟨vm', X3, st, -⟩ := X.throwsNpeColdBareVAt hexec hg hsize T L Z LZ N LN P1 L1 [PR, PE] hLs hlink1 ⟨hlinkR, hlinkE, trivial⟩ hfound hk hinit hordN hctor hsel0 hselF hcellS hknownS hvU hvSen
    hv0 xC xS xP tkC tkS tkP tkX Y.objLocals hskip (fun _ _ hA hW _ hroom _ hrest => L.nativeOff p htr hA hW hroom hrest) (by simpa using hRframes) hRlocals (by simp) hRcells (by rw [hn]; exact hRslots)
  have hlt : W.heap.size < ((W.pushCell (freshCell P1.m.cls N.kN)).setVm vm').heap.size := by
    show W.heap.size < (W.pushCell (freshCell P1.m.cls N.kN)).heap.size
    rw [State.heap_size_pushCell]; omega
  rw [hfsz] at X3
  obtain ⟨g₁, hfrM⟩ := X3.frames_eq
  have hU : ((((W.pushCell (freshCell P1.m.cls N.kN)).setVm vm').setCell W.heap.size (npeBareV T.toThrowableT N.toNpeT (freshCell P1.m.cls N.kN) W.heap.size u0 sen)).setTop g).pushFrame (.throwing W.heap.size) = (((W.pushCell (freshCell P1.m.cls N.kN)).setVm vm').setCell W.heap.size (npeBareV T.toThrowableT N.toNpeT (freshCell P1.m.cls N.kN) W.heap.size u0 sen)).setFrames (.throwing W.heap.size :: .java g :: below) := by
    rw [State.pushFrame, State.frames_setTop _ hfrM, State.setTop_of_frames _ hfrM, State.setFrames_setFrames]
  refine ⟨_, W.heap.size, _, fun target ht => st.trans (by rw [← hU]; exact ht), X3.forget (fun y hy => ?_), heapAt_setCell_self _ hlt, hfound, rfl⟩
  simp only [List.mem_cons, List.not_mem_nil, or_false] at hy
  have hge : s.heap.size ≤ W.heap.size := X.same.2.1
  rcases hy with rfl | rfl | rfl | rfl | rfl <;> exact hge
/-- the words of a machine's NullPointerException, but the four that speak of the heap -/
def vx_atN (n : Nat) : List Cond := (Bundle.npeArmAtoms n).filter vx_no
/-- the words of a machine's throw with a message, but the four that speak of the heap -/
def vx_atM (X : String) (names : List String) : List Cond := (Bundle.messageArmAtoms X names).filter vx_no
section
variable {p : Program} {l : Launch} {e : Env} {R : Room} {s : State} {m : MethodId} {args : Array Value} {below : List Frame} {meth : Method} {c : Code} {H : Heap} {locs : List Loc} {cells slots : Nat}
/-- a frame seen from a rebased start, seen from the first start again -/
theorem vx_back9 {T S : State} {R' : Room} {k n : Nat} (X : Stand p l e R s m args below meth c T locs cells slots) (Y : Stand p l e R' ((T.setVm s.vm).setFrames (.invoking m args :: below)) m args below meth c T [] 0 0) (Z : Stand p l e R' ((T.setVm s.vm).setFrames (.invoking m args :: below)) m args below meth c S [] k n) :
    Stand p l e R s m args below meth c S locs (cells + k) (slots + n) := by
  have hW0 : s.WarmedH ((T.setVm s.vm).setFrames (.invoking m args :: below)).vm := State.WarmedH.refl s
  refine { admits := X.admits, cas := X.cas, clock := X.clock, frames := X.frames, room := X.room, hears := X.hears, method := X.method, code := X.code, here := Z.here, tail := Z.tail, warmed := State.WarmedH.trans hW0 Z.warmed, limits := Z.limits.trans (Y.limits.symm.trans X.limits), bytes := Z.bytes.trans (Y.bytes.symm.trans X.bytes), same := ?_ }
  obtain ⟨e1, e2⟩ := Z.same
  rw [State.setFrames_setFrames] at e1
  have h2 : (T.setVm s.vm).sameButNew (S.setVm s.vm) [] k n := ⟨e1, e2⟩
  have h3 := X.same.trans h2
  rw [List.append_nil] at h3
  exact h3
/-- from the machine's note that E is thrown here with this text -/
def vx_Note (p : Program) (l : Launch) (e : Env) (R : Room) (s : State) (m : MethodId) (args : Array Value) (below : List Frame) (meth : Method) (c : Code) (H : Heap) (locs : List Loc) (cells slots : Nat) (Q : State → Prop) (g : JFrame) (E text : String) : Prop :=
  ∀ T : State, T.heap = H → Stand p l e R s m args below meth c T locs cells slots → ∃ t, Steps p.tables e below ((T.setTop g).pushFrame (.throwNew E (some text) none)) t ∧ Q t
theorem vx_vm {pc : Nat} {ls : Array Slot} {rest : List Value} {Q : State → Prop} (hexec : p.tables.exec = Jvm.exec) (hl : l.stackTraces = false) {cls text : String} {names : List String} {nb : Nat} {A : Nat → Prop}
    (hcls : Bundle.fit cls = true) (hnames : ∀ n ∈ names, Bundle.fit n = true) (hsoe : (cls == "java/lang/StackOverflowError") = false) (hoom : (cls == "java/lang/OutOfMemoryError") = false)
    (hat : ∀ w ∈ vx_atM cls names, w.before args s = true) (hgood : ∀ w ∈ vx_atM cls names, vx_ot w = true)
    (hU : vx_Zq Bundle.tN "UNASSIGNED_STACK" Bundle.steD A s s.heap) (hN : vx_Zq Bundle.tN "SUPPRESSED_SENTINEL" Bundle.listD A s s.heap) (hS : va_S A s.heap H locs) (hsize : ls.size = c.maxLocals)
    (htext : (text == notModelled) = false) (hnb : (stringBytes (stringToUtf16 text)).size ≤ nb) (hnb1 : nb ≤ 1000)
    (hRframes : names.length + 4 < R.frames) (hRlocals : (rest.map fun v => v.category).sum + 10240 ≤ R.locals) (hshort : 13 * names.length + 55 ≤ 10240) (hRcells : cells + 3 ≤ R.cells) (hRslots : slots + (nb + 10) ≤ R.slots) (hlocks : meth.locks = false)
    (k : ∀ (H1 : Heap) (q9 : Addr) (ce : Cell), H.size ≤ H1.size → (∀ q : Nat, q < H.size → H1[q]? = H[q]?) → va_S A s.heap H1 locs → H1[q9]? = some ce → ce.vm = .none → s.vm.findClass cls = some ce.cls → vx_W p l e R s m args below meth c H1 locs (cells + 3) (slots + (nb + 10)) Q (F0 m pc ls rest) q9) :
    vx_Note p l e R s m args below meth c H locs cells slots Q (F0 m pc ls rest) cls text := by
  intro T hT X
  have htr : e.platform.stackTraces = false := (show e.platform.stackTraces = l.stackTraces by rw [X.admits.platform]).trans hl
  have Y := vx_rebase X (R' := { frames := R.frames, locals := R.locals, cells := 3, slots := nb + 10 }) (Nat.le_refl _) (Nat.le_refl _) hRcells hRslots
  have hhp : ((T.setVm s.vm).setFrames (.invoking m args :: below)).heap = H := hT
  have hW0 : s.WarmedH ((T.setVm s.vm).setFrames (.invoking m args :: below)).vm := State.WarmedH.refl s
  have hat' : ∀ w ∈ vx_atM cls names, w.before args ((T.setVm s.vm).setFrames (.invoking m args :: below)) = true := fun w hw => vx_ot_at hW0 rfl (hgood w hw) (hat w hw)
  have hU' : vx_Zq Bundle.tN "UNASSIGNED_STACK" Bundle.steD A ((T.setVm s.vm).setFrames (.invoking m args :: below)) ((T.setVm s.vm).setFrames (.invoking m args :: below)).heap := by rw [hhp]; exact vx_Zq.moved hW0.alike (hU.kept hS.2.1)
  have hN' : vx_Zq Bundle.tN "SUPPRESSED_SENTINEL" Bundle.listD A ((T.setVm s.vm).setFrames (.invoking m args :: below)) ((T.setVm s.vm).setFrames (.invoking m args :: below)).heap := by rw [hhp]; exact vx_Zq.moved hW0.alike (hN.kept hS.2.1)
  obtain ⟨S, q, ce, st, Z, hce, hcl', hv⟩ := vx_vmAt Y hexec htr (cls := cls) (names := names) (text := text) hcls hnames hsoe hoom (vx_own hat' (vx_isRefq hU'.1) (vx_isRefq hN'.1) hU'.2.word hN'.2.word) (fun x hx => nomatch hx) htext
    (by rw [Launch.admits_arrayLengthLimit X.admits]; omega) (by rw [Launch.admits_maxHeapBytes X.admits]; simp only [componentBytes]; omega)
    (g := F0 m pc ls rest) rfl hsize hRframes (by show 2 * 0 + (rest.map fun v => v.category).sum + 10240 ≤ R.locals; omega) hshort (by show 0 + 3 ≤ 3; omega) (by show 0 + (_ + 4 + 6) ≤ nb + 10; omega) hlocks
  obtain ⟨f1, f2⟩ := vx_frame Z.same
  have f1' : H.size ≤ S.heap.size := by rw [← hT]; exact f1
  have f2' : ∀ q : Nat, q < H.size → S.heap[q]? = H[q]? := fun q hq => by
    rw [← hT]
    exact f2 q (by rw [← hT] at hq; exact hq) (fun z hz => nomatch hz)
  have X5 := vx_back9 X Y Z
  have X6 : Stand p l e R s m args below meth c S locs (cells + 3) (slots + (nb + 10)) := { X5 with same := X5.same.mono (by omega) (by omega) }
  obtain ⟨t, a1, b1⟩ := k S.heap q ce f1' f2' ⟨Nat.le_trans hS.1 f1', fun q h1 h2 => (f2' q (Nat.lt_of_lt_of_le h1 hS.1)).trans (hS.2.1 q h1 h2), hS.2.2⟩ hce hv hcl' S rfl X6
  exact ⟨t, st t a1, b1⟩
/-- from the machine's note that NullPointerException is thrown here -/
def vx_NoteN (p : Program) (l : Launch) (e : Env) (R : Room) (s : State) (m : MethodId) (args : Array Value) (below : List Frame) (meth : Method) (c : Code) (H : Heap) (locs : List Loc) (cells slots : Nat) (Q : State → Prop) (g : JFrame) : Prop :=
  ∀ T : State, T.heap = H → Stand p l e R s m args below meth c T locs cells slots → ∃ t, Steps p.tables e below ((T.setTop g).pushFrame (.throwNew "java/lang/NullPointerException" none none)) t ∧ Q t
theorem vx_npe {pc : Nat} {ls : Array Slot} {rest : List Value} {Q : State → Prop} (hexec : p.tables.exec = Jvm.exec) (hl : l.stackTraces = false) {nb : Nat} {A : Nat → Prop}
    (hat : ∀ w ∈ vx_atN nb, w.before args s = true) (hgood : ∀ w ∈ vx_atN nb, vx_ot w = true)
    (hU : vx_Zq Bundle.tN "UNASSIGNED_STACK" Bundle.steD A s s.heap) (hN : vx_Zq Bundle.tN "SUPPRESSED_SENTINEL" Bundle.listD A s s.heap) (hS : va_S A s.heap H locs) (hsize : ls.size = c.maxLocals)
    (hRframes : 7 < R.frames) (hRlocals : (rest.map fun v => v.category).sum + 10240 ≤ R.locals) (hRcells : cells + 1 ≤ R.cells) (hRslots : slots + nb ≤ R.slots) (hlocks : meth.locks = false)
    (k : ∀ (H1 : Heap) (q9 : Addr) (ce : Cell), H.size ≤ H1.size → (∀ q : Nat, q < H.size → H1[q]? = H[q]?) → va_S A s.heap H1 locs → H1[q9]? = some ce → ce.vm = .none → s.vm.findClass "java/lang/NullPointerException" = some ce.cls → vx_W p l e R s m args below meth c H1 locs (cells + 1) (slots + nb) Q (F0 m pc ls rest) q9) :
    vx_NoteN p l e R s m args below meth c H locs cells slots Q (F0 m pc ls rest) := by
  intro T hT X
  have htr : e.platform.stackTraces = false := (show e.platform.stackTraces = l.stackTraces by rw [X.admits.platform]).trans hl
  have Y := vx_rebase X (R' := { frames := R.frames, locals := R.locals, cells := 1, slots := nb }) (Nat.le_refl _) (Nat.le_refl _) hRcells hRslots
  have hhp : ((T.setVm s.vm).setFrames (.invoking m args :: below)).heap = H := hT
  have hW0 : s.WarmedH ((T.setVm s.vm).setFrames (.invoking m args :: below)).vm := State.WarmedH.refl s
  have hat' : ∀ w ∈ vx_atN nb, w.before args ((T.setVm s.vm).setFrames (.invoking m args :: below)) = true := fun w hw => vx_ot_at hW0 rfl (hgood w hw) (hat w hw)
  have hU' : vx_Zq Bundle.tN "UNASSIGNED_STACK" Bundle.steD A ((T.setVm s.vm).setFrames (.invoking m args :: below)) ((T.setVm s.vm).setFrames (.invoking m args :: below)).heap := by rw [hhp]; exact vx_Zq.moved hW0.alike (hU.kept hS.2.1)
  have hN' : vx_Zq Bundle.tN "SUPPRESSED_SENTINEL" Bundle.listD A ((T.setVm s.vm).setFrames (.invoking m args :: below)) ((T.setVm s.vm).setFrames (.invoking m args :: below)).heap := by rw [hhp]; exact vx_Zq.moved hW0.alike (hN.kept hS.2.1)
  obtain ⟨S, q, ce, st, Z, hce, hcl', hv⟩ := vx_npeAt Y hexec htr (n := nb) (vx_own hat' (vx_isRefq hU'.1) (vx_isRefq hN'.1) hU'.2.word hN'.2.word) (fun x hx => nomatch hx)
    (g := F0 m pc ls rest) rfl hsize hRframes (by show 2 * 0 + (rest.map fun v => v.category).sum + 10240 ≤ R.locals; omega) (by show 0 + 1 ≤ 1; omega) (by show 0 + nb ≤ nb; omega) hlocks
  obtain ⟨f1, f2⟩ := vx_frame Z.same
  have f1' : H.size ≤ S.heap.size := by rw [← hT]; exact f1
  have f2' : ∀ q : Nat, q < H.size → S.heap[q]? = H[q]? := fun q hq => by
    rw [← hT]
    exact f2 q (by rw [← hT] at hq; exact hq) (fun z hz => nomatch hz)
  have X5 := vx_back9 X Y Z
  have X6 : Stand p l e R s m args below meth c S locs (cells + 1) (slots + nb) := { X5 with same := X5.same.mono (by omega) (by omega) }
  obtain ⟨t, a1, b1⟩ := k S.heap q ce f1' f2' ⟨Nat.le_trans hS.1 f1', fun q h1 h2 => (f2' q (Nat.lt_of_lt_of_le h1 hS.1)).trans (hS.2.1 q h1 h2), hS.2.2⟩ hce hv hcl' S rfl X6
  exact ⟨t, st t a1, b1⟩
variable {Q : State → Prop} {cc : ByteArray} {pc : Nat} {ls : Array Slot} {rest : List Value}
theorem vx_idivZ (hexec : p.tables.exec = Jvm.exec) (hb : c.code = cc) {a b : Int32} (h0 : b = 0) (d : decode cc pc = .ok (.idiv, 1)) (k : vx_Note p l e R s m args below meth c H locs cells slots Q (F0 m pc ls rest) "java/lang/ArithmeticException" "/ by zero") :
    W p l e R s m args below meth c H locs cells slots Q (F0 m pc ls (.int b :: .int a :: rest)) := by
  intro T hT X
  obtain ⟨t, st, q⟩ := k T hT X
  exact ⟨t, X.idivZero hexec (g := F0 m pc ls (.int b :: .int a :: rest)) rfl (a := a) (rest := rest) (by rw [h0]) (by rw [hb]; exact d) t st, q⟩
theorem vx_iremZ (hexec : p.tables.exec = Jvm.exec) (hb : c.code = cc) {a b : Int32} (h0 : b = 0) (d : decode cc pc = .ok (.irem, 1)) (k : vx_Note p l e R s m args below meth c H locs cells slots Q (F0 m pc ls rest) "java/lang/ArithmeticException" "/ by zero") :
    W p l e R s m args below meth c H locs cells slots Q (F0 m pc ls (.int b :: .int a :: rest)) := by
  intro T hT X
  obtain ⟨t, st, q⟩ := k T hT X
  exact ⟨t, X.iremZero hexec (g := F0 m pc ls (.int b :: .int a :: rest)) rfl (a := a) (rest := rest) (by rw [h0]) (by rw [hb]; exact d) t st, q⟩
theorem vx_ldivZ (hexec : p.tables.exec = Jvm.exec) (hb : c.code = cc) {a b : Int64} (h0 : b = 0) (d : decode cc pc = .ok (.ldiv, 1)) (k : vx_Note p l e R s m args below meth c H locs cells slots Q (F0 m pc ls rest) "java/lang/ArithmeticException" "/ by zero") :
    W p l e R s m args below meth c H locs cells slots Q (F0 m pc ls (.long b :: .long a :: rest)) := by
  intro T hT X
  obtain ⟨t, st, q⟩ := k T hT X
  exact ⟨t, X.ldivZero hexec (g := F0 m pc ls (.long b :: .long a :: rest)) rfl (a := a) (rest := rest) (by rw [h0]) (by rw [hb]; exact d) t st, q⟩
theorem vx_lremZ (hexec : p.tables.exec = Jvm.exec) (hb : c.code = cc) {a b : Int64} (h0 : b = 0) (d : decode cc pc = .ok (.lrem, 1)) (k : vx_Note p l e R s m args below meth c H locs cells slots Q (F0 m pc ls rest) "java/lang/ArithmeticException" "/ by zero") :
    W p l e R s m args below meth c H locs cells slots Q (F0 m pc ls (.long b :: .long a :: rest)) := by
  intro T hT X
  obtain ⟨t, st, q⟩ := k T hT X
  exact ⟨t, X.lremZero hexec (g := F0 m pc ls (.long b :: .long a :: rest)) rfl (a := a) (rest := rest) (by rw [h0]) (by rw [hb]; exact d) t st, q⟩
theorem vx_ialdZ {D : va_G} {cl : List vw_C} {ws : va_W} {tys : List (ClassId × FieldType)} {a : Nat} (hexec : p.tables.exec = Jvm.exec) (hb : c.code = cc) (hK : va_K D cl tys s) (hP : va_P D cl ws H) (q0 t0 : Nat) {cA : ClassId} {n : Nat} {f : Nat → Int32} (ha : ws[q0]? = some (a, .inl (cA, n, .inl f))) (ht : tys[t0]? = some (cA, .int)) {i : Int32} (hout : ¬ vp_in i n) (hdg : decode cc pc = .ok (.iaload, 1))
    (k : ∀ tx : String, tx = (toString "Index " ++ toString i ++ toString " out of bounds for length " ++ toString n : String) → vx_Note p l e R s m args below meth c H locs cells slots Q (F0 m pc ls rest) "java/lang/ArrayIndexOutOfBoundsException" tx) : W p l e R s m args below meth c H locs cells slots Q (F0 m pc ls (.int i :: .ref a :: rest)) := by
  intro T hT X
  obtain ⟨t, st, q⟩ := k _ rfl T hT X
  refine ⟨t, ?_, q⟩
  have h1 := X.ialoadOut hexec (by rw [hT]; exact hP q0 _ ha) ((hK.2 t0 _ ht).1 n (fun j => .int (f j))) (j := i) (by show (i < 0 ∨ (arrV _ _ _).slots.size ≤ _); rw [arrV_size]; exact Classical.byContradiction hout) (g := F0 m pc ls (.int i :: .ref a :: rest)) rfl (rest := rest) rfl (by rw [hb]; exact hdg) t
  simp only [arrV_size] at h1
  exact h1 st
theorem vx_iastZ {D : va_G} {cl : List vw_C} {ws : va_W} {tys : List (ClassId × FieldType)} {a : Nat} (hexec : p.tables.exec = Jvm.exec) (hb : c.code = cc) (hK : va_K D cl tys s) (hP : va_P D cl ws H) (q0 t0 : Nat) {cA : ClassId} {n : Nat} {f : Nat → Int32} (ha : ws[q0]? = some (a, .inl (cA, n, .inl f))) (ht : tys[t0]? = some (cA, .int)) {i : Int32} {x : Int32} (hout : ¬ vp_in i n) (hdg : decode cc pc = .ok (.iastore, 1))
    (k : ∀ tx : String, tx = (toString "Index " ++ toString i ++ toString " out of bounds for length " ++ toString n : String) → vx_Note p l e R s m args below meth c H locs cells slots Q (F0 m pc ls rest) "java/lang/ArrayIndexOutOfBoundsException" tx) : W p l e R s m args below meth c H locs cells slots Q (F0 m pc ls (.int x :: .int i :: .ref a :: rest)) := by
  intro T hT X
  obtain ⟨t, st, q⟩ := k _ rfl T hT X
  refine ⟨t, ?_, q⟩
  have h1 := X.iastoreOut hexec (by rw [hT]; exact hP q0 _ ha) ((hK.2 t0 _ ht).1 n (fun j => .int (f j))) (j := i) (by show (i < 0 ∨ (arrV _ _ _).slots.size ≤ _); rw [arrV_size]; exact Classical.byContradiction hout) (g := F0 m pc ls (.int x :: .int i :: .ref a :: rest)) rfl (rest := rest) rfl (by rw [hb]; exact hdg) t
  simp only [arrV_size] at h1
  exact h1 st
theorem vx_baldZ {D : va_G} {cl : List vw_C} {ws : va_W} {tys : List (ClassId × FieldType)} {a : Nat} (hexec : p.tables.exec = Jvm.exec) (hb : c.code = cc) (hK : va_K D cl tys s) (hP : va_P D cl ws H) (q0 t0 : Nat) {cA : ClassId} {n : Nat} {f : Nat → Int32} (ha : ws[q0]? = some (a, .inl (cA, n, .inl f))) (ht : tys[t0]? = some (cA, .byte)) {i : Int32} (hout : ¬ vp_in i n) (hdg : decode cc pc = .ok (.baload, 1))
    (k : ∀ tx : String, tx = (toString "Index " ++ toString i ++ toString " out of bounds for length " ++ toString n : String) → vx_Note p l e R s m args below meth c H locs cells slots Q (F0 m pc ls rest) "java/lang/ArrayIndexOutOfBoundsException" tx) : W p l e R s m args below meth c H locs cells slots Q (F0 m pc ls (.int i :: .ref a :: rest)) := by
  intro T hT X
  obtain ⟨t, st, q⟩ := k _ rfl T hT X
  refine ⟨t, ?_, q⟩
  have h1 := X.baloadOut hexec (by rw [hT]; exact hP q0 _ ha) ((hK.2 t0 _ ht).1 n (fun j => .int (f j))) (j := i) (by show (i < 0 ∨ (arrV _ _ _).slots.size ≤ _); rw [arrV_size]; exact Classical.byContradiction hout) (g := F0 m pc ls (.int i :: .ref a :: rest)) rfl (rest := rest) rfl (by rw [hb]; exact hdg) t
  simp only [arrV_size] at h1
  exact h1 st
theorem vx_bastZ {D : va_G} {cl : List vw_C} {ws : va_W} {tys : List (ClassId × FieldType)} {a : Nat} (hexec : p.tables.exec = Jvm.exec) (hb : c.code = cc) (hK : va_K D cl tys s) (hP : va_P D cl ws H) (q0 t0 : Nat) {cA : ClassId} {n : Nat} {f : Nat → Int32} (ha : ws[q0]? = some (a, .inl (cA, n, .inl f))) (ht : tys[t0]? = some (cA, .byte)) {i : Int32} {x : Int32} (hout : ¬ vp_in i n) (hdg : decode cc pc = .ok (.bastore, 1))
    (k : ∀ tx : String, tx = (toString "Index " ++ toString i ++ toString " out of bounds for length " ++ toString n : String) → vx_Note p l e R s m args below meth c H locs cells slots Q (F0 m pc ls rest) "java/lang/ArrayIndexOutOfBoundsException" tx) : W p l e R s m args below meth c H locs cells slots Q (F0 m pc ls (.int x :: .int i :: .ref a :: rest)) := by
  intro T hT X
  obtain ⟨t, st, q⟩ := k _ rfl T hT X
  refine ⟨t, ?_, q⟩
  have h1 := X.bastoreOut hexec (by rw [hT]; exact hP q0 _ ha) ((hK.2 t0 _ ht).1 n (fun j => .int (f j))) (j := i) (by show (i < 0 ∨ (arrV _ _ _).slots.size ≤ _); rw [arrV_size]; exact Classical.byContradiction hout) (g := F0 m pc ls (.int x :: .int i :: .ref a :: rest)) rfl (rest := rest) rfl (by rw [hb]; exact hdg) t
  simp only [arrV_size] at h1
  exact h1 st
theorem vx_zaldZ {D : va_G} {cl : List vw_C} {ws : va_W} {tys : List (ClassId × FieldType)} {a : Nat} (hexec : p.tables.exec = Jvm.exec) (hb : c.code = cc) (hK : va_K D cl tys s) (hP : va_P D cl ws H) (q0 t0 : Nat) {cA : ClassId} {n : Nat} {f : Nat → Int32} (ha : ws[q0]? = some (a, .inl (cA, n, .inl f))) (ht : tys[t0]? = some (cA, .boolean)) {i : Int32} (hout : ¬ vp_in i n) (hdg : decode cc pc = .ok (.baload, 1))
    (k : ∀ tx : String, tx = (toString "Index " ++ toString i ++ toString " out of bounds for length " ++ toString n : String) → vx_Note p l e R s m args below meth c H locs cells slots Q (F0 m pc ls rest) "java/lang/ArrayIndexOutOfBoundsException" tx) : W p l e R s m args below meth c H locs cells slots Q (F0 m pc ls (.int i :: .ref a :: rest)) := by
  intro T hT X
  obtain ⟨t, st, q⟩ := k _ rfl T hT X
  refine ⟨t, ?_, q⟩
  have h1 := X.baloadOut hexec (by rw [hT]; exact hP q0 _ ha) ((hK.2 t0 _ ht).1 n (fun j => .int (f j))) (j := i) (by show (i < 0 ∨ (arrV _ _ _).slots.size ≤ _); rw [arrV_size]; exact Classical.byContradiction hout) (g := F0 m pc ls (.int i :: .ref a :: rest)) rfl (rest := rest) rfl (by rw [hb]; exact hdg) t
  simp only [arrV_size] at h1
  exact h1 st
theorem vx_zastZ {D : va_G} {cl : List vw_C} {ws : va_W} {tys : List (ClassId × FieldType)} {a : Nat} (hexec : p.tables.exec = Jvm.exec) (hb : c.code = cc) (hK : va_K D cl tys s) (hP : va_P D cl ws H) (q0 t0 : Nat) {cA : ClassId} {n : Nat} {f : Nat → Int32} (ha : ws[q0]? = some (a, .inl (cA, n, .inl f))) (ht : tys[t0]? = some (cA, .boolean)) {i : Int32} {x : Int32} (hout : ¬ vp_in i n) (hdg : decode cc pc = .ok (.bastore, 1))
    (k : ∀ tx : String, tx = (toString "Index " ++ toString i ++ toString " out of bounds for length " ++ toString n : String) → vx_Note p l e R s m args below meth c H locs cells slots Q (F0 m pc ls rest) "java/lang/ArrayIndexOutOfBoundsException" tx) : W p l e R s m args below meth c H locs cells slots Q (F0 m pc ls (.int x :: .int i :: .ref a :: rest)) := by
  intro T hT X
  obtain ⟨t, st, q⟩ := k _ rfl T hT X
  refine ⟨t, ?_, q⟩
  have h1 := X.bastoreOut hexec (by rw [hT]; exact hP q0 _ ha) ((hK.2 t0 _ ht).1 n (fun j => .int (f j))) (j := i) (by show (i < 0 ∨ (arrV _ _ _).slots.size ≤ _); rw [arrV_size]; exact Classical.byContradiction hout) (g := F0 m pc ls (.int x :: .int i :: .ref a :: rest)) rfl (rest := rest) rfl (by rw [hb]; exact hdg) t
  simp only [arrV_size] at h1
  exact h1 st
theorem vx_caldZ {D : va_G} {cl : List vw_C} {ws : va_W} {tys : List (ClassId × FieldType)} {a : Nat} (hexec : p.tables.exec = Jvm.exec) (hb : c.code = cc) (hK : va_K D cl tys s) (hP : va_P D cl ws H) (q0 t0 : Nat) {cA : ClassId} {n : Nat} {f : Nat → Int32} (ha : ws[q0]? = some (a, .inl (cA, n, .inl f))) (ht : tys[t0]? = some (cA, .char)) {i : Int32} (hout : ¬ vp_in i n) (hdg : decode cc pc = .ok (.caload, 1))
    (k : ∀ tx : String, tx = (toString "Index " ++ toString i ++ toString " out of bounds for length " ++ toString n : String) → vx_Note p l e R s m args below meth c H locs cells slots Q (F0 m pc ls rest) "java/lang/ArrayIndexOutOfBoundsException" tx) : W p l e R s m args below meth c H locs cells slots Q (F0 m pc ls (.int i :: .ref a :: rest)) := by
  intro T hT X
  obtain ⟨t, st, q⟩ := k _ rfl T hT X
  refine ⟨t, ?_, q⟩
  have h1 := X.caloadOut hexec (by rw [hT]; exact hP q0 _ ha) ((hK.2 t0 _ ht).1 n (fun j => .int (f j))) (j := i) (by show (i < 0 ∨ (arrV _ _ _).slots.size ≤ _); rw [arrV_size]; exact Classical.byContradiction hout) (g := F0 m pc ls (.int i :: .ref a :: rest)) rfl (rest := rest) rfl (by rw [hb]; exact hdg) t
  simp only [arrV_size] at h1
  exact h1 st
theorem vx_castZ {D : va_G} {cl : List vw_C} {ws : va_W} {tys : List (ClassId × FieldType)} {a : Nat} (hexec : p.tables.exec = Jvm.exec) (hb : c.code = cc) (hK : va_K D cl tys s) (hP : va_P D cl ws H) (q0 t0 : Nat) {cA : ClassId} {n : Nat} {f : Nat → Int32} (ha : ws[q0]? = some (a, .inl (cA, n, .inl f))) (ht : tys[t0]? = some (cA, .char)) {i : Int32} {x : Int32} (hout : ¬ vp_in i n) (hdg : decode cc pc = .ok (.castore, 1))
    (k : ∀ tx : String, tx = (toString "Index " ++ toString i ++ toString " out of bounds for length " ++ toString n : String) → vx_Note p l e R s m args below meth c H locs cells slots Q (F0 m pc ls rest) "java/lang/ArrayIndexOutOfBoundsException" tx) : W p l e R s m args below meth c H locs cells slots Q (F0 m pc ls (.int x :: .int i :: .ref a :: rest)) := by
  intro T hT X
  obtain ⟨t, st, q⟩ := k _ rfl T hT X
  refine ⟨t, ?_, q⟩
  have h1 := X.castoreOut hexec (by rw [hT]; exact hP q0 _ ha) ((hK.2 t0 _ ht).1 n (fun j => .int (f j))) (j := i) (by show (i < 0 ∨ (arrV _ _ _).slots.size ≤ _); rw [arrV_size]; exact Classical.byContradiction hout) (g := F0 m pc ls (.int x :: .int i :: .ref a :: rest)) rfl (rest := rest) rfl (by rw [hb]; exact hdg) t
  simp only [arrV_size] at h1
  exact h1 st
theorem vx_saldZ {D : va_G} {cl : List vw_C} {ws : va_W} {tys : List (ClassId × FieldType)} {a : Nat} (hexec : p.tables.exec = Jvm.exec) (hb : c.code = cc) (hK : va_K D cl tys s) (hP : va_P D cl ws H) (q0 t0 : Nat) {cA : ClassId} {n : Nat} {f : Nat → Int32} (ha : ws[q0]? = some (a, .inl (cA, n, .inl f))) (ht : tys[t0]? = some (cA, .short)) {i : Int32} (hout : ¬ vp_in i n) (hdg : decode cc pc = .ok (.saload, 1))
    (k : ∀ tx : String, tx = (toString "Index " ++ toString i ++ toString " out of bounds for length " ++ toString n : String) → vx_Note p l e R s m args below meth c H locs cells slots Q (F0 m pc ls rest) "java/lang/ArrayIndexOutOfBoundsException" tx) : W p l e R s m args below meth c H locs cells slots Q (F0 m pc ls (.int i :: .ref a :: rest)) := by
  intro T hT X
  obtain ⟨t, st, q⟩ := k _ rfl T hT X
  refine ⟨t, ?_, q⟩
  have h1 := X.saloadOut hexec (by rw [hT]; exact hP q0 _ ha) ((hK.2 t0 _ ht).1 n (fun j => .int (f j))) (j := i) (by show (i < 0 ∨ (arrV _ _ _).slots.size ≤ _); rw [arrV_size]; exact Classical.byContradiction hout) (g := F0 m pc ls (.int i :: .ref a :: rest)) rfl (rest := rest) rfl (by rw [hb]; exact hdg) t
  simp only [arrV_size] at h1
  exact h1 st
theorem vx_sastZ {D : va_G} {cl : List vw_C} {ws : va_W} {tys : List (ClassId × FieldType)} {a : Nat} (hexec : p.tables.exec = Jvm.exec) (hb : c.code = cc) (hK : va_K D cl tys s) (hP : va_P D cl ws H) (q0 t0 : Nat) {cA : ClassId} {n : Nat} {f : Nat → Int32} (ha : ws[q0]? = some (a, .inl (cA, n, .inl f))) (ht : tys[t0]? = some (cA, .short)) {i : Int32} {x : Int32} (hout : ¬ vp_in i n) (hdg : decode cc pc = .ok (.sastore, 1))
    (k : ∀ tx : String, tx = (toString "Index " ++ toString i ++ toString " out of bounds for length " ++ toString n : String) → vx_Note p l e R s m args below meth c H locs cells slots Q (F0 m pc ls rest) "java/lang/ArrayIndexOutOfBoundsException" tx) : W p l e R s m args below meth c H locs cells slots Q (F0 m pc ls (.int x :: .int i :: .ref a :: rest)) := by
  intro T hT X
  obtain ⟨t, st, q⟩ := k _ rfl T hT X
  refine ⟨t, ?_, q⟩
  have h1 := X.sastoreOut hexec (by rw [hT]; exact hP q0 _ ha) ((hK.2 t0 _ ht).1 n (fun j => .int (f j))) (j := i) (by show (i < 0 ∨ (arrV _ _ _).slots.size ≤ _); rw [arrV_size]; exact Classical.byContradiction hout) (g := F0 m pc ls (.int x :: .int i :: .ref a :: rest)) rfl (rest := rest) rfl (by rw [hb]; exact hdg) t
  simp only [arrV_size] at h1
  exact h1 st
theorem vx_laldZ {D : va_G} {cl : List vw_C} {ws : va_W} {tys : List (ClassId × FieldType)} {a : Nat} (hexec : p.tables.exec = Jvm.exec) (hb : c.code = cc) (hK : va_K D cl tys s) (hP : va_P D cl ws H) (q0 t0 : Nat) {cA : ClassId} {n : Nat} {f : Nat → Int64} (ha : ws[q0]? = some (a, .inl (cA, n, .inr (.inl f)))) (ht : tys[t0]? = some (cA, .long)) {i : Int32} (hout : ¬ vp_in i n) (hdg : decode cc pc = .ok (.laload, 1))
    (k : ∀ tx : String, tx = (toString "Index " ++ toString i ++ toString " out of bounds for length " ++ toString n : String) → vx_Note p l e R s m args below meth c H locs cells slots Q (F0 m pc ls rest) "java/lang/ArrayIndexOutOfBoundsException" tx) : W p l e R s m args below meth c H locs cells slots Q (F0 m pc ls (.int i :: .ref a :: rest)) := by
  intro T hT X
  obtain ⟨t, st, q⟩ := k _ rfl T hT X
  refine ⟨t, ?_, q⟩
  have h1 := X.laloadOut hexec (by rw [hT]; exact hP q0 _ ha) ((hK.2 t0 _ ht).1 n (fun j => .long (f j))) (j := i) (by show (i < 0 ∨ (arrV _ _ _).slots.size ≤ _); rw [arrV_size]; exact Classical.byContradiction hout) (g := F0 m pc ls (.int i :: .ref a :: rest)) rfl (rest := rest) rfl (by rw [hb]; exact hdg) t
  simp only [arrV_size] at h1
  exact h1 st
theorem vx_lastZ {D : va_G} {cl : List vw_C} {ws : va_W} {tys : List (ClassId × FieldType)} {a : Nat} (hexec : p.tables.exec = Jvm.exec) (hb : c.code = cc) (hK : va_K D cl tys s) (hP : va_P D cl ws H) (q0 t0 : Nat) {cA : ClassId} {n : Nat} {f : Nat → Int64} (ha : ws[q0]? = some (a, .inl (cA, n, .inr (.inl f)))) (ht : tys[t0]? = some (cA, .long)) {i : Int32} {x : Int64} (hout : ¬ vp_in i n) (hdg : decode cc pc = .ok (.lastore, 1))
    (k : ∀ tx : String, tx = (toString "Index " ++ toString i ++ toString " out of bounds for length " ++ toString n : String) → vx_Note p l e R s m args below meth c H locs cells slots Q (F0 m pc ls rest) "java/lang/ArrayIndexOutOfBoundsException" tx) : W p l e R s m args below meth c H locs cells slots Q (F0 m pc ls (.long x :: .int i :: .ref a :: rest)) := by
  intro T hT X
  obtain ⟨t, st, q⟩ := k _ rfl T hT X
  refine ⟨t, ?_, q⟩
  have h1 := X.lastoreOut hexec (by rw [hT]; exact hP q0 _ ha) ((hK.2 t0 _ ht).1 n (fun j => .long (f j))) (j := i) (by show (i < 0 ∨ (arrV _ _ _).slots.size ≤ _); rw [arrV_size]; exact Classical.byContradiction hout) (g := F0 m pc ls (.long x :: .int i :: .ref a :: rest)) rfl (rest := rest) rfl (by rw [hb]; exact hdg) t
  simp only [arrV_size] at h1
  exact h1 st
theorem vx_faldZ {D : va_G} {cl : List vw_C} {ws : va_W} {tys : List (ClassId × FieldType)} {a : Nat} (hexec : p.tables.exec = Jvm.exec) (hb : c.code = cc) (hK : va_K D cl tys s) (hP : va_P D cl ws H) (q0 t0 : Nat) {cA : ClassId} {n : Nat} {f : Nat → UInt32} (ha : ws[q0]? = some (a, .inl (cA, n, .inr (.inr (.inl f))))) (ht : tys[t0]? = some (cA, .float)) {i : Int32} (hout : ¬ vp_in i n) (hdg : decode cc pc = .ok (.faload, 1))
    (k : ∀ tx : String, tx = (toString "Index " ++ toString i ++ toString " out of bounds for length " ++ toString n : String) → vx_Note p l e R s m args below meth c H locs cells slots Q (F0 m pc ls rest) "java/lang/ArrayIndexOutOfBoundsException" tx) : W p l e R s m args below meth c H locs cells slots Q (F0 m pc ls (.int i :: .ref a :: rest)) := by
  intro T hT X
  obtain ⟨t, st, q⟩ := k _ rfl T hT X
  refine ⟨t, ?_, q⟩
  have h1 := X.faloadOut hexec (by rw [hT]; exact hP q0 _ ha) ((hK.2 t0 _ ht).1 n (fun j => .float (f j))) (j := i) (by show (i < 0 ∨ (arrV _ _ _).slots.size ≤ _); rw [arrV_size]; exact Classical.byContradiction hout) (g := F0 m pc ls (.int i :: .ref a :: rest)) rfl (rest := rest) rfl (by rw [hb]; exact hdg) t
  simp only [arrV_size] at h1
  exact h1 st
theorem vx_fastZ {D : va_G} {cl : List vw_C} {ws : va_W} {tys : List (ClassId × FieldType)} {a : Nat} (hexec : p.tables.exec = Jvm.exec) (hb : c.code = cc) (hK : va_K D cl tys s) (hP : va_P D cl ws H) (q0 t0 : Nat) {cA : ClassId} {n : Nat} {f : Nat → UInt32} (ha : ws[q0]? = some (a, .inl (cA, n, .inr (.inr (.inl f))))) (ht : tys[t0]? = some (cA, .float)) {i : Int32} {x : UInt32} (hout : ¬ vp_in i n) (hdg : decode cc pc = .ok (.fastore, 1))
    (k : ∀ tx : String, tx = (toString "Index " ++ toString i ++ toString " out of bounds for length " ++ toString n : String) → vx_Note p l e R s m args below meth c H locs cells slots Q (F0 m pc ls rest) "java/lang/ArrayIndexOutOfBoundsException" tx) : W p l e R s m args below meth c H locs cells slots Q (F0 m pc ls (.float x :: .int i :: .ref a :: rest)) := by
  intro T hT X
  obtain ⟨t, st, q⟩ := k _ rfl T hT X
  refine ⟨t, ?_, q⟩
  have h1 := X.fastoreOut hexec (by rw [hT]; exact hP q0 _ ha) ((hK.2 t0 _ ht).1 n (fun j => .float (f j))) (j := i) (by show (i < 0 ∨ (arrV _ _ _).slots.size ≤ _); rw [arrV_size]; exact Classical.byContradiction hout) (g := F0 m pc ls (.float x :: .int i :: .ref a :: rest)) rfl (rest := rest) rfl (by rw [hb]; exact hdg) t
  simp only [arrV_size] at h1
  exact h1 st
theorem vx_daldZ {D : va_G} {cl : List vw_C} {ws : va_W} {tys : List (ClassId × FieldType)} {a : Nat} (hexec : p.tables.exec = Jvm.exec) (hb : c.code = cc) (hK : va_K D cl tys s) (hP : va_P D cl ws H) (q0 t0 : Nat) {cA : ClassId} {n : Nat} {f : Nat → UInt64} (ha : ws[q0]? = some (a, .inl (cA, n, .inr (.inr (.inr (.inl f)))))) (ht : tys[t0]? = some (cA, .double)) {i : Int32} (hout : ¬ vp_in i n) (hdg : decode cc pc = .ok (.daload, 1))
    (k : ∀ tx : String, tx = (toString "Index " ++ toString i ++ toString " out of bounds for length " ++ toString n : String) → vx_Note p l e R s m args below meth c H locs cells slots Q (F0 m pc ls rest) "java/lang/ArrayIndexOutOfBoundsException" tx) : W p l e R s m args below meth c H locs cells slots Q (F0 m pc ls (.int i :: .ref a :: rest)) := by
  intro T hT X
  obtain ⟨t, st, q⟩ := k _ rfl T hT X
  refine ⟨t, ?_, q⟩
  have h1 := X.daloadOut hexec (by rw [hT]; exact hP q0 _ ha) ((hK.2 t0 _ ht).1 n (fun j => .double (f j))) (j := i) (by show (i < 0 ∨ (arrV _ _ _).slots.size ≤ _); rw [arrV_size]; exact Classical.byContradiction hout) (g := F0 m pc ls (.int i :: .ref a :: rest)) rfl (rest := rest) rfl (by rw [hb]; exact hdg) t
  simp only [arrV_size] at h1
  exact h1 st
theorem vx_dastZ {D : va_G} {cl : List vw_C} {ws : va_W} {tys : List (ClassId × FieldType)} {a : Nat} (hexec : p.tables.exec = Jvm.exec) (hb : c.code = cc) (hK : va_K D cl tys s) (hP : va_P D cl ws H) (q0 t0 : Nat) {cA : ClassId} {n : Nat} {f : Nat → UInt64} (ha : ws[q0]? = some (a, .inl (cA, n, .inr (.inr (.inr (.inl f)))))) (ht : tys[t0]? = some (cA, .double)) {i : Int32} {x : UInt64} (hout : ¬ vp_in i n) (hdg : decode cc pc = .ok (.dastore, 1))
    (k : ∀ tx : String, tx = (toString "Index " ++ toString i ++ toString " out of bounds for length " ++ toString n : String) → vx_Note p l e R s m args below meth c H locs cells slots Q (F0 m pc ls rest) "java/lang/ArrayIndexOutOfBoundsException" tx) : W p l e R s m args below meth c H locs cells slots Q (F0 m pc ls (.double x :: .int i :: .ref a :: rest)) := by
  intro T hT X
  obtain ⟨t, st, q⟩ := k _ rfl T hT X
  refine ⟨t, ?_, q⟩
  have h1 := X.dastoreOut hexec (by rw [hT]; exact hP q0 _ ha) ((hK.2 t0 _ ht).1 n (fun j => .double (f j))) (j := i) (by show (i < 0 ∨ (arrV _ _ _).slots.size ≤ _); rw [arrV_size]; exact Classical.byContradiction hout) (g := F0 m pc ls (.double x :: .int i :: .ref a :: rest)) rfl (rest := rest) rfl (by rw [hb]; exact hdg) t
  simp only [arrV_size] at h1
  exact h1 st
theorem vx_arraylengthN (hexec : p.tables.exec = Jvm.exec) (hb : c.code = cc) (hdg : decode cc pc = .ok (.arraylength, 1)) (k : vx_NoteN p l e R s m args below meth c H locs cells slots Q (F0 m pc ls rest)) : W p l e R s m args below meth c H locs cells slots Q (F0 m pc ls (.null :: rest)) := by
  intro T hT X
  obtain ⟨t, st, q⟩ := k T hT X
  exact ⟨t, X.arraylengthNull hexec (g := F0 m pc ls (.null :: rest)) rfl (rest := rest) rfl (by rw [hb]; exact hdg) t st, q⟩
theorem vx_ialoadN (hexec : p.tables.exec = Jvm.exec) (hb : c.code = cc) {i : Int32} (hdg : decode cc pc = .ok (.iaload, 1)) (k : vx_NoteN p l e R s m args below meth c H locs cells slots Q (F0 m pc ls rest)) : W p l e R s m args below meth c H locs cells slots Q (F0 m pc ls (.int i :: .null :: rest)) := by
  intro T hT X
  obtain ⟨t, st, q⟩ := k T hT X
  exact ⟨t, X.ialoadNull hexec (g := F0 m pc ls (.int i :: .null :: rest)) rfl (rest := rest) rfl (by rw [hb]; exact hdg) t st, q⟩
theorem vx_laloadN (hexec : p.tables.exec = Jvm.exec) (hb : c.code = cc) {i : Int32} (hdg : decode cc pc = .ok (.laload, 1)) (k : vx_NoteN p l e R s m args below meth c H locs cells slots Q (F0 m pc ls rest)) : W p l e R s m args below meth c H locs cells slots Q (F0 m pc ls (.int i :: .null :: rest)) := by
  intro T hT X
  obtain ⟨t, st, q⟩ := k T hT X
  exact ⟨t, X.laloadNull hexec (g := F0 m pc ls (.int i :: .null :: rest)) rfl (rest := rest) rfl (by rw [hb]; exact hdg) t st, q⟩
theorem vx_faloadN (hexec : p.tables.exec = Jvm.exec) (hb : c.code = cc) {i : Int32} (hdg : decode cc pc = .ok (.faload, 1)) (k : vx_NoteN p l e R s m args below meth c H locs cells slots Q (F0 m pc ls rest)) : W p l e R s m args below meth c H locs cells slots Q (F0 m pc ls (.int i :: .null :: rest)) := by
  intro T hT X
  obtain ⟨t, st, q⟩ := k T hT X
  exact ⟨t, X.faloadNull hexec (g := F0 m pc ls (.int i :: .null :: rest)) rfl (rest := rest) rfl (by rw [hb]; exact hdg) t st, q⟩
theorem vx_daloadN (hexec : p.tables.exec = Jvm.exec) (hb : c.code = cc) {i : Int32} (hdg : decode cc pc = .ok (.daload, 1)) (k : vx_NoteN p l e R s m args below meth c H locs cells slots Q (F0 m pc ls rest)) : W p l e R s m args below meth c H locs cells slots Q (F0 m pc ls (.int i :: .null :: rest)) := by
  intro T hT X
  obtain ⟨t, st, q⟩ := k T hT X
  exact ⟨t, X.daloadNull hexec (g := F0 m pc ls (.int i :: .null :: rest)) rfl (rest := rest) rfl (by rw [hb]; exact hdg) t st, q⟩
theorem vx_aaloadN (hexec : p.tables.exec = Jvm.exec) (hb : c.code = cc) {i : Int32} (hdg : decode cc pc = .ok (.aaload, 1)) (k : vx_NoteN p l e R s m args below meth c H locs cells slots Q (F0 m pc ls rest)) : W p l e R s m args below meth c H locs cells slots Q (F0 m pc ls (.int i :: .null :: rest)) := by
  intro T hT X
  obtain ⟨t, st, q⟩ := k T hT X
  exact ⟨t, X.aaloadNull hexec (g := F0 m pc ls (.int i :: .null :: rest)) rfl (rest := rest) rfl (by rw [hb]; exact hdg) t st, q⟩
theorem vx_baloadN (hexec : p.tables.exec = Jvm.exec) (hb : c.code = cc) {i : Int32} (hdg : decode cc pc = .ok (.baload, 1)) (k : vx_NoteN p l e R s m args below meth c H locs cells slots Q (F0 m pc ls rest)) : W p l e R s m args below meth c H locs cells slots Q (F0 m pc ls (.int i :: .null :: rest)) := by
  intro T hT X
  obtain ⟨t, st, q⟩ := k T hT X
  exact ⟨t, X.baloadNull hexec (g := F0 m pc ls (.int i :: .null :: rest)) rfl (rest := rest) rfl (by rw [hb]; exact hdg) t st, q⟩
theorem vx_caloadN (hexec : p.tables.exec = Jvm.exec) (hb : c.code = cc) {i : Int32} (hdg : decode cc pc = .ok (.caload, 1)) (k : vx_NoteN p l e R s m args below meth c H locs cells slots Q (F0 m pc ls rest)) : W p l e R s m args below meth c H locs cells slots Q (F0 m pc ls (.int i :: .null :: rest)) := by
  intro T hT X
  obtain ⟨t, st, q⟩ := k T hT X
  exact ⟨t, X.caloadNull hexec (g := F0 m pc ls (.int i :: .null :: rest)) rfl (rest := rest) rfl (by rw [hb]; exact hdg) t st, q⟩
theorem vx_saloadN (hexec : p.tables.exec = Jvm.exec) (hb : c.code = cc) {i : Int32} (hdg : decode cc pc = .ok (.saload, 1)) (k : vx_NoteN p l e R s m args below meth c H locs cells slots Q (F0 m pc ls rest)) : W p l e R s m args below meth c H locs cells slots Q (F0 m pc ls (.int i :: .null :: rest)) := by
  intro T hT X
  obtain ⟨t, st, q⟩ := k T hT X
  exact ⟨t, X.saloadNull hexec (g := F0 m pc ls (.int i :: .null :: rest)) rfl (rest := rest) rfl (by rw [hb]; exact hdg) t st, q⟩
theorem vx_iastoreN (hexec : p.tables.exec = Jvm.exec) (hb : c.code = cc) {x : Int32} {i : Int32} (hdg : decode cc pc = .ok (.iastore, 1)) (k : vx_NoteN p l e R s m args below meth c H locs cells slots Q (F0 m pc ls rest)) : W p l e R s m args below meth c H locs cells slots Q (F0 m pc ls (.int x :: .int i :: .null :: rest)) := by
  intro T hT X
  obtain ⟨t, st, q⟩ := k T hT X
  exact ⟨t, X.iastoreNull hexec (g := F0 m pc ls (.int x :: .int i :: .null :: rest)) rfl (rest := rest) rfl (by rw [hb]; exact hdg) t st, q⟩
theorem vx_lastoreN (hexec : p.tables.exec = Jvm.exec) (hb : c.code = cc) {x : Int64} {i : Int32} (hdg : decode cc pc = .ok (.lastore, 1)) (k : vx_NoteN p l e R s m args below meth c H locs cells slots Q (F0 m pc ls rest)) : W p l e R s m args below meth c H locs cells slots Q (F0 m pc ls (.long x :: .int i :: .null :: rest)) := by
  intro T hT X
  obtain ⟨t, st, q⟩ := k T hT X
  exact ⟨t, X.lastoreNull hexec (g := F0 m pc ls (.long x :: .int i :: .null :: rest)) rfl (rest := rest) rfl (by rw [hb]; exact hdg) t st, q⟩
theorem vx_fastoreN (hexec : p.tables.exec = Jvm.exec) (hb : c.code = cc) {x : UInt32} {i : Int32} (hdg : decode cc pc = .ok (.fastore, 1)) (k : vx_NoteN p l e R s m args below meth c H locs cells slots Q (F0 m pc ls rest)) : W p l e R s m args below meth c H locs cells slots Q (F0 m pc ls (.float x :: .int i :: .null :: rest)) := by
  intro T hT X
  obtain ⟨t, st, q⟩ := k T hT X
  exact ⟨t, X.fastoreNull hexec (g := F0 m pc ls (.float x :: .int i :: .null :: rest)) rfl (rest := rest) rfl (by rw [hb]; exact hdg) t st, q⟩
theorem vx_dastoreN (hexec : p.tables.exec = Jvm.exec) (hb : c.code = cc) {x : UInt64} {i : Int32} (hdg : decode cc pc = .ok (.dastore, 1)) (k : vx_NoteN p l e R s m args below meth c H locs cells slots Q (F0 m pc ls rest)) : W p l e R s m args below meth c H locs cells slots Q (F0 m pc ls (.double x :: .int i :: .null :: rest)) := by
  intro T hT X
  obtain ⟨t, st, q⟩ := k T hT X
  exact ⟨t, X.dastoreNull hexec (g := F0 m pc ls (.double x :: .int i :: .null :: rest)) rfl (rest := rest) rfl (by rw [hb]; exact hdg) t st, q⟩
theorem vx_bastoreN (hexec : p.tables.exec = Jvm.exec) (hb : c.code = cc) {x : Int32} {i : Int32} (hdg : decode cc pc = .ok (.bastore, 1)) (k : vx_NoteN p l e R s m args below meth c H locs cells slots Q (F0 m pc ls rest)) : W p l e R s m args below meth c H locs cells slots Q (F0 m pc ls (.int x :: .int i :: .null :: rest)) := by
  intro T hT X
  obtain ⟨t, st, q⟩ := k T hT X
  exact ⟨t, X.bastoreNull hexec (g := F0 m pc ls (.int x :: .int i :: .null :: rest)) rfl (rest := rest) rfl (by rw [hb]; exact hdg) t st, q⟩
theorem vx_castoreN (hexec : p.tables.exec = Jvm.exec) (hb : c.code = cc) {x : Int32} {i : Int32} (hdg : decode cc pc = .ok (.castore, 1)) (k : vx_NoteN p l e R s m args below meth c H locs cells slots Q (F0 m pc ls rest)) : W p l e R s m args below meth c H locs cells slots Q (F0 m pc ls (.int x :: .int i :: .null :: rest)) := by
  intro T hT X
  obtain ⟨t, st, q⟩ := k T hT X
  exact ⟨t, X.castoreNull hexec (g := F0 m pc ls (.int x :: .int i :: .null :: rest)) rfl (rest := rest) rfl (by rw [hb]; exact hdg) t st, q⟩
theorem vx_sastoreN (hexec : p.tables.exec = Jvm.exec) (hb : c.code = cc) {x : Int32} {i : Int32} (hdg : decode cc pc = .ok (.sastore, 1)) (k : vx_NoteN p l e R s m args below meth c H locs cells slots Q (F0 m pc ls rest)) : W p l e R s m args below meth c H locs cells slots Q (F0 m pc ls (.int x :: .int i :: .null :: rest)) := by
  intro T hT X
  obtain ⟨t, st, q⟩ := k T hT X
  exact ⟨t, X.sastoreNull hexec (g := F0 m pc ls (.int x :: .int i :: .null :: rest)) rfl (rest := rest) rfl (by rw [hb]; exact hdg) t st, q⟩
theorem vx_invokeN {own C : String} {index maxL : Nat} {y : MethodName} {bytes : ByteArray} {ret : Option FieldType} (hexec : p.tables.exec = Jvm.exec) (hb : c.code = cc) (hown : s.vm.findClass own = some m.cls) (hlink : (Cond.methodLink own index y).before args s = true) (hinst : (Cond.instanceMethod y).before args s = true) (hcode : (Cond.code y bytes maxL ret).before args s = true) (hsel : (Cond.selects C y y).before args s = true)
    (hx : y.cls ≠ "java/lang/invoke/MethodHandle" ∧ y.cls ≠ "java/lang/invoke/VarHandle") {As : List Value} (hlen : (parseMethodDescriptor y.desc).map (fun d => d.parameters.length) = some As.length) (hdg : decode cc pc = .ok (.invokevirtual index, 3))
    (k : vx_NoteN p l e R s m args below meth c H locs cells slots Q (F0 m pc ls rest)) {st0 : List Value} (hst : st0 = As.reverse ++ .null :: rest) : W p l e R s m args below meth c H locs cells slots Q (F0 m pc ls st0) := by
  intro T hT X
  obtain ⟨r0, r, hn, hrm, hstR, hsigR⟩ := va_Decl.of hinst hcode
  obtain ⟨c2, r2, m2, q1, q2, q3, q4, kP, hkP, hkPi⟩ := Cond.selects_spec hsel
  cases hn.symm.trans q3
  have hl9 : As.length = r.sig.parameters.length := by
    rw [hsigR] at hlen
    exact (Option.some.inj hlen).symm
  obtain ⟨vm', X1, st1⟩ := X.invokevirtualNull hexec hown hlink hn hrm hstR hkP hkPi hx (g := F0 m pc ls st0) rfl (argsL := As) (rest := rest) hl9 hst (by rw [hb]; exact hdg)
  obtain ⟨t, st, q⟩ := k (T.setVm vm') hT X1
  exact ⟨t, st1 t st, q⟩
theorem vx_newarrayZ {atype : ArrayType} (hexec : p.tables.exec = Jvm.exec) (hb : c.code = cc) {n : Int32} (h0 : n < 0) (hdg : decode cc pc = .ok (.newarray atype, 2)) (k : ∀ tx : String, tx = toString n → vx_Note p l e R s m args below meth c H locs cells slots Q (F0 m pc ls rest) "java/lang/NegativeArraySizeException" tx) : W p l e R s m args below meth c H locs cells slots Q (F0 m pc ls (.int n :: rest)) := by
  intro T hT X
  obtain ⟨t, st, q⟩ := k _ rfl T hT X
  exact ⟨t, X.newarrayNegative hexec (g := F0 m pc ls (.int n :: rest)) rfl h0 (rest := rest) rfl (by rw [hb]; exact hdg) t st, q⟩
end
end VXM
/-! ===== END ===== -/
end
section
def RX0 : String := "SnapshotArena$BlockStore"
def TX0 : u_T := fun k => match k with
  | 0 => ("SnapshotArena$BlockStore", "kept", "[I", true)
  | _ => ("SnapshotArena$BlockStore", "uses", "[I", true)
def tyX0 : Nat → FieldType := fun k => match k with
  | 0 => .array .int
  | _ => .array .int
abbrev wsX00 : List Cond := u_ws RX0 TX0 2
theorem nmX0 : ∀ a, a < 2 → ∀ b, b < 2 → a ≠ b → (TX0 a).2.1 ≠ (TX0 b).2.1 := by decide +kernel
theorem tyX0_ok : ∀ k, k < 2 → parseFieldDescriptor (TX0 k).2.2.1 = some (tyX0 k) := by decide +kernel
abbrev cX0_init : ByteArray := prog_2_method_1_code
def yX0_init : MethodName := ⟨RX0, "<init>", "()V"⟩
abbrev cX0_keepBlock : ByteArray := prog_2_method_2_code
def yX0_keepBlock : MethodName := ⟨RX0, "keepBlock", "([II)I"⟩
abbrev cX0_dropBlock : ByteArray := prog_2_method_3_code
def yX0_dropBlock : MethodName := ⟨RX0, "dropBlock", "(I)V"⟩
abbrev cX0_numberIn : ByteArray := prog_2_method_4_code
def yX0_numberIn : MethodName := ⟨RX0, "numberIn", "(II)I"⟩
abbrev cX0_countKept : ByteArray := prog_2_method_5_code
def yX0_countKept : MethodName := ⟨RX0, "countKept", "()I"⟩
abbrev cX0_isAs : ByteArray := prog_2_method_6_code
def yX0_isAs : MethodName := ⟨RX0, "isAs", "(I[II)Z"⟩
def RX1 : String := "SnapshotArena$Card"
def TX1 : u_T := fun k => match k with
  | 0 => ("SnapshotArena$Card", "number", "I", true)
  | 1 => ("SnapshotArena$Card", "kind", "I", true)
  | 2 => ("SnapshotArena$Card", "owner", "I", false)
  | 3 => ("SnapshotArena$Card", "state", "C", false)
  | 4 => ("SnapshotArena$Card", "offered", "Z", false)
  | _ => ("SnapshotArena$Card", "duel", "I", false)
def tyX1 : Nat → FieldType := fun k => match k with
  | 0 => .int
  | 1 => .int
  | 2 => .int
  | 3 => .char
  | 4 => .boolean
  | _ => .int
abbrev wsX10 : List Cond := u_ws RX1 TX1 6
theorem nmX1 : ∀ a, a < 6 → ∀ b, b < 6 → a ≠ b → (TX1 a).2.1 ≠ (TX1 b).2.1 := by decide +kernel
theorem tyX1_ok : ∀ k, k < 6 → parseFieldDescriptor (TX1 k).2.2.1 = some (tyX1 k) := by decide +kernel
abbrev cX1_init : ByteArray := prog_3_method_1_code
def yX1_init : MethodName := ⟨RX1, "<init>", "(III)V"⟩
abbrev cX1_effect : ByteArray := prog_3_method_2_code
def yX1_effect : MethodName := ⟨RX1, "effect", "()I"⟩
abbrev cX1_power : ByteArray := prog_3_method_3_code
def yX1_power : MethodName := ⟨RX1, "power", "()I"⟩
abbrev cX1_cost : ByteArray := prog_3_method_4_code
def yX1_cost : MethodName := ⟨RX1, "cost", "()I"⟩
def RX2 : String := "SnapshotArena$Duel"
def TX2 : u_T := fun k => match k with
  | 0 => ("SnapshotArena$Duel", "first", "LSnapshotArena$Side;", true)
  | 1 => ("SnapshotArena$Duel", "second", "LSnapshotArena$Side;", true)
  | 2 => ("SnapshotArena$Duel", "state", "C", false)
  | 3 => ("SnapshotArena$Duel", "winner", "I", false)
  | 4 => ("SnapshotArena$Duel", "mana", "I", false)
  | 5 => ("SnapshotArena$Duel", "turns", "I", false)
  | 6 => ("SnapshotArena$Duel", "stack", "[I", true)
  | 7 => ("SnapshotArena$Duel", "depth", "I", false)
  | 8 => ("SnapshotArena$Duel", "snapshotCount", "I", false)
  | 9 => ("SnapshotArena$Duel", "keptBlocks", "[[I", true)
  | _ => ("SnapshotArena$Duel", "keptStacks", "[[I", true)
def tyX2 : Nat → FieldType := fun k => match k with
  | 0 => .object "SnapshotArena$Side"
  | 1 => .object "SnapshotArena$Side"
  | 2 => .char
  | 3 => .int
  | 4 => .int
  | 5 => .int
  | 6 => .array .int
  | 7 => .int
  | 8 => .int
  | 9 => .array (.array .int)
  | _ => .array (.array .int)
abbrev wsX20 : List Cond := u_ws RX2 TX2 11
theorem nmX2 : ∀ a, a < 11 → ∀ b, b < 11 → a ≠ b → (TX2 a).2.1 ≠ (TX2 b).2.1 := by decide +kernel
theorem tyX2_ok : ∀ k, k < 11 → parseFieldDescriptor (TX2 k).2.2.1 = some (tyX2 k) := by decide +kernel
abbrev cX2_init : ByteArray := prog_4_method_1_code
def yX2_init : MethodName := ⟨RX2, "<init>", "(II)V"⟩
abbrev cX2_hasNotEnded : ByteArray := prog_4_method_2_code
def yX2_hasNotEnded : MethodName := ⟨RX2, "hasNotEnded", "()Z"⟩
abbrev cX2_isOf : ByteArray := prog_4_method_3_code
def yX2_isOf : MethodName := ⟨RX2, "isOf", "(I)Z"⟩
abbrev cX2_sideOf : ByteArray := prog_4_method_4_code
def yX2_sideOf : MethodName := ⟨RX2, "sideOf", "(I)LSnapshotArena$Side;"⟩
abbrev cX2_countStaked : ByteArray := prog_4_method_5_code
def yX2_countStaked : MethodName := ⟨RX2, "countStaked", "()I"⟩
abbrev cX2_numberOnTurn : ByteArray := prog_4_method_6_code
def yX2_numberOnTurn : MethodName := ⟨RX2, "numberOnTurn", "()I"⟩
abbrev cX2_sideOnTurn : ByteArray := prog_4_method_7_code
def yX2_sideOnTurn : MethodName := ⟨RX2, "sideOnTurn", "()LSnapshotArena$Side;"⟩
abbrev cX2_putOnStack : ByteArray := prog_4_method_8_code
def yX2_putOnStack : MethodName := ⟨RX2, "putOnStack", "(LSnapshotArena$Card;I)V"⟩
abbrev cX2_doStack : ByteArray := prog_4_method_9_code
def yX2_doStack : MethodName := ⟨RX2, "doStack", "()V"⟩
abbrev cX2_hurtOtherOf : ByteArray := prog_4_method_10_code
def yX2_hurtOtherOf : MethodName := ⟨RX2, "hurtOtherOf", "(II)V"⟩
abbrev cX2_healOwn : ByteArray := prog_4_method_11_code
def yX2_healOwn : MethodName := ⟨RX2, "healOwn", "(II)V"⟩
abbrev cX2_end : ByteArray := prog_4_method_12_code
def yX2_end : MethodName := ⟨RX2, "end", "(I)V"⟩
abbrev cX2_passTurn : ByteArray := prog_4_method_13_code
def yX2_passTurn : MethodName := ⟨RX2, "passTurn", "()V"⟩
abbrev cX2_playerWithMoreLife : ByteArray := prog_4_method_14_code
def yX2_playerWithMoreLife : MethodName := ⟨RX2, "playerWithMoreLife", "()I"⟩
abbrev cX2_writeState : ByteArray := prog_4_method_15_code
def yX2_writeState : MethodName := ⟨RX2, "writeState", "([I)V"⟩
abbrev cX2_resume : ByteArray := prog_4_method_16_code
def yX2_resume : MethodName := ⟨RX2, "resume", "(I[I)V"⟩
abbrev cX2_keep : ByteArray := prog_4_method_17_code
def yX2_keep : MethodName := ⟨RX2, "keep", "([ILSnapshotArena$BlockStore;)V"⟩
abbrev cX2_keptNumber : ByteArray := prog_4_method_18_code
def yX2_keptNumber : MethodName := ⟨RX2, "keptNumber", "(IILSnapshotArena$BlockStore;)I"⟩
abbrev cX2_forgetLaterThan : ByteArray := prog_4_method_19_code
def yX2_forgetLaterThan : MethodName := ⟨RX2, "forgetLaterThan", "(ILSnapshotArena$BlockStore;)V"⟩
def RX3 : String := "SnapshotArena$Ledger"
def TX3 : u_T := fun k => match k with
  | 0 => ("SnapshotArena$Ledger", "rows", "[I", false)
  | _ => ("SnapshotArena$Ledger", "count", "I", false)
def tyX3 : Nat → FieldType := fun k => match k with
  | 0 => .array .int
  | _ => .int
abbrev wsX30 : List Cond := u_ws RX3 TX3 2
theorem nmX3 : ∀ a, a < 2 → ∀ b, b < 2 → a ≠ b → (TX3 a).2.1 ≠ (TX3 b).2.1 := by decide +kernel
theorem tyX3_ok : ∀ k, k < 2 → parseFieldDescriptor (TX3 k).2.2.1 = some (tyX3 k) := by decide +kernel
abbrev cX3_init : ByteArray := prog_5_method_1_code
def yX3_init : MethodName := ⟨RX3, "<init>", "()V"⟩
abbrev cX3_enter : ByteArray := prog_5_method_2_code
def yX3_enter : MethodName := ⟨RX3, "enter", "(III)V"⟩
abbrev cX3_cardIn : ByteArray := prog_5_method_3_code
def yX3_cardIn : MethodName := ⟨RX3, "cardIn", "(I)I"⟩
abbrev cX3_giverIn : ByteArray := prog_5_method_4_code
def yX3_giverIn : MethodName := ⟨RX3, "giverIn", "(I)I"⟩
abbrev cX3_takerIn : ByteArray := prog_5_method_5_code
def yX3_takerIn : MethodName := ⟨RX3, "takerIn", "(I)I"⟩
abbrev cX3_numberAt : ByteArray := prog_5_method_6_code
def yX3_numberAt : MethodName := ⟨RX3, "numberAt", "(I)I"⟩
abbrev cX3_lastHolder : ByteArray := prog_5_method_7_code
def yX3_lastHolder : MethodName := ⟨RX3, "lastHolder", "(I)I"⟩
def RX4 : String := "SnapshotArena$Offer"
def TX4 : u_T := fun k => match k with
  | 0 => ("SnapshotArena$Offer", "card", "LSnapshotArena$Card;", true)
  | 1 => ("SnapshotArena$Offer", "price", "I", true)
  | 2 => ("SnapshotArena$Offer", "seller", "I", true)
  | 3 => ("SnapshotArena$Offer", "buyer", "I", false)
  | 4 => ("SnapshotArena$Offer", "state", "C", false)
  | _ => ("SnapshotArena$Offer", "duelToWaitFor", "I", false)
def tyX4 : Nat → FieldType := fun k => match k with
  | 0 => .object "SnapshotArena$Card"
  | 1 => .int
  | 2 => .int
  | 3 => .int
  | 4 => .char
  | _ => .int
abbrev wsX40 : List Cond := u_ws RX4 TX4 6
theorem nmX4 : ∀ a, a < 6 → ∀ b, b < 6 → a ≠ b → (TX4 a).2.1 ≠ (TX4 b).2.1 := by decide +kernel
theorem tyX4_ok : ∀ k, k < 6 → parseFieldDescriptor (TX4 k).2.2.1 = some (tyX4 k) := by decide +kernel
abbrev cX4_init : ByteArray := prog_6_method_1_code
def yX4_init : MethodName := ⟨RX4, "<init>", "(LSnapshotArena$Card;I)V"⟩
def RX5 : String := "SnapshotArena$Side"
def TX5 : u_T := fun k => match k with
  | 0 => ("SnapshotArena$Side", "player", "I", true)
  | 1 => ("SnapshotArena$Side", "life", "I", false)
  | 2 => ("SnapshotArena$Side", "staked", "Ljava/util/ArrayList;", true)
  | _ => ("SnapshotArena$Side", "played", "[I", true)
def tyX5 : Nat → FieldType := fun k => match k with
  | 0 => .int
  | 1 => .int
  | 2 => .object "java/util/ArrayList"
  | _ => .array .int
abbrev wsX50 : List Cond := u_ws RX5 TX5 4
theorem nmX5 : ∀ a, a < 4 → ∀ b, b < 4 → a ≠ b → (TX5 a).2.1 ≠ (TX5 b).2.1 := by decide +kernel
theorem tyX5_ok : ∀ k, k < 4 → parseFieldDescriptor (TX5 k).2.2.1 = some (tyX5 k) := by decide +kernel
abbrev cX5_init : ByteArray := prog_7_method_1_code
def yX5_init : MethodName := ⟨RX5, "<init>", "(I)V"⟩
abbrev cX5_placeOfUnplayed : ByteArray := prog_7_method_2_code
def yX5_placeOfUnplayed : MethodName := ⟨RX5, "placeOfUnplayed", "(LSnapshotArena$Card;)I"⟩
abbrev cX5_hasPlayedAll : ByteArray := prog_7_method_3_code
def yX5_hasPlayedAll : MethodName := ⟨RX5, "hasPlayedAll", "()Z"⟩
def RX6 : String := "SnapshotArena"
def TX6 : u_T := fun k => match k with
  | 0 => ("SnapshotArena", "coins", "[I", true)
  | 1 => ("SnapshotArena", "playerCount", "I", false)
  | 2 => ("SnapshotArena", "coinsBegunWith", "I", false)
  | 3 => ("SnapshotArena", "houseCoins", "I", false)
  | 4 => ("SnapshotArena", "coinsApart", "I", false)
  | 5 => ("SnapshotArena", "cards", "Ljava/util/ArrayList;", true)
  | 6 => ("SnapshotArena", "duels", "Ljava/util/ArrayList;", true)
  | 7 => ("SnapshotArena", "offers", "Ljava/util/ArrayList;", true)
  | 8 => ("SnapshotArena", "sales", "Ljava/util/ArrayList;", true)
  | 9 => ("SnapshotArena", "ledger", "LSnapshotArena$Ledger;", true)
  | 10 => ("SnapshotArena", "store", "LSnapshotArena$BlockStore;", true)
  | _ => ("SnapshotArena", "numbers", "[I", true)
def tyX6 : Nat → FieldType := fun k => match k with
  | 0 => .array .int
  | 1 => .int
  | 2 => .int
  | 3 => .int
  | 4 => .int
  | 5 => .object "java/util/ArrayList"
  | 6 => .object "java/util/ArrayList"
  | 7 => .object "java/util/ArrayList"
  | 8 => .object "java/util/ArrayList"
  | 9 => .object "SnapshotArena$Ledger"
  | 10 => .object "SnapshotArena$BlockStore"
  | _ => .array .int
abbrev wsX60 : List Cond := u_ws RX6 TX6 12
theorem nmX6 : ∀ a, a < 12 → ∀ b, b < 12 → a ≠ b → (TX6 a).2.1 ≠ (TX6 b).2.1 := by decide +kernel
theorem tyX6_ok : ∀ k, k < 12 → parseFieldDescriptor (TX6 k).2.2.1 = some (tyX6 k) := by decide +kernel
abbrev cX6_init : ByteArray := prog_1_method_1_code
def yX6_init : MethodName := ⟨RX6, "<init>", "()V"⟩
abbrev cX6_player : ByteArray := prog_1_method_2_code
def yX6_player : MethodName := ⟨RX6, "player", "(I)I"⟩
abbrev cX6_make : ByteArray := prog_1_method_3_code
def yX6_make : MethodName := ⟨RX6, "make", "(II)I"⟩
abbrev cX6_ownerOf : ByteArray := prog_1_method_4_code
def yX6_ownerOf : MethodName := ⟨RX6, "ownerOf", "(I)I"⟩
abbrev cX6_ownerByPostings : ByteArray := prog_1_method_5_code
def yX6_ownerByPostings : MethodName := ⟨RX6, "ownerByPostings", "(I)I"⟩
abbrev cX6_stateOf : ByteArray := prog_1_method_6_code
def yX6_stateOf : MethodName := ⟨RX6, "stateOf", "(I)C"⟩
abbrev cX6_cardsOf : ByteArray := prog_1_method_7_code
def yX6_cardsOf : MethodName := ⟨RX6, "cardsOf", "(I)I"⟩
abbrev cX6_coinsOf : ByteArray := prog_1_method_8_code
def yX6_coinsOf : MethodName := ⟨RX6, "coinsOf", "(I)I"⟩
abbrev cX6_postings : ByteArray := prog_1_method_9_code
def yX6_postings : MethodName := ⟨RX6, "postings", "()I"⟩
abbrev cX6_posting : ByteArray := prog_1_method_10_code
def yX6_posting : MethodName := ⟨RX6, "posting", "(IC)I"⟩
abbrev cX6_duel : ByteArray := prog_1_method_11_code
def yX6_duel : MethodName := ⟨RX6, "duel", "(II)I"⟩
abbrev cX6_stake : ByteArray := prog_1_method_12_code
def yX6_stake : MethodName := ⟨RX6, "stake", "(II)I"⟩
abbrev cX6_start : ByteArray := prog_1_method_13_code
def yX6_start : MethodName := ⟨RX6, "start", "(I)I"⟩
abbrev cX6_play : ByteArray := prog_1_method_14_code
def yX6_play : MethodName := ⟨RX6, "play", "(II)I"⟩
abbrev cX6_endTurn : ByteArray := prog_1_method_15_code
def yX6_endTurn : MethodName := ⟨RX6, "endTurn", "(I)C"⟩
abbrev cX6_duelState : ByteArray := prog_1_method_16_code
def yX6_duelState : MethodName := ⟨RX6, "duelState", "(I)C"⟩
abbrev cX6_life : ByteArray := prog_1_method_17_code
def yX6_life : MethodName := ⟨RX6, "life", "(IZ)I"⟩
abbrev cX6_mana : ByteArray := prog_1_method_18_code
def yX6_mana : MethodName := ⟨RX6, "mana", "(I)I"⟩
abbrev cX6_depth : ByteArray := prog_1_method_19_code
def yX6_depth : MethodName := ⟨RX6, "depth", "(I)I"⟩
abbrev cX6_winner : ByteArray := prog_1_method_20_code
def yX6_winner : MethodName := ⟨RX6, "winner", "(I)I"⟩
abbrev cX6_close : ByteArray := prog_1_method_21_code
def yX6_close : MethodName := ⟨RX6, "close", "(I)I"⟩
abbrev cX6_snapshot : ByteArray := prog_1_method_22_code
def yX6_snapshot : MethodName := ⟨RX6, "snapshot", "(I)I"⟩
abbrev cX6_inSnapshot : ByteArray := prog_1_method_23_code
def yX6_inSnapshot : MethodName := ⟨RX6, "inSnapshot", "(III)I"⟩
abbrev cX6_blocks : ByteArray := prog_1_method_24_code
def yX6_blocks : MethodName := ⟨RX6, "blocks", "()I"⟩
abbrev cX6_rollBack : ByteArray := prog_1_method_25_code
def yX6_rollBack : MethodName := ⟨RX6, "rollBack", "(II)I"⟩
abbrev cX6_offer : ByteArray := prog_1_method_26_code
def yX6_offer : MethodName := ⟨RX6, "offer", "(II)I"⟩
abbrev cX6_withdraw : ByteArray := prog_1_method_27_code
def yX6_withdraw : MethodName := ⟨RX6, "withdraw", "(I)I"⟩
abbrev cX6_buy : ByteArray := prog_1_method_28_code
def yX6_buy : MethodName := ⟨RX6, "buy", "(II)I"⟩
abbrev cX6_offerState : ByteArray := prog_1_method_29_code
def yX6_offerState : MethodName := ⟨RX6, "offerState", "(I)C"⟩
abbrev cX6_house : ByteArray := prog_1_method_30_code
def yX6_house : MethodName := ⟨RX6, "house", "()I"⟩
abbrev cX6_apart : ByteArray := prog_1_method_31_code
def yX6_apart : MethodName := ⟨RX6, "apart", "()J"⟩
abbrev cX6_wonBits : ByteArray := prog_1_method_32_code
def yX6_wonBits : MethodName := ⟨RX6, "wonBits", "()I"⟩
abbrev cX6_meanPrice : ByteArray := prog_1_method_33_code
def yX6_meanPrice : MethodName := ⟨RX6, "meanPrice", "()D"⟩
abbrev cX6_isSound : ByteArray := prog_1_method_34_code
def yX6_isSound : MethodName := ⟨RX6, "isSound", "()Z"⟩
abbrev cX6_needPlayer : ByteArray := prog_1_method_35_code
def yX6_needPlayer : MethodName := ⟨RX6, "needPlayer", "(I)V"⟩
abbrev cX6_cardAt : ByteArray := prog_1_method_36_code
def yX6_cardAt : MethodName := ⟨RX6, "cardAt", "(I)LSnapshotArena$Card;"⟩
abbrev cX6_duelAt : ByteArray := prog_1_method_37_code
def yX6_duelAt : MethodName := ⟨RX6, "duelAt", "(I)LSnapshotArena$Duel;"⟩
abbrev cX6_offerAt : ByteArray := prog_1_method_38_code
def yX6_offerAt : MethodName := ⟨RX6, "offerAt", "(I)LSnapshotArena$Offer;"⟩
abbrev cX6_isBusy : ByteArray := prog_1_method_39_code
def yX6_isBusy : MethodName := ⟨RX6, "isBusy", "(ILSnapshotArena$Duel;)Z"⟩
abbrev cX6_hand : ByteArray := prog_1_method_40_code
def yX6_hand : MethodName := ⟨RX6, "hand", "(LSnapshotArena$Card;I)V"⟩
abbrev cX6_awardCards : ByteArray := prog_1_method_41_code
def yX6_awardCards : MethodName := ⟨RX6, "awardCards", "(LSnapshotArena$Side;I)V"⟩
abbrev cX6_takeCardsBack : ByteArray := prog_1_method_42_code
def yX6_takeCardsBack : MethodName := ⟨RX6, "takeCardsBack", "(LSnapshotArena$Side;)V"⟩
abbrev cX6_freeCards : ByteArray := prog_1_method_43_code
def yX6_freeCards : MethodName := ⟨RX6, "freeCards", "(LSnapshotArena$Side;)V"⟩
abbrev cX6_addCoins : ByteArray := prog_1_method_44_code
def yX6_addCoins : MethodName := ⟨RX6, "addCoins", "(II)V"⟩
abbrev cX6_paySeller : ByteArray := prog_1_method_45_code
def yX6_paySeller : MethodName := ⟨RX6, "paySeller", "(LSnapshotArena$Offer;)V"⟩
abbrev cX6_sell : ByteArray := prog_1_method_46_code
def yX6_sell : MethodName := ⟨RX6, "sell", "(LSnapshotArena$Offer;I)V"⟩
abbrev cX6_payOutSales : ByteArray := prog_1_method_47_code
def yX6_payOutSales : MethodName := ⟨RX6, "payOutSales", "(I)V"⟩
abbrev cX6_undoSales : ByteArray := prog_1_method_48_code
def yX6_undoSales : MethodName := ⟨RX6, "undoSales", "(I)I"⟩
abbrev cX6_dropOffers : ByteArray := prog_1_method_49_code
def yX6_dropOffers : MethodName := ⟨RX6, "dropOffers", "(I)V"⟩
abbrev cX6_bitsOfShare : ByteArray := prog_1_method_50_code
def yX6_bitsOfShare : MethodName := ⟨RX6, "bitsOfShare", "(F)I"⟩
def RX7 : String := "SnapshotArenaModel"
def TX7 : u_T := fun k => match k with
  | 0 => ("SnapshotArenaModel", "code", "I", false)
  | 1 => ("SnapshotArenaModel", "players", "I", false)
  | 2 => ("SnapshotArenaModel", "coins", "[I", true)
  | 3 => ("SnapshotArenaModel", "house", "I", false)
  | 4 => ("SnapshotArenaModel", "apart", "J", false)
  | 5 => ("SnapshotArenaModel", "cards", "I", false)
  | 6 => ("SnapshotArenaModel", "kind", "[I", true)
  | 7 => ("SnapshotArenaModel", "owner", "[I", true)
  | 8 => ("SnapshotArenaModel", "how", "[C", true)
  | 9 => ("SnapshotArenaModel", "duelOf", "[I", true)
  | 10 => ("SnapshotArenaModel", "offerOf", "[I", true)
  | 11 => ("SnapshotArenaModel", "postings", "I", false)
  | 12 => ("SnapshotArenaModel", "posted", "[I", true)
  | 13 => ("SnapshotArenaModel", "duels", "I", false)
  | 14 => ("SnapshotArenaModel", "first", "[I", true)
  | 15 => ("SnapshotArenaModel", "second", "[I", true)
  | 16 => ("SnapshotArenaModel", "state", "[C", true)
  | 17 => ("SnapshotArenaModel", "winners", "[I", true)
  | 18 => ("SnapshotArenaModel", "lives", "[I", true)
  | 19 => ("SnapshotArenaModel", "mana", "[I", true)
  | 20 => ("SnapshotArenaModel", "turns", "[I", true)
  | 21 => ("SnapshotArenaModel", "many", "[I", true)
  | 22 => ("SnapshotArenaModel", "staked", "[I", true)
  | 23 => ("SnapshotArenaModel", "played", "[I", true)
  | 24 => ("SnapshotArenaModel", "depth", "[I", true)
  | 25 => ("SnapshotArenaModel", "stack", "[I", true)
  | 26 => ("SnapshotArenaModel", "snapshots", "[I", true)
  | 27 => ("SnapshotArenaModel", "kept", "[I", true)
  | 28 => ("SnapshotArenaModel", "keptStack", "[I", true)
  | 29 => ("SnapshotArenaModel", "offers", "I", false)
  | 30 => ("SnapshotArenaModel", "offerCard", "[I", true)
  | 31 => ("SnapshotArenaModel", "price", "[I", true)
  | 32 => ("SnapshotArenaModel", "offerState", "[C", true)
  | 33 => ("SnapshotArenaModel", "seller", "[I", true)
  | 34 => ("SnapshotArenaModel", "buyer", "[I", true)
  | 35 => ("SnapshotArenaModel", "waits", "[I", true)
  | 36 => ("SnapshotArenaModel", "bought", "[I", true)
  | _ => ("SnapshotArenaModel", "purchases", "I", false)
def tyX7 : Nat → FieldType := fun k => match k with
  | 0 => .int
  | 1 => .int
  | 2 => .array .int
  | 3 => .int
  | 4 => .long
  | 5 => .int
  | 6 => .array .int
  | 7 => .array .int
  | 8 => .array .char
  | 9 => .array .int
  | 10 => .array .int
  | 11 => .int
  | 12 => .array .int
  | 13 => .int
  | 14 => .array .int
  | 15 => .array .int
  | 16 => .array .char
  | 17 => .array .int
  | 18 => .array .int
  | 19 => .array .int
  | 20 => .array .int
  | 21 => .array .int
  | 22 => .array .int
  | 23 => .array .int
  | 24 => .array .int
  | 25 => .array .int
  | 26 => .array .int
  | 27 => .array .int
  | 28 => .array .int
  | 29 => .int
  | 30 => .array .int
  | 31 => .array .int
  | 32 => .array .char
  | 33 => .array .int
  | 34 => .array .int
  | 35 => .array .int
  | 36 => .array .int
  | _ => .int
abbrev wsX70 : List Cond := u_ws RX7 TX7 38
theorem nmX7 : ∀ a, a < 38 → ∀ b, b < 38 → a ≠ b → (TX7 a).2.1 ≠ (TX7 b).2.1 := by decide +kernel
theorem tyX7_ok : ∀ k, k < 38 → parseFieldDescriptor (TX7 k).2.2.1 = some (tyX7 k) := by decide +kernel
abbrev cX7_init : ByteArray := prog_9_method_1_code
def yX7_init : MethodName := ⟨RX7, "<init>", "()V"⟩
abbrev cX7_thrown : ByteArray := prog_9_method_2_code
def yX7_thrown : MethodName := ⟨RX7, "thrown", "()I"⟩
abbrev cX7_in : ByteArray := prog_9_method_3_code
def yX7_in : MethodName := ⟨RX7, "in", "(III)Z"⟩
abbrev cX7_fails : ByteArray := prog_9_method_4_code
def yX7_fails : MethodName := ⟨RX7, "fails", "(I)I"⟩
abbrev cX7_failsChar : ByteArray := prog_9_method_5_code
def yX7_failsChar : MethodName := ⟨RX7, "failsChar", "(I)C"⟩
abbrev cX7_player : ByteArray := prog_9_method_6_code
def yX7_player : MethodName := ⟨RX7, "player", "(I)I"⟩
abbrev cX7_isPlayer : ByteArray := prog_9_method_7_code
def yX7_isPlayer : MethodName := ⟨RX7, "isPlayer", "(I)Z"⟩
abbrev cX7_posts : ByteArray := prog_9_method_8_code
def yX7_posts : MethodName := ⟨RX7, "posts", "(III)V"⟩
abbrev cX7_make : ByteArray := prog_9_method_9_code
def yX7_make : MethodName := ⟨RX7, "make", "(II)I"⟩
abbrev cX7_isCard : ByteArray := prog_9_method_10_code
def yX7_isCard : MethodName := ⟨RX7, "isCard", "(I)Z"⟩
abbrev cX7_ownerOf : ByteArray := prog_9_method_11_code
def yX7_ownerOf : MethodName := ⟨RX7, "ownerOf", "(I)I"⟩
abbrev cX7_ownerByPostings : ByteArray := prog_9_method_12_code
def yX7_ownerByPostings : MethodName := ⟨RX7, "ownerByPostings", "(I)I"⟩
abbrev cX7_stateOf : ByteArray := prog_9_method_13_code
def yX7_stateOf : MethodName := ⟨RX7, "stateOf", "(I)C"⟩
abbrev cX7_cardsOf : ByteArray := prog_9_method_14_code
def yX7_cardsOf : MethodName := ⟨RX7, "cardsOf", "(I)I"⟩
abbrev cX7_coinsOf : ByteArray := prog_9_method_15_code
def yX7_coinsOf : MethodName := ⟨RX7, "coinsOf", "(I)I"⟩
abbrev cX7_postings : ByteArray := prog_9_method_16_code
def yX7_postings : MethodName := ⟨RX7, "postings", "()I"⟩
abbrev cX7_posting : ByteArray := prog_9_method_17_code
def yX7_posting : MethodName := ⟨RX7, "posting", "(IC)I"⟩
abbrev cX7_isDuel : ByteArray := prog_9_method_18_code
def yX7_isDuel : MethodName := ⟨RX7, "isDuel", "(I)Z"⟩
abbrev cX7_isBusy : ByteArray := prog_9_method_19_code
def yX7_isBusy : MethodName := ⟨RX7, "isBusy", "(II)Z"⟩
abbrev cX7_duel : ByteArray := prog_9_method_20_code
def yX7_duel : MethodName := ⟨RX7, "duel", "(II)I"⟩
abbrev cX7_stake : ByteArray := prog_9_method_21_code
def yX7_stake : MethodName := ⟨RX7, "stake", "(II)I"⟩
abbrev cX7_start : ByteArray := prog_9_method_22_code
def yX7_start : MethodName := ⟨RX7, "start", "(I)I"⟩
abbrev cX7_play : ByteArray := prog_9_method_23_code
def yX7_play : MethodName := ⟨RX7, "play", "(II)I"⟩
abbrev cX7_resolves : ByteArray := prog_9_method_24_code
def yX7_resolves : MethodName := ⟨RX7, "resolves", "(I)Z"⟩
abbrev cX7_areAllPlayed : ByteArray := prog_9_method_25_code
def yX7_areAllPlayed : MethodName := ⟨RX7, "areAllPlayed", "(I)Z"⟩
abbrev cX7_ends : ByteArray := prog_9_method_26_code
def yX7_ends : MethodName := ⟨RX7, "ends", "(I)V"⟩
abbrev cX7_endTurn : ByteArray := prog_9_method_27_code
def yX7_endTurn : MethodName := ⟨RX7, "endTurn", "(I)C"⟩
abbrev cX7_duelState : ByteArray := prog_9_method_28_code
def yX7_duelState : MethodName := ⟨RX7, "duelState", "(I)C"⟩
abbrev cX7_life : ByteArray := prog_9_method_29_code
def yX7_life : MethodName := ⟨RX7, "life", "(IZ)I"⟩
abbrev cX7_mana : ByteArray := prog_9_method_30_code
def yX7_mana : MethodName := ⟨RX7, "mana", "(I)I"⟩
abbrev cX7_depth : ByteArray := prog_9_method_31_code
def yX7_depth : MethodName := ⟨RX7, "depth", "(I)I"⟩
abbrev cX7_winner : ByteArray := prog_9_method_32_code
def yX7_winner : MethodName := ⟨RX7, "winner", "(I)I"⟩
abbrev cX7_close : ByteArray := prog_9_method_33_code
def yX7_close : MethodName := ⟨RX7, "close", "(I)I"⟩
abbrev cX7_pays : ByteArray := prog_9_method_34_code
def yX7_pays : MethodName := ⟨RX7, "pays", "(I)V"⟩
abbrev cX7_snapshot : ByteArray := prog_9_method_35_code
def yX7_snapshot : MethodName := ⟨RX7, "snapshot", "(I)I"⟩
abbrev cX7_isSnapshot : ByteArray := prog_9_method_36_code
def yX7_isSnapshot : MethodName := ⟨RX7, "isSnapshot", "(II)Z"⟩
abbrev cX7_inSnapshot : ByteArray := prog_9_method_37_code
def yX7_inSnapshot : MethodName := ⟨RX7, "inSnapshot", "(III)I"⟩
abbrev cX7_isKept : ByteArray := prog_9_method_38_code
def yX7_isKept : MethodName := ⟨RX7, "isKept", "(I)Z"⟩
abbrev cX7_blocks : ByteArray := prog_9_method_39_code
def yX7_blocks : MethodName := ⟨RX7, "blocks", "()I"⟩
abbrev cX7_undoes : ByteArray := prog_9_method_40_code
def yX7_undoes : MethodName := ⟨RX7, "undoes", "(I)I"⟩
abbrev cX7_restakes : ByteArray := prog_9_method_41_code
def yX7_restakes : MethodName := ⟨RX7, "restakes", "(I)V"⟩
abbrev cX7_rollBack : ByteArray := prog_9_method_42_code
def yX7_rollBack : MethodName := ⟨RX7, "rollBack", "(II)I"⟩
abbrev cX7_offer : ByteArray := prog_9_method_43_code
def yX7_offer : MethodName := ⟨RX7, "offer", "(II)I"⟩
abbrev cX7_isOffer : ByteArray := prog_9_method_44_code
def yX7_isOffer : MethodName := ⟨RX7, "isOffer", "(I)Z"⟩
abbrev cX7_withdraw : ByteArray := prog_9_method_45_code
def yX7_withdraw : MethodName := ⟨RX7, "withdraw", "(I)I"⟩
abbrev cX7_buy : ByteArray := prog_9_method_46_code
def yX7_buy : MethodName := ⟨RX7, "buy", "(II)I"⟩
abbrev cX7_offerState : ByteArray := prog_9_method_47_code
def yX7_offerState : MethodName := ⟨RX7, "offerState", "(I)C"⟩
abbrev cX7_house : ByteArray := prog_9_method_48_code
def yX7_house : MethodName := ⟨RX7, "house", "()I"⟩
abbrev cX7_apart : ByteArray := prog_9_method_49_code
def yX7_apart : MethodName := ⟨RX7, "apart", "()J"⟩
abbrev cX7_wonBits : ByteArray := prog_9_method_50_code
def yX7_wonBits : MethodName := ⟨RX7, "wonBits", "()I"⟩
abbrev cX7_meanPrice : ByteArray := prog_9_method_51_code
def yX7_meanPrice : MethodName := ⟨RX7, "meanPrice", "()D"⟩
abbrev cX7_isSound : ByteArray := prog_9_method_52_code
def yX7_isSound : MethodName := ⟨RX7, "isSound", "()Z"⟩
def RJx145de : String := "java/io/Serializable"
def TJx145de : u_T := fun k => match k with
  | _ => ("", "", "", false)
def tyJx145de : Nat → FieldType := fun k => match k with
  | _ => .int
abbrev wsJx145de0 : List Cond := u_ws RJx145de TJx145de 0
theorem nmJx145de : ∀ a, a < 0 → ∀ b, b < 0 → a ≠ b → (TJx145de a).2.1 ≠ (TJx145de b).2.1 := by decide +kernel
theorem tyJx145de_ok : ∀ k, k < 0 → parseFieldDescriptor (TJx145de k).2.2.1 = some (tyJx145de k) := by decide +kernel
def RJx00060 : String := "java/lang/ArrayIndexOutOfBoundsException"
def TJx00060 : u_T := fun k => match k with
  | 0 => ("java/lang/Throwable", "backtrace", "Ljava/lang/Object;", false)
  | 1 => ("java/lang/Throwable", "detailMessage", "Ljava/lang/String;", false)
  | 2 => ("java/lang/Throwable", "cause", "Ljava/lang/Throwable;", false)
  | 3 => ("java/lang/Throwable", "stackTrace", "[Ljava/lang/StackTraceElement;", false)
  | 4 => ("java/lang/Throwable", "depth", "I", false)
  | _ => ("java/lang/Throwable", "suppressedExceptions", "Ljava/util/List;", false)
def tyJx00060 : Nat → FieldType := fun k => match k with
  | 0 => .object "java/lang/Object"
  | 1 => .object "java/lang/String"
  | 2 => .object "java/lang/Throwable"
  | 3 => .array (.object "java/lang/StackTraceElement")
  | 4 => .int
  | _ => .object "java/util/List"
abbrev wsJx000600 : List Cond := u_ws RJx00060 TJx00060 6
theorem nmJx00060 : ∀ a, a < 6 → ∀ b, b < 6 → a ≠ b → (TJx00060 a).2.1 ≠ (TJx00060 b).2.1 := by decide +kernel
theorem tyJx00060_ok : ∀ k, k < 6 → parseFieldDescriptor (TJx00060 k).2.2.1 = some (tyJx00060 k) := by decide +kernel
abbrev cJx00060_init_a7421 : ByteArray := prog_12_method_2_code
def yJx00060_init_a7421 : MethodName := ⟨RJx00060, "<init>", "(Ljava/lang/String;)V"⟩
def RJx8e188 : String := "java/lang/Cloneable"
def TJx8e188 : u_T := fun k => match k with
  | _ => ("", "", "", false)
def tyJx8e188 : Nat → FieldType := fun k => match k with
  | _ => .int
abbrev wsJx8e1880 : List Cond := u_ws RJx8e188 TJx8e188 0
theorem nmJx8e188 : ∀ a, a < 0 → ∀ b, b < 0 → a ≠ b → (TJx8e188 a).2.1 ≠ (TJx8e188 b).2.1 := by decide +kernel
theorem tyJx8e188_ok : ∀ k, k < 0 → parseFieldDescriptor (TJx8e188 k).2.2.1 = some (tyJx8e188 k) := by decide +kernel
def RJxb160c : String := "java/lang/Comparable"
def TJxb160c : u_T := fun k => match k with
  | _ => ("", "", "", false)
def tyJxb160c : Nat → FieldType := fun k => match k with
  | _ => .int
abbrev wsJxb160c0 : List Cond := u_ws RJxb160c TJxb160c 0
theorem nmJxb160c : ∀ a, a < 0 → ∀ b, b < 0 → a ≠ b → (TJxb160c a).2.1 ≠ (TJxb160c b).2.1 := by decide +kernel
theorem tyJxb160c_ok : ∀ k, k < 0 → parseFieldDescriptor (TJxb160c k).2.2.1 = some (tyJxb160c k) := by decide +kernel
def RJxf58ca : String := "java/lang/Float"
def TJxf58ca : u_T := fun k => match k with
  | _ => ("", "", "", false)
def tyJxf58ca : Nat → FieldType := fun k => match k with
  | _ => .int
abbrev wsJxf58ca0 : List Cond := u_ws RJxf58ca TJxf58ca 0
theorem nmJxf58ca : ∀ a, a < 0 → ∀ b, b < 0 → a ≠ b → (TJxf58ca a).2.1 ≠ (TJxf58ca b).2.1 := by decide +kernel
theorem tyJxf58ca_ok : ∀ k, k < 0 → parseFieldDescriptor (TJxf58ca k).2.2.1 = some (tyJxf58ca k) := by decide +kernel
abbrev cJxf58ca_isNaN_12338 : ByteArray := prog_16_method_6_code
def yJxf58ca_isNaN_12338 : MethodName := ⟨RJxf58ca, "isNaN", "(F)Z"⟩
abbrev cJxf58ca_floatToIntBits_5c35a : ByteArray := prog_16_method_24_code
def yJxf58ca_floatToIntBits_5c35a : MethodName := ⟨RJxf58ca, "floatToIntBits", "(F)I"⟩
def RJxab1ab : String := "java/lang/Iterable"
def TJxab1ab : u_T := fun k => match k with
  | _ => ("", "", "", false)
def tyJxab1ab : Nat → FieldType := fun k => match k with
  | _ => .int
abbrev wsJxab1ab0 : List Cond := u_ws RJxab1ab TJxab1ab 0
theorem nmJxab1ab : ∀ a, a < 0 → ∀ b, b < 0 → a ≠ b → (TJxab1ab a).2.1 ≠ (TJxab1ab b).2.1 := by decide +kernel
theorem tyJxab1ab_ok : ∀ k, k < 0 → parseFieldDescriptor (TJxab1ab k).2.2.1 = some (tyJxab1ab k) := by decide +kernel
def RJ9 : String := "java/lang/Math"
def TJ9 : u_T := fun k => match k with
  | _ => ("", "", "", false)
def tyJ9 : Nat → FieldType := fun k => match k with
  | _ => .int
abbrev wsJ90 : List Cond := u_ws RJ9 TJ9 0
theorem nmJ9 : ∀ a, a < 0 → ∀ b, b < 0 → a ≠ b → (TJ9 a).2.1 ≠ (TJ9 b).2.1 := by decide +kernel
theorem tyJ9_ok : ∀ k, k < 0 → parseFieldDescriptor (TJ9 k).2.2.1 = some (tyJ9 k) := by decide +kernel
abbrev cJ9_max_7cf53 : ByteArray := prog_21_method_65_code
def yJ9_max_7cf53 : MethodName := ⟨RJ9, "max", "(II)I"⟩
abbrev cJ9_min_7cf53 : ByteArray := prog_21_method_69_code
def yJ9_min_7cf53 : MethodName := ⟨RJ9, "min", "(II)I"⟩
def RJxd2413 : String := "java/lang/Number"
def TJxd2413 : u_T := fun k => match k with
  | _ => ("", "", "", false)
def tyJxd2413 : Nat → FieldType := fun k => match k with
  | _ => .int
abbrev wsJxd24130 : List Cond := u_ws RJxd2413 TJxd2413 0
theorem nmJxd2413 : ∀ a, a < 0 → ∀ b, b < 0 → a ≠ b → (TJxd2413 a).2.1 ≠ (TJxd2413 b).2.1 := by decide +kernel
theorem tyJxd2413_ok : ∀ k, k < 0 → parseFieldDescriptor (TJxd2413 k).2.2.1 = some (tyJxd2413 k) := by decide +kernel
def RJ0 : String := "java/lang/String"
def TJ0 : u_T := fun k => match k with
  | 0 => ("java/lang/String", "value", "[B", true)
  | _ => ("java/lang/String", "coder", "B", true)
def tyJ0 : Nat → FieldType := fun k => match k with
  | 0 => .array .byte
  | _ => .byte
abbrev wsJ00 : List Cond := u_ws RJ0 TJ0 2
theorem nmJ0 : ∀ a, a < 2 → ∀ b, b < 2 → a ≠ b → (TJ0 a).2.1 ≠ (TJ0 b).2.1 := by decide +kernel
theorem tyJ0_ok : ∀ k, k < 2 → parseFieldDescriptor (TJ0 k).2.2.1 = some (tyJ0 k) := by decide +kernel
def RJ10 : String := "java/lang/System"
def TJ10 : u_T := fun k => match k with
  | _ => ("", "", "", false)
def tyJ10 : Nat → FieldType := fun k => match k with
  | _ => .int
abbrev wsJ100 : List Cond := u_ws RJ10 TJ10 0
theorem nmJ10 : ∀ a, a < 0 → ∀ b, b < 0 → a ≠ b → (TJ10 a).2.1 ≠ (TJ10 b).2.1 := by decide +kernel
theorem tyJ10_ok : ∀ k, k < 0 → parseFieldDescriptor (TJ10 k).2.2.1 = some (tyJ10 k) := by decide +kernel
def RJxfd54e : String := "java/lang/constant/Constable"
def TJxfd54e : u_T := fun k => match k with
  | _ => ("", "", "", false)
def tyJxfd54e : Nat → FieldType := fun k => match k with
  | _ => .int
abbrev wsJxfd54e0 : List Cond := u_ws RJxfd54e TJxfd54e 0
theorem nmJxfd54e : ∀ a, a < 0 → ∀ b, b < 0 → a ≠ b → (TJxfd54e a).2.1 ≠ (TJxfd54e b).2.1 := by decide +kernel
theorem tyJxfd54e_ok : ∀ k, k < 0 → parseFieldDescriptor (TJxfd54e k).2.2.1 = some (tyJxfd54e k) := by decide +kernel
def RJx3cf43 : String := "java/lang/constant/ConstantDesc"
def TJx3cf43 : u_T := fun k => match k with
  | _ => ("", "", "", false)
def tyJx3cf43 : Nat → FieldType := fun k => match k with
  | _ => .int
abbrev wsJx3cf430 : List Cond := u_ws RJx3cf43 TJx3cf43 0
theorem nmJx3cf43 : ∀ a, a < 0 → ∀ b, b < 0 → a ≠ b → (TJx3cf43 a).2.1 ≠ (TJx3cf43 b).2.1 := by decide +kernel
theorem tyJx3cf43_ok : ∀ k, k < 0 → parseFieldDescriptor (TJx3cf43 k).2.2.1 = some (tyJx3cf43 k) := by decide +kernel
def RJxa1e45 : String := "java/util/AbstractCollection"
def TJxa1e45 : u_T := fun k => match k with
  | _ => ("", "", "", false)
def tyJxa1e45 : Nat → FieldType := fun k => match k with
  | _ => .int
abbrev wsJxa1e450 : List Cond := u_ws RJxa1e45 TJxa1e45 0
theorem nmJxa1e45 : ∀ a, a < 0 → ∀ b, b < 0 → a ≠ b → (TJxa1e45 a).2.1 ≠ (TJxa1e45 b).2.1 := by decide +kernel
theorem tyJxa1e45_ok : ∀ k, k < 0 → parseFieldDescriptor (TJxa1e45 k).2.2.1 = some (tyJxa1e45 k) := by decide +kernel
abbrev cJxa1e45_init_da8c8 : ByteArray := prog_30_method_1_code
def yJxa1e45_init_da8c8 : MethodName := ⟨RJxa1e45, "<init>", "()V"⟩
def RJxc12de : String := "java/util/AbstractList"
def TJxc12de : u_T := fun k => match k with
  | _ => ("", "", "", false)
def tyJxc12de : Nat → FieldType := fun k => match k with
  | _ => .int
abbrev wsJxc12de0 : List Cond := u_ws RJxc12de TJxc12de 0
theorem nmJxc12de : ∀ a, a < 0 → ∀ b, b < 0 → a ≠ b → (TJxc12de a).2.1 ≠ (TJxc12de b).2.1 := by decide +kernel
theorem tyJxc12de_ok : ∀ k, k < 0 → parseFieldDescriptor (TJxc12de k).2.2.1 = some (tyJxc12de k) := by decide +kernel
abbrev cJxc12de_init_da8c8 : ByteArray := prog_31_method_1_code
def yJxc12de_init_da8c8 : MethodName := ⟨RJxc12de, "<init>", "()V"⟩
def RJx4a65c : String := "java/util/ArrayList"
def TJx4a65c : u_T := fun k => match k with
  | 0 => ("java/util/AbstractList", "modCount", "I", false)
  | 1 => ("java/util/ArrayList", "elementData", "[Ljava/lang/Object;", false)
  | _ => ("java/util/ArrayList", "size", "I", false)
def tyJx4a65c : Nat → FieldType := fun k => match k with
  | 0 => .int
  | 1 => .array (.object "java/lang/Object")
  | _ => .int
abbrev wsJx4a65c0 : List Cond := u_ws RJx4a65c TJx4a65c 3
theorem nmJx4a65c : ∀ a, a < 3 → ∀ b, b < 3 → a ≠ b → (TJx4a65c a).2.1 ≠ (TJx4a65c b).2.1 := by decide +kernel
theorem tyJx4a65c_ok : ∀ k, k < 3 → parseFieldDescriptor (TJx4a65c k).2.2.1 = some (tyJx4a65c k) := by decide +kernel
abbrev cJx4a65c_init_da8c8 : ByteArray := prog_32_method_2_code
def yJx4a65c_init_da8c8 : MethodName := ⟨RJx4a65c, "<init>", "()V"⟩
abbrev cJx4a65c_grow_92f84 : ByteArray := prog_32_method_6_code
def yJx4a65c_grow_92f84 : MethodName := ⟨RJx4a65c, "grow", "(I)[Ljava/lang/Object;"⟩
abbrev cJx4a65c_grow_d5877 : ByteArray := prog_32_method_7_code
def yJx4a65c_grow_d5877 : MethodName := ⟨RJx4a65c, "grow", "()[Ljava/lang/Object;"⟩
abbrev cJx4a65c_size_8abf5 : ByteArray := prog_32_method_8_code
def yJx4a65c_size_8abf5 : MethodName := ⟨RJx4a65c, "size", "()I"⟩
abbrev cJx4a65c_isEmpty_aae02 : ByteArray := prog_32_method_9_code
def yJx4a65c_isEmpty_aae02 : MethodName := ⟨RJx4a65c, "isEmpty", "()Z"⟩
abbrev cJx4a65c_elementData_915e3 : ByteArray := prog_32_method_18_code
def yJx4a65c_elementData_915e3 : MethodName := ⟨RJx4a65c, "elementData", "(I)Ljava/lang/Object;"⟩
abbrev cJx4a65c_get_915e3 : ByteArray := prog_32_method_20_code
def yJx4a65c_get_915e3 : MethodName := ⟨RJx4a65c, "get", "(I)Ljava/lang/Object;"⟩
abbrev cJx4a65c_add_72be8 : ByteArray := prog_32_method_24_code
def yJx4a65c_add_72be8 : MethodName := ⟨RJx4a65c, "add", "(Ljava/lang/Object;[Ljava/lang/Object;I)V"⟩
abbrev cJx4a65c_add_9ea2d : ByteArray := prog_32_method_25_code
def yJx4a65c_add_9ea2d : MethodName := ⟨RJx4a65c, "add", "(Ljava/lang/Object;)Z"⟩
def RJ7 : String := "java/util/Arrays"
def TJ7 : u_T := fun k => match k with
  | _ => ("", "", "", false)
def tyJ7 : Nat → FieldType := fun k => match k with
  | _ => .int
abbrev wsJ70 : List Cond := u_ws RJ7 TJ7 0
theorem nmJ7 : ∀ a, a < 0 → ∀ b, b < 0 → a ≠ b → (TJ7 a).2.1 ≠ (TJ7 b).2.1 := by decide +kernel
theorem tyJ7_ok : ∀ k, k < 0 → parseFieldDescriptor (TJ7 k).2.2.1 = some (tyJ7 k) := by decide +kernel
abbrev cJ7_copyOf_1904c : ByteArray := prog_33_method_119_code
def yJ7_copyOf_1904c : MethodName := ⟨RJ7, "copyOf", "([Ljava/lang/Object;I)[Ljava/lang/Object;"⟩
abbrev cJ7_copyOf_6403c : ByteArray := prog_33_method_120_code
def yJ7_copyOf_6403c : MethodName := ⟨RJ7, "copyOf", "([Ljava/lang/Object;ILjava/lang/Class;)[Ljava/lang/Object;"⟩
abbrev cJ7_copyOf_59c91 : ByteArray := prog_33_method_123_code
def yJ7_copyOf_59c91 : MethodName := ⟨RJ7, "copyOf", "([II)[I"⟩
def RJx5ef63 : String := "java/util/Collection"
def TJx5ef63 : u_T := fun k => match k with
  | _ => ("", "", "", false)
def tyJx5ef63 : Nat → FieldType := fun k => match k with
  | _ => .int
abbrev wsJx5ef630 : List Cond := u_ws RJx5ef63 TJx5ef63 0
theorem nmJx5ef63 : ∀ a, a < 0 → ∀ b, b < 0 → a ≠ b → (TJx5ef63 a).2.1 ≠ (TJx5ef63 b).2.1 := by decide +kernel
theorem tyJx5ef63_ok : ∀ k, k < 0 → parseFieldDescriptor (TJx5ef63 k).2.2.1 = some (tyJx5ef63 k) := by decide +kernel
def RJxbd725 : String := "java/util/List"
def TJxbd725 : u_T := fun k => match k with
  | _ => ("", "", "", false)
def tyJxbd725 : Nat → FieldType := fun k => match k with
  | _ => .int
abbrev wsJxbd7250 : List Cond := u_ws RJxbd725 TJxbd725 0
theorem nmJxbd725 : ∀ a, a < 0 → ∀ b, b < 0 → a ≠ b → (TJxbd725 a).2.1 ≠ (TJxbd725 b).2.1 := by decide +kernel
theorem tyJxbd725_ok : ∀ k, k < 0 → parseFieldDescriptor (TJxbd725 k).2.2.1 = some (tyJxbd725 k) := by decide +kernel
def RJ15 : String := "java/util/Objects"
def TJ15 : u_T := fun k => match k with
  | _ => ("", "", "", false)
def tyJ15 : Nat → FieldType := fun k => match k with
  | _ => .int
abbrev wsJ150 : List Cond := u_ws RJ15 TJ15 0
theorem nmJ15 : ∀ a, a < 0 → ∀ b, b < 0 → a ≠ b → (TJ15 a).2.1 ≠ (TJ15 b).2.1 := by decide +kernel
theorem tyJ15_ok : ∀ k, k < 0 → parseFieldDescriptor (TJ15 k).2.2.1 = some (tyJ15 k) := by decide +kernel
abbrev cJ15_checkIndex_7cf53 : ByteArray := prog_37_method_17_code
def yJ15_checkIndex_7cf53 : MethodName := ⟨RJ15, "checkIndex", "(II)I"⟩
def RJxf0a74 : String := "java/util/RandomAccess"
def TJxf0a74 : u_T := fun k => match k with
  | _ => ("", "", "", false)
def tyJxf0a74 : Nat → FieldType := fun k => match k with
  | _ => .int
abbrev wsJxf0a740 : List Cond := u_ws RJxf0a74 TJxf0a74 0
theorem nmJxf0a74 : ∀ a, a < 0 → ∀ b, b < 0 → a ≠ b → (TJxf0a74 a).2.1 ≠ (TJxf0a74 b).2.1 := by decide +kernel
theorem tyJxf0a74_ok : ∀ k, k < 0 → parseFieldDescriptor (TJxf0a74 k).2.2.1 = some (tyJxf0a74 k) := by decide +kernel
def RJxa66e6 : String := "java/util/SequencedCollection"
def TJxa66e6 : u_T := fun k => match k with
  | _ => ("", "", "", false)
def tyJxa66e6 : Nat → FieldType := fun k => match k with
  | _ => .int
abbrev wsJxa66e60 : List Cond := u_ws RJxa66e6 TJxa66e6 0
theorem nmJxa66e6 : ∀ a, a < 0 → ∀ b, b < 0 → a ≠ b → (TJxa66e6 a).2.1 ≠ (TJxa66e6 b).2.1 := by decide +kernel
theorem tyJxa66e6_ok : ∀ k, k < 0 → parseFieldDescriptor (TJxa66e6 k).2.2.1 = some (tyJxa66e6 k) := by decide +kernel
def RJ8 : String := "jdk/internal/util/ArraysSupport"
def TJ8 : u_T := fun k => match k with
  | _ => ("", "", "", false)
def tyJ8 : Nat → FieldType := fun k => match k with
  | _ => .int
abbrev wsJ80 : List Cond := u_ws RJ8 TJ8 0
theorem nmJ8 : ∀ a, a < 0 → ∀ b, b < 0 → a ≠ b → (TJ8 a).2.1 ≠ (TJ8 b).2.1 := by decide +kernel
theorem tyJ8_ok : ∀ k, k < 0 → parseFieldDescriptor (TJ8 k).2.2.1 = some (tyJ8 k) := by decide +kernel
abbrev cJ8_newLength_cabcc : ByteArray := prog_40_method_27_code
def yJ8_newLength_cabcc : MethodName := ⟨RJ8, "newLength", "(III)I"⟩
abbrev cJ8_hugeLength_7cf53 : ByteArray := prog_40_method_28_code
def yJ8_hugeLength_7cf53 : MethodName := ⟨RJ8, "hugeLength", "(II)I"⟩
def RJ3 : String := "jdk/internal/util/Preconditions"
def TJ3 : u_T := fun k => match k with
  | _ => ("", "", "", false)
def tyJ3 : Nat → FieldType := fun k => match k with
  | _ => .int
abbrev wsJ30 : List Cond := u_ws RJ3 TJ3 0
theorem nmJ3 : ∀ a, a < 0 → ∀ b, b < 0 → a ≠ b → (TJ3 a).2.1 ≠ (TJ3 b).2.1 := by decide +kernel
theorem tyJ3_ok : ∀ k, k < 0 → parseFieldDescriptor (TJ3 k).2.2.1 = some (tyJ3 k) := by decide +kernel
abbrev cJ3_checkIndex_8e157 : ByteArray := prog_41_method_11_code
def yJ3_checkIndex_8e157 : MethodName := ⟨RJ3, "checkIndex", "(IILjava/util/function/BiFunction;)I"⟩
def RL : String := "SnapshotArenaLaw"
abbrev cL_player : ByteArray := method_3_code
def yL_player : MethodName := ⟨RL, "player", "(LSnapshotArena;I[J)I"⟩
abbrev cL_make : ByteArray := method_4_code
def yL_make : MethodName := ⟨RL, "make", "(LSnapshotArena;II[J)I"⟩
abbrev cL_ownerOf : ByteArray := method_5_code
def yL_ownerOf : MethodName := ⟨RL, "ownerOf", "(LSnapshotArena;I[J)I"⟩
abbrev cL_ownerByPostings : ByteArray := method_6_code
def yL_ownerByPostings : MethodName := ⟨RL, "ownerByPostings", "(LSnapshotArena;I[J)I"⟩
abbrev cL_stateOf : ByteArray := method_7_code
def yL_stateOf : MethodName := ⟨RL, "stateOf", "(LSnapshotArena;I[J)I"⟩
abbrev cL_cardsOf : ByteArray := method_8_code
def yL_cardsOf : MethodName := ⟨RL, "cardsOf", "(LSnapshotArena;I[J)I"⟩
abbrev cL_coinsOf : ByteArray := method_9_code
def yL_coinsOf : MethodName := ⟨RL, "coinsOf", "(LSnapshotArena;I[J)I"⟩
abbrev cL_posting : ByteArray := method_10_code
def yL_posting : MethodName := ⟨RL, "posting", "(LSnapshotArena;IC[J)I"⟩
abbrev cL_duel : ByteArray := method_11_code
def yL_duel : MethodName := ⟨RL, "duel", "(LSnapshotArena;II[J)I"⟩
abbrev cL_stake : ByteArray := method_12_code
def yL_stake : MethodName := ⟨RL, "stake", "(LSnapshotArena;II[J)I"⟩
abbrev cL_start : ByteArray := method_13_code
def yL_start : MethodName := ⟨RL, "start", "(LSnapshotArena;I[J)I"⟩
abbrev cL_play : ByteArray := method_14_code
def yL_play : MethodName := ⟨RL, "play", "(LSnapshotArena;II[J)I"⟩
abbrev cL_endTurn : ByteArray := method_15_code
def yL_endTurn : MethodName := ⟨RL, "endTurn", "(LSnapshotArena;I[J)I"⟩
abbrev cL_duelState : ByteArray := method_16_code
def yL_duelState : MethodName := ⟨RL, "duelState", "(LSnapshotArena;I[J)I"⟩
abbrev cL_life : ByteArray := method_17_code
def yL_life : MethodName := ⟨RL, "life", "(LSnapshotArena;IZ[J)I"⟩
abbrev cL_mana : ByteArray := method_18_code
def yL_mana : MethodName := ⟨RL, "mana", "(LSnapshotArena;I[J)I"⟩
abbrev cL_depth : ByteArray := method_19_code
def yL_depth : MethodName := ⟨RL, "depth", "(LSnapshotArena;I[J)I"⟩
abbrev cL_winner : ByteArray := method_20_code
def yL_winner : MethodName := ⟨RL, "winner", "(LSnapshotArena;I[J)I"⟩
abbrev cL_close : ByteArray := method_21_code
def yL_close : MethodName := ⟨RL, "close", "(LSnapshotArena;I[J)I"⟩
abbrev cL_snapshot : ByteArray := method_22_code
def yL_snapshot : MethodName := ⟨RL, "snapshot", "(LSnapshotArena;I[J)I"⟩
abbrev cL_inSnapshot : ByteArray := method_23_code
def yL_inSnapshot : MethodName := ⟨RL, "inSnapshot", "(LSnapshotArena;III[J)I"⟩
abbrev cL_rollBack : ByteArray := method_24_code
def yL_rollBack : MethodName := ⟨RL, "rollBack", "(LSnapshotArena;II[J)I"⟩
abbrev cL_offer : ByteArray := method_25_code
def yL_offer : MethodName := ⟨RL, "offer", "(LSnapshotArena;II[J)I"⟩
abbrev cL_withdraw : ByteArray := method_26_code
def yL_withdraw : MethodName := ⟨RL, "withdraw", "(LSnapshotArena;I[J)I"⟩
abbrev cL_buy : ByteArray := method_27_code
def yL_buy : MethodName := ⟨RL, "buy", "(LSnapshotArena;II[J)I"⟩
abbrev cL_offerState : ByteArray := method_28_code
def yL_offerState : MethodName := ⟨RL, "offerState", "(LSnapshotArena;I[J)I"⟩
abbrev cL_wonBits : ByteArray := method_29_code
def yL_wonBits : MethodName := ⟨RL, "wonBits", "(LSnapshotArena;[J)I"⟩
abbrev cL_meanPrice : ByteArray := method_30_code
def yL_meanPrice : MethodName := ⟨RL, "meanPrice", "(LSnapshotArena;[D)I"⟩
abbrev cL_law : ByteArray := code
def yL_law : MethodName := ⟨RL, "law", "([I)Z"⟩
abbrev vwCl : List vw_C := [(RJ0, TJ0, 2), (RJx00060, TJx00060, 6), (RJx4a65c, TJx4a65c, 3), (RX0, TX0, 2), (RX1, TX1, 6), (RX2, TX2, 11), (RX3, TX3, 2), (RX4, TX4, 6), (RX5, TX5, 4), (RX6, TX6, 12), (RX7, TX7, 38)]
/-- the words of the tables that hold wherever the machine has come to -/
def WU : List Cond := lw_tbl.filter goodWord
theorem WU_good : ∀ w ∈ WU, goodWord w = true := fun _ h => (List.mem_filter.mp h).2
theorem WU_in : ∀ w ∈ WU, w ∈ lw_tbl := fun _ h => (List.mem_filter.mp h).1
theorem WU_k {w : Cond} (i : Nat) (h : lw_tbl[i]? = some w) (g : goodWord w = true) : w ∈ WU := List.mem_filter.mpr ⟨List.mem_of_getElem? h, g⟩
theorem u0 : Cond.selects RX3 yX3_numberAt yX3_numberAt ∈ WU := WU_k 0 (by decide +kernel) rfl
theorem u1 : Cond.selects "java/lang/Throwable" ⟨"java/lang/Throwable", "fillInStackTrace", "(I)Ljava/lang/Throwable;"⟩ ⟨"java/lang/Throwable", "fillInStackTrace", "(I)Ljava/lang/Throwable;"⟩ ∈ WU := WU_k 1 (by decide +kernel) rfl
theorem u2 : Cond.selects RX6 yX6_needPlayer yX6_needPlayer ∈ WU := WU_k 2 (by decide +kernel) rfl
theorem u3 : Cond.selects RJx4a65c yJx4a65c_add_72be8 yJx4a65c_add_72be8 ∈ WU := WU_k 3 (by decide +kernel) rfl
theorem u4 : Cond.selects RJx4a65c yJx4a65c_grow_d5877 yJx4a65c_grow_d5877 ∈ WU := WU_k 4 (by decide +kernel) rfl
theorem u5 : Cond.selects RJx4a65c yJx4a65c_grow_92f84 yJx4a65c_grow_92f84 ∈ WU := WU_k 5 (by decide +kernel) rfl
theorem u6 : Cond.selects RX6 yX6_cardAt yX6_cardAt ∈ WU := WU_k 6 (by decide +kernel) rfl
theorem u7 : Cond.selects RX6 yX6_isBusy yX6_isBusy ∈ WU := WU_k 7 (by decide +kernel) rfl
theorem u8 : Cond.selects RX6 yX6_duelAt yX6_duelAt ∈ WU := WU_k 8 (by decide +kernel) rfl
theorem u9 : Cond.selects RX2 yX2_numberOnTurn yX2_numberOnTurn ∈ WU := WU_k 9 (by decide +kernel) rfl
theorem u10 : Cond.selects RX2 yX2_hurtOtherOf yX2_hurtOtherOf ∈ WU := WU_k 10 (by decide +kernel) rfl
theorem u11 : Cond.selects RX2 yX2_end yX2_end ∈ WU := WU_k 11 (by decide +kernel) rfl
theorem u12 : Cond.selects RX2 yX2_healOwn yX2_healOwn ∈ WU := WU_k 12 (by decide +kernel) rfl
theorem u13 : Cond.selects RX2 yX2_playerWithMoreLife yX2_playerWithMoreLife ∈ WU := WU_k 13 (by decide +kernel) rfl
theorem u14 : Cond.selects RX6 yX6_awardCards yX6_awardCards ∈ WU := WU_k 14 (by decide +kernel) rfl
theorem u15 : Cond.selects RX6 yX6_hand yX6_hand ∈ WU := WU_k 15 (by decide +kernel) rfl
theorem u16 : Cond.selects RX6 yX6_freeCards yX6_freeCards ∈ WU := WU_k 16 (by decide +kernel) rfl
theorem u17 : Cond.selects RX6 yX6_payOutSales yX6_payOutSales ∈ WU := WU_k 17 (by decide +kernel) rfl
theorem u18 : Cond.selects RX6 yX6_paySeller yX6_paySeller ∈ WU := WU_k 18 (by decide +kernel) rfl
theorem u19 : Cond.selects RX6 yX6_addCoins yX6_addCoins ∈ WU := WU_k 19 (by decide +kernel) rfl
theorem u20 : Cond.selects RX0 yX0_isAs yX0_isAs ∈ WU := WU_k 20 (by decide +kernel) rfl
theorem u21 : Cond.selects RX6 yX6_undoSales yX6_undoSales ∈ WU := WU_k 21 (by decide +kernel) rfl
theorem u22 : Cond.selects RX6 yX6_dropOffers yX6_dropOffers ∈ WU := WU_k 22 (by decide +kernel) rfl
theorem u23 : Cond.selects RX6 yX6_takeCardsBack yX6_takeCardsBack ∈ WU := WU_k 23 (by decide +kernel) rfl
theorem u24 : Cond.selects RX6 yX6_offerAt yX6_offerAt ∈ WU := WU_k 24 (by decide +kernel) rfl
theorem u25 : Cond.selects RX6 yX6_sell yX6_sell ∈ WU := WU_k 25 (by decide +kernel) rfl
theorem u26 : Cond.selects RX7 yX7_fails yX7_fails ∈ WU := WU_k 26 (by decide +kernel) rfl
theorem u27 : Cond.selects RX7 yX7_isPlayer yX7_isPlayer ∈ WU := WU_k 27 (by decide +kernel) rfl
theorem u28 : Cond.selects RX7 yX7_posts yX7_posts ∈ WU := WU_k 28 (by decide +kernel) rfl
theorem u29 : Cond.selects RX7 yX7_isCard yX7_isCard ∈ WU := WU_k 29 (by decide +kernel) rfl
theorem u30 : Cond.selects RX7 yX7_failsChar yX7_failsChar ∈ WU := WU_k 30 (by decide +kernel) rfl
theorem u31 : Cond.selects RX7 yX7_isBusy yX7_isBusy ∈ WU := WU_k 31 (by decide +kernel) rfl
theorem u32 : Cond.selects RX7 yX7_isDuel yX7_isDuel ∈ WU := WU_k 32 (by decide +kernel) rfl
theorem u33 : Cond.selects RX7 yX7_resolves yX7_resolves ∈ WU := WU_k 33 (by decide +kernel) rfl
theorem u34 : Cond.selects RX7 yX7_areAllPlayed yX7_areAllPlayed ∈ WU := WU_k 34 (by decide +kernel) rfl
theorem u35 : Cond.selects RX7 yX7_ends yX7_ends ∈ WU := WU_k 35 (by decide +kernel) rfl
theorem u36 : Cond.selects RX7 yX7_pays yX7_pays ∈ WU := WU_k 36 (by decide +kernel) rfl
theorem u37 : Cond.selects RX7 yX7_isSnapshot yX7_isSnapshot ∈ WU := WU_k 37 (by decide +kernel) rfl
theorem u38 : Cond.selects RX7 yX7_isKept yX7_isKept ∈ WU := WU_k 38 (by decide +kernel) rfl
theorem u39 : Cond.selects RX7 yX7_undoes yX7_undoes ∈ WU := WU_k 39 (by decide +kernel) rfl
theorem u40 : Cond.selects RX7 yX7_restakes yX7_restakes ∈ WU := WU_k 40 (by decide +kernel) rfl
theorem u41 : Cond.selects RX7 yX7_isOffer yX7_isOffer ∈ WU := WU_k 41 (by decide +kernel) rfl
theorem u42 : Cond.initialized RL ∈ WU := WU_k 42 (by decide +kernel) rfl
theorem u43 : Cond.initialized RX6 ∈ WU := WU_k 43 (by decide +kernel) rfl
theorem u44 : Cond.initialized RJxa1e45 ∈ WU := WU_k 44 (by decide +kernel) rfl
theorem u45 : Cond.initialized RJxc12de ∈ WU := WU_k 45 (by decide +kernel) rfl
theorem u46 : Cond.initialized RJx4a65c ∈ WU := WU_k 46 (by decide +kernel) rfl
theorem u47 : Cond.initialized RX3 ∈ WU := WU_k 47 (by decide +kernel) rfl
theorem u48 : Cond.initialized RX0 ∈ WU := WU_k 48 (by decide +kernel) rfl
theorem u49 : Cond.initialized RX7 ∈ WU := WU_k 49 (by decide +kernel) rfl
theorem u50 : Cond.initialized "java/lang/Throwable" ∈ WU := WU_k 50 (by decide +kernel) rfl
theorem u51 : Cond.initialized "java/lang/Exception" ∈ WU := WU_k 51 (by decide +kernel) rfl
theorem u52 : Cond.initialized "java/lang/RuntimeException" ∈ WU := WU_k 52 (by decide +kernel) rfl
theorem u53 : Cond.initialized "java/lang/IllegalArgumentException" ∈ WU := WU_k 53 (by decide +kernel) rfl
theorem u54 : Cond.initialized "java/lang/IllegalStateException" ∈ WU := WU_k 54 (by decide +kernel) rfl
theorem u55 : Cond.initialized "java/lang/IndexOutOfBoundsException" ∈ WU := WU_k 55 (by decide +kernel) rfl
theorem u56 : Cond.initialized RJx00060 ∈ WU := WU_k 56 (by decide +kernel) rfl
theorem u57 : Cond.initialized RJ0 ∈ WU := WU_k 57 (by decide +kernel) rfl
theorem u58 : Cond.initialized RX1 ∈ WU := WU_k 58 (by decide +kernel) rfl
theorem u59 : Cond.initialized RJ8 ∈ WU := WU_k 59 (by decide +kernel) rfl
theorem u60 : Cond.initialized RJ9 ∈ WU := WU_k 60 (by decide +kernel) rfl
theorem u61 : Cond.initialized RJ7 ∈ WU := WU_k 61 (by decide +kernel) rfl
theorem u62 : Cond.initialized RJ10 ∈ WU := WU_k 62 (by decide +kernel) rfl
theorem u63 : Cond.initialized RJ15 ∈ WU := WU_k 63 (by decide +kernel) rfl
theorem u64 : Cond.initialized RJ3 ∈ WU := WU_k 64 (by decide +kernel) rfl
theorem u65 : Cond.initialized RX2 ∈ WU := WU_k 65 (by decide +kernel) rfl
theorem u66 : Cond.initialized RX5 ∈ WU := WU_k 66 (by decide +kernel) rfl
theorem u67 : Cond.initialized "java/lang/UnsupportedOperationException" ∈ WU := WU_k 67 (by decide +kernel) rfl
theorem u68 : Cond.initialized "java/util/NoSuchElementException" ∈ WU := WU_k 68 (by decide +kernel) rfl
theorem u69 : Cond.initialized RX4 ∈ WU := WU_k 69 (by decide +kernel) rfl
theorem u70 : Cond.initialized "java/lang/ArithmeticException" ∈ WU := WU_k 70 (by decide +kernel) rfl
theorem u71 : Cond.initialized RJxd2413 ∈ WU := WU_k 71 (by decide +kernel) rfl
theorem u72 : Cond.initialized RJxf58ca ∈ WU := WU_k 72 (by decide +kernel) rfl
theorem u73 : Cond.classLink RL 8 "SnapshotArena" ∈ WU := WU_k 73 (by decide +kernel) rfl
theorem u74 : Cond.instantiable RX6 12 ∈ WU := WU_k 74 (by decide +kernel) rfl
theorem u75 : Cond.methodLink RL 113 yX6_init ∈ WU := WU_k 75 (by decide +kernel) rfl
theorem u76 : Cond.instanceMethod yX6_init ∈ WU := WU_k 76 (by decide +kernel) rfl
theorem u77 : Cond.code yX6_init cX6_init 1 none ∈ WU := WU_k 77 (by decide +kernel) rfl
theorem u78 : Cond.methodLink RX6 1 ⟨"java/lang/Object", "<init>", "()V"⟩ ∈ WU := WU_k 78 (by decide +kernel) rfl
theorem u79 : Cond.instanceMethod ⟨"java/lang/Object", "<init>", "()V"⟩ ∈ WU := WU_k 79 (by decide +kernel) rfl
theorem u80 : Cond.code ⟨"java/lang/Object", "<init>", "()V"⟩ object_method_1_code 1 none ∈ WU := WU_k 80 (by decide +kernel) rfl
theorem u81 : Cond.classLink RX6 13 "java/util/ArrayList" ∈ WU := WU_k 81 (by decide +kernel) rfl
theorem u82 : Cond.instantiable RJx4a65c 3 ∈ WU := WU_k 82 (by decide +kernel) rfl
theorem u83 : Cond.methodLink RX6 15 yJx4a65c_init_da8c8 ∈ WU := WU_k 83 (by decide +kernel) rfl
theorem u84 : Cond.instanceMethod yJx4a65c_init_da8c8 ∈ WU := WU_k 84 (by decide +kernel) rfl
theorem u85 : Cond.code yJx4a65c_init_da8c8 cJx4a65c_init_da8c8 1 none ∈ WU := WU_k 85 (by decide +kernel) rfl
theorem u86 : Cond.methodLink RJx4a65c 1 yJxc12de_init_da8c8 ∈ WU := WU_k 86 (by decide +kernel) rfl
theorem u87 : Cond.instanceMethod yJxc12de_init_da8c8 ∈ WU := WU_k 87 (by decide +kernel) rfl
theorem u88 : Cond.code yJxc12de_init_da8c8 cJxc12de_init_da8c8 1 none ∈ WU := WU_k 88 (by decide +kernel) rfl
theorem u89 : Cond.methodLink RJxc12de 1 yJxa1e45_init_da8c8 ∈ WU := WU_k 89 (by decide +kernel) rfl
theorem u90 : Cond.instanceMethod yJxa1e45_init_da8c8 ∈ WU := WU_k 90 (by decide +kernel) rfl
theorem u91 : Cond.code yJxa1e45_init_da8c8 cJxa1e45_init_da8c8 1 none ∈ WU := WU_k 91 (by decide +kernel) rfl
theorem u92 : Cond.methodLink RJxa1e45 1 ⟨"java/lang/Object", "<init>", "()V"⟩ ∈ WU := WU_k 92 (by decide +kernel) rfl
theorem u93 : Cond.fieldLink RJx4a65c 39 "java/util/ArrayList" "DEFAULTCAPACITY_EMPTY_ELEMENTDATA" "[Ljava/lang/Object;" ∈ WU := WU_k 93 (by decide +kernel) rfl
theorem u95 : Cond.fieldLink RJx4a65c 9 "java/util/ArrayList" "elementData" "[Ljava/lang/Object;" ∈ WU := WU_k 95 (by decide +kernel) rfl
theorem u96 : Cond.fieldLink RJx4a65c 48 "java/util/ArrayList" "size" "I" ∈ WU := WU_k 96 (by decide +kernel) rfl
theorem u97 : Cond.fieldLink RJxc12de 7 "java/util/AbstractList" "modCount" "I" ∈ WU := WU_k 97 (by decide +kernel) rfl
theorem u98 : Cond.fieldLink RJx4a65c 63 "java/util/ArrayList" "modCount" "I" ∈ WU := WU_k 98 (by decide +kernel) rfl
theorem u99 : Cond.sameField "java/util/ArrayList" "java/util/AbstractList" "modCount" "I" ∈ WU := WU_k 99 (by decide +kernel) rfl
theorem u107 : Cond.arrayClass ClassFile.FieldType.int ∈ WU := WU_k 107 (by decide +kernel) rfl
theorem u108 : Cond.classLink RX6 29 "SnapshotArena$Ledger" ∈ WU := WU_k 108 (by decide +kernel) rfl
theorem u109 : Cond.instantiable RX3 2 ∈ WU := WU_k 109 (by decide +kernel) rfl
theorem u111 : Cond.instanceMethod yX3_init ∈ WU := WU_k 111 (by decide +kernel) rfl
theorem u112 : Cond.code yX3_init cX3_init 1 none ∈ WU := WU_k 112 (by decide +kernel) rfl
theorem u113 : Cond.methodLink RX3 3 ⟨"java/lang/Object", "<init>", "()V"⟩ ∈ WU := WU_k 113 (by decide +kernel) rfl
theorem u114 : Cond.fieldLink RX3 9 "SnapshotArena$Ledger" "rows" "[I" ∈ WU := WU_k 114 (by decide +kernel) rfl
theorem u115 : Cond.fieldLink RX3 15 "SnapshotArena$Ledger" "count" "I" ∈ WU := WU_k 115 (by decide +kernel) rfl
theorem u116 : Cond.fieldLink RX6 111 "SnapshotArena$Ledger" "count" "I" ∈ WU := WU_k 116 (by decide +kernel) rfl
theorem u122 : Cond.classLink RX6 36 "SnapshotArena$BlockStore" ∈ WU := WU_k 122 (by decide +kernel) rfl
theorem u123 : Cond.instantiable RX0 2 ∈ WU := WU_k 123 (by decide +kernel) rfl
theorem u125 : Cond.instanceMethod yX0_init ∈ WU := WU_k 125 (by decide +kernel) rfl
theorem u126 : Cond.code yX0_init cX0_init 1 none ∈ WU := WU_k 126 (by decide +kernel) rfl
theorem u127 : Cond.methodLink RX0 3 ⟨"java/lang/Object", "<init>", "()V"⟩ ∈ WU := WU_k 127 (by decide +kernel) rfl
theorem u128 : Cond.fieldLink RX0 11 "SnapshotArena$BlockStore" "kept" "[I" ∈ WU := WU_k 128 (by decide +kernel) rfl
theorem u129 : Cond.fieldLink RX0 15 "SnapshotArena$BlockStore" "uses" "[I" ∈ WU := WU_k 129 (by decide +kernel) rfl
theorem u135 : Cond.fieldLink RX6 9 "SnapshotArena" "coins" "[I" ∈ WU := WU_k 135 (by decide +kernel) rfl
theorem u136 : Cond.fieldLink RX6 53 "SnapshotArena" "playerCount" "I" ∈ WU := WU_k 136 (by decide +kernel) rfl
theorem u137 : Cond.fieldLink RX6 62 "SnapshotArena" "coinsBegunWith" "I" ∈ WU := WU_k 137 (by decide +kernel) rfl
theorem u138 : Cond.fieldLink RX6 333 "SnapshotArena" "houseCoins" "I" ∈ WU := WU_k 138 (by decide +kernel) rfl
theorem u139 : Cond.fieldLink RX6 336 "SnapshotArena" "coinsApart" "I" ∈ WU := WU_k 139 (by decide +kernel) rfl
theorem u140 : Cond.fieldLink RX6 16 "SnapshotArena" "cards" "Ljava/util/ArrayList;" ∈ WU := WU_k 140 (by decide +kernel) rfl
theorem u141 : Cond.fieldLink RX6 20 "SnapshotArena" "duels" "Ljava/util/ArrayList;" ∈ WU := WU_k 141 (by decide +kernel) rfl
theorem u142 : Cond.fieldLink RX6 23 "SnapshotArena" "offers" "Ljava/util/ArrayList;" ∈ WU := WU_k 142 (by decide +kernel) rfl
theorem u143 : Cond.fieldLink RX6 26 "SnapshotArena" "sales" "Ljava/util/ArrayList;" ∈ WU := WU_k 143 (by decide +kernel) rfl
theorem u144 : Cond.fieldLink RX6 32 "SnapshotArena" "ledger" "LSnapshotArena$Ledger;" ∈ WU := WU_k 144 (by decide +kernel) rfl
theorem u145 : Cond.fieldLink RX6 39 "SnapshotArena" "store" "LSnapshotArena$BlockStore;" ∈ WU := WU_k 145 (by decide +kernel) rfl
theorem u146 : Cond.fieldLink RX6 43 "SnapshotArena" "numbers" "[I" ∈ WU := WU_k 146 (by decide +kernel) rfl
theorem u172 : Cond.methodLink RL 145 yX6_postings ∈ WU := WU_k 172 (by decide +kernel) rfl
theorem u173 : Cond.instanceMethod yX6_postings ∈ WU := WU_k 173 (by decide +kernel) rfl
theorem u174 : Cond.selects RX6 yX6_postings yX6_postings ∈ WU := WU_k 174 (by decide +kernel) rfl
theorem u175 : Cond.code yX6_postings cX6_postings 1 (some ClassFile.FieldType.int) ∈ WU := WU_k 175 (by decide +kernel) rfl
theorem u176 : Cond.methodLink RL 194 yX6_blocks ∈ WU := WU_k 176 (by decide +kernel) rfl
theorem u177 : Cond.instanceMethod yX6_blocks ∈ WU := WU_k 177 (by decide +kernel) rfl
theorem u178 : Cond.selects RX6 yX6_blocks yX6_blocks ∈ WU := WU_k 178 (by decide +kernel) rfl
theorem u179 : Cond.code yX6_blocks cX6_blocks 1 (some ClassFile.FieldType.int) ∈ WU := WU_k 179 (by decide +kernel) rfl
theorem u180 : Cond.methodLink RX6 274 yX0_countKept ∈ WU := WU_k 180 (by decide +kernel) rfl
theorem u181 : Cond.instanceMethod yX0_countKept ∈ WU := WU_k 181 (by decide +kernel) rfl
theorem u182 : Cond.selects RX0 yX0_countKept yX0_countKept ∈ WU := WU_k 182 (by decide +kernel) rfl
theorem u183 : Cond.code yX0_countKept cX0_countKept 3 (some ClassFile.FieldType.int) ∈ WU := WU_k 183 (by decide +kernel) rfl
theorem u184 : Cond.methodLink RL 213 yX6_house ∈ WU := WU_k 184 (by decide +kernel) rfl
theorem u185 : Cond.instanceMethod yX6_house ∈ WU := WU_k 185 (by decide +kernel) rfl
theorem u186 : Cond.selects RX6 yX6_house yX6_house ∈ WU := WU_k 186 (by decide +kernel) rfl
theorem u187 : Cond.code yX6_house cX6_house 1 (some ClassFile.FieldType.int) ∈ WU := WU_k 187 (by decide +kernel) rfl
theorem u188 : Cond.methodLink RL 217 yX6_apart ∈ WU := WU_k 188 (by decide +kernel) rfl
theorem u189 : Cond.instanceMethod yX6_apart ∈ WU := WU_k 189 (by decide +kernel) rfl
theorem u190 : Cond.selects RX6 yX6_apart yX6_apart ∈ WU := WU_k 190 (by decide +kernel) rfl
theorem u191 : Cond.code yX6_apart cX6_apart 1 (some ClassFile.FieldType.long) ∈ WU := WU_k 191 (by decide +kernel) rfl
theorem u192 : Cond.methodLink RL 230 yX6_isSound ∈ WU := WU_k 192 (by decide +kernel) rfl
theorem u193 : Cond.instanceMethod yX6_isSound ∈ WU := WU_k 193 (by decide +kernel) rfl
theorem u194 : Cond.selects RX6 yX6_isSound yX6_isSound ∈ WU := WU_k 194 (by decide +kernel) rfl
theorem u195 : Cond.code yX6_isSound cX6_isSound 3 (some ClassFile.FieldType.boolean) ∈ WU := WU_k 195 (by decide +kernel) rfl
theorem u196 : Cond.methodLink RX6 71 yJx4a65c_size_8abf5 ∈ WU := WU_k 196 (by decide +kernel) rfl
theorem u197 : Cond.instanceMethod yJx4a65c_size_8abf5 ∈ WU := WU_k 197 (by decide +kernel) rfl
theorem u198 : Cond.selects RJx4a65c yJx4a65c_size_8abf5 yJx4a65c_size_8abf5 ∈ WU := WU_k 198 (by decide +kernel) rfl
theorem u199 : Cond.code yJx4a65c_size_8abf5 cJx4a65c_size_8abf5 1 (some ClassFile.FieldType.int) ∈ WU := WU_k 199 (by decide +kernel) rfl
theorem u200 : Cond.methodLink RX6 107 yJx4a65c_get_915e3 ∈ WU := WU_k 200 (by decide +kernel) rfl
theorem u201 : Cond.instanceMethod yJx4a65c_get_915e3 ∈ WU := WU_k 201 (by decide +kernel) rfl
theorem u202 : Cond.selects RJx4a65c yJx4a65c_get_915e3 yJx4a65c_get_915e3 ∈ WU := WU_k 202 (by decide +kernel) rfl
theorem u203 : Cond.code yJx4a65c_get_915e3 cJx4a65c_get_915e3 2 (some (ClassFile.FieldType.object "java/lang/Object")) ∈ WU := WU_k 203 (by decide +kernel) rfl
theorem u204 : Cond.methodLink RJx4a65c 118 yJ15_checkIndex_7cf53 ∈ WU := WU_k 204 (by decide +kernel) rfl
theorem u205 : Cond.static yJ15_checkIndex_7cf53 ∈ WU := WU_k 205 (by decide +kernel) rfl
theorem u206 : Cond.code yJ15_checkIndex_7cf53 cJ15_checkIndex_7cf53 2 (some ClassFile.FieldType.int) ∈ WU := WU_k 206 (by decide +kernel) rfl
theorem u207 : Cond.methodLink RJ15 105 yJ3_checkIndex_8e157 ∈ WU := WU_k 207 (by decide +kernel) rfl
theorem u208 : Cond.static yJ3_checkIndex_8e157 ∈ WU := WU_k 208 (by decide +kernel) rfl
theorem u209 : Cond.code yJ3_checkIndex_8e157 cJ3_checkIndex_8e157 3 (some ClassFile.FieldType.int) ∈ WU := WU_k 209 (by decide +kernel) rfl
theorem u210 : Cond.methodLink RJx4a65c 123 yJx4a65c_elementData_915e3 ∈ WU := WU_k 210 (by decide +kernel) rfl
theorem u211 : Cond.instanceMethod yJx4a65c_elementData_915e3 ∈ WU := WU_k 211 (by decide +kernel) rfl
theorem u212 : Cond.selects RJx4a65c yJx4a65c_elementData_915e3 yJx4a65c_elementData_915e3 ∈ WU := WU_k 212 (by decide +kernel) rfl
theorem u213 : Cond.code yJx4a65c_elementData_915e3 cJx4a65c_elementData_915e3 2 (some (ClassFile.FieldType.object "java/lang/Object")) ∈ WU := WU_k 213 (by decide +kernel) rfl
theorem u214 : Cond.classLink RX6 77 "SnapshotArena$Card" ∈ WU := WU_k 214 (by decide +kernel) rfl
theorem u215 : Cond.methodLink RX6 99 yX3_lastHolder ∈ WU := WU_k 215 (by decide +kernel) rfl
theorem u216 : Cond.instanceMethod yX3_lastHolder ∈ WU := WU_k 216 (by decide +kernel) rfl
theorem u217 : Cond.selects RX3 yX3_lastHolder yX3_lastHolder ∈ WU := WU_k 217 (by decide +kernel) rfl
theorem u218 : Cond.code yX3_lastHolder cX3_lastHolder 3 (some ClassFile.FieldType.int) ∈ WU := WU_k 218 (by decide +kernel) rfl
theorem u219 : Cond.methodLink RX3 29 yX3_cardIn ∈ WU := WU_k 219 (by decide +kernel) rfl
theorem u220 : Cond.instanceMethod yX3_cardIn ∈ WU := WU_k 220 (by decide +kernel) rfl
theorem u221 : Cond.selects RX3 yX3_cardIn yX3_cardIn ∈ WU := WU_k 221 (by decide +kernel) rfl
theorem u222 : Cond.code yX3_cardIn cX3_cardIn 2 (some ClassFile.FieldType.int) ∈ WU := WU_k 222 (by decide +kernel) rfl
theorem u223 : Cond.methodLink RX3 25 yX3_numberAt ∈ WU := WU_k 223 (by decide +kernel) rfl
theorem u225 : Cond.instanceMethod yX3_numberAt ∈ WU := WU_k 225 (by decide +kernel) rfl
theorem u226 : Cond.code yX3_numberAt cX3_numberAt 2 (some ClassFile.FieldType.int) ∈ WU := WU_k 226 (by decide +kernel) rfl
theorem u227 : Cond.methodLink RX3 32 yX3_takerIn ∈ WU := WU_k 227 (by decide +kernel) rfl
theorem u228 : Cond.instanceMethod yX3_takerIn ∈ WU := WU_k 228 (by decide +kernel) rfl
theorem u229 : Cond.selects RX3 yX3_takerIn yX3_takerIn ∈ WU := WU_k 229 (by decide +kernel) rfl
theorem u230 : Cond.code yX3_takerIn cX3_takerIn 2 (some ClassFile.FieldType.int) ∈ WU := WU_k 230 (by decide +kernel) rfl
theorem u231 : Cond.methodLink RL 117 yL_player ∈ WU := WU_k 231 (by decide +kernel) rfl
theorem u232 : Cond.static yL_player ∈ WU := WU_k 232 (by decide +kernel) rfl
theorem u233 : Cond.codeWith yL_player cL_player 4 (some ClassFile.FieldType.int) [(0, 9, 12, 13), (0, 9, 15, 15)] ∈ WU := WU_k 233 (by decide +kernel) rfl
theorem u234 : Cond.classLink RL 13 "java/lang/IllegalArgumentException" ∈ WU := WU_k 234 (by decide +kernel) rfl
theorem u235 : Cond.classLink RL 15 "java/lang/IllegalStateException" ∈ WU := WU_k 235 (by decide +kernel) rfl
theorem u236 : Cond.methodLink RL 7 yX6_player ∈ WU := WU_k 236 (by decide +kernel) rfl
theorem u237 : Cond.instanceMethod yX6_player ∈ WU := WU_k 237 (by decide +kernel) rfl
theorem u238 : Cond.selects RX6 yX6_player yX6_player ∈ WU := WU_k 238 (by decide +kernel) rfl
theorem u239 : Cond.code yX6_player cX6_player 3 (some ClassFile.FieldType.int) ∈ WU := WU_k 239 (by decide +kernel) rfl
theorem u240 : Cond.classLink RX6 46 "java/lang/IllegalArgumentException" ∈ WU := WU_k 240 (by decide +kernel) rfl
theorem u241 : Cond.instantiable "java/lang/IllegalArgumentException" 6 ∈ WU := WU_k 241 (by decide +kernel) rfl
theorem u249 : Cond.selects "java/lang/IllegalArgumentException" ⟨"java/lang/Throwable", "fillInStackTrace", "(I)Ljava/lang/Throwable;"⟩ ⟨"java/lang/Throwable", "fillInStackTrace", "(I)Ljava/lang/Throwable;"⟩ ∈ WU := WU_k 249 (by decide +kernel) rfl
theorem u250 : Cond.selects "java/lang/IllegalArgumentException" ⟨"java/lang/Throwable", "fillInStackTrace", "()Ljava/lang/Throwable;"⟩ ⟨"java/lang/Throwable", "fillInStackTrace", "()Ljava/lang/Throwable;"⟩ ∈ WU := WU_k 250 (by decide +kernel) rfl
theorem u261 : Cond.fieldLink "java/lang/Throwable" 198 "java/lang/Throwable" "backtrace" "Ljava/lang/Object;" ∈ WU := WU_k 261 (by decide +kernel) rfl
theorem u263 : Cond.instanceMethod ⟨"java/lang/Throwable", "<init>", "()V"⟩ ∈ WU := WU_k 263 (by decide +kernel) rfl
theorem u264 : Cond.code ⟨"java/lang/Throwable", "<init>", "()V"⟩ prog_26_method_1_code 1 none ∈ WU := WU_k 264 (by decide +kernel) rfl
theorem u265 : Cond.methodLink "java/lang/Throwable" 1 ⟨"java/lang/Object", "<init>", "()V"⟩ ∈ WU := WU_k 265 (by decide +kernel) rfl
theorem u266 : Cond.fieldLink "java/lang/Throwable" 13 "java/lang/Throwable" "UNASSIGNED_STACK" "[Ljava/lang/StackTraceElement;" ∈ WU := WU_k 266 (by decide +kernel) rfl
theorem u268 : Cond.fieldLink "java/lang/Throwable" 20 "java/lang/Throwable" "SUPPRESSED_SENTINEL" "Ljava/util/List;" ∈ WU := WU_k 268 (by decide +kernel) rfl
theorem u270 : Cond.methodLink "java/lang/Throwable" 27 ⟨"java/lang/Throwable", "fillInStackTrace", "()Ljava/lang/Throwable;"⟩ ∈ WU := WU_k 270 (by decide +kernel) rfl
theorem u271 : Cond.instanceMethod ⟨"java/lang/Throwable", "fillInStackTrace", "()Ljava/lang/Throwable;"⟩ ∈ WU := WU_k 271 (by decide +kernel) rfl
theorem u272 : Cond.sameMethod "java/lang/Throwable" "java/lang/Throwable" "fillInStackTrace" "()Ljava/lang/Throwable;" ∈ WU := WU_k 272 (by decide +kernel) rfl
theorem u273 : Cond.selects "java/lang/ArithmeticException" ⟨"java/lang/Throwable", "fillInStackTrace", "()Ljava/lang/Throwable;"⟩ ⟨"java/lang/Throwable", "fillInStackTrace", "()Ljava/lang/Throwable;"⟩ ∈ WU := WU_k 273 (by decide +kernel) rfl
theorem u274 : Cond.selects RJx00060 ⟨"java/lang/Throwable", "fillInStackTrace", "()Ljava/lang/Throwable;"⟩ ⟨"java/lang/Throwable", "fillInStackTrace", "()Ljava/lang/Throwable;"⟩ ∈ WU := WU_k 274 (by decide +kernel) rfl
theorem u275 : Cond.selects "java/lang/IllegalStateException" ⟨"java/lang/Throwable", "fillInStackTrace", "()Ljava/lang/Throwable;"⟩ ⟨"java/lang/Throwable", "fillInStackTrace", "()Ljava/lang/Throwable;"⟩ ∈ WU := WU_k 275 (by decide +kernel) rfl
theorem u276 : Cond.selects "java/lang/IndexOutOfBoundsException" ⟨"java/lang/Throwable", "fillInStackTrace", "()Ljava/lang/Throwable;"⟩ ⟨"java/lang/Throwable", "fillInStackTrace", "()Ljava/lang/Throwable;"⟩ ∈ WU := WU_k 276 (by decide +kernel) rfl
theorem u277 : Cond.selects "java/lang/UnsupportedOperationException" ⟨"java/lang/Throwable", "fillInStackTrace", "()Ljava/lang/Throwable;"⟩ ⟨"java/lang/Throwable", "fillInStackTrace", "()Ljava/lang/Throwable;"⟩ ∈ WU := WU_k 277 (by decide +kernel) rfl
theorem u278 : Cond.selects "java/util/NoSuchElementException" ⟨"java/lang/Throwable", "fillInStackTrace", "()Ljava/lang/Throwable;"⟩ ⟨"java/lang/Throwable", "fillInStackTrace", "()Ljava/lang/Throwable;"⟩ ∈ WU := WU_k 278 (by decide +kernel) rfl
theorem u279 : Cond.codeSync ⟨"java/lang/Throwable", "fillInStackTrace", "()Ljava/lang/Throwable;"⟩ prog_26_method_18_code 1 (some (ClassFile.FieldType.object "java/lang/Throwable")) ∈ WU := WU_k 279 (by decide +kernel) rfl
theorem u280 : Cond.methodLink "java/lang/Throwable" 202 ⟨"java/lang/Throwable", "fillInStackTrace", "(I)Ljava/lang/Throwable;"⟩ ∈ WU := WU_k 280 (by decide +kernel) rfl
theorem u282 : Cond.instanceMethod ⟨"java/lang/Throwable", "fillInStackTrace", "(I)Ljava/lang/Throwable;"⟩ ∈ WU := WU_k 282 (by decide +kernel) rfl
theorem u283 : Cond.instantiable "java/lang/Throwable" 6 ∈ WU := WU_k 283 (by decide +kernel) rfl
theorem u284 : Cond.native ⟨"java/lang/Throwable", "fillInStackTrace", "(I)Ljava/lang/Throwable;"⟩ ∈ WU := WU_k 284 (by decide +kernel) rfl
theorem u286 : Cond.methodLink RX6 50 ⟨"java/lang/IllegalArgumentException", "<init>", "(Ljava/lang/String;)V"⟩ ∈ WU := WU_k 286 (by decide +kernel) rfl
theorem u287 : Cond.instanceMethod ⟨"java/lang/IllegalArgumentException", "<init>", "(Ljava/lang/String;)V"⟩ ∈ WU := WU_k 287 (by decide +kernel) rfl
theorem u288 : Cond.code ⟨"java/lang/IllegalArgumentException", "<init>", "(Ljava/lang/String;)V"⟩ prog_17_method_2_code 2 none ∈ WU := WU_k 288 (by decide +kernel) rfl
theorem u289 : Cond.methodLink "java/lang/IllegalArgumentException" 7 ⟨"java/lang/RuntimeException", "<init>", "(Ljava/lang/String;)V"⟩ ∈ WU := WU_k 289 (by decide +kernel) rfl
theorem u290 : Cond.instanceMethod ⟨"java/lang/RuntimeException", "<init>", "(Ljava/lang/String;)V"⟩ ∈ WU := WU_k 290 (by decide +kernel) rfl
theorem u291 : Cond.code ⟨"java/lang/RuntimeException", "<init>", "(Ljava/lang/String;)V"⟩ prog_23_method_2_code 2 none ∈ WU := WU_k 291 (by decide +kernel) rfl
theorem u292 : Cond.methodLink "java/lang/RuntimeException" 7 ⟨"java/lang/Exception", "<init>", "(Ljava/lang/String;)V"⟩ ∈ WU := WU_k 292 (by decide +kernel) rfl
theorem u293 : Cond.instanceMethod ⟨"java/lang/Exception", "<init>", "(Ljava/lang/String;)V"⟩ ∈ WU := WU_k 293 (by decide +kernel) rfl
theorem u294 : Cond.code ⟨"java/lang/Exception", "<init>", "(Ljava/lang/String;)V"⟩ prog_15_method_2_code 2 none ∈ WU := WU_k 294 (by decide +kernel) rfl
theorem u295 : Cond.methodLink "java/lang/Exception" 7 ⟨"java/lang/Throwable", "<init>", "(Ljava/lang/String;)V"⟩ ∈ WU := WU_k 295 (by decide +kernel) rfl
theorem u296 : Cond.instanceMethod ⟨"java/lang/Throwable", "<init>", "(Ljava/lang/String;)V"⟩ ∈ WU := WU_k 296 (by decide +kernel) rfl
theorem u297 : Cond.code ⟨"java/lang/Throwable", "<init>", "(Ljava/lang/String;)V"⟩ prog_26_method_2_code 2 none ∈ WU := WU_k 297 (by decide +kernel) rfl
theorem u299 : Cond.fieldLink "java/lang/Throwable" 31 "java/lang/Throwable" "detailMessage" "Ljava/lang/String;" ∈ WU := WU_k 299 (by decide +kernel) rfl
theorem u300 : Cond.fieldLink "java/lang/Throwable" 7 "java/lang/Throwable" "cause" "Ljava/lang/Throwable;" ∈ WU := WU_k 300 (by decide +kernel) rfl
theorem u301 : Cond.fieldLink "java/lang/Throwable" 17 "java/lang/Throwable" "stackTrace" "[Ljava/lang/StackTraceElement;" ∈ WU := WU_k 301 (by decide +kernel) rfl
theorem u302 : Cond.fieldLink "java/lang/Throwable" 24 "java/lang/Throwable" "suppressedExceptions" "Ljava/util/List;" ∈ WU := WU_k 302 (by decide +kernel) rfl
theorem u311 : Cond.arrayClass ClassFile.FieldType.byte ∈ WU := WU_k 311 (by decide +kernel) rfl
theorem u312 : Cond.classLink RX6 57 "java/lang/IllegalStateException" ∈ WU := WU_k 312 (by decide +kernel) rfl
theorem u313 : Cond.instantiable "java/lang/IllegalStateException" 6 ∈ WU := WU_k 313 (by decide +kernel) rfl
theorem u315 : Cond.selects "java/lang/IllegalStateException" ⟨"java/lang/Throwable", "fillInStackTrace", "(I)Ljava/lang/Throwable;"⟩ ⟨"java/lang/Throwable", "fillInStackTrace", "(I)Ljava/lang/Throwable;"⟩ ∈ WU := WU_k 315 (by decide +kernel) rfl
theorem u322 : Cond.methodLink RX6 61 ⟨"java/lang/IllegalStateException", "<init>", "(Ljava/lang/String;)V"⟩ ∈ WU := WU_k 322 (by decide +kernel) rfl
theorem u323 : Cond.instanceMethod ⟨"java/lang/IllegalStateException", "<init>", "(Ljava/lang/String;)V"⟩ ∈ WU := WU_k 323 (by decide +kernel) rfl
theorem u324 : Cond.code ⟨"java/lang/IllegalStateException", "<init>", "(Ljava/lang/String;)V"⟩ prog_18_method_2_code 2 none ∈ WU := WU_k 324 (by decide +kernel) rfl
theorem u325 : Cond.methodLink "java/lang/IllegalStateException" 7 ⟨"java/lang/RuntimeException", "<init>", "(Ljava/lang/String;)V"⟩ ∈ WU := WU_k 325 (by decide +kernel) rfl
theorem u328 : Cond.methodLink RL 126 yL_make ∈ WU := WU_k 328 (by decide +kernel) rfl
theorem u329 : Cond.static yL_make ∈ WU := WU_k 329 (by decide +kernel) rfl
theorem u330 : Cond.codeWith yL_make cL_make 5 (some ClassFile.FieldType.int) [(0, 10, 13, 21), (0, 10, 17, 13), (0, 10, 21, 15)] ∈ WU := WU_k 330 (by decide +kernel) rfl
theorem u331 : Cond.classLink RL 21 "java/lang/IndexOutOfBoundsException" ∈ WU := WU_k 331 (by decide +kernel) rfl
theorem u332 : Cond.instantiable RJx00060 6 ∈ WU := WU_k 332 (by decide +kernel) rfl
theorem u333 : Cond.instanceMethod yJx00060_init_a7421 ∈ WU := WU_k 333 (by decide +kernel) rfl
theorem u334 : Cond.code yJx00060_init_a7421 cJx00060_init_a7421 2 none ∈ WU := WU_k 334 (by decide +kernel) rfl
theorem u335 : Cond.methodLink RJx00060 7 ⟨"java/lang/IndexOutOfBoundsException", "<init>", "(Ljava/lang/String;)V"⟩ ∈ WU := WU_k 335 (by decide +kernel) rfl
theorem u336 : Cond.instanceMethod ⟨"java/lang/IndexOutOfBoundsException", "<init>", "(Ljava/lang/String;)V"⟩ ∈ WU := WU_k 336 (by decide +kernel) rfl
theorem u337 : Cond.code ⟨"java/lang/IndexOutOfBoundsException", "<init>", "(Ljava/lang/String;)V"⟩ prog_19_method_2_code 2 none ∈ WU := WU_k 337 (by decide +kernel) rfl
theorem u338 : Cond.methodLink "java/lang/IndexOutOfBoundsException" 7 ⟨"java/lang/RuntimeException", "<init>", "(Ljava/lang/String;)V"⟩ ∈ WU := WU_k 338 (by decide +kernel) rfl
theorem u349 : Cond.selects RJx00060 ⟨"java/lang/Throwable", "fillInStackTrace", "(I)Ljava/lang/Throwable;"⟩ ⟨"java/lang/Throwable", "fillInStackTrace", "(I)Ljava/lang/Throwable;"⟩ ∈ WU := WU_k 349 (by decide +kernel) rfl
theorem u350 : Cond.instantiable RJ0 4 ∈ WU := WU_k 350 (by decide +kernel) rfl
theorem u355 : Cond.methodLink RL 17 yX6_make ∈ WU := WU_k 355 (by decide +kernel) rfl
theorem u356 : Cond.instanceMethod yX6_make ∈ WU := WU_k 356 (by decide +kernel) rfl
theorem u357 : Cond.selects RX6 yX6_make yX6_make ∈ WU := WU_k 357 (by decide +kernel) rfl
theorem u358 : Cond.code yX6_make cX6_make 4 (some ClassFile.FieldType.int) ∈ WU := WU_k 358 (by decide +kernel) rfl
theorem u359 : Cond.methodLink RX6 65 yX6_needPlayer ∈ WU := WU_k 359 (by decide +kernel) rfl
theorem u361 : Cond.instanceMethod yX6_needPlayer ∈ WU := WU_k 361 (by decide +kernel) rfl
theorem u362 : Cond.code yX6_needPlayer cX6_needPlayer 2 none ∈ WU := WU_k 362 (by decide +kernel) rfl
theorem u363 : Cond.classLink RX6 114 "java/lang/IndexOutOfBoundsException" ∈ WU := WU_k 363 (by decide +kernel) rfl
theorem u364 : Cond.instantiable "java/lang/IndexOutOfBoundsException" 6 ∈ WU := WU_k 364 (by decide +kernel) rfl
theorem u366 : Cond.selects "java/lang/IndexOutOfBoundsException" ⟨"java/lang/Throwable", "fillInStackTrace", "(I)Ljava/lang/Throwable;"⟩ ⟨"java/lang/Throwable", "fillInStackTrace", "(I)Ljava/lang/Throwable;"⟩ ∈ WU := WU_k 366 (by decide +kernel) rfl
theorem u373 : Cond.methodLink RX6 118 ⟨"java/lang/IndexOutOfBoundsException", "<init>", "(Ljava/lang/String;)V"⟩ ∈ WU := WU_k 373 (by decide +kernel) rfl
theorem u378 : Cond.instantiable RX1 6 ∈ WU := WU_k 378 (by decide +kernel) rfl
theorem u379 : Cond.methodLink RX6 79 yX1_init ∈ WU := WU_k 379 (by decide +kernel) rfl
theorem u380 : Cond.instanceMethod yX1_init ∈ WU := WU_k 380 (by decide +kernel) rfl
theorem u381 : Cond.code yX1_init cX1_init 4 none ∈ WU := WU_k 381 (by decide +kernel) rfl
theorem u382 : Cond.methodLink RX1 3 ⟨"java/lang/Object", "<init>", "()V"⟩ ∈ WU := WU_k 382 (by decide +kernel) rfl
theorem u383 : Cond.fieldLink RX1 19 "SnapshotArena$Card" "number" "I" ∈ WU := WU_k 383 (by decide +kernel) rfl
theorem u384 : Cond.fieldLink RX6 96 "SnapshotArena$Card" "number" "I" ∈ WU := WU_k 384 (by decide +kernel) rfl
theorem u385 : Cond.fieldLink RX1 22 "SnapshotArena$Card" "kind" "I" ∈ WU := WU_k 385 (by decide +kernel) rfl
theorem u386 : Cond.fieldLink RX1 25 "SnapshotArena$Card" "owner" "I" ∈ WU := WU_k 386 (by decide +kernel) rfl
theorem u387 : Cond.fieldLink RX4 29 "SnapshotArena$Card" "owner" "I" ∈ WU := WU_k 387 (by decide +kernel) rfl
theorem u388 : Cond.fieldLink RX6 93 "SnapshotArena$Card" "owner" "I" ∈ WU := WU_k 388 (by decide +kernel) rfl
theorem u389 : Cond.fieldLink RX1 9 "SnapshotArena$Card" "state" "C" ∈ WU := WU_k 389 (by decide +kernel) rfl
theorem u390 : Cond.fieldLink RX6 103 "SnapshotArena$Card" "state" "C" ∈ WU := WU_k 390 (by decide +kernel) rfl
theorem u391 : Cond.fieldLink RX6 163 "SnapshotArena$Card" "offered" "Z" ∈ WU := WU_k 391 (by decide +kernel) rfl
theorem u392 : Cond.fieldLink RX1 15 "SnapshotArena$Card" "duel" "I" ∈ WU := WU_k 392 (by decide +kernel) rfl
theorem u393 : Cond.fieldLink RX6 174 "SnapshotArena$Card" "duel" "I" ∈ WU := WU_k 393 (by decide +kernel) rfl
theorem u407 : Cond.methodLink RX6 82 yJx4a65c_add_9ea2d ∈ WU := WU_k 407 (by decide +kernel) rfl
theorem u408 : Cond.instanceMethod yJx4a65c_add_9ea2d ∈ WU := WU_k 408 (by decide +kernel) rfl
theorem u409 : Cond.selects RJx4a65c yJx4a65c_add_9ea2d yJx4a65c_add_9ea2d ∈ WU := WU_k 409 (by decide +kernel) rfl
theorem u410 : Cond.code yJx4a65c_add_9ea2d cJx4a65c_add_9ea2d 2 (some ClassFile.FieldType.boolean) ∈ WU := WU_k 410 (by decide +kernel) rfl
theorem u411 : Cond.methodLink RJx4a65c 131 yJx4a65c_add_72be8 ∈ WU := WU_k 411 (by decide +kernel) rfl
theorem u413 : Cond.instanceMethod yJx4a65c_add_72be8 ∈ WU := WU_k 413 (by decide +kernel) rfl
theorem u414 : Cond.code yJx4a65c_add_72be8 cJx4a65c_add_72be8 4 none ∈ WU := WU_k 414 (by decide +kernel) rfl
theorem u415 : Cond.methodLink RJx4a65c 129 yJx4a65c_grow_d5877 ∈ WU := WU_k 415 (by decide +kernel) rfl
theorem u417 : Cond.instanceMethod yJx4a65c_grow_d5877 ∈ WU := WU_k 417 (by decide +kernel) rfl
theorem u418 : Cond.code yJx4a65c_grow_d5877 cJx4a65c_grow_d5877 1 (some (ClassFile.FieldType.array (ClassFile.FieldType.object "java/lang/Object"))) ∈ WU := WU_k 418 (by decide +kernel) rfl
theorem u419 : Cond.methodLink RJx4a65c 69 yJx4a65c_grow_92f84 ∈ WU := WU_k 419 (by decide +kernel) rfl
theorem u421 : Cond.instanceMethod yJx4a65c_grow_92f84 ∈ WU := WU_k 421 (by decide +kernel) rfl
theorem u422 : Cond.code yJx4a65c_grow_92f84 cJx4a65c_grow_92f84 4 (some (ClassFile.FieldType.array (ClassFile.FieldType.object "java/lang/Object"))) ∈ WU := WU_k 422 (by decide +kernel) rfl
theorem u423 : Cond.methodLink RJx4a65c 73 yJ8_newLength_cabcc ∈ WU := WU_k 423 (by decide +kernel) rfl
theorem u424 : Cond.static yJ8_newLength_cabcc ∈ WU := WU_k 424 (by decide +kernel) rfl
theorem u425 : Cond.code yJ8_newLength_cabcc cJ8_newLength_cabcc 4 (some ClassFile.FieldType.int) ∈ WU := WU_k 425 (by decide +kernel) rfl
theorem u426 : Cond.methodLink RJ8 194 yJ9_max_7cf53 ∈ WU := WU_k 426 (by decide +kernel) rfl
theorem u427 : Cond.static yJ9_max_7cf53 ∈ WU := WU_k 427 (by decide +kernel) rfl
theorem u428 : Cond.code yJ9_max_7cf53 cJ9_max_7cf53 2 (some ClassFile.FieldType.int) ∈ WU := WU_k 428 (by decide +kernel) rfl
theorem u429 : Cond.constant RJ8 200 (2147483639 : Int32) ∈ WU := WU_k 429 (by decide +kernel) rfl
theorem u430 : Cond.methodLink RJ8 201 yJ8_hugeLength_7cf53 ∈ WU := WU_k 430 (by decide +kernel) rfl
theorem u431 : Cond.static yJ8_hugeLength_7cf53 ∈ WU := WU_k 431 (by decide +kernel) rfl
theorem u432 : Cond.code yJ8_hugeLength_7cf53 cJ8_hugeLength_7cf53 3 (some ClassFile.FieldType.int) ∈ WU := WU_k 432 (by decide +kernel) rfl
theorem u433 : Cond.methodLink RJx4a65c 66 yJ7_copyOf_1904c ∈ WU := WU_k 433 (by decide +kernel) rfl
theorem u434 : Cond.static yJ7_copyOf_1904c ∈ WU := WU_k 434 (by decide +kernel) rfl
theorem u435 : Cond.code yJ7_copyOf_1904c cJ7_copyOf_1904c 2 (some (ClassFile.FieldType.array (ClassFile.FieldType.object "java/lang/Object"))) ∈ WU := WU_k 435 (by decide +kernel) rfl
theorem u436 : Cond.methodLink RJ7 86 ⟨"java/lang/Object", "getClass", "()Ljava/lang/Class;"⟩ ∈ WU := WU_k 436 (by decide +kernel) rfl
theorem u437 : Cond.instanceMethod ⟨"java/lang/Object", "getClass", "()Ljava/lang/Class;"⟩ ∈ WU := WU_k 437 (by decide +kernel) rfl
theorem u438 : Cond.sameMethod "java/lang/Object" "java/lang/Object" "getClass" "()Ljava/lang/Class;" ∈ WU := WU_k 438 (by decide +kernel) rfl
theorem u439 : Cond.selects RX6 ⟨"java/lang/Object", "getClass", "()Ljava/lang/Class;"⟩ ⟨"java/lang/Object", "getClass", "()Ljava/lang/Class;"⟩ ∈ WU := WU_k 439 (by decide +kernel) rfl
theorem u440 : Cond.selects RX0 ⟨"java/lang/Object", "getClass", "()Ljava/lang/Class;"⟩ ⟨"java/lang/Object", "getClass", "()Ljava/lang/Class;"⟩ ∈ WU := WU_k 440 (by decide +kernel) rfl
theorem u441 : Cond.selects RX1 ⟨"java/lang/Object", "getClass", "()Ljava/lang/Class;"⟩ ⟨"java/lang/Object", "getClass", "()Ljava/lang/Class;"⟩ ∈ WU := WU_k 441 (by decide +kernel) rfl
theorem u442 : Cond.selects RX2 ⟨"java/lang/Object", "getClass", "()Ljava/lang/Class;"⟩ ⟨"java/lang/Object", "getClass", "()Ljava/lang/Class;"⟩ ∈ WU := WU_k 442 (by decide +kernel) rfl
theorem u443 : Cond.selects RX3 ⟨"java/lang/Object", "getClass", "()Ljava/lang/Class;"⟩ ⟨"java/lang/Object", "getClass", "()Ljava/lang/Class;"⟩ ∈ WU := WU_k 443 (by decide +kernel) rfl
theorem u444 : Cond.selects RX4 ⟨"java/lang/Object", "getClass", "()Ljava/lang/Class;"⟩ ⟨"java/lang/Object", "getClass", "()Ljava/lang/Class;"⟩ ∈ WU := WU_k 444 (by decide +kernel) rfl
theorem u445 : Cond.selects RX5 ⟨"java/lang/Object", "getClass", "()Ljava/lang/Class;"⟩ ⟨"java/lang/Object", "getClass", "()Ljava/lang/Class;"⟩ ∈ WU := WU_k 445 (by decide +kernel) rfl
theorem u446 : Cond.selects RX7 ⟨"java/lang/Object", "getClass", "()Ljava/lang/Class;"⟩ ⟨"java/lang/Object", "getClass", "()Ljava/lang/Class;"⟩ ∈ WU := WU_k 446 (by decide +kernel) rfl
theorem u447 : Cond.selects "java/lang/ArithmeticException" ⟨"java/lang/Object", "getClass", "()Ljava/lang/Class;"⟩ ⟨"java/lang/Object", "getClass", "()Ljava/lang/Class;"⟩ ∈ WU := WU_k 447 (by decide +kernel) rfl
theorem u448 : Cond.selects RJx00060 ⟨"java/lang/Object", "getClass", "()Ljava/lang/Class;"⟩ ⟨"java/lang/Object", "getClass", "()Ljava/lang/Class;"⟩ ∈ WU := WU_k 448 (by decide +kernel) rfl
theorem u449 : Cond.selects "java/lang/IllegalArgumentException" ⟨"java/lang/Object", "getClass", "()Ljava/lang/Class;"⟩ ⟨"java/lang/Object", "getClass", "()Ljava/lang/Class;"⟩ ∈ WU := WU_k 449 (by decide +kernel) rfl
theorem u450 : Cond.selects "java/lang/IllegalStateException" ⟨"java/lang/Object", "getClass", "()Ljava/lang/Class;"⟩ ⟨"java/lang/Object", "getClass", "()Ljava/lang/Class;"⟩ ∈ WU := WU_k 450 (by decide +kernel) rfl
theorem u451 : Cond.selects "java/lang/IndexOutOfBoundsException" ⟨"java/lang/Object", "getClass", "()Ljava/lang/Class;"⟩ ⟨"java/lang/Object", "getClass", "()Ljava/lang/Class;"⟩ ∈ WU := WU_k 451 (by decide +kernel) rfl
theorem u452 : Cond.selects "java/lang/UnsupportedOperationException" ⟨"java/lang/Object", "getClass", "()Ljava/lang/Class;"⟩ ⟨"java/lang/Object", "getClass", "()Ljava/lang/Class;"⟩ ∈ WU := WU_k 452 (by decide +kernel) rfl
theorem u453 : Cond.selects RJx4a65c ⟨"java/lang/Object", "getClass", "()Ljava/lang/Class;"⟩ ⟨"java/lang/Object", "getClass", "()Ljava/lang/Class;"⟩ ∈ WU := WU_k 453 (by decide +kernel) rfl
theorem u454 : Cond.selects "java/util/NoSuchElementException" ⟨"java/lang/Object", "getClass", "()Ljava/lang/Class;"⟩ ⟨"java/lang/Object", "getClass", "()Ljava/lang/Class;"⟩ ∈ WU := WU_k 454 (by decide +kernel) rfl
theorem u455 : Cond.native ⟨"java/lang/Object", "getClass", "()Ljava/lang/Class;"⟩ ∈ WU := WU_k 455 (by decide +kernel) rfl
theorem u456 : Cond.methodLink RJ7 300 yJ7_copyOf_6403c ∈ WU := WU_k 456 (by decide +kernel) rfl
theorem u457 : Cond.static yJ7_copyOf_6403c ∈ WU := WU_k 457 (by decide +kernel) rfl
theorem u458 : Cond.code yJ7_copyOf_6403c cJ7_copyOf_6403c 4 (some (ClassFile.FieldType.array (ClassFile.FieldType.object "java/lang/Object"))) ∈ WU := WU_k 458 (by decide +kernel) rfl
theorem u459 : Cond.classLink RJ7 110 "[Ljava/lang/Object;" ∈ WU := WU_k 459 (by decide +kernel) rfl
theorem u461 : Cond.classLink RJ7 2 "java/lang/Object" ∈ WU := WU_k 461 (by decide +kernel) rfl
theorem u462 : Cond.methodLink RJ7 304 yJ9_min_7cf53 ∈ WU := WU_k 462 (by decide +kernel) rfl
theorem u463 : Cond.static yJ9_min_7cf53 ∈ WU := WU_k 463 (by decide +kernel) rfl
theorem u464 : Cond.code yJ9_min_7cf53 cJ9_min_7cf53 2 (some ClassFile.FieldType.int) ∈ WU := WU_k 464 (by decide +kernel) rfl
theorem u465 : Cond.methodLink RJ7 150 ⟨"java/lang/System", "arraycopy", "(Ljava/lang/Object;ILjava/lang/Object;II)V"⟩ ∈ WU := WU_k 465 (by decide +kernel) rfl
theorem u466 : Cond.static ⟨"java/lang/System", "arraycopy", "(Ljava/lang/Object;ILjava/lang/Object;II)V"⟩ ∈ WU := WU_k 466 (by decide +kernel) rfl
theorem u467 : Cond.native ⟨"java/lang/System", "arraycopy", "(Ljava/lang/Object;ILjava/lang/Object;II)V"⟩ ∈ WU := WU_k 467 (by decide +kernel) rfl
theorem u468 : Cond.methodLink RJx4a65c 79 yJ9_max_7cf53 ∈ WU := WU_k 468 (by decide +kernel) rfl
theorem u469 : Cond.classLink RJx4a65c 7 "java/lang/Object" ∈ WU := WU_k 469 (by decide +kernel) rfl
theorem u470 : Cond.methodLink RX6 86 yX3_enter ∈ WU := WU_k 470 (by decide +kernel) rfl
theorem u471 : Cond.instanceMethod yX3_enter ∈ WU := WU_k 471 (by decide +kernel) rfl
theorem u472 : Cond.selects RX3 yX3_enter yX3_enter ∈ WU := WU_k 472 (by decide +kernel) rfl
theorem u473 : Cond.code yX3_enter cX3_enter 4 none ∈ WU := WU_k 473 (by decide +kernel) rfl
theorem u474 : Cond.methodLink RX3 19 yJ7_copyOf_59c91 ∈ WU := WU_k 474 (by decide +kernel) rfl
theorem u475 : Cond.static yJ7_copyOf_59c91 ∈ WU := WU_k 475 (by decide +kernel) rfl
theorem u476 : Cond.code yJ7_copyOf_59c91 cJ7_copyOf_59c91 3 (some (ClassFile.FieldType.array ClassFile.FieldType.int)) ∈ WU := WU_k 476 (by decide +kernel) rfl
theorem u477 : Cond.methodLink RJ7 316 ⟨"[I", "clone", "()Ljava/lang/Object;"⟩ ∈ WU := WU_k 477 (by decide +kernel) rfl
theorem u478 : Cond.sameMethod "[I" "java/lang/Object" "clone" "()Ljava/lang/Object;" ∈ WU := WU_k 478 (by decide +kernel) rfl
theorem u479 : Cond.native ⟨"java/lang/Object", "clone", "()Ljava/lang/Object;"⟩ ∈ WU := WU_k 479 (by decide +kernel) rfl
theorem u480 : Cond.instanceMethod ⟨"java/lang/Object", "clone", "()Ljava/lang/Object;"⟩ ∈ WU := WU_k 480 (by decide +kernel) rfl
theorem u481 : Cond.selects "[I" ⟨"[I", "clone", "()Ljava/lang/Object;"⟩ ⟨"java/lang/Object", "clone", "()Ljava/lang/Object;"⟩ ∈ WU := WU_k 481 (by decide +kernel) rfl
theorem u483 : Cond.classLink RJ7 317 "[I" ∈ WU := WU_k 483 (by decide +kernel) rfl
theorem u484 : Cond.methodLink RL 130 yL_ownerOf ∈ WU := WU_k 484 (by decide +kernel) rfl
theorem u485 : Cond.static yL_ownerOf ∈ WU := WU_k 485 (by decide +kernel) rfl
theorem u486 : Cond.codeWith yL_ownerOf cL_ownerOf 4 (some ClassFile.FieldType.int) [(0, 9, 12, 21)] ∈ WU := WU_k 486 (by decide +kernel) rfl
theorem u487 : Cond.methodLink RL 23 yX6_ownerOf ∈ WU := WU_k 487 (by decide +kernel) rfl
theorem u488 : Cond.instanceMethod yX6_ownerOf ∈ WU := WU_k 488 (by decide +kernel) rfl
theorem u489 : Cond.selects RX6 yX6_ownerOf yX6_ownerOf ∈ WU := WU_k 489 (by decide +kernel) rfl
theorem u490 : Cond.code yX6_ownerOf cX6_ownerOf 2 (some ClassFile.FieldType.int) ∈ WU := WU_k 490 (by decide +kernel) rfl
theorem u491 : Cond.methodLink RX6 89 yX6_cardAt ∈ WU := WU_k 491 (by decide +kernel) rfl
theorem u493 : Cond.instanceMethod yX6_cardAt ∈ WU := WU_k 493 (by decide +kernel) rfl
theorem u494 : Cond.code yX6_cardAt cX6_cardAt 2 (some (ClassFile.FieldType.object "SnapshotArena$Card")) ∈ WU := WU_k 494 (by decide +kernel) rfl
theorem u496 : Cond.methodLink RL 133 yL_ownerByPostings ∈ WU := WU_k 496 (by decide +kernel) rfl
theorem u497 : Cond.static yL_ownerByPostings ∈ WU := WU_k 497 (by decide +kernel) rfl
theorem u498 : Cond.codeWith yL_ownerByPostings cL_ownerByPostings 4 (some ClassFile.FieldType.int) [(0, 9, 12, 21)] ∈ WU := WU_k 498 (by decide +kernel) rfl
theorem u499 : Cond.methodLink RL 26 yX6_ownerByPostings ∈ WU := WU_k 499 (by decide +kernel) rfl
theorem u500 : Cond.instanceMethod yX6_ownerByPostings ∈ WU := WU_k 500 (by decide +kernel) rfl
theorem u501 : Cond.selects RX6 yX6_ownerByPostings yX6_ownerByPostings ∈ WU := WU_k 501 (by decide +kernel) rfl
theorem u502 : Cond.code yX6_ownerByPostings cX6_ownerByPostings 2 (some ClassFile.FieldType.int) ∈ WU := WU_k 502 (by decide +kernel) rfl
theorem u503 : Cond.methodLink RL 136 yL_stateOf ∈ WU := WU_k 503 (by decide +kernel) rfl
theorem u504 : Cond.static yL_stateOf ∈ WU := WU_k 504 (by decide +kernel) rfl
theorem u505 : Cond.codeWith yL_stateOf cL_stateOf 4 (some ClassFile.FieldType.int) [(0, 9, 12, 21)] ∈ WU := WU_k 505 (by decide +kernel) rfl
theorem u506 : Cond.methodLink RL 29 yX6_stateOf ∈ WU := WU_k 506 (by decide +kernel) rfl
theorem u507 : Cond.instanceMethod yX6_stateOf ∈ WU := WU_k 507 (by decide +kernel) rfl
theorem u508 : Cond.selects RX6 yX6_stateOf yX6_stateOf ∈ WU := WU_k 508 (by decide +kernel) rfl
theorem u509 : Cond.code yX6_stateOf cX6_stateOf 2 (some ClassFile.FieldType.char) ∈ WU := WU_k 509 (by decide +kernel) rfl
theorem u510 : Cond.methodLink RL 139 yL_cardsOf ∈ WU := WU_k 510 (by decide +kernel) rfl
theorem u511 : Cond.static yL_cardsOf ∈ WU := WU_k 511 (by decide +kernel) rfl
theorem u512 : Cond.codeWith yL_cardsOf cL_cardsOf 4 (some ClassFile.FieldType.int) [(0, 9, 12, 21)] ∈ WU := WU_k 512 (by decide +kernel) rfl
theorem u513 : Cond.methodLink RL 33 yX6_cardsOf ∈ WU := WU_k 513 (by decide +kernel) rfl
theorem u514 : Cond.instanceMethod yX6_cardsOf ∈ WU := WU_k 514 (by decide +kernel) rfl
theorem u515 : Cond.selects RX6 yX6_cardsOf yX6_cardsOf ∈ WU := WU_k 515 (by decide +kernel) rfl
theorem u516 : Cond.code yX6_cardsOf cX6_cardsOf 4 (some ClassFile.FieldType.int) ∈ WU := WU_k 516 (by decide +kernel) rfl
theorem u517 : Cond.methodLink RL 142 yL_coinsOf ∈ WU := WU_k 517 (by decide +kernel) rfl
theorem u518 : Cond.static yL_coinsOf ∈ WU := WU_k 518 (by decide +kernel) rfl
theorem u519 : Cond.codeWith yL_coinsOf cL_coinsOf 4 (some ClassFile.FieldType.int) [(0, 9, 12, 21)] ∈ WU := WU_k 519 (by decide +kernel) rfl
theorem u520 : Cond.methodLink RL 36 yX6_coinsOf ∈ WU := WU_k 520 (by decide +kernel) rfl
theorem u521 : Cond.instanceMethod yX6_coinsOf ∈ WU := WU_k 521 (by decide +kernel) rfl
theorem u522 : Cond.selects RX6 yX6_coinsOf yX6_coinsOf ∈ WU := WU_k 522 (by decide +kernel) rfl
theorem u523 : Cond.code yX6_coinsOf cX6_coinsOf 2 (some ClassFile.FieldType.int) ∈ WU := WU_k 523 (by decide +kernel) rfl
theorem u524 : Cond.methodLink RL 149 yL_posting ∈ WU := WU_k 524 (by decide +kernel) rfl
theorem u525 : Cond.static yL_posting ∈ WU := WU_k 525 (by decide +kernel) rfl
theorem u526 : Cond.codeWith yL_posting cL_posting 5 (some ClassFile.FieldType.int) [(0, 10, 13, 21), (0, 10, 17, 13)] ∈ WU := WU_k 526 (by decide +kernel) rfl
theorem u527 : Cond.methodLink RL 39 yX6_posting ∈ WU := WU_k 527 (by decide +kernel) rfl
theorem u528 : Cond.instanceMethod yX6_posting ∈ WU := WU_k 528 (by decide +kernel) rfl
theorem u529 : Cond.selects RX6 yX6_posting yX6_posting ∈ WU := WU_k 529 (by decide +kernel) rfl
theorem u530 : Cond.code yX6_posting cX6_posting 3 (some ClassFile.FieldType.int) ∈ WU := WU_k 530 (by decide +kernel) rfl
theorem u532 : Cond.methodLink RX6 119 yX3_cardIn ∈ WU := WU_k 532 (by decide +kernel) rfl
theorem u533 : Cond.methodLink RX6 122 yX3_giverIn ∈ WU := WU_k 533 (by decide +kernel) rfl
theorem u534 : Cond.instanceMethod yX3_giverIn ∈ WU := WU_k 534 (by decide +kernel) rfl
theorem u535 : Cond.selects RX3 yX3_giverIn yX3_giverIn ∈ WU := WU_k 535 (by decide +kernel) rfl
theorem u536 : Cond.code yX3_giverIn cX3_giverIn 2 (some ClassFile.FieldType.int) ∈ WU := WU_k 536 (by decide +kernel) rfl
theorem u537 : Cond.methodLink RX6 125 yX3_takerIn ∈ WU := WU_k 537 (by decide +kernel) rfl
theorem u539 : Cond.methodLink RL 153 yL_duel ∈ WU := WU_k 539 (by decide +kernel) rfl
theorem u540 : Cond.static yL_duel ∈ WU := WU_k 540 (by decide +kernel) rfl
theorem u541 : Cond.codeWith yL_duel cL_duel 5 (some ClassFile.FieldType.int) [(0, 10, 13, 21), (0, 10, 17, 13), (0, 10, 21, 15)] ∈ WU := WU_k 541 (by decide +kernel) rfl
theorem u542 : Cond.methodLink RL 43 yX6_duel ∈ WU := WU_k 542 (by decide +kernel) rfl
theorem u543 : Cond.instanceMethod yX6_duel ∈ WU := WU_k 543 (by decide +kernel) rfl
theorem u544 : Cond.selects RX6 yX6_duel yX6_duel ∈ WU := WU_k 544 (by decide +kernel) rfl
theorem u545 : Cond.code yX6_duel cX6_duel 3 (some ClassFile.FieldType.int) ∈ WU := WU_k 545 (by decide +kernel) rfl
theorem u547 : Cond.methodLink RX6 132 yX6_isBusy ∈ WU := WU_k 547 (by decide +kernel) rfl
theorem u549 : Cond.instanceMethod yX6_isBusy ∈ WU := WU_k 549 (by decide +kernel) rfl
theorem u550 : Cond.code yX6_isBusy cX6_isBusy 5 (some ClassFile.FieldType.boolean) ∈ WU := WU_k 550 (by decide +kernel) rfl
theorem u551 : Cond.classLink RX6 140 "SnapshotArena$Duel" ∈ WU := WU_k 551 (by decide +kernel) rfl
theorem u552 : Cond.methodLink RX6 238 yX2_hasNotEnded ∈ WU := WU_k 552 (by decide +kernel) rfl
theorem u553 : Cond.instanceMethod yX2_hasNotEnded ∈ WU := WU_k 553 (by decide +kernel) rfl
theorem u554 : Cond.selects RX2 yX2_hasNotEnded yX2_hasNotEnded ∈ WU := WU_k 554 (by decide +kernel) rfl
theorem u555 : Cond.code yX2_hasNotEnded cX2_hasNotEnded 1 (some ClassFile.FieldType.boolean) ∈ WU := WU_k 555 (by decide +kernel) rfl
theorem u556 : Cond.methodLink RX6 150 yX2_isOf ∈ WU := WU_k 556 (by decide +kernel) rfl
theorem u557 : Cond.instanceMethod yX2_isOf ∈ WU := WU_k 557 (by decide +kernel) rfl
theorem u558 : Cond.selects RX2 yX2_isOf yX2_isOf ∈ WU := WU_k 558 (by decide +kernel) rfl
theorem u559 : Cond.code yX2_isOf cX2_isOf 2 (some ClassFile.FieldType.boolean) ∈ WU := WU_k 559 (by decide +kernel) rfl
theorem u562 : Cond.instantiable RX2 11 ∈ WU := WU_k 562 (by decide +kernel) rfl
theorem u563 : Cond.methodLink RX6 142 yX2_init ∈ WU := WU_k 563 (by decide +kernel) rfl
theorem u564 : Cond.instanceMethod yX2_init ∈ WU := WU_k 564 (by decide +kernel) rfl
theorem u565 : Cond.code yX2_init cX2_init 3 none ∈ WU := WU_k 565 (by decide +kernel) rfl
theorem u566 : Cond.methodLink RX2 3 ⟨"java/lang/Object", "<init>", "()V"⟩ ∈ WU := WU_k 566 (by decide +kernel) rfl
theorem u567 : Cond.classLink RX2 23 "[[I" ∈ WU := WU_k 567 (by decide +kernel) rfl
theorem u569 : Cond.classLink RX2 31 "SnapshotArena$Side" ∈ WU := WU_k 569 (by decide +kernel) rfl
theorem u570 : Cond.instantiable RX5 4 ∈ WU := WU_k 570 (by decide +kernel) rfl
theorem u571 : Cond.methodLink RX2 33 yX5_init ∈ WU := WU_k 571 (by decide +kernel) rfl
theorem u572 : Cond.instanceMethod yX5_init ∈ WU := WU_k 572 (by decide +kernel) rfl
theorem u573 : Cond.code yX5_init cX5_init 2 none ∈ WU := WU_k 573 (by decide +kernel) rfl
theorem u574 : Cond.methodLink RX5 3 ⟨"java/lang/Object", "<init>", "()V"⟩ ∈ WU := WU_k 574 (by decide +kernel) rfl
theorem u575 : Cond.classLink RX5 15 "java/util/ArrayList" ∈ WU := WU_k 575 (by decide +kernel) rfl
theorem u576 : Cond.methodLink RX5 17 yJx4a65c_init_da8c8 ∈ WU := WU_k 576 (by decide +kernel) rfl
theorem u577 : Cond.fieldLink RX5 26 "SnapshotArena$Side" "player" "I" ∈ WU := WU_k 577 (by decide +kernel) rfl
theorem u578 : Cond.fieldLink RX2 43 "SnapshotArena$Side" "player" "I" ∈ WU := WU_k 578 (by decide +kernel) rfl
theorem u579 : Cond.fieldLink RX6 281 "SnapshotArena$Side" "player" "I" ∈ WU := WU_k 579 (by decide +kernel) rfl
theorem u580 : Cond.fieldLink RX5 11 "SnapshotArena$Side" "life" "I" ∈ WU := WU_k 580 (by decide +kernel) rfl
theorem u581 : Cond.fieldLink RX2 99 "SnapshotArena$Side" "life" "I" ∈ WU := WU_k 581 (by decide +kernel) rfl
theorem u582 : Cond.fieldLink RX6 232 "SnapshotArena$Side" "life" "I" ∈ WU := WU_k 582 (by decide +kernel) rfl
theorem u583 : Cond.fieldLink RX5 18 "SnapshotArena$Side" "staked" "Ljava/util/ArrayList;" ∈ WU := WU_k 583 (by decide +kernel) rfl
theorem u584 : Cond.fieldLink RX2 46 "SnapshotArena$Side" "staked" "Ljava/util/ArrayList;" ∈ WU := WU_k 584 (by decide +kernel) rfl
theorem u585 : Cond.fieldLink RX6 167 "SnapshotArena$Side" "staked" "Ljava/util/ArrayList;" ∈ WU := WU_k 585 (by decide +kernel) rfl
theorem u586 : Cond.fieldLink RX5 22 "SnapshotArena$Side" "played" "[I" ∈ WU := WU_k 586 (by decide +kernel) rfl
theorem u587 : Cond.fieldLink RX2 66 "SnapshotArena$Side" "played" "[I" ∈ WU := WU_k 587 (by decide +kernel) rfl
theorem u597 : Cond.fieldLink RX2 36 "SnapshotArena$Duel" "first" "LSnapshotArena$Side;" ∈ WU := WU_k 597 (by decide +kernel) rfl
theorem u598 : Cond.fieldLink RX6 179 "SnapshotArena$Duel" "first" "LSnapshotArena$Side;" ∈ WU := WU_k 598 (by decide +kernel) rfl
theorem u599 : Cond.fieldLink RX2 40 "SnapshotArena$Duel" "second" "LSnapshotArena$Side;" ∈ WU := WU_k 599 (by decide +kernel) rfl
theorem u600 : Cond.fieldLink RX6 187 "SnapshotArena$Duel" "second" "LSnapshotArena$Side;" ∈ WU := WU_k 600 (by decide +kernel) rfl
theorem u601 : Cond.fieldLink RX2 9 "SnapshotArena$Duel" "state" "C" ∈ WU := WU_k 601 (by decide +kernel) rfl
theorem u602 : Cond.fieldLink RX6 149 "SnapshotArena$Duel" "state" "C" ∈ WU := WU_k 602 (by decide +kernel) rfl
theorem u603 : Cond.fieldLink RX2 15 "SnapshotArena$Duel" "winner" "I" ∈ WU := WU_k 603 (by decide +kernel) rfl
theorem u604 : Cond.fieldLink RX6 225 "SnapshotArena$Duel" "winner" "I" ∈ WU := WU_k 604 (by decide +kernel) rfl
theorem u605 : Cond.fieldLink RX2 72 "SnapshotArena$Duel" "mana" "I" ∈ WU := WU_k 605 (by decide +kernel) rfl
theorem u606 : Cond.fieldLink RX6 192 "SnapshotArena$Duel" "mana" "I" ∈ WU := WU_k 606 (by decide +kernel) rfl
theorem u607 : Cond.fieldLink RX2 56 "SnapshotArena$Duel" "turns" "I" ∈ WU := WU_k 607 (by decide +kernel) rfl
theorem u608 : Cond.fieldLink RX2 19 "SnapshotArena$Duel" "stack" "[I" ∈ WU := WU_k 608 (by decide +kernel) rfl
theorem u609 : Cond.fieldLink RX2 69 "SnapshotArena$Duel" "depth" "I" ∈ WU := WU_k 609 (by decide +kernel) rfl
theorem u610 : Cond.fieldLink RX6 235 "SnapshotArena$Duel" "depth" "I" ∈ WU := WU_k 610 (by decide +kernel) rfl
theorem u611 : Cond.fieldLink RX2 121 "SnapshotArena$Duel" "snapshotCount" "I" ∈ WU := WU_k 611 (by decide +kernel) rfl
theorem u612 : Cond.fieldLink RX6 255 "SnapshotArena$Duel" "snapshotCount" "I" ∈ WU := WU_k 612 (by decide +kernel) rfl
theorem u613 : Cond.fieldLink RX2 25 "SnapshotArena$Duel" "keptBlocks" "[[I" ∈ WU := WU_k 613 (by decide +kernel) rfl
theorem u614 : Cond.fieldLink RX2 28 "SnapshotArena$Duel" "keptStacks" "[[I" ∈ WU := WU_k 614 (by decide +kernel) rfl
theorem u638 : Cond.methodLink RL 156 yL_stake ∈ WU := WU_k 638 (by decide +kernel) rfl
theorem u639 : Cond.static yL_stake ∈ WU := WU_k 639 (by decide +kernel) rfl
theorem u640 : Cond.codeWith yL_stake cL_stake 5 (some ClassFile.FieldType.int) [(0, 10, 13, 21), (0, 10, 17, 49), (0, 10, 21, 15)] ∈ WU := WU_k 640 (by decide +kernel) rfl
theorem u641 : Cond.classLink RL 49 "java/lang/UnsupportedOperationException" ∈ WU := WU_k 641 (by decide +kernel) rfl
theorem u642 : Cond.methodLink RL 46 yX6_stake ∈ WU := WU_k 642 (by decide +kernel) rfl
theorem u643 : Cond.instanceMethod yX6_stake ∈ WU := WU_k 643 (by decide +kernel) rfl
theorem u644 : Cond.selects RX6 yX6_stake yX6_stake ∈ WU := WU_k 644 (by decide +kernel) rfl
theorem u645 : Cond.code yX6_stake cX6_stake 6 (some ClassFile.FieldType.int) ∈ WU := WU_k 645 (by decide +kernel) rfl
theorem u646 : Cond.methodLink RX6 145 yX6_duelAt ∈ WU := WU_k 646 (by decide +kernel) rfl
theorem u648 : Cond.instanceMethod yX6_duelAt ∈ WU := WU_k 648 (by decide +kernel) rfl
theorem u649 : Cond.code yX6_duelAt cX6_duelAt 2 (some (ClassFile.FieldType.object "SnapshotArena$Duel")) ∈ WU := WU_k 649 (by decide +kernel) rfl
theorem u651 : Cond.classLink RX6 154 "java/lang/UnsupportedOperationException" ∈ WU := WU_k 651 (by decide +kernel) rfl
theorem u652 : Cond.instantiable "java/lang/UnsupportedOperationException" 6 ∈ WU := WU_k 652 (by decide +kernel) rfl
theorem u654 : Cond.selects "java/lang/UnsupportedOperationException" ⟨"java/lang/Throwable", "fillInStackTrace", "(I)Ljava/lang/Throwable;"⟩ ⟨"java/lang/Throwable", "fillInStackTrace", "(I)Ljava/lang/Throwable;"⟩ ∈ WU := WU_k 654 (by decide +kernel) rfl
theorem u661 : Cond.methodLink RX6 158 ⟨"java/lang/UnsupportedOperationException", "<init>", "(Ljava/lang/String;)V"⟩ ∈ WU := WU_k 661 (by decide +kernel) rfl
theorem u662 : Cond.instanceMethod ⟨"java/lang/UnsupportedOperationException", "<init>", "(Ljava/lang/String;)V"⟩ ∈ WU := WU_k 662 (by decide +kernel) rfl
theorem u663 : Cond.code ⟨"java/lang/UnsupportedOperationException", "<init>", "(Ljava/lang/String;)V"⟩ prog_27_method_2_code 2 none ∈ WU := WU_k 663 (by decide +kernel) rfl
theorem u664 : Cond.methodLink "java/lang/UnsupportedOperationException" 7 ⟨"java/lang/RuntimeException", "<init>", "(Ljava/lang/String;)V"⟩ ∈ WU := WU_k 664 (by decide +kernel) rfl
theorem u667 : Cond.methodLink RX6 159 yX2_sideOf ∈ WU := WU_k 667 (by decide +kernel) rfl
theorem u668 : Cond.instanceMethod yX2_sideOf ∈ WU := WU_k 668 (by decide +kernel) rfl
theorem u669 : Cond.selects RX2 yX2_sideOf yX2_sideOf ∈ WU := WU_k 669 (by decide +kernel) rfl
theorem u670 : Cond.code yX2_sideOf cX2_sideOf 2 (some (ClassFile.FieldType.object "SnapshotArena$Side")) ∈ WU := WU_k 670 (by decide +kernel) rfl
theorem u672 : Cond.methodLink RL 159 yL_start ∈ WU := WU_k 672 (by decide +kernel) rfl
theorem u673 : Cond.static yL_start ∈ WU := WU_k 673 (by decide +kernel) rfl
theorem u674 : Cond.codeWith yL_start cL_start 4 (some ClassFile.FieldType.int) [(0, 9, 12, 21), (0, 9, 15, 49), (0, 9, 18, 15)] ∈ WU := WU_k 674 (by decide +kernel) rfl
theorem u675 : Cond.methodLink RL 51 yX6_start ∈ WU := WU_k 675 (by decide +kernel) rfl
theorem u676 : Cond.instanceMethod yX6_start ∈ WU := WU_k 676 (by decide +kernel) rfl
theorem u677 : Cond.selects RX6 yX6_start yX6_start ∈ WU := WU_k 677 (by decide +kernel) rfl
theorem u678 : Cond.code yX6_start cX6_start 3 (some ClassFile.FieldType.int) ∈ WU := WU_k 678 (by decide +kernel) rfl
theorem u680 : Cond.methodLink RX6 183 yJx4a65c_isEmpty_aae02 ∈ WU := WU_k 680 (by decide +kernel) rfl
theorem u681 : Cond.instanceMethod yJx4a65c_isEmpty_aae02 ∈ WU := WU_k 681 (by decide +kernel) rfl
theorem u682 : Cond.selects RJx4a65c yJx4a65c_isEmpty_aae02 yJx4a65c_isEmpty_aae02 ∈ WU := WU_k 682 (by decide +kernel) rfl
theorem u683 : Cond.code yJx4a65c_isEmpty_aae02 cJx4a65c_isEmpty_aae02 1 (some ClassFile.FieldType.boolean) ∈ WU := WU_k 683 (by decide +kernel) rfl
theorem u685 : Cond.methodLink RX6 195 yX2_countStaked ∈ WU := WU_k 685 (by decide +kernel) rfl
theorem u686 : Cond.instanceMethod yX2_countStaked ∈ WU := WU_k 686 (by decide +kernel) rfl
theorem u687 : Cond.selects RX2 yX2_countStaked yX2_countStaked ∈ WU := WU_k 687 (by decide +kernel) rfl
theorem u688 : Cond.code yX2_countStaked cX2_countStaked 1 (some ClassFile.FieldType.int) ∈ WU := WU_k 688 (by decide +kernel) rfl
theorem u689 : Cond.methodLink RX2 50 yJx4a65c_size_8abf5 ∈ WU := WU_k 689 (by decide +kernel) rfl
theorem u690 : Cond.methodLink RL 162 yL_play ∈ WU := WU_k 690 (by decide +kernel) rfl
theorem u691 : Cond.static yL_play ∈ WU := WU_k 691 (by decide +kernel) rfl
theorem u692 : Cond.codeWith yL_play cL_play 5 (some ClassFile.FieldType.int) [(0, 10, 13, 21), (0, 10, 17, 49), (0, 10, 21, 15)] ∈ WU := WU_k 692 (by decide +kernel) rfl
theorem u693 : Cond.methodLink RL 54 yX6_play ∈ WU := WU_k 693 (by decide +kernel) rfl
theorem u694 : Cond.instanceMethod yX6_play ∈ WU := WU_k 694 (by decide +kernel) rfl
theorem u695 : Cond.selects RX6 yX6_play yX6_play ∈ WU := WU_k 695 (by decide +kernel) rfl
theorem u696 : Cond.code yX6_play cX6_play 6 (some ClassFile.FieldType.int) ∈ WU := WU_k 696 (by decide +kernel) rfl
theorem u698 : Cond.methodLink RX6 200 yX2_sideOnTurn ∈ WU := WU_k 698 (by decide +kernel) rfl
theorem u699 : Cond.instanceMethod yX2_sideOnTurn ∈ WU := WU_k 699 (by decide +kernel) rfl
theorem u700 : Cond.selects RX2 yX2_sideOnTurn yX2_sideOnTurn ∈ WU := WU_k 700 (by decide +kernel) rfl
theorem u701 : Cond.code yX2_sideOnTurn cX2_sideOnTurn 1 (some (ClassFile.FieldType.object "SnapshotArena$Side")) ∈ WU := WU_k 701 (by decide +kernel) rfl
theorem u702 : Cond.methodLink RX2 59 yX2_numberOnTurn ∈ WU := WU_k 702 (by decide +kernel) rfl
theorem u704 : Cond.instanceMethod yX2_numberOnTurn ∈ WU := WU_k 704 (by decide +kernel) rfl
theorem u705 : Cond.code yX2_numberOnTurn cX2_numberOnTurn 1 (some ClassFile.FieldType.int) ∈ WU := WU_k 705 (by decide +kernel) rfl
theorem u706 : Cond.methodLink RX6 204 yX5_placeOfUnplayed ∈ WU := WU_k 706 (by decide +kernel) rfl
theorem u707 : Cond.instanceMethod yX5_placeOfUnplayed ∈ WU := WU_k 707 (by decide +kernel) rfl
theorem u708 : Cond.selects RX5 yX5_placeOfUnplayed yX5_placeOfUnplayed ∈ WU := WU_k 708 (by decide +kernel) rfl
theorem u709 : Cond.code yX5_placeOfUnplayed cX5_placeOfUnplayed 3 (some ClassFile.FieldType.int) ∈ WU := WU_k 709 (by decide +kernel) rfl
theorem u710 : Cond.methodLink RX5 29 yJx4a65c_size_8abf5 ∈ WU := WU_k 710 (by decide +kernel) rfl
theorem u711 : Cond.methodLink RX5 33 yJx4a65c_get_915e3 ∈ WU := WU_k 711 (by decide +kernel) rfl
theorem u713 : Cond.methodLink RX6 210 yX1_cost ∈ WU := WU_k 713 (by decide +kernel) rfl
theorem u714 : Cond.instanceMethod yX1_cost ∈ WU := WU_k 714 (by decide +kernel) rfl
theorem u715 : Cond.selects RX1 yX1_cost yX1_cost ∈ WU := WU_k 715 (by decide +kernel) rfl
theorem u716 : Cond.code yX1_cost cX1_cost 1 (some ClassFile.FieldType.int) ∈ WU := WU_k 716 (by decide +kernel) rfl
theorem u718 : Cond.methodLink RX6 215 yX2_putOnStack ∈ WU := WU_k 718 (by decide +kernel) rfl
theorem u719 : Cond.instanceMethod yX2_putOnStack ∈ WU := WU_k 719 (by decide +kernel) rfl
theorem u720 : Cond.selects RX2 yX2_putOnStack yX2_putOnStack ∈ WU := WU_k 720 (by decide +kernel) rfl
theorem u721 : Cond.code yX2_putOnStack cX2_putOnStack 4 none ∈ WU := WU_k 721 (by decide +kernel) rfl
theorem u722 : Cond.methodLink RX2 62 yX2_sideOnTurn ∈ WU := WU_k 722 (by decide +kernel) rfl
theorem u723 : Cond.methodLink RX2 75 yX1_cost ∈ WU := WU_k 723 (by decide +kernel) rfl
theorem u724 : Cond.methodLink RX2 80 yX1_effect ∈ WU := WU_k 724 (by decide +kernel) rfl
theorem u725 : Cond.instanceMethod yX1_effect ∈ WU := WU_k 725 (by decide +kernel) rfl
theorem u726 : Cond.selects RX1 yX1_effect yX1_effect ∈ WU := WU_k 726 (by decide +kernel) rfl
theorem u727 : Cond.code yX1_effect cX1_effect 1 (some ClassFile.FieldType.int) ∈ WU := WU_k 727 (by decide +kernel) rfl
theorem u728 : Cond.methodLink RX2 83 yX1_power ∈ WU := WU_k 728 (by decide +kernel) rfl
theorem u729 : Cond.instanceMethod yX1_power ∈ WU := WU_k 729 (by decide +kernel) rfl
theorem u730 : Cond.selects RX1 yX1_power yX1_power ∈ WU := WU_k 730 (by decide +kernel) rfl
theorem u731 : Cond.code yX1_power cX1_power 1 (some ClassFile.FieldType.int) ∈ WU := WU_k 731 (by decide +kernel) rfl
theorem u732 : Cond.methodLink RL 165 yL_endTurn ∈ WU := WU_k 732 (by decide +kernel) rfl
theorem u733 : Cond.static yL_endTurn ∈ WU := WU_k 733 (by decide +kernel) rfl
theorem u734 : Cond.codeWith yL_endTurn cL_endTurn 4 (some ClassFile.FieldType.int) [(0, 9, 12, 21), (0, 9, 15, 49)] ∈ WU := WU_k 734 (by decide +kernel) rfl
theorem u735 : Cond.methodLink RL 57 yX6_endTurn ∈ WU := WU_k 735 (by decide +kernel) rfl
theorem u736 : Cond.instanceMethod yX6_endTurn ∈ WU := WU_k 736 (by decide +kernel) rfl
theorem u737 : Cond.selects RX6 yX6_endTurn yX6_endTurn ∈ WU := WU_k 737 (by decide +kernel) rfl
theorem u738 : Cond.code yX6_endTurn cX6_endTurn 3 (some ClassFile.FieldType.char) ∈ WU := WU_k 738 (by decide +kernel) rfl
theorem u739 : Cond.methodLink RX6 219 yX2_doStack ∈ WU := WU_k 739 (by decide +kernel) rfl
theorem u740 : Cond.instanceMethod yX2_doStack ∈ WU := WU_k 740 (by decide +kernel) rfl
theorem u741 : Cond.selects RX2 yX2_doStack yX2_doStack ∈ WU := WU_k 741 (by decide +kernel) rfl
theorem u742 : Cond.code yX2_doStack cX2_doStack 5 none ∈ WU := WU_k 742 (by decide +kernel) rfl
theorem u743 : Cond.methodLink RX2 86 yX2_hurtOtherOf ∈ WU := WU_k 743 (by decide +kernel) rfl
theorem u745 : Cond.instanceMethod yX2_hurtOtherOf ∈ WU := WU_k 745 (by decide +kernel) rfl
theorem u746 : Cond.code yX2_hurtOtherOf cX2_hurtOtherOf 5 none ∈ WU := WU_k 746 (by decide +kernel) rfl
theorem u747 : Cond.methodLink RX2 102 yX2_end ∈ WU := WU_k 747 (by decide +kernel) rfl
theorem u749 : Cond.instanceMethod yX2_end ∈ WU := WU_k 749 (by decide +kernel) rfl
theorem u750 : Cond.code yX2_end cX2_end 2 none ∈ WU := WU_k 750 (by decide +kernel) rfl
theorem u751 : Cond.methodLink RX2 90 yX2_healOwn ∈ WU := WU_k 751 (by decide +kernel) rfl
theorem u753 : Cond.instanceMethod yX2_healOwn ∈ WU := WU_k 753 (by decide +kernel) rfl
theorem u754 : Cond.code yX2_healOwn cX2_healOwn 4 none ∈ WU := WU_k 754 (by decide +kernel) rfl
theorem u755 : Cond.methodLink RX2 105 yJ9_min_7cf53 ∈ WU := WU_k 755 (by decide +kernel) rfl
theorem u756 : Cond.methodLink RX2 93 yJ9_max_7cf53 ∈ WU := WU_k 756 (by decide +kernel) rfl
theorem u757 : Cond.methodLink RX6 222 yX2_passTurn ∈ WU := WU_k 757 (by decide +kernel) rfl
theorem u758 : Cond.instanceMethod yX2_passTurn ∈ WU := WU_k 758 (by decide +kernel) rfl
theorem u759 : Cond.selects RX2 yX2_passTurn yX2_passTurn ∈ WU := WU_k 759 (by decide +kernel) rfl
theorem u760 : Cond.code yX2_passTurn cX2_passTurn 1 none ∈ WU := WU_k 760 (by decide +kernel) rfl
theorem u761 : Cond.methodLink RX2 108 yX5_hasPlayedAll ∈ WU := WU_k 761 (by decide +kernel) rfl
theorem u762 : Cond.instanceMethod yX5_hasPlayedAll ∈ WU := WU_k 762 (by decide +kernel) rfl
theorem u763 : Cond.selects RX5 yX5_hasPlayedAll yX5_hasPlayedAll ∈ WU := WU_k 763 (by decide +kernel) rfl
theorem u764 : Cond.code yX5_hasPlayedAll cX5_hasPlayedAll 2 (some ClassFile.FieldType.boolean) ∈ WU := WU_k 764 (by decide +kernel) rfl
theorem u765 : Cond.methodLink RX2 112 yX2_playerWithMoreLife ∈ WU := WU_k 765 (by decide +kernel) rfl
theorem u767 : Cond.instanceMethod yX2_playerWithMoreLife ∈ WU := WU_k 767 (by decide +kernel) rfl
theorem u768 : Cond.code yX2_playerWithMoreLife cX2_playerWithMoreLife 1 (some ClassFile.FieldType.int) ∈ WU := WU_k 768 (by decide +kernel) rfl
theorem u769 : Cond.methodLink RX6 228 yX6_awardCards ∈ WU := WU_k 769 (by decide +kernel) rfl
theorem u771 : Cond.instanceMethod yX6_awardCards ∈ WU := WU_k 771 (by decide +kernel) rfl
theorem u772 : Cond.code yX6_awardCards cX6_awardCards 5 none ∈ WU := WU_k 772 (by decide +kernel) rfl
theorem u773 : Cond.methodLink RX6 358 yX6_hand ∈ WU := WU_k 773 (by decide +kernel) rfl
theorem u775 : Cond.instanceMethod yX6_hand ∈ WU := WU_k 775 (by decide +kernel) rfl
theorem u776 : Cond.code yX6_hand cX6_hand 3 none ∈ WU := WU_k 776 (by decide +kernel) rfl
theorem u777 : Cond.methodLink RL 168 yL_duelState ∈ WU := WU_k 777 (by decide +kernel) rfl
theorem u778 : Cond.static yL_duelState ∈ WU := WU_k 778 (by decide +kernel) rfl
theorem u779 : Cond.codeWith yL_duelState cL_duelState 4 (some ClassFile.FieldType.int) [(0, 9, 12, 21)] ∈ WU := WU_k 779 (by decide +kernel) rfl
theorem u780 : Cond.methodLink RL 60 yX6_duelState ∈ WU := WU_k 780 (by decide +kernel) rfl
theorem u781 : Cond.instanceMethod yX6_duelState ∈ WU := WU_k 781 (by decide +kernel) rfl
theorem u782 : Cond.selects RX6 yX6_duelState yX6_duelState ∈ WU := WU_k 782 (by decide +kernel) rfl
theorem u783 : Cond.code yX6_duelState cX6_duelState 2 (some ClassFile.FieldType.char) ∈ WU := WU_k 783 (by decide +kernel) rfl
theorem u784 : Cond.methodLink RL 171 yL_life ∈ WU := WU_k 784 (by decide +kernel) rfl
theorem u785 : Cond.static yL_life ∈ WU := WU_k 785 (by decide +kernel) rfl
theorem u786 : Cond.codeWith yL_life cL_life 5 (some ClassFile.FieldType.int) [(0, 10, 13, 21)] ∈ WU := WU_k 786 (by decide +kernel) rfl
theorem u787 : Cond.methodLink RL 63 yX6_life ∈ WU := WU_k 787 (by decide +kernel) rfl
theorem u788 : Cond.instanceMethod yX6_life ∈ WU := WU_k 788 (by decide +kernel) rfl
theorem u789 : Cond.selects RX6 yX6_life yX6_life ∈ WU := WU_k 789 (by decide +kernel) rfl
theorem u790 : Cond.code yX6_life cX6_life 4 (some ClassFile.FieldType.int) ∈ WU := WU_k 790 (by decide +kernel) rfl
theorem u791 : Cond.methodLink RL 175 yL_mana ∈ WU := WU_k 791 (by decide +kernel) rfl
theorem u792 : Cond.static yL_mana ∈ WU := WU_k 792 (by decide +kernel) rfl
theorem u793 : Cond.codeWith yL_mana cL_mana 4 (some ClassFile.FieldType.int) [(0, 9, 12, 21), (0, 9, 15, 49)] ∈ WU := WU_k 793 (by decide +kernel) rfl
theorem u794 : Cond.methodLink RL 67 yX6_mana ∈ WU := WU_k 794 (by decide +kernel) rfl
theorem u795 : Cond.instanceMethod yX6_mana ∈ WU := WU_k 795 (by decide +kernel) rfl
theorem u796 : Cond.selects RX6 yX6_mana yX6_mana ∈ WU := WU_k 796 (by decide +kernel) rfl
theorem u797 : Cond.code yX6_mana cX6_mana 3 (some ClassFile.FieldType.int) ∈ WU := WU_k 797 (by decide +kernel) rfl
theorem u798 : Cond.methodLink RL 178 yL_depth ∈ WU := WU_k 798 (by decide +kernel) rfl
theorem u799 : Cond.static yL_depth ∈ WU := WU_k 799 (by decide +kernel) rfl
theorem u800 : Cond.codeWith yL_depth cL_depth 4 (some ClassFile.FieldType.int) [(0, 9, 12, 21)] ∈ WU := WU_k 800 (by decide +kernel) rfl
theorem u801 : Cond.methodLink RL 70 yX6_depth ∈ WU := WU_k 801 (by decide +kernel) rfl
theorem u802 : Cond.instanceMethod yX6_depth ∈ WU := WU_k 802 (by decide +kernel) rfl
theorem u803 : Cond.selects RX6 yX6_depth yX6_depth ∈ WU := WU_k 803 (by decide +kernel) rfl
theorem u804 : Cond.code yX6_depth cX6_depth 2 (some ClassFile.FieldType.int) ∈ WU := WU_k 804 (by decide +kernel) rfl
theorem u805 : Cond.methodLink RL 181 yL_winner ∈ WU := WU_k 805 (by decide +kernel) rfl
theorem u806 : Cond.static yL_winner ∈ WU := WU_k 806 (by decide +kernel) rfl
theorem u807 : Cond.codeWith yL_winner cL_winner 4 (some ClassFile.FieldType.int) [(0, 9, 12, 21), (0, 9, 15, 76)] ∈ WU := WU_k 807 (by decide +kernel) rfl
theorem u808 : Cond.classLink RL 76 "java/util/NoSuchElementException" ∈ WU := WU_k 808 (by decide +kernel) rfl
theorem u809 : Cond.methodLink RL 73 yX6_winner ∈ WU := WU_k 809 (by decide +kernel) rfl
theorem u810 : Cond.instanceMethod yX6_winner ∈ WU := WU_k 810 (by decide +kernel) rfl
theorem u811 : Cond.selects RX6 yX6_winner yX6_winner ∈ WU := WU_k 811 (by decide +kernel) rfl
theorem u812 : Cond.code yX6_winner cX6_winner 3 (some ClassFile.FieldType.int) ∈ WU := WU_k 812 (by decide +kernel) rfl
theorem u813 : Cond.classLink RX6 241 "java/util/NoSuchElementException" ∈ WU := WU_k 813 (by decide +kernel) rfl
theorem u814 : Cond.instantiable "java/util/NoSuchElementException" 6 ∈ WU := WU_k 814 (by decide +kernel) rfl
theorem u816 : Cond.selects "java/util/NoSuchElementException" ⟨"java/lang/Throwable", "fillInStackTrace", "(I)Ljava/lang/Throwable;"⟩ ⟨"java/lang/Throwable", "fillInStackTrace", "(I)Ljava/lang/Throwable;"⟩ ∈ WU := WU_k 816 (by decide +kernel) rfl
theorem u823 : Cond.methodLink RX6 245 ⟨"java/util/NoSuchElementException", "<init>", "(Ljava/lang/String;)V"⟩ ∈ WU := WU_k 823 (by decide +kernel) rfl
theorem u824 : Cond.instanceMethod ⟨"java/util/NoSuchElementException", "<init>", "(Ljava/lang/String;)V"⟩ ∈ WU := WU_k 824 (by decide +kernel) rfl
theorem u825 : Cond.code ⟨"java/util/NoSuchElementException", "<init>", "(Ljava/lang/String;)V"⟩ prog_36_method_4_code 2 none ∈ WU := WU_k 825 (by decide +kernel) rfl
theorem u826 : Cond.methodLink "java/util/NoSuchElementException" 13 ⟨"java/lang/RuntimeException", "<init>", "(Ljava/lang/String;)V"⟩ ∈ WU := WU_k 826 (by decide +kernel) rfl
theorem u829 : Cond.methodLink RL 184 yL_close ∈ WU := WU_k 829 (by decide +kernel) rfl
theorem u830 : Cond.static yL_close ∈ WU := WU_k 830 (by decide +kernel) rfl
theorem u831 : Cond.codeWith yL_close cL_close 4 (some ClassFile.FieldType.int) [(0, 9, 12, 21), (0, 9, 15, 49)] ∈ WU := WU_k 831 (by decide +kernel) rfl
theorem u832 : Cond.methodLink RL 78 yX6_close ∈ WU := WU_k 832 (by decide +kernel) rfl
theorem u833 : Cond.instanceMethod yX6_close ∈ WU := WU_k 833 (by decide +kernel) rfl
theorem u834 : Cond.selects RX6 yX6_close yX6_close ∈ WU := WU_k 834 (by decide +kernel) rfl
theorem u835 : Cond.code yX6_close cX6_close 3 (some ClassFile.FieldType.int) ∈ WU := WU_k 835 (by decide +kernel) rfl
theorem u837 : Cond.methodLink RX6 248 yX6_freeCards ∈ WU := WU_k 837 (by decide +kernel) rfl
theorem u839 : Cond.instanceMethod yX6_freeCards ∈ WU := WU_k 839 (by decide +kernel) rfl
theorem u840 : Cond.code yX6_freeCards cX6_freeCards 4 none ∈ WU := WU_k 840 (by decide +kernel) rfl
theorem u841 : Cond.methodLink RX6 252 yX6_payOutSales ∈ WU := WU_k 841 (by decide +kernel) rfl
theorem u843 : Cond.instanceMethod yX6_payOutSales ∈ WU := WU_k 843 (by decide +kernel) rfl
theorem u844 : Cond.code yX6_payOutSales cX6_payOutSales 4 none ∈ WU := WU_k 844 (by decide +kernel) rfl
theorem u845 : Cond.classLink RX6 307 "SnapshotArena$Offer" ∈ WU := WU_k 845 (by decide +kernel) rfl
theorem u846 : Cond.methodLink RX6 373 yX6_paySeller ∈ WU := WU_k 846 (by decide +kernel) rfl
theorem u848 : Cond.instanceMethod yX6_paySeller ∈ WU := WU_k 848 (by decide +kernel) rfl
theorem u849 : Cond.code yX6_paySeller cX6_paySeller 3 none ∈ WU := WU_k 849 (by decide +kernel) rfl
theorem u850 : Cond.methodLink RX6 364 yX6_addCoins ∈ WU := WU_k 850 (by decide +kernel) rfl
theorem u852 : Cond.instanceMethod yX6_addCoins ∈ WU := WU_k 852 (by decide +kernel) rfl
theorem u853 : Cond.code yX6_addCoins cX6_addCoins 3 none ∈ WU := WU_k 853 (by decide +kernel) rfl
theorem u854 : Cond.methodLink RL 187 yL_snapshot ∈ WU := WU_k 854 (by decide +kernel) rfl
theorem u855 : Cond.static yL_snapshot ∈ WU := WU_k 855 (by decide +kernel) rfl
theorem u856 : Cond.codeWith yL_snapshot cL_snapshot 4 (some ClassFile.FieldType.int) [(0, 9, 12, 21), (0, 9, 15, 49), (0, 9, 18, 15)] ∈ WU := WU_k 856 (by decide +kernel) rfl
theorem u857 : Cond.methodLink RL 81 yX6_snapshot ∈ WU := WU_k 857 (by decide +kernel) rfl
theorem u858 : Cond.instanceMethod yX6_snapshot ∈ WU := WU_k 858 (by decide +kernel) rfl
theorem u859 : Cond.selects RX6 yX6_snapshot yX6_snapshot ∈ WU := WU_k 859 (by decide +kernel) rfl
theorem u860 : Cond.code yX6_snapshot cX6_snapshot 3 (some ClassFile.FieldType.int) ∈ WU := WU_k 860 (by decide +kernel) rfl
theorem u862 : Cond.methodLink RX6 260 yX2_writeState ∈ WU := WU_k 862 (by decide +kernel) rfl
theorem u863 : Cond.instanceMethod yX2_writeState ∈ WU := WU_k 863 (by decide +kernel) rfl
theorem u864 : Cond.selects RX2 yX2_writeState yX2_writeState ∈ WU := WU_k 864 (by decide +kernel) rfl
theorem u865 : Cond.code yX2_writeState cX2_writeState 4 none ∈ WU := WU_k 865 (by decide +kernel) rfl
theorem u866 : Cond.methodLink RX2 115 ⟨"java/lang/System", "arraycopy", "(Ljava/lang/Object;ILjava/lang/Object;II)V"⟩ ∈ WU := WU_k 866 (by decide +kernel) rfl
theorem u867 : Cond.methodLink RX6 264 yX2_keep ∈ WU := WU_k 867 (by decide +kernel) rfl
theorem u868 : Cond.instanceMethod yX2_keep ∈ WU := WU_k 868 (by decide +kernel) rfl
theorem u869 : Cond.selects RX2 yX2_keep yX2_keep ∈ WU := WU_k 869 (by decide +kernel) rfl
theorem u870 : Cond.code yX2_keep cX2_keep 4 none ∈ WU := WU_k 870 (by decide +kernel) rfl
theorem u871 : Cond.methodLink RX2 124 yX0_keepBlock ∈ WU := WU_k 871 (by decide +kernel) rfl
theorem u872 : Cond.instanceMethod yX0_keepBlock ∈ WU := WU_k 872 (by decide +kernel) rfl
theorem u873 : Cond.selects RX0 yX0_keepBlock yX0_keepBlock ∈ WU := WU_k 873 (by decide +kernel) rfl
theorem u874 : Cond.code yX0_keepBlock cX0_keepBlock 5 (some ClassFile.FieldType.int) ∈ WU := WU_k 874 (by decide +kernel) rfl
theorem u875 : Cond.methodLink RX0 18 yX0_isAs ∈ WU := WU_k 875 (by decide +kernel) rfl
theorem u877 : Cond.instanceMethod yX0_isAs ∈ WU := WU_k 877 (by decide +kernel) rfl
theorem u878 : Cond.code yX0_isAs cX0_isAs 5 (some ClassFile.FieldType.boolean) ∈ WU := WU_k 878 (by decide +kernel) rfl
theorem u879 : Cond.methodLink RX0 22 ⟨"java/lang/System", "arraycopy", "(Ljava/lang/Object;ILjava/lang/Object;II)V"⟩ ∈ WU := WU_k 879 (by decide +kernel) rfl
theorem u880 : Cond.methodLink RL 190 yL_inSnapshot ∈ WU := WU_k 880 (by decide +kernel) rfl
theorem u881 : Cond.static yL_inSnapshot ∈ WU := WU_k 881 (by decide +kernel) rfl
theorem u882 : Cond.codeWith yL_inSnapshot cL_inSnapshot 6 (some ClassFile.FieldType.int) [(0, 12, 15, 21)] ∈ WU := WU_k 882 (by decide +kernel) rfl
theorem u883 : Cond.methodLink RL 84 yX6_inSnapshot ∈ WU := WU_k 883 (by decide +kernel) rfl
theorem u884 : Cond.instanceMethod yX6_inSnapshot ∈ WU := WU_k 884 (by decide +kernel) rfl
theorem u885 : Cond.selects RX6 yX6_inSnapshot yX6_inSnapshot ∈ WU := WU_k 885 (by decide +kernel) rfl
theorem u886 : Cond.code yX6_inSnapshot cX6_inSnapshot 5 (some ClassFile.FieldType.int) ∈ WU := WU_k 886 (by decide +kernel) rfl
theorem u888 : Cond.methodLink RX6 270 yX2_keptNumber ∈ WU := WU_k 888 (by decide +kernel) rfl
theorem u889 : Cond.instanceMethod yX2_keptNumber ∈ WU := WU_k 889 (by decide +kernel) rfl
theorem u890 : Cond.selects RX2 yX2_keptNumber yX2_keptNumber ∈ WU := WU_k 890 (by decide +kernel) rfl
theorem u891 : Cond.code yX2_keptNumber cX2_keptNumber 5 (some ClassFile.FieldType.int) ∈ WU := WU_k 891 (by decide +kernel) rfl
theorem u892 : Cond.methodLink RX2 130 yX0_numberIn ∈ WU := WU_k 892 (by decide +kernel) rfl
theorem u893 : Cond.instanceMethod yX0_numberIn ∈ WU := WU_k 893 (by decide +kernel) rfl
theorem u894 : Cond.selects RX0 yX0_numberIn yX0_numberIn ∈ WU := WU_k 894 (by decide +kernel) rfl
theorem u895 : Cond.code yX0_numberIn cX0_numberIn 4 (some ClassFile.FieldType.int) ∈ WU := WU_k 895 (by decide +kernel) rfl
theorem u896 : Cond.methodLink RL 198 yL_rollBack ∈ WU := WU_k 896 (by decide +kernel) rfl
theorem u897 : Cond.static yL_rollBack ∈ WU := WU_k 897 (by decide +kernel) rfl
theorem u898 : Cond.codeWith yL_rollBack cL_rollBack 5 (some ClassFile.FieldType.int) [(0, 10, 13, 21), (0, 10, 17, 49), (0, 10, 21, 15)] ∈ WU := WU_k 898 (by decide +kernel) rfl
theorem u899 : Cond.methodLink RL 88 yX6_rollBack ∈ WU := WU_k 899 (by decide +kernel) rfl
theorem u900 : Cond.instanceMethod yX6_rollBack ∈ WU := WU_k 900 (by decide +kernel) rfl
theorem u901 : Cond.selects RX6 yX6_rollBack yX6_rollBack ∈ WU := WU_k 901 (by decide +kernel) rfl
theorem u902 : Cond.code yX6_rollBack cX6_rollBack 6 (some ClassFile.FieldType.int) ∈ WU := WU_k 902 (by decide +kernel) rfl
theorem u906 : Cond.methodLink RX6 286 yX6_undoSales ∈ WU := WU_k 906 (by decide +kernel) rfl
theorem u908 : Cond.instanceMethod yX6_undoSales ∈ WU := WU_k 908 (by decide +kernel) rfl
theorem u909 : Cond.code yX6_undoSales cX6_undoSales 5 (some ClassFile.FieldType.int) ∈ WU := WU_k 909 (by decide +kernel) rfl
theorem u910 : Cond.methodLink RX6 289 yX6_dropOffers ∈ WU := WU_k 910 (by decide +kernel) rfl
theorem u912 : Cond.instanceMethod yX6_dropOffers ∈ WU := WU_k 912 (by decide +kernel) rfl
theorem u913 : Cond.code yX6_dropOffers cX6_dropOffers 4 none ∈ WU := WU_k 913 (by decide +kernel) rfl
theorem u914 : Cond.methodLink RX6 292 yX6_takeCardsBack ∈ WU := WU_k 914 (by decide +kernel) rfl
theorem u916 : Cond.instanceMethod yX6_takeCardsBack ∈ WU := WU_k 916 (by decide +kernel) rfl
theorem u917 : Cond.code yX6_takeCardsBack cX6_takeCardsBack 4 none ∈ WU := WU_k 917 (by decide +kernel) rfl
theorem u918 : Cond.methodLink RX6 295 yX2_forgetLaterThan ∈ WU := WU_k 918 (by decide +kernel) rfl
theorem u919 : Cond.instanceMethod yX2_forgetLaterThan ∈ WU := WU_k 919 (by decide +kernel) rfl
theorem u920 : Cond.selects RX2 yX2_forgetLaterThan yX2_forgetLaterThan ∈ WU := WU_k 920 (by decide +kernel) rfl
theorem u921 : Cond.code yX2_forgetLaterThan cX2_forgetLaterThan 5 none ∈ WU := WU_k 921 (by decide +kernel) rfl
theorem u922 : Cond.methodLink RX2 133 yX0_dropBlock ∈ WU := WU_k 922 (by decide +kernel) rfl
theorem u923 : Cond.instanceMethod yX0_dropBlock ∈ WU := WU_k 923 (by decide +kernel) rfl
theorem u924 : Cond.selects RX0 yX0_dropBlock yX0_dropBlock ∈ WU := WU_k 924 (by decide +kernel) rfl
theorem u925 : Cond.code yX0_dropBlock cX0_dropBlock 2 none ∈ WU := WU_k 925 (by decide +kernel) rfl
theorem u926 : Cond.methodLink RX6 299 yX2_resume ∈ WU := WU_k 926 (by decide +kernel) rfl
theorem u927 : Cond.instanceMethod yX2_resume ∈ WU := WU_k 927 (by decide +kernel) rfl
theorem u928 : Cond.selects RX2 yX2_resume yX2_resume ∈ WU := WU_k 928 (by decide +kernel) rfl
theorem u929 : Cond.code yX2_resume cX2_resume 3 none ∈ WU := WU_k 929 (by decide +kernel) rfl
theorem u930 : Cond.methodLink RL 201 yL_offer ∈ WU := WU_k 930 (by decide +kernel) rfl
theorem u931 : Cond.static yL_offer ∈ WU := WU_k 931 (by decide +kernel) rfl
theorem u932 : Cond.codeWith yL_offer cL_offer 5 (some ClassFile.FieldType.int) [(0, 10, 13, 21), (0, 10, 17, 13), (0, 10, 21, 15)] ∈ WU := WU_k 932 (by decide +kernel) rfl
theorem u933 : Cond.methodLink RL 91 yX6_offer ∈ WU := WU_k 933 (by decide +kernel) rfl
theorem u934 : Cond.instanceMethod yX6_offer ∈ WU := WU_k 934 (by decide +kernel) rfl
theorem u935 : Cond.selects RX6 yX6_offer yX6_offer ∈ WU := WU_k 935 (by decide +kernel) rfl
theorem u936 : Cond.code yX6_offer cX6_offer 4 (some ClassFile.FieldType.int) ∈ WU := WU_k 936 (by decide +kernel) rfl
theorem u939 : Cond.instantiable RX4 6 ∈ WU := WU_k 939 (by decide +kernel) rfl
theorem u940 : Cond.methodLink RX6 309 yX4_init ∈ WU := WU_k 940 (by decide +kernel) rfl
theorem u941 : Cond.instanceMethod yX4_init ∈ WU := WU_k 941 (by decide +kernel) rfl
theorem u942 : Cond.code yX4_init cX4_init 3 none ∈ WU := WU_k 942 (by decide +kernel) rfl
theorem u943 : Cond.methodLink RX4 3 ⟨"java/lang/Object", "<init>", "()V"⟩ ∈ WU := WU_k 943 (by decide +kernel) rfl
theorem u944 : Cond.fieldLink RX4 22 "SnapshotArena$Offer" "card" "LSnapshotArena$Card;" ∈ WU := WU_k 944 (by decide +kernel) rfl
theorem u945 : Cond.fieldLink RX6 318 "SnapshotArena$Offer" "card" "LSnapshotArena$Card;" ∈ WU := WU_k 945 (by decide +kernel) rfl
theorem u946 : Cond.fieldLink RX4 26 "SnapshotArena$Offer" "price" "I" ∈ WU := WU_k 946 (by decide +kernel) rfl
theorem u947 : Cond.fieldLink RX6 324 "SnapshotArena$Offer" "price" "I" ∈ WU := WU_k 947 (by decide +kernel) rfl
theorem u948 : Cond.fieldLink RX4 34 "SnapshotArena$Offer" "seller" "I" ∈ WU := WU_k 948 (by decide +kernel) rfl
theorem u949 : Cond.fieldLink RX6 361 "SnapshotArena$Offer" "seller" "I" ∈ WU := WU_k 949 (by decide +kernel) rfl
theorem u950 : Cond.fieldLink RX4 9 "SnapshotArena$Offer" "buyer" "I" ∈ WU := WU_k 950 (by decide +kernel) rfl
theorem u951 : Cond.fieldLink RX6 367 "SnapshotArena$Offer" "buyer" "I" ∈ WU := WU_k 951 (by decide +kernel) rfl
theorem u952 : Cond.fieldLink RX4 15 "SnapshotArena$Offer" "state" "C" ∈ WU := WU_k 952 (by decide +kernel) rfl
theorem u953 : Cond.fieldLink RX6 315 "SnapshotArena$Offer" "state" "C" ∈ WU := WU_k 953 (by decide +kernel) rfl
theorem u954 : Cond.fieldLink RX4 19 "SnapshotArena$Offer" "duelToWaitFor" "I" ∈ WU := WU_k 954 (by decide +kernel) rfl
theorem u955 : Cond.fieldLink RX6 370 "SnapshotArena$Offer" "duelToWaitFor" "I" ∈ WU := WU_k 955 (by decide +kernel) rfl
theorem u969 : Cond.methodLink RL 204 yL_withdraw ∈ WU := WU_k 969 (by decide +kernel) rfl
theorem u970 : Cond.static yL_withdraw ∈ WU := WU_k 970 (by decide +kernel) rfl
theorem u971 : Cond.codeWith yL_withdraw cL_withdraw 4 (some ClassFile.FieldType.int) [(0, 9, 12, 21), (0, 9, 15, 49)] ∈ WU := WU_k 971 (by decide +kernel) rfl
theorem u972 : Cond.methodLink RL 94 yX6_withdraw ∈ WU := WU_k 972 (by decide +kernel) rfl
theorem u973 : Cond.instanceMethod yX6_withdraw ∈ WU := WU_k 973 (by decide +kernel) rfl
theorem u974 : Cond.selects RX6 yX6_withdraw yX6_withdraw ∈ WU := WU_k 974 (by decide +kernel) rfl
theorem u975 : Cond.code yX6_withdraw cX6_withdraw 3 (some ClassFile.FieldType.int) ∈ WU := WU_k 975 (by decide +kernel) rfl
theorem u976 : Cond.methodLink RX6 311 yX6_offerAt ∈ WU := WU_k 976 (by decide +kernel) rfl
theorem u978 : Cond.instanceMethod yX6_offerAt ∈ WU := WU_k 978 (by decide +kernel) rfl
theorem u979 : Cond.code yX6_offerAt cX6_offerAt 2 (some (ClassFile.FieldType.object "SnapshotArena$Offer")) ∈ WU := WU_k 979 (by decide +kernel) rfl
theorem u982 : Cond.methodLink RL 207 yL_buy ∈ WU := WU_k 982 (by decide +kernel) rfl
theorem u983 : Cond.static yL_buy ∈ WU := WU_k 983 (by decide +kernel) rfl
theorem u984 : Cond.codeWith yL_buy cL_buy 5 (some ClassFile.FieldType.int) [(0, 10, 13, 21), (0, 10, 17, 49), (0, 10, 21, 15)] ∈ WU := WU_k 984 (by decide +kernel) rfl
theorem u985 : Cond.methodLink RL 97 yX6_buy ∈ WU := WU_k 985 (by decide +kernel) rfl
theorem u986 : Cond.instanceMethod yX6_buy ∈ WU := WU_k 986 (by decide +kernel) rfl
theorem u987 : Cond.selects RX6 yX6_buy yX6_buy ∈ WU := WU_k 987 (by decide +kernel) rfl
theorem u988 : Cond.code yX6_buy cX6_buy 4 (some ClassFile.FieldType.int) ∈ WU := WU_k 988 (by decide +kernel) rfl
theorem u991 : Cond.methodLink RX6 329 yX6_sell ∈ WU := WU_k 991 (by decide +kernel) rfl
theorem u993 : Cond.instanceMethod yX6_sell ∈ WU := WU_k 993 (by decide +kernel) rfl
theorem u994 : Cond.code yX6_sell cX6_sell 3 none ∈ WU := WU_k 994 (by decide +kernel) rfl
theorem u995 : Cond.methodLink RL 210 yL_offerState ∈ WU := WU_k 995 (by decide +kernel) rfl
theorem u996 : Cond.static yL_offerState ∈ WU := WU_k 996 (by decide +kernel) rfl
theorem u997 : Cond.codeWith yL_offerState cL_offerState 4 (some ClassFile.FieldType.int) [(0, 9, 12, 21)] ∈ WU := WU_k 997 (by decide +kernel) rfl
theorem u998 : Cond.methodLink RL 100 yX6_offerState ∈ WU := WU_k 998 (by decide +kernel) rfl
theorem u999 : Cond.instanceMethod yX6_offerState ∈ WU := WU_k 999 (by decide +kernel) rfl
theorem u1000 : Cond.selects RX6 yX6_offerState yX6_offerState ∈ WU := WU_k 1000 (by decide +kernel) rfl
theorem u1001 : Cond.code yX6_offerState cX6_offerState 2 (some ClassFile.FieldType.char) ∈ WU := WU_k 1001 (by decide +kernel) rfl
theorem u1002 : Cond.methodLink RL 222 yL_wonBits ∈ WU := WU_k 1002 (by decide +kernel) rfl
theorem u1003 : Cond.static yL_wonBits ∈ WU := WU_k 1003 (by decide +kernel) rfl
theorem u1004 : Cond.codeWith yL_wonBits cL_wonBits 3 (some ClassFile.FieldType.int) [(0, 8, 11, 107)] ∈ WU := WU_k 1004 (by decide +kernel) rfl
theorem u1005 : Cond.classLink RL 107 "java/lang/ArithmeticException" ∈ WU := WU_k 1005 (by decide +kernel) rfl
theorem u1006 : Cond.instantiable "java/lang/ArithmeticException" 6 ∈ WU := WU_k 1006 (by decide +kernel) rfl
theorem u1007 : Cond.instanceMethod ⟨"java/lang/ArithmeticException", "<init>", "(Ljava/lang/String;)V"⟩ ∈ WU := WU_k 1007 (by decide +kernel) rfl
theorem u1008 : Cond.code ⟨"java/lang/ArithmeticException", "<init>", "(Ljava/lang/String;)V"⟩ prog_11_method_2_code 2 none ∈ WU := WU_k 1008 (by decide +kernel) rfl
theorem u1009 : Cond.methodLink "java/lang/ArithmeticException" 7 ⟨"java/lang/RuntimeException", "<init>", "(Ljava/lang/String;)V"⟩ ∈ WU := WU_k 1009 (by decide +kernel) rfl
theorem u1018 : Cond.selects "java/lang/ArithmeticException" ⟨"java/lang/Throwable", "fillInStackTrace", "(I)Ljava/lang/Throwable;"⟩ ⟨"java/lang/Throwable", "fillInStackTrace", "(I)Ljava/lang/Throwable;"⟩ ∈ WU := WU_k 1018 (by decide +kernel) rfl
theorem u1019 : Cond.methodLink RL 103 yX6_wonBits ∈ WU := WU_k 1019 (by decide +kernel) rfl
theorem u1020 : Cond.instanceMethod yX6_wonBits ∈ WU := WU_k 1020 (by decide +kernel) rfl
theorem u1021 : Cond.selects RX6 yX6_wonBits yX6_wonBits ∈ WU := WU_k 1021 (by decide +kernel) rfl
theorem u1022 : Cond.code yX6_wonBits cX6_wonBits 3 (some ClassFile.FieldType.int) ∈ WU := WU_k 1022 (by decide +kernel) rfl
theorem u1023 : Cond.classLink RX6 339 "java/lang/ArithmeticException" ∈ WU := WU_k 1023 (by decide +kernel) rfl
theorem u1025 : Cond.methodLink RX6 343 ⟨"java/lang/ArithmeticException", "<init>", "(Ljava/lang/String;)V"⟩ ∈ WU := WU_k 1025 (by decide +kernel) rfl
theorem u1026 : Cond.methodLink RX6 344 yX6_bitsOfShare ∈ WU := WU_k 1026 (by decide +kernel) rfl
theorem u1027 : Cond.static yX6_bitsOfShare ∈ WU := WU_k 1027 (by decide +kernel) rfl
theorem u1028 : Cond.code yX6_bitsOfShare cX6_bitsOfShare 4 (some ClassFile.FieldType.int) ∈ WU := WU_k 1028 (by decide +kernel) rfl
theorem u1029 : Cond.constantFloat "SnapshotArena" 377 (1258291200 : UInt32) ∈ WU := WU_k 1029 (by decide +kernel) rfl
theorem u1030 : Cond.methodLink RL 226 yL_meanPrice ∈ WU := WU_k 1030 (by decide +kernel) rfl
theorem u1031 : Cond.static yL_meanPrice ∈ WU := WU_k 1031 (by decide +kernel) rfl
theorem u1032 : Cond.codeWith yL_meanPrice cL_meanPrice 3 (some ClassFile.FieldType.int) [(0, 7, 10, 107)] ∈ WU := WU_k 1032 (by decide +kernel) rfl
theorem u1033 : Cond.methodLink RL 109 yX6_meanPrice ∈ WU := WU_k 1033 (by decide +kernel) rfl
theorem u1034 : Cond.instanceMethod yX6_meanPrice ∈ WU := WU_k 1034 (by decide +kernel) rfl
theorem u1035 : Cond.selects RX6 yX6_meanPrice yX6_meanPrice ∈ WU := WU_k 1035 (by decide +kernel) rfl
theorem u1036 : Cond.code yX6_meanPrice cX6_meanPrice 5 (some ClassFile.FieldType.double) ∈ WU := WU_k 1036 (by decide +kernel) rfl
theorem u1038 : Cond.classLink RL 114 "SnapshotArenaModel" ∈ WU := WU_k 1038 (by decide +kernel) rfl
theorem u1039 : Cond.instantiable RX7 38 ∈ WU := WU_k 1039 (by decide +kernel) rfl
theorem u1040 : Cond.methodLink RL 116 yX7_init ∈ WU := WU_k 1040 (by decide +kernel) rfl
theorem u1041 : Cond.instanceMethod yX7_init ∈ WU := WU_k 1041 (by decide +kernel) rfl
theorem u1042 : Cond.code yX7_init cX7_init 1 none ∈ WU := WU_k 1042 (by decide +kernel) rfl
theorem u1043 : Cond.methodLink RX7 1 ⟨"java/lang/Object", "<init>", "()V"⟩ ∈ WU := WU_k 1043 (by decide +kernel) rfl
theorem u1044 : Cond.fieldLink RX7 98 "SnapshotArenaModel" "code" "I" ∈ WU := WU_k 1044 (by decide +kernel) rfl
theorem u1045 : Cond.fieldLink RX7 110 "SnapshotArenaModel" "players" "I" ∈ WU := WU_k 1045 (by decide +kernel) rfl
theorem u1046 : Cond.fieldLink RX7 7 "SnapshotArenaModel" "coins" "[I" ∈ WU := WU_k 1046 (by decide +kernel) rfl
theorem u1047 : Cond.fieldLink RX7 164 "SnapshotArenaModel" "house" "I" ∈ WU := WU_k 1047 (by decide +kernel) rfl
theorem u1048 : Cond.fieldLink RX7 157 "SnapshotArenaModel" "apart" "J" ∈ WU := WU_k 1048 (by decide +kernel) rfl
theorem u1049 : Cond.fieldLink RX7 120 "SnapshotArenaModel" "cards" "I" ∈ WU := WU_k 1049 (by decide +kernel) rfl
theorem u1050 : Cond.fieldLink RX7 13 "SnapshotArenaModel" "kind" "[I" ∈ WU := WU_k 1050 (by decide +kernel) rfl
theorem u1051 : Cond.fieldLink RX7 16 "SnapshotArenaModel" "owner" "[I" ∈ WU := WU_k 1051 (by decide +kernel) rfl
theorem u1052 : Cond.fieldLink RX7 19 "SnapshotArenaModel" "how" "[C" ∈ WU := WU_k 1052 (by decide +kernel) rfl
theorem u1053 : Cond.fieldLink RX7 23 "SnapshotArenaModel" "duelOf" "[I" ∈ WU := WU_k 1053 (by decide +kernel) rfl
theorem u1054 : Cond.fieldLink RX7 26 "SnapshotArenaModel" "offerOf" "[I" ∈ WU := WU_k 1054 (by decide +kernel) rfl
theorem u1055 : Cond.fieldLink RX7 113 "SnapshotArenaModel" "postings" "I" ∈ WU := WU_k 1055 (by decide +kernel) rfl
theorem u1056 : Cond.fieldLink RX7 29 "SnapshotArenaModel" "posted" "[I" ∈ WU := WU_k 1056 (by decide +kernel) rfl
theorem u1057 : Cond.fieldLink RX7 134 "SnapshotArenaModel" "duels" "I" ∈ WU := WU_k 1057 (by decide +kernel) rfl
theorem u1058 : Cond.fieldLink RX7 32 "SnapshotArenaModel" "first" "[I" ∈ WU := WU_k 1058 (by decide +kernel) rfl
theorem u1059 : Cond.fieldLink RX7 35 "SnapshotArenaModel" "second" "[I" ∈ WU := WU_k 1059 (by decide +kernel) rfl
theorem u1060 : Cond.fieldLink RX7 38 "SnapshotArenaModel" "state" "[C" ∈ WU := WU_k 1060 (by decide +kernel) rfl
theorem u1061 : Cond.fieldLink RX7 41 "SnapshotArenaModel" "winners" "[I" ∈ WU := WU_k 1061 (by decide +kernel) rfl
theorem u1062 : Cond.fieldLink RX7 44 "SnapshotArenaModel" "lives" "[I" ∈ WU := WU_k 1062 (by decide +kernel) rfl
theorem u1063 : Cond.fieldLink RX7 47 "SnapshotArenaModel" "mana" "[I" ∈ WU := WU_k 1063 (by decide +kernel) rfl
theorem u1064 : Cond.fieldLink RX7 50 "SnapshotArenaModel" "turns" "[I" ∈ WU := WU_k 1064 (by decide +kernel) rfl
theorem u1065 : Cond.fieldLink RX7 53 "SnapshotArenaModel" "many" "[I" ∈ WU := WU_k 1065 (by decide +kernel) rfl
theorem u1066 : Cond.fieldLink RX7 56 "SnapshotArenaModel" "staked" "[I" ∈ WU := WU_k 1066 (by decide +kernel) rfl
theorem u1067 : Cond.fieldLink RX7 59 "SnapshotArenaModel" "played" "[I" ∈ WU := WU_k 1067 (by decide +kernel) rfl
theorem u1068 : Cond.fieldLink RX7 62 "SnapshotArenaModel" "depth" "[I" ∈ WU := WU_k 1068 (by decide +kernel) rfl
theorem u1069 : Cond.fieldLink RX7 65 "SnapshotArenaModel" "stack" "[I" ∈ WU := WU_k 1069 (by decide +kernel) rfl
theorem u1070 : Cond.fieldLink RX7 68 "SnapshotArenaModel" "snapshots" "[I" ∈ WU := WU_k 1070 (by decide +kernel) rfl
theorem u1071 : Cond.fieldLink RX7 71 "SnapshotArenaModel" "kept" "[I" ∈ WU := WU_k 1071 (by decide +kernel) rfl
theorem u1072 : Cond.fieldLink RX7 74 "SnapshotArenaModel" "keptStack" "[I" ∈ WU := WU_k 1072 (by decide +kernel) rfl
theorem u1073 : Cond.fieldLink RX7 154 "SnapshotArenaModel" "offers" "I" ∈ WU := WU_k 1073 (by decide +kernel) rfl
theorem u1074 : Cond.fieldLink RX7 77 "SnapshotArenaModel" "offerCard" "[I" ∈ WU := WU_k 1074 (by decide +kernel) rfl
theorem u1075 : Cond.fieldLink RX7 80 "SnapshotArenaModel" "price" "[I" ∈ WU := WU_k 1075 (by decide +kernel) rfl
theorem u1076 : Cond.fieldLink RX7 83 "SnapshotArenaModel" "offerState" "[C" ∈ WU := WU_k 1076 (by decide +kernel) rfl
theorem u1077 : Cond.fieldLink RX7 86 "SnapshotArenaModel" "seller" "[I" ∈ WU := WU_k 1077 (by decide +kernel) rfl
theorem u1078 : Cond.fieldLink RX7 89 "SnapshotArenaModel" "buyer" "[I" ∈ WU := WU_k 1078 (by decide +kernel) rfl
theorem u1079 : Cond.fieldLink RX7 92 "SnapshotArenaModel" "waits" "[I" ∈ WU := WU_k 1079 (by decide +kernel) rfl
theorem u1080 : Cond.fieldLink RX7 95 "SnapshotArenaModel" "bought" "[I" ∈ WU := WU_k 1080 (by decide +kernel) rfl
theorem u1081 : Cond.fieldLink RX7 182 "SnapshotArenaModel" "purchases" "I" ∈ WU := WU_k 1081 (by decide +kernel) rfl
theorem u1159 : Cond.arrayClass ClassFile.FieldType.char ∈ WU := WU_k 1159 (by decide +kernel) rfl
theorem u1160 : Cond.methodLink RL 123 yX7_thrown ∈ WU := WU_k 1160 (by decide +kernel) rfl
theorem u1161 : Cond.instanceMethod yX7_thrown ∈ WU := WU_k 1161 (by decide +kernel) rfl
theorem u1162 : Cond.selects RX7 yX7_thrown yX7_thrown ∈ WU := WU_k 1162 (by decide +kernel) rfl
theorem u1163 : Cond.code yX7_thrown cX7_thrown 1 (some ClassFile.FieldType.int) ∈ WU := WU_k 1163 (by decide +kernel) rfl
theorem u1164 : Cond.methodLink RL 122 yX7_player ∈ WU := WU_k 1164 (by decide +kernel) rfl
theorem u1165 : Cond.instanceMethod yX7_player ∈ WU := WU_k 1165 (by decide +kernel) rfl
theorem u1166 : Cond.selects RX7 yX7_player yX7_player ∈ WU := WU_k 1166 (by decide +kernel) rfl
theorem u1167 : Cond.code yX7_player cX7_player 2 (some ClassFile.FieldType.int) ∈ WU := WU_k 1167 (by decide +kernel) rfl
theorem u1168 : Cond.methodLink RX7 102 yX7_in ∈ WU := WU_k 1168 (by decide +kernel) rfl
theorem u1169 : Cond.static yX7_in ∈ WU := WU_k 1169 (by decide +kernel) rfl
theorem u1170 : Cond.code yX7_in cX7_in 3 (some ClassFile.FieldType.boolean) ∈ WU := WU_k 1170 (by decide +kernel) rfl
theorem u1171 : Cond.methodLink RX7 106 yX7_fails ∈ WU := WU_k 1171 (by decide +kernel) rfl
theorem u1173 : Cond.instanceMethod yX7_fails ∈ WU := WU_k 1173 (by decide +kernel) rfl
theorem u1174 : Cond.code yX7_fails cX7_fails 2 (some ClassFile.FieldType.int) ∈ WU := WU_k 1174 (by decide +kernel) rfl
theorem u1175 : Cond.methodLink RL 129 yX7_make ∈ WU := WU_k 1175 (by decide +kernel) rfl
theorem u1176 : Cond.instanceMethod yX7_make ∈ WU := WU_k 1176 (by decide +kernel) rfl
theorem u1177 : Cond.selects RX7 yX7_make yX7_make ∈ WU := WU_k 1177 (by decide +kernel) rfl
theorem u1178 : Cond.code yX7_make cX7_make 3 (some ClassFile.FieldType.int) ∈ WU := WU_k 1178 (by decide +kernel) rfl
theorem u1179 : Cond.methodLink RX7 116 yX7_isPlayer ∈ WU := WU_k 1179 (by decide +kernel) rfl
theorem u1181 : Cond.instanceMethod yX7_isPlayer ∈ WU := WU_k 1181 (by decide +kernel) rfl
theorem u1182 : Cond.code yX7_isPlayer cX7_isPlayer 2 (some ClassFile.FieldType.boolean) ∈ WU := WU_k 1182 (by decide +kernel) rfl
theorem u1183 : Cond.methodLink RX7 123 yX7_posts ∈ WU := WU_k 1183 (by decide +kernel) rfl
theorem u1185 : Cond.instanceMethod yX7_posts ∈ WU := WU_k 1185 (by decide +kernel) rfl
theorem u1186 : Cond.code yX7_posts cX7_posts 4 none ∈ WU := WU_k 1186 (by decide +kernel) rfl
theorem u1187 : Cond.methodLink RL 132 yX7_ownerOf ∈ WU := WU_k 1187 (by decide +kernel) rfl
theorem u1188 : Cond.instanceMethod yX7_ownerOf ∈ WU := WU_k 1188 (by decide +kernel) rfl
theorem u1189 : Cond.selects RX7 yX7_ownerOf yX7_ownerOf ∈ WU := WU_k 1189 (by decide +kernel) rfl
theorem u1190 : Cond.code yX7_ownerOf cX7_ownerOf 2 (some ClassFile.FieldType.int) ∈ WU := WU_k 1190 (by decide +kernel) rfl
theorem u1191 : Cond.methodLink RX7 127 yX7_isCard ∈ WU := WU_k 1191 (by decide +kernel) rfl
theorem u1193 : Cond.instanceMethod yX7_isCard ∈ WU := WU_k 1193 (by decide +kernel) rfl
theorem u1194 : Cond.code yX7_isCard cX7_isCard 2 (some ClassFile.FieldType.boolean) ∈ WU := WU_k 1194 (by decide +kernel) rfl
theorem u1195 : Cond.methodLink RL 135 yX7_ownerByPostings ∈ WU := WU_k 1195 (by decide +kernel) rfl
theorem u1196 : Cond.instanceMethod yX7_ownerByPostings ∈ WU := WU_k 1196 (by decide +kernel) rfl
theorem u1197 : Cond.selects RX7 yX7_ownerByPostings yX7_ownerByPostings ∈ WU := WU_k 1197 (by decide +kernel) rfl
theorem u1198 : Cond.code yX7_ownerByPostings cX7_ownerByPostings 4 (some ClassFile.FieldType.int) ∈ WU := WU_k 1198 (by decide +kernel) rfl
theorem u1199 : Cond.methodLink RL 138 yX7_stateOf ∈ WU := WU_k 1199 (by decide +kernel) rfl
theorem u1200 : Cond.instanceMethod yX7_stateOf ∈ WU := WU_k 1200 (by decide +kernel) rfl
theorem u1201 : Cond.selects RX7 yX7_stateOf yX7_stateOf ∈ WU := WU_k 1201 (by decide +kernel) rfl
theorem u1202 : Cond.code yX7_stateOf cX7_stateOf 2 (some ClassFile.FieldType.char) ∈ WU := WU_k 1202 (by decide +kernel) rfl
theorem u1203 : Cond.methodLink RX7 130 yX7_failsChar ∈ WU := WU_k 1203 (by decide +kernel) rfl
theorem u1205 : Cond.instanceMethod yX7_failsChar ∈ WU := WU_k 1205 (by decide +kernel) rfl
theorem u1206 : Cond.code yX7_failsChar cX7_failsChar 2 (some ClassFile.FieldType.char) ∈ WU := WU_k 1206 (by decide +kernel) rfl
theorem u1207 : Cond.methodLink RL 141 yX7_cardsOf ∈ WU := WU_k 1207 (by decide +kernel) rfl
theorem u1208 : Cond.instanceMethod yX7_cardsOf ∈ WU := WU_k 1208 (by decide +kernel) rfl
theorem u1209 : Cond.selects RX7 yX7_cardsOf yX7_cardsOf ∈ WU := WU_k 1209 (by decide +kernel) rfl
theorem u1210 : Cond.code yX7_cardsOf cX7_cardsOf 4 (some ClassFile.FieldType.int) ∈ WU := WU_k 1210 (by decide +kernel) rfl
theorem u1211 : Cond.methodLink RL 144 yX7_coinsOf ∈ WU := WU_k 1211 (by decide +kernel) rfl
theorem u1212 : Cond.instanceMethod yX7_coinsOf ∈ WU := WU_k 1212 (by decide +kernel) rfl
theorem u1213 : Cond.selects RX7 yX7_coinsOf yX7_coinsOf ∈ WU := WU_k 1213 (by decide +kernel) rfl
theorem u1214 : Cond.code yX7_coinsOf cX7_coinsOf 2 (some ClassFile.FieldType.int) ∈ WU := WU_k 1214 (by decide +kernel) rfl
theorem u1215 : Cond.methodLink RL 148 yX7_postings ∈ WU := WU_k 1215 (by decide +kernel) rfl
theorem u1216 : Cond.instanceMethod yX7_postings ∈ WU := WU_k 1216 (by decide +kernel) rfl
theorem u1217 : Cond.selects RX7 yX7_postings yX7_postings ∈ WU := WU_k 1217 (by decide +kernel) rfl
theorem u1218 : Cond.code yX7_postings cX7_postings 1 (some ClassFile.FieldType.int) ∈ WU := WU_k 1218 (by decide +kernel) rfl
theorem u1219 : Cond.methodLink RL 152 yX7_posting ∈ WU := WU_k 1219 (by decide +kernel) rfl
theorem u1220 : Cond.instanceMethod yX7_posting ∈ WU := WU_k 1220 (by decide +kernel) rfl
theorem u1221 : Cond.selects RX7 yX7_posting yX7_posting ∈ WU := WU_k 1221 (by decide +kernel) rfl
theorem u1222 : Cond.code yX7_posting cX7_posting 3 (some ClassFile.FieldType.int) ∈ WU := WU_k 1222 (by decide +kernel) rfl
theorem u1223 : Cond.methodLink RL 155 yX7_duel ∈ WU := WU_k 1223 (by decide +kernel) rfl
theorem u1224 : Cond.instanceMethod yX7_duel ∈ WU := WU_k 1224 (by decide +kernel) rfl
theorem u1225 : Cond.selects RX7 yX7_duel yX7_duel ∈ WU := WU_k 1225 (by decide +kernel) rfl
theorem u1226 : Cond.code yX7_duel cX7_duel 3 (some ClassFile.FieldType.int) ∈ WU := WU_k 1226 (by decide +kernel) rfl
theorem u1227 : Cond.methodLink RX7 137 yX7_isBusy ∈ WU := WU_k 1227 (by decide +kernel) rfl
theorem u1229 : Cond.instanceMethod yX7_isBusy ∈ WU := WU_k 1229 (by decide +kernel) rfl
theorem u1230 : Cond.code yX7_isBusy cX7_isBusy 5 (some ClassFile.FieldType.boolean) ∈ WU := WU_k 1230 (by decide +kernel) rfl
theorem u1231 : Cond.methodLink RL 158 yX7_stake ∈ WU := WU_k 1231 (by decide +kernel) rfl
theorem u1232 : Cond.instanceMethod yX7_stake ∈ WU := WU_k 1232 (by decide +kernel) rfl
theorem u1233 : Cond.selects RX7 yX7_stake yX7_stake ∈ WU := WU_k 1233 (by decide +kernel) rfl
theorem u1234 : Cond.code yX7_stake cX7_stake 5 (some ClassFile.FieldType.int) ∈ WU := WU_k 1234 (by decide +kernel) rfl
theorem u1235 : Cond.methodLink RX7 141 yX7_isDuel ∈ WU := WU_k 1235 (by decide +kernel) rfl
theorem u1237 : Cond.instanceMethod yX7_isDuel ∈ WU := WU_k 1237 (by decide +kernel) rfl
theorem u1238 : Cond.code yX7_isDuel cX7_isDuel 2 (some ClassFile.FieldType.boolean) ∈ WU := WU_k 1238 (by decide +kernel) rfl
theorem u1239 : Cond.methodLink RL 161 yX7_start ∈ WU := WU_k 1239 (by decide +kernel) rfl
theorem u1240 : Cond.instanceMethod yX7_start ∈ WU := WU_k 1240 (by decide +kernel) rfl
theorem u1241 : Cond.selects RX7 yX7_start yX7_start ∈ WU := WU_k 1241 (by decide +kernel) rfl
theorem u1242 : Cond.code yX7_start cX7_start 2 (some ClassFile.FieldType.int) ∈ WU := WU_k 1242 (by decide +kernel) rfl
theorem u1243 : Cond.methodLink RL 164 yX7_play ∈ WU := WU_k 1243 (by decide +kernel) rfl
theorem u1244 : Cond.instanceMethod yX7_play ∈ WU := WU_k 1244 (by decide +kernel) rfl
theorem u1245 : Cond.selects RX7 yX7_play yX7_play ∈ WU := WU_k 1245 (by decide +kernel) rfl
theorem u1246 : Cond.code yX7_play cX7_play 7 (some ClassFile.FieldType.int) ∈ WU := WU_k 1246 (by decide +kernel) rfl
theorem u1247 : Cond.methodLink RL 167 yX7_endTurn ∈ WU := WU_k 1247 (by decide +kernel) rfl
theorem u1248 : Cond.instanceMethod yX7_endTurn ∈ WU := WU_k 1248 (by decide +kernel) rfl
theorem u1249 : Cond.selects RX7 yX7_endTurn yX7_endTurn ∈ WU := WU_k 1249 (by decide +kernel) rfl
theorem u1250 : Cond.code yX7_endTurn cX7_endTurn 4 (some ClassFile.FieldType.char) ∈ WU := WU_k 1250 (by decide +kernel) rfl
theorem u1251 : Cond.methodLink RX7 144 yX7_resolves ∈ WU := WU_k 1251 (by decide +kernel) rfl
theorem u1253 : Cond.instanceMethod yX7_resolves ∈ WU := WU_k 1253 (by decide +kernel) rfl
theorem u1254 : Cond.code yX7_resolves cX7_resolves 8 (some ClassFile.FieldType.boolean) ∈ WU := WU_k 1254 (by decide +kernel) rfl
theorem u1255 : Cond.methodLink RX7 147 yX7_areAllPlayed ∈ WU := WU_k 1255 (by decide +kernel) rfl
theorem u1257 : Cond.instanceMethod yX7_areAllPlayed ∈ WU := WU_k 1257 (by decide +kernel) rfl
theorem u1258 : Cond.code yX7_areAllPlayed cX7_areAllPlayed 4 (some ClassFile.FieldType.boolean) ∈ WU := WU_k 1258 (by decide +kernel) rfl
theorem u1259 : Cond.methodLink RX7 150 yX7_ends ∈ WU := WU_k 1259 (by decide +kernel) rfl
theorem u1261 : Cond.instanceMethod yX7_ends ∈ WU := WU_k 1261 (by decide +kernel) rfl
theorem u1262 : Cond.code yX7_ends cX7_ends 8 none ∈ WU := WU_k 1262 (by decide +kernel) rfl
theorem u1263 : Cond.methodLink RL 170 yX7_duelState ∈ WU := WU_k 1263 (by decide +kernel) rfl
theorem u1264 : Cond.instanceMethod yX7_duelState ∈ WU := WU_k 1264 (by decide +kernel) rfl
theorem u1265 : Cond.selects RX7 yX7_duelState yX7_duelState ∈ WU := WU_k 1265 (by decide +kernel) rfl
theorem u1266 : Cond.code yX7_duelState cX7_duelState 2 (some ClassFile.FieldType.char) ∈ WU := WU_k 1266 (by decide +kernel) rfl
theorem u1267 : Cond.methodLink RL 174 yX7_life ∈ WU := WU_k 1267 (by decide +kernel) rfl
theorem u1268 : Cond.instanceMethod yX7_life ∈ WU := WU_k 1268 (by decide +kernel) rfl
theorem u1269 : Cond.selects RX7 yX7_life yX7_life ∈ WU := WU_k 1269 (by decide +kernel) rfl
theorem u1270 : Cond.code yX7_life cX7_life 3 (some ClassFile.FieldType.int) ∈ WU := WU_k 1270 (by decide +kernel) rfl
theorem u1271 : Cond.methodLink RL 177 yX7_mana ∈ WU := WU_k 1271 (by decide +kernel) rfl
theorem u1272 : Cond.instanceMethod yX7_mana ∈ WU := WU_k 1272 (by decide +kernel) rfl
theorem u1273 : Cond.selects RX7 yX7_mana yX7_mana ∈ WU := WU_k 1273 (by decide +kernel) rfl
theorem u1274 : Cond.code yX7_mana cX7_mana 2 (some ClassFile.FieldType.int) ∈ WU := WU_k 1274 (by decide +kernel) rfl
theorem u1275 : Cond.methodLink RL 180 yX7_depth ∈ WU := WU_k 1275 (by decide +kernel) rfl
theorem u1276 : Cond.instanceMethod yX7_depth ∈ WU := WU_k 1276 (by decide +kernel) rfl
theorem u1277 : Cond.selects RX7 yX7_depth yX7_depth ∈ WU := WU_k 1277 (by decide +kernel) rfl
theorem u1278 : Cond.code yX7_depth cX7_depth 2 (some ClassFile.FieldType.int) ∈ WU := WU_k 1278 (by decide +kernel) rfl
theorem u1279 : Cond.methodLink RL 183 yX7_winner ∈ WU := WU_k 1279 (by decide +kernel) rfl
theorem u1280 : Cond.instanceMethod yX7_winner ∈ WU := WU_k 1280 (by decide +kernel) rfl
theorem u1281 : Cond.selects RX7 yX7_winner yX7_winner ∈ WU := WU_k 1281 (by decide +kernel) rfl
theorem u1282 : Cond.code yX7_winner cX7_winner 2 (some ClassFile.FieldType.int) ∈ WU := WU_k 1282 (by decide +kernel) rfl
theorem u1283 : Cond.methodLink RL 186 yX7_close ∈ WU := WU_k 1283 (by decide +kernel) rfl
theorem u1284 : Cond.instanceMethod yX7_close ∈ WU := WU_k 1284 (by decide +kernel) rfl
theorem u1285 : Cond.selects RX7 yX7_close yX7_close ∈ WU := WU_k 1285 (by decide +kernel) rfl
theorem u1286 : Cond.code yX7_close cX7_close 4 (some ClassFile.FieldType.int) ∈ WU := WU_k 1286 (by decide +kernel) rfl
theorem u1287 : Cond.methodLink RX7 161 yX7_pays ∈ WU := WU_k 1287 (by decide +kernel) rfl
theorem u1289 : Cond.instanceMethod yX7_pays ∈ WU := WU_k 1289 (by decide +kernel) rfl
theorem u1290 : Cond.code yX7_pays cX7_pays 3 none ∈ WU := WU_k 1290 (by decide +kernel) rfl
theorem u1291 : Cond.methodLink RL 189 yX7_snapshot ∈ WU := WU_k 1291 (by decide +kernel) rfl
theorem u1292 : Cond.instanceMethod yX7_snapshot ∈ WU := WU_k 1292 (by decide +kernel) rfl
theorem u1293 : Cond.selects RX7 yX7_snapshot yX7_snapshot ∈ WU := WU_k 1293 (by decide +kernel) rfl
theorem u1294 : Cond.code yX7_snapshot cX7_snapshot 5 (some ClassFile.FieldType.int) ∈ WU := WU_k 1294 (by decide +kernel) rfl
theorem u1295 : Cond.methodLink RL 193 yX7_inSnapshot ∈ WU := WU_k 1295 (by decide +kernel) rfl
theorem u1296 : Cond.instanceMethod yX7_inSnapshot ∈ WU := WU_k 1296 (by decide +kernel) rfl
theorem u1297 : Cond.selects RX7 yX7_inSnapshot yX7_inSnapshot ∈ WU := WU_k 1297 (by decide +kernel) rfl
theorem u1298 : Cond.code yX7_inSnapshot cX7_inSnapshot 4 (some ClassFile.FieldType.int) ∈ WU := WU_k 1298 (by decide +kernel) rfl
theorem u1299 : Cond.methodLink RX7 167 yX7_isSnapshot ∈ WU := WU_k 1299 (by decide +kernel) rfl
theorem u1301 : Cond.instanceMethod yX7_isSnapshot ∈ WU := WU_k 1301 (by decide +kernel) rfl
theorem u1302 : Cond.code yX7_isSnapshot cX7_isSnapshot 3 (some ClassFile.FieldType.boolean) ∈ WU := WU_k 1302 (by decide +kernel) rfl
theorem u1303 : Cond.methodLink RL 197 yX7_blocks ∈ WU := WU_k 1303 (by decide +kernel) rfl
theorem u1304 : Cond.instanceMethod yX7_blocks ∈ WU := WU_k 1304 (by decide +kernel) rfl
theorem u1305 : Cond.selects RX7 yX7_blocks yX7_blocks ∈ WU := WU_k 1305 (by decide +kernel) rfl
theorem u1306 : Cond.code yX7_blocks cX7_blocks 7 (some ClassFile.FieldType.int) ∈ WU := WU_k 1306 (by decide +kernel) rfl
theorem u1307 : Cond.methodLink RX7 170 yX7_isKept ∈ WU := WU_k 1307 (by decide +kernel) rfl
theorem u1309 : Cond.instanceMethod yX7_isKept ∈ WU := WU_k 1309 (by decide +kernel) rfl
theorem u1310 : Cond.code yX7_isKept cX7_isKept 2 (some ClassFile.FieldType.boolean) ∈ WU := WU_k 1310 (by decide +kernel) rfl
theorem u1311 : Cond.methodLink RL 200 yX7_rollBack ∈ WU := WU_k 1311 (by decide +kernel) rfl
theorem u1312 : Cond.instanceMethod yX7_rollBack ∈ WU := WU_k 1312 (by decide +kernel) rfl
theorem u1313 : Cond.selects RX7 yX7_rollBack yX7_rollBack ∈ WU := WU_k 1313 (by decide +kernel) rfl
theorem u1314 : Cond.code yX7_rollBack cX7_rollBack 6 (some ClassFile.FieldType.int) ∈ WU := WU_k 1314 (by decide +kernel) rfl
theorem u1315 : Cond.methodLink RX7 173 yX7_undoes ∈ WU := WU_k 1315 (by decide +kernel) rfl
theorem u1317 : Cond.instanceMethod yX7_undoes ∈ WU := WU_k 1317 (by decide +kernel) rfl
theorem u1318 : Cond.code yX7_undoes cX7_undoes 6 (some ClassFile.FieldType.int) ∈ WU := WU_k 1318 (by decide +kernel) rfl
theorem u1319 : Cond.methodLink RX7 176 yX7_restakes ∈ WU := WU_k 1319 (by decide +kernel) rfl
theorem u1321 : Cond.instanceMethod yX7_restakes ∈ WU := WU_k 1321 (by decide +kernel) rfl
theorem u1322 : Cond.code yX7_restakes cX7_restakes 6 none ∈ WU := WU_k 1322 (by decide +kernel) rfl
theorem u1323 : Cond.methodLink RL 203 yX7_offer ∈ WU := WU_k 1323 (by decide +kernel) rfl
theorem u1324 : Cond.instanceMethod yX7_offer ∈ WU := WU_k 1324 (by decide +kernel) rfl
theorem u1325 : Cond.selects RX7 yX7_offer yX7_offer ∈ WU := WU_k 1325 (by decide +kernel) rfl
theorem u1326 : Cond.code yX7_offer cX7_offer 3 (some ClassFile.FieldType.int) ∈ WU := WU_k 1326 (by decide +kernel) rfl
theorem u1327 : Cond.methodLink RL 206 yX7_withdraw ∈ WU := WU_k 1327 (by decide +kernel) rfl
theorem u1328 : Cond.instanceMethod yX7_withdraw ∈ WU := WU_k 1328 (by decide +kernel) rfl
theorem u1329 : Cond.selects RX7 yX7_withdraw yX7_withdraw ∈ WU := WU_k 1329 (by decide +kernel) rfl
theorem u1330 : Cond.code yX7_withdraw cX7_withdraw 2 (some ClassFile.FieldType.int) ∈ WU := WU_k 1330 (by decide +kernel) rfl
theorem u1331 : Cond.methodLink RX7 179 yX7_isOffer ∈ WU := WU_k 1331 (by decide +kernel) rfl
theorem u1333 : Cond.instanceMethod yX7_isOffer ∈ WU := WU_k 1333 (by decide +kernel) rfl
theorem u1334 : Cond.code yX7_isOffer cX7_isOffer 2 (some ClassFile.FieldType.boolean) ∈ WU := WU_k 1334 (by decide +kernel) rfl
theorem u1335 : Cond.methodLink RL 209 yX7_buy ∈ WU := WU_k 1335 (by decide +kernel) rfl
theorem u1336 : Cond.instanceMethod yX7_buy ∈ WU := WU_k 1336 (by decide +kernel) rfl
theorem u1337 : Cond.selects RX7 yX7_buy yX7_buy ∈ WU := WU_k 1337 (by decide +kernel) rfl
theorem u1338 : Cond.code yX7_buy cX7_buy 4 (some ClassFile.FieldType.int) ∈ WU := WU_k 1338 (by decide +kernel) rfl
theorem u1339 : Cond.methodLink RL 212 yX7_offerState ∈ WU := WU_k 1339 (by decide +kernel) rfl
theorem u1340 : Cond.instanceMethod yX7_offerState ∈ WU := WU_k 1340 (by decide +kernel) rfl
theorem u1341 : Cond.selects RX7 yX7_offerState yX7_offerState ∈ WU := WU_k 1341 (by decide +kernel) rfl
theorem u1342 : Cond.code yX7_offerState cX7_offerState 2 (some ClassFile.FieldType.char) ∈ WU := WU_k 1342 (by decide +kernel) rfl
theorem u1343 : Cond.methodLink RL 216 yX7_house ∈ WU := WU_k 1343 (by decide +kernel) rfl
theorem u1344 : Cond.instanceMethod yX7_house ∈ WU := WU_k 1344 (by decide +kernel) rfl
theorem u1345 : Cond.selects RX7 yX7_house yX7_house ∈ WU := WU_k 1345 (by decide +kernel) rfl
theorem u1346 : Cond.code yX7_house cX7_house 1 (some ClassFile.FieldType.int) ∈ WU := WU_k 1346 (by decide +kernel) rfl
theorem u1347 : Cond.methodLink RL 221 yX7_apart ∈ WU := WU_k 1347 (by decide +kernel) rfl
theorem u1348 : Cond.instanceMethod yX7_apart ∈ WU := WU_k 1348 (by decide +kernel) rfl
theorem u1349 : Cond.selects RX7 yX7_apart yX7_apart ∈ WU := WU_k 1349 (by decide +kernel) rfl
theorem u1350 : Cond.code yX7_apart cX7_apart 1 (some ClassFile.FieldType.long) ∈ WU := WU_k 1350 (by decide +kernel) rfl
theorem u1351 : Cond.methodLink RL 225 yX7_wonBits ∈ WU := WU_k 1351 (by decide +kernel) rfl
theorem u1352 : Cond.instanceMethod yX7_wonBits ∈ WU := WU_k 1352 (by decide +kernel) rfl
theorem u1353 : Cond.selects RX7 yX7_wonBits yX7_wonBits ∈ WU := WU_k 1353 (by decide +kernel) rfl
theorem u1354 : Cond.code yX7_wonBits cX7_wonBits 3 (some ClassFile.FieldType.int) ∈ WU := WU_k 1354 (by decide +kernel) rfl
theorem u1355 : Cond.methodLink RX7 185 yJxf58ca_floatToIntBits_5c35a ∈ WU := WU_k 1355 (by decide +kernel) rfl
theorem u1356 : Cond.static yJxf58ca_floatToIntBits_5c35a ∈ WU := WU_k 1356 (by decide +kernel) rfl
theorem u1357 : Cond.code yJxf58ca_floatToIntBits_5c35a cJxf58ca_floatToIntBits_5c35a 1 (some ClassFile.FieldType.int) ∈ WU := WU_k 1357 (by decide +kernel) rfl
theorem u1358 : Cond.methodLink RJxf58ca 59 yJxf58ca_isNaN_12338 ∈ WU := WU_k 1358 (by decide +kernel) rfl
theorem u1359 : Cond.static yJxf58ca_isNaN_12338 ∈ WU := WU_k 1359 (by decide +kernel) rfl
theorem u1360 : Cond.code yJxf58ca_isNaN_12338 cJxf58ca_isNaN_12338 1 (some ClassFile.FieldType.boolean) ∈ WU := WU_k 1360 (by decide +kernel) rfl
theorem u1361 : Cond.methodLink RJxf58ca 74 ⟨"java/lang/Float", "floatToRawIntBits", "(F)I"⟩ ∈ WU := WU_k 1361 (by decide +kernel) rfl
theorem u1362 : Cond.static ⟨"java/lang/Float", "floatToRawIntBits", "(F)I"⟩ ∈ WU := WU_k 1362 (by decide +kernel) rfl
theorem u1363 : Cond.native ⟨"java/lang/Float", "floatToRawIntBits", "(F)I"⟩ ∈ WU := WU_k 1363 (by decide +kernel) rfl
theorem u1364 : Cond.constant RJxf58ca 77 (2143289344 : Int32) ∈ WU := WU_k 1364 (by decide +kernel) rfl
theorem u1365 : Cond.methodLink RL 229 yX7_meanPrice ∈ WU := WU_k 1365 (by decide +kernel) rfl
theorem u1366 : Cond.instanceMethod yX7_meanPrice ∈ WU := WU_k 1366 (by decide +kernel) rfl
theorem u1367 : Cond.selects RX7 yX7_meanPrice yX7_meanPrice ∈ WU := WU_k 1367 (by decide +kernel) rfl
theorem u1368 : Cond.code yX7_meanPrice cX7_meanPrice 4 (some ClassFile.FieldType.double) ∈ WU := WU_k 1368 (by decide +kernel) rfl
theorem u1369 : Cond.methodLink RL 234 yX7_isSound ∈ WU := WU_k 1369 (by decide +kernel) rfl
theorem u1370 : Cond.instanceMethod yX7_isSound ∈ WU := WU_k 1370 (by decide +kernel) rfl
theorem u1371 : Cond.selects RX7 yX7_isSound yX7_isSound ∈ WU := WU_k 1371 (by decide +kernel) rfl
theorem u1372 : Cond.code yX7_isSound cX7_isSound 1 (some ClassFile.FieldType.boolean) ∈ WU := WU_k 1372 (by decide +kernel) rfl
theorem u1373 : Cond.arrayClass ClassFile.FieldType.long ∈ WU := WU_k 1373 (by decide +kernel) rfl
theorem u1374 : Cond.arrayClass ClassFile.FieldType.double ∈ WU := WU_k 1374 (by decide +kernel) rfl
theorem u1375 : Cond.sameMethod "java/lang/Throwable" "java/lang/Throwable" "fillInStackTrace" "(I)Ljava/lang/Throwable;" ∈ WU := WU_k 1375 (by decide +kernel) rfl
theorem u1395 : Cond.sameMethod "[Ljava/lang/Object;" "java/lang/Object" "getClass" "()Ljava/lang/Class;" ∈ WU := WU_k 1395 (by decide +kernel) rfl
theorem u1396 : Cond.selects "[Ljava/lang/Object;" ⟨"java/lang/Object", "getClass", "()Ljava/lang/Class;"⟩ ⟨"java/lang/Object", "getClass", "()Ljava/lang/Class;"⟩ ∈ WU := WU_k 1396 (by decide +kernel) rfl
theorem iWJ0 : ∀ w ∈ u_ws RJ0 TJ0 2, w ∈ WU := by decide +kernel
theorem iWJx00060 : ∀ w ∈ u_ws RJx00060 TJx00060 6, w ∈ WU := by decide +kernel
theorem iWJx4a65c : ∀ w ∈ u_ws RJx4a65c TJx4a65c 3, w ∈ WU := by decide +kernel
theorem iWX0 : ∀ w ∈ u_ws RX0 TX0 2, w ∈ WU := by decide +kernel
theorem iWX1 : ∀ w ∈ u_ws RX1 TX1 6, w ∈ WU := by decide +kernel
theorem iWX2 : ∀ w ∈ u_ws RX2 TX2 11, w ∈ WU := by decide +kernel
theorem iWX3 : ∀ w ∈ u_ws RX3 TX3 2, w ∈ WU := by decide +kernel
theorem iWX4 : ∀ w ∈ u_ws RX4 TX4 6, w ∈ WU := by decide +kernel
theorem iWX5 : ∀ w ∈ u_ws RX5 TX5 4, w ∈ WU := by decide +kernel
theorem iWX6 : ∀ w ∈ u_ws RX6 TX6 12, w ∈ WU := by decide +kernel
theorem iWX7 : ∀ w ∈ u_ws RX7 TX7 38, w ∈ WU := by decide +kernel
end
section
/-! A world as a map from names (a kind and a number) to cells: where each lies (adr), what each holds (G). -/
def hU {α : Type} (f : Nat → Nat → α) (k i : Nat) (v : α) : Nat → Nat → α := fun k' i' => if k' = k ∧ i' = i then v else f k' i'
theorem hU_s {α : Type} (f : Nat → Nat → α) (k i : Nat) (v : α) : hU f k i v k i = v := by simp [hU]
theorem hU_n {α : Type} (f : Nat → Nat → α) {k i k' i' : Nat} (v : α) (h : ¬ (k' = k ∧ i' = i)) : hU f k i v k' i' = f k' i' := by simp [hU, h]
def hws (ids : List (Nat × Nat)) (adr : Nat → Nat → Nat) (G : Nat → Nat → va_E) : va_W := ids.map (fun q => (adr q.1 q.2, G q.1 q.2))
theorem va_P_iff {D : va_G} {cl : List vw_C} {ws : va_W} {H : Heap} : va_P D cl ws H ↔ ∀ q ∈ ws, va_at D cl q H := by
  constructor
  · intro h q hq
    obtain ⟨i, hi⟩ := List.getElem?_of_mem hq
    exact h i q hi
  · intro h k q hk
    exact h q (List.mem_of_getElem? hk)
theorem va_D_iff {A : Nat → Prop} {ws : va_W} : va_D A ws ↔ (ws.map Prod.fst).Nodup ∧ ∀ q ∈ ws, A q.1 := by
  constructor
  · intro h
    refine ⟨?_, fun q hq => ?_⟩
    · refine List.pairwise_iff_getElem.mpr ?_
      intro i j hi hj hij e
      rw [List.length_map] at hi hj
      rw [List.getElem_map, List.getElem_map] at e
      have := h.1 i j _ _ (List.getElem?_eq_getElem hi) (List.getElem?_eq_getElem hj) e
      omega
    · obtain ⟨i, hi⟩ := List.getElem?_of_mem hq
      exact h.2 i q hi
  · intro h
    refine ⟨?_, fun k q hk => h.2 q (List.mem_of_getElem? hk)⟩
    intro i j p q hi hj e
    have h1 := List.pairwise_iff_getElem.mp h.1
    obtain ⟨li, ei⟩ := List.getElem?_eq_some_iff.mp hi
    obtain ⟨lj, ej⟩ := List.getElem?_eq_some_iff.mp hj
    have li2 : i < (ws.map Prod.fst).length := by rw [List.length_map]; exact li
    have lj2 : j < (ws.map Prod.fst).length := by rw [List.length_map]; exact lj
    rcases Nat.lt_trichotomy i j with t | t | t
    · exact absurd (by rw [List.getElem_map, List.getElem_map, ei, ej]; exact e) (h1 i j li2 lj2 t)
    · exact t
    · exact absurd (by rw [List.getElem_map, List.getElem_map, ei, ej]; exact e.symm) (h1 j i lj2 li2 t)
/-- the world: the names that live are among ids; each lies in the heap; the addresses are apart, and in A -/
def HW (D : va_G) (A : Nat → Prop) (live : Nat → Nat → Prop) (adr : Nat → Nat → Nat) (G : Nat → Nat → va_E) (H : Heap) : Prop :=
  ∃ ids : List (Nat × Nat), (∀ k i, live k i → (k, i) ∈ ids) ∧ va_P D vwCl (hws ids adr G) H ∧ va_D A (hws ids adr G)
theorem HW.weak {D : va_G} {A : Nat → Prop} {live live' : Nat → Nat → Prop} {adr : Nat → Nat → Nat} {G : Nat → Nat → va_E} {H : Heap} (h : HW D A live adr G H) (hl : ∀ k i, live' k i → live k i) : HW D A live' adr G H := by
  obtain ⟨ids, h1, h2, h3⟩ := h
  exact ⟨ids, fun k i q => h1 k i (hl k i q), h2, h3⟩
theorem HW.only {D : va_G} {A : Nat → Prop} {live : Nat → Nat → Prop} {adr adr' : Nat → Nat → Nat} {G G' : Nat → Nat → va_E} {H : Heap} (h : HW D A live adr G H) (ha : ∀ k i, live k i → adr' k i = adr k i) (hG : ∀ k i, live k i → G' k i = G k i) : HW D A live adr' G' H := by
  obtain ⟨ids, h1, h2, h3⟩ := h
  let P : Nat × Nat → Bool := fun q => @decide (live q.1 q.2) (Classical.propDecidable _)
  have hP : ∀ q, P q = true ↔ live q.1 q.2 := fun q => by simp [P]
  have e : hws (ids.filter P) adr' G' = hws (ids.filter P) adr G := by
    unfold hws
    apply List.map_congr_left
    intro q hq
    have := (hP q).mp (List.mem_filter.mp hq).2
    rw [ha _ _ this, hG _ _ this]
  have hs : List.Sublist (hws (ids.filter P) adr G) (hws ids adr G) := List.Sublist.map _ List.filter_sublist
  refine ⟨ids.filter P, fun k i q => List.mem_filter.mpr ⟨h1 k i q, (hP _).mpr q⟩, ?_, ?_⟩
  · rw [e]
    exact va_P_iff.mpr fun q hq => va_P_iff.mp h2 q (hs.subset hq)
  · rw [e]
    have h4 := va_D_iff.mp h3
    exact va_D_iff.mpr ⟨List.Nodup.sublist (hs.map Prod.fst) h4.1, fun q hq => h4.2 q (hs.subset hq)⟩
theorem HW.same {D : va_G} {A : Nat → Prop} {live live' : Nat → Nat → Prop} {adr adr' : Nat → Nat → Nat} {G G' : Nat → Nat → va_E} {H : Heap} (h : HW D A live adr G H) (hl : ∀ k i, live' k i → live k i) (ha : ∀ k i, live' k i → adr' k i = adr k i) (hG : ∀ k i, live' k i → G' k i = G k i) : HW D A live' adr' G' H := (h.weak hl).only ha hG
theorem hws_at {ids : List (Nat × Nat)} {adr : Nat → Nat → Nat} {G : Nat → Nat → va_E} {k i : Nat} (h : (k, i) ∈ ids) : ∃ n : Nat, ids[n]? = some (k, i) ∧ (hws ids adr G)[n]? = some (adr k i, G k i) := by
  obtain ⟨n, hn⟩ := List.getElem?_of_mem h
  exact ⟨n, hn, by simp [hws, hn]⟩
theorem hws_set {A : Nat → Prop} {ids : List (Nat × Nat)} {adr : Nat → Nat → Nat} {G : Nat → Nat → va_E} {k i n : Nat} (hD : va_D A (hws ids adr G)) (hn : ids[n]? = some (k, i)) (e : va_E) : (hws ids adr G).set n (adr k i, e) = hws ids adr (hU G k i e) := by
  have hN : (hws ids adr G)[n]? = some (adr k i, G k i) := by simp [hws, hn]
  apply List.ext_getElem?
  intro j
  rw [List.getElem?_set]
  by_cases hj : n = j
  · subst hj
    have hl : n < (hws ids adr G).length := by
      rcases Nat.lt_or_ge n (hws ids adr G).length with q | q
      · exact q
      · rw [List.getElem?_eq_none q] at hN; cases hN
    rw [if_pos rfl, if_pos hl]
    simp [hws, hn, hU]
  · rw [if_neg hj]
    cases hq : ids[j]? with
    | none => simp [hws, hq]
    | some q =>
      have hQ : (hws ids adr G)[j]? = some (adr q.1 q.2, G q.1 q.2) := by simp [hws, hq]
      have hne : ¬ (q.1 = k ∧ q.2 = i) := by
        rintro ⟨rfl, rfl⟩
        exact hj (hD.1 n j _ _ hN hQ rfl)
      simp [hws, hq, hU, hne]
theorem HW.set {D : va_G} {A : Nat → Prop} {live : Nat → Nat → Prop} {adr : Nat → Nat → Nat} {G : Nat → Nat → va_E} {H1 : Heap} {ids : List (Nat × Nat)} {k i n : Nat} {e : va_E} (h0 : va_D A (hws ids adr G)) (h1 : ∀ k i, live k i → (k, i) ∈ ids) (hn : ids[n]? = some (k, i)) (hP : va_P D vwCl ((hws ids adr G).set n (adr k i, e)) H1) (hD : va_D A ((hws ids adr G).set n (adr k i, e))) : HW D A live adr (hU G k i e) H1 := by
  rw [hws_set h0 hn e] at hP hD
  exact ⟨ids, h1, hP, hD⟩
/-- a cell more, under a name that is new, or whose cell is forgotten by that -/
theorem HW.push {D : va_G} {A : Nat → Prop} {live live' : Nat → Nat → Prop} {adr : Nat → Nat → Nat} {G : Nat → Nat → va_E} {H1 : Heap} {ids : List (Nat × Nat)} {k i q : Nat} {e : va_E} (h1 : ∀ k i, live k i → (k, i) ∈ ids) (hP : va_P D vwCl (hws ids adr G ++ [(q, e)]) H1) (hD : va_D A (hws ids adr G ++ [(q, e)])) (hl : ∀ k' i', live' k' i' → live k' i' ∨ (k' = k ∧ i' = i)) : HW D A live' (hU adr k i q) (hU G k i e) H1 := by
  have hs : List.Sublist (hws (ids.filter (fun z => !decide (z.1 = k ∧ z.2 = i))) adr G ++ [(q, e)]) (hws ids adr G ++ [(q, e)]) := List.Sublist.append (List.Sublist.map _ List.filter_sublist) (List.Sublist.refl _)
  have e1 : hws (ids.filter (fun z => !decide (z.1 = k ∧ z.2 = i)) ++ [(k, i)]) (hU adr k i q) (hU G k i e) = hws (ids.filter (fun z => !decide (z.1 = k ∧ z.2 = i))) adr G ++ [(q, e)] := by
    unfold hws
    rw [List.map_append]
    congr 1
    · apply List.map_congr_left
      intro z hz
      have hz2 := (List.mem_filter.mp hz).2
      have hne : ¬ (z.1 = k ∧ z.2 = i) := by
        intro hh
        rw [decide_eq_true hh] at hz2
        cases hz2
      rw [hU_n _ _ hne, hU_n _ _ hne]
    · simp [hU]
  refine ⟨ids.filter (fun z => !decide (z.1 = k ∧ z.2 = i)) ++ [(k, i)], ?_, ?_, ?_⟩
  · intro k' i' h
    by_cases c : k' = k ∧ i' = i
    · obtain ⟨rfl, rfl⟩ := c
      simp
    · rcases hl k' i' h with h | h
      · exact List.mem_append_left _ (List.mem_filter.mpr ⟨h1 _ _ h, by simp [c]⟩)
      · exact absurd h c
  · rw [e1]
    exact va_P_iff.mpr fun z hz => va_P_iff.mp hP z (hs.subset hz)
  · rw [e1]
    have h4 := va_D_iff.mp hD
    exact va_D_iff.mpr ⟨List.Nodup.sublist (hs.map Prod.fst) h4.1, fun z hz => h4.2 z (hs.subset hz)⟩
end
section
def gStr : List (String × Nat × String) := [(RX6, 48, "coins out of range"), (RX6, 59, "there are 6 players"), (RX6, 350, "no such player"), (RX6, 69, "no such kind"), (RX6, 75, "there are 40 cards"), (RX6, 352, "no such card"), (RX6, 116, "no such posting"), (RX6, 128, "no such thing in a posting"), (RX6, 130, "a duel has two players"), (RX6, 136, "a player is in a duel that has not ended"), (RX6, 138, "there are 8 duels"), (RX6, 354, "no such duel"), (RX6, 156, "not open, or not a duel of the card's owner"), (RX6, 172, "the card is not free, is offered, or is one too many"), (RX6, 177, "the duel is not open"), (RX6, 190, "a player staked no card"), (RX6, 198, "the duel does not go on"), (RX6, 208, "not a card that this player can play here"), (RX6, 213, "too little mana"), (RX6, 243, "the duel has not ended"), (RX6, 246, "the duel has not ended, or is final"), (RX6, 258, "the duel has 6 snapshots"), (RX6, 268, "no such snapshot or place"), (RX6, 277, "no such snapshot"), (RX6, 279, "the duel is open or final"), (RX6, 284, "a player is in another duel that has not ended"), (RX6, 303, "price out of range"), (RX6, 305, "the card is staked or offered, or there are 60 offers"), (RX6, 356, "no such offer"), (RX6, 316, "the offer is not open"), (RX6, 322, "the offer is not open, or the card is the buyer's"), (RX6, 327, "too few coins"), (RX6, 341, "there are no cards"), (RX6, 348, "nothing was bought")]
def gNc : List (String × String) := [("java/lang/IllegalStateException", "java/lang/IllegalArgumentException"), ("java/lang/IndexOutOfBoundsException", "java/lang/IllegalArgumentException"), ("java/lang/UnsupportedOperationException", "java/lang/IllegalArgumentException"), ("java/util/NoSuchElementException", "java/lang/IllegalArgumentException"), ("java/lang/ArithmeticException", "java/lang/IllegalArgumentException"), ("java/lang/IllegalArgumentException", "java/lang/IllegalStateException"), ("java/lang/IndexOutOfBoundsException", "java/lang/IllegalStateException"), ("java/lang/UnsupportedOperationException", "java/lang/IllegalStateException"), ("java/util/NoSuchElementException", "java/lang/IllegalStateException"), ("java/lang/ArithmeticException", "java/lang/IllegalStateException"), ("java/lang/IllegalArgumentException", "java/lang/IndexOutOfBoundsException"), ("java/lang/IllegalStateException", "java/lang/IndexOutOfBoundsException"), ("java/lang/UnsupportedOperationException", "java/lang/IndexOutOfBoundsException"), ("java/util/NoSuchElementException", "java/lang/IndexOutOfBoundsException"), ("java/lang/ArithmeticException", "java/lang/IndexOutOfBoundsException"), ("java/lang/IllegalArgumentException", "java/lang/UnsupportedOperationException"), ("java/lang/IllegalStateException", "java/lang/UnsupportedOperationException"), ("java/lang/IndexOutOfBoundsException", "java/lang/UnsupportedOperationException"), ("java/util/NoSuchElementException", "java/lang/UnsupportedOperationException"), ("java/lang/ArithmeticException", "java/lang/UnsupportedOperationException"), ("java/lang/IllegalArgumentException", "java/util/NoSuchElementException"), ("java/lang/IllegalStateException", "java/util/NoSuchElementException"), ("java/lang/IndexOutOfBoundsException", "java/util/NoSuchElementException"), ("java/lang/UnsupportedOperationException", "java/util/NoSuchElementException"), ("java/lang/ArithmeticException", "java/util/NoSuchElementException"), ("java/lang/IllegalArgumentException", "java/lang/ArithmeticException"), ("java/lang/IllegalStateException", "java/lang/ArithmeticException"), ("java/lang/IndexOutOfBoundsException", "java/lang/ArithmeticException"), ("java/lang/UnsupportedOperationException", "java/lang/ArithmeticException"), ("java/util/NoSuchElementException", "java/lang/ArithmeticException")]
def gCa : List (String × String) := [("java/lang/IllegalArgumentException", "java/lang/IllegalArgumentException"), ("java/lang/IllegalStateException", "java/lang/IllegalStateException"), ("java/lang/ArrayIndexOutOfBoundsException", "java/lang/ArrayIndexOutOfBoundsException"), ("java/lang/IndexOutOfBoundsException", "java/lang/IndexOutOfBoundsException"), ("[I", "java/lang/Cloneable"), ("java/lang/UnsupportedOperationException", "java/lang/UnsupportedOperationException"), ("java/util/NoSuchElementException", "java/util/NoSuchElementException"), ("java/lang/ArithmeticException", "java/lang/ArithmeticException"), ("java/lang/ArrayIndexOutOfBoundsException", "java/lang/IndexOutOfBoundsException"), ("SnapshotArena", "java/lang/Object"), ("java/util/ArrayList", "java/lang/Object"), ("SnapshotArena$Ledger", "java/lang/Object"), ("SnapshotArena$BlockStore", "java/lang/Object"), ("SnapshotArenaModel", "java/lang/Object"), ("java/lang/IllegalArgumentException", "java/lang/Object"), ("java/lang/IllegalStateException", "java/lang/Object"), ("java/lang/ArrayIndexOutOfBoundsException", "java/lang/Object"), ("java/lang/IndexOutOfBoundsException", "java/lang/Object"), ("SnapshotArena$Card", "java/lang/Object"), ("SnapshotArena$Duel", "java/lang/Object"), ("SnapshotArena$Side", "java/lang/Object"), ("java/lang/UnsupportedOperationException", "java/lang/Object"), ("java/util/NoSuchElementException", "java/lang/Object"), ("SnapshotArena$Offer", "java/lang/Object"), ("java/lang/ArithmeticException", "java/lang/Object"), ("java/lang/Throwable", "java/lang/Object"), ("java/lang/String", "java/lang/Object"), ("[I", "java/lang/Object"), ("[B", "java/lang/Object"), ("[Ljava/lang/Object;", "java/lang/Object"), ("[[I", "java/lang/Object"), ("[C", "java/lang/Object"), ("[J", "java/lang/Object"), ("[D", "java/lang/Object")]
def gDc : List MethodName := [⟨"java/lang/RuntimeException", "<init>", "(Ljava/lang/String;)V"⟩, ⟨"java/lang/Exception", "<init>", "(Ljava/lang/String;)V"⟩, ⟨"java/lang/Throwable", "<init>", "(Ljava/lang/String;)V"⟩]
/-- array classes by place: int, char, Object, int[], long, double -/
def tysOf (c : Nat → ClassId) : List (ClassId × FieldType) := [(c 0, .int), (c 1, .char), (c 2, .object "java/lang/Object"), (c 3, .array .int), (c 4, .long), (c 5, .double)]
def gADC : String := "java/util/ArrayList"
/-- what holds all along, wherever the machine has come to -/
def GI (D : va_G) (cI : Nat → ClassId) (e0 : Nat) (A : Nat → Prop) (U : State) (H : Heap) : Prop :=
  va_K D vwCl (tysOf cI) U ∧
  (va_Z gADC "DEFAULTCAPACITY_EMPTY_ELEMENTDATA" "[Ljava/lang/Object;" (.ref e0) A U H ∧ va_T (.object "java/lang/Object") e0 0 (fun _ => .null) A U H) ∧
  (vx_Zq Bundle.tN "UNASSIGNED_STACK" Bundle.steD A U H ∧ vx_Zq Bundle.tN "SUPPRESSED_SENTINEL" Bundle.listD A U H) ∧
  (∀ q ∈ gStr, ∃ a, vk_R q.1 q.2.1 q.2.2 a U) ∧
  ((∀ q ∈ gCa, va_Nw (.castable q.1 q.2) U) ∧ (∀ q ∈ gDc, va_Nw (.declares q) U)) ∧
  (∀ q ∈ gNc, va_Nc q.1 q.2 U) ∧
  (va_Mi "[Ljava/lang/Object;" (cI 9) U ∧ va_Dc U) ∧
  (va_Nw (.methodLinkNest RX6 31 yX3_init "SnapshotArena") U ∧ va_Nw (.methodLinkNest RX6 38 yX0_init "SnapshotArena") U) ∧
  (va_AO "java/lang/Object" U ∧ va_AOA .int U) ∧
  (∀ q, H.size ≤ q → A q)
theorem GI.mv {D : va_G} {cI : Nat → ClassId} {e0 : Nat} {A : Nat → Prop} {s U : State} {H H1 : Heap} (h : GI D cI e0 A s H) (hW : s.WarmedH U.vm) (hz : H.size ≤ H1.size) (hk : ∀ q : Nat, q < H.size → ¬ A q → H1[q]? = H[q]?) : GI D cI e0 A U H1 := by
  obtain ⟨h1, ⟨h2, h3⟩, ⟨h4, h5⟩, h6, ⟨h7, h7b⟩, h8, ⟨h9, h10⟩, ⟨h11, h12⟩, ⟨h13, h14⟩, h15⟩ := h
  have al := hW.alike
  refine ⟨va_K.moved al h1, ⟨va_Z.moved al (h2.kept hk), va_T.moved al (h3.kept hk)⟩, ⟨vx_Zq.moved al (h4.kept hk), vx_Zq.moved al (h5.kept hk)⟩, ?_, ⟨?_, ?_⟩, ?_, ⟨va_Mi.moved al h9, va_Dc.moved al h10⟩, ⟨va_Nw.warmM hW h11, va_Nw.warmM hW h12⟩, ⟨va_AO.moved al h13, va_AOA.moved al h14⟩, fun q hq => h15 q (Nat.le_trans hz hq)⟩
  · intro q hq
    obtain ⟨a, ha⟩ := h6 q hq
    exact ⟨a, vk_R.warm hW ha⟩
  · intro q hq
    exact va_Nw.warmC hW (h7 q hq)
  · intro q hq
    exact va_Nw.warmD hW (h7b q hq)
  · intro q hq
    exact va_Nc.moved al (h8 q hq)
theorem GI.at {D : va_G} {cI : Nat → ClassId} {e0 : Nat} {A : Nat → Prop} {s U : State} {H : Heap} {locs : List Loc} (h : GI D cI e0 A s s.heap) (hS : va_S A s.heap H locs) (hH : U.heap = H) (hW : s.WarmedH U.vm) : GI D cI e0 A U U.heap := by
  subst hH
  exact h.mv hW hS.1 hS.2.1
/-- a contract: from the arguments av in a heap of P, back with QQ, or thrown with XX -/
def CM (l : Launch) (D : va_G) (cI : Nat → ClassId) (e0 : Nat) (A : Nat → Prop) (y : MethodName) (bytes : ByteArray) (maxL : Nat) (ret : Option FieldType) (fr lo mc ms : Nat) (av : List Value) (P : Heap → Prop) (QQ : Option Value → Heap → Prop) (XX : String → Heap → Prop) : Prop :=
  vx_Met l y (Cond.code y bytes maxL ret :: WU) ({ frames := fr, cells := mc, slots := ms, locals := lo }) (va_Pc av (fun U => GI D cI e0 A U U.heap ∧ P U.heap)) (fun _ st oc t => (∃ r, oc = .returned r ∧ QQ r t.heap) ∧ va_F A st t) (fun E st t => XX E t.heap ∧ va_F A st t) mc ms A
theorem hat_of {L : List Cond} (h1 : ∀ w ∈ L.filter goodWord, w ∈ lw_tbl) (h2 : ∀ w ∈ L.filter (fun w => !goodWord w), w ∈ gCa.map (fun q => Cond.castable q.1 q.2) ++ gDc.map Cond.declares) : ∀ w ∈ L, w ∈ WU ∨ (∃ q ∈ gCa, w = .castable q.1 q.2) ∨ ∃ q ∈ gDc, w = .declares q := by
  intro w hw
  by_cases g : goodWord w = true
  · exact Or.inl (List.mem_filter.mpr ⟨h1 w (List.mem_filter.mpr ⟨hw, g⟩), g⟩)
  · have := h2 w (List.mem_filter.mpr ⟨hw, by simpa using g⟩)
    rcases List.mem_append.mp this with t | t
    · obtain ⟨q, hq, e⟩ := List.mem_map.mp t
      exact Or.inr (Or.inl ⟨q, hq, e.symm⟩)
    · obtain ⟨q, hq, e⟩ := List.mem_map.mp t
      exact Or.inr (Or.inr ⟨q, hq, e.symm⟩)
section BODY
variable {p : Program} {l : Launch} {e : Env} {R : Room} {s : State} {m : MethodId} {args : Array Value} {below : List Frame} {meth : Method} {c : Code} {H : Heap} {locs : List Loc} {cells slots : Nat} {Q : State → Prop}
variable {D : va_G} {cI : Nat → ClassId} {e0 : Nat} {A : Nat → Prop} {adr : Nat → Nat → Nat} {G : Nat → Nat → va_E} {live : Nat → Nat → Prop}
variable {cc : ByteArray} {nL pc : Nat} {ls : Array Slot} {rest : List Value} {Ts : List Cond} {own : String}
/-- what holds at the entry of a method's body, and stays -/
def EN (p : Program) (l : Launch) (D : va_G) (cI : Nat → ClassId) (e0 : Nat) (A : Nat → Prop) (m : MethodId) (meth : Method) (c : Code) (s : State) (args : Array Value) (y : MethodName) (cc : ByteArray) (nL : Nat) (ret : Option FieldType) : Prop :=
  CallFix p m c cc nL s args WU y.cls ∧ GI D cI e0 A s s.heap ∧ meth.sig.returnType = ret ∧ meth.locks = false ∧ meth.name = y.name ∧ (∀ x ∈ c.exceptionTable.toList, False)
theorem CM.of {y : MethodName} {bytes : ByteArray} {maxL : Nat} {ret : Option FieldType} {fr lo mc ms : Nat} {av : List Value} {P : Heap → Prop} {QQ : Option Value → Heap → Prop} {XX : String → Heap → Prop} (hy : plainName y.cls = true) (hav : (lg_sl av).length ≤ maxL)
    (body : ∀ (p : Program) (e : Env) (s : State) (m : MethodId) (below : List Frame) (meth : Method) (c : Code) (ls : Array Slot), EN p l D cI e0 A m meth c s av.toArray y bytes maxL ret → P s.heap → va_S A s.heap s.heap [] → lv_has ls maxL (lv_args 0 av) →
      W p l e ({ frames := fr, cells := mc, slots := ms, locals := lo }) s m av.toArray below meth c s.heap [] 0 0 (vx_MQ below (fun _ st oc t => (∃ r, oc = .returned r ∧ QQ r t.heap) ∧ va_F A st t) (fun E st t => XX E t.heap ∧ va_F A st t) av.toArray s mc ms A) (F0 m 0 ls [])) : CM l D cI e0 A y bytes maxL ret fr lo mc ms av P QQ XX := by
  refine vx_ofW (cc := bytes) (maxL := maxL) (ret := ret) hy rfl ?_
  intro p e s m args below meth c s₁ B hml hout hv
  obtain ⟨rfl, hg, hP⟩ := hv
  have hts := atoms_spec (ws := Cond.code y bytes maxL ret :: WU) B.pre
  rw [lg_entry_eq]
  exact body p e s m below meth c _ ⟨⟨B.exec, B.bytes, hml, findClass_of_methodNamed B.named, fun w hw => hts w (List.mem_cons_of_mem _ hw)⟩, hg, B.returns, B.notSynchronized, (name_of_methodNamed B.named B.method).1, hout⟩ hP va_S.rf (lv_entry av hav)
theorem r_recv (hg : GI D cI e0 A s s.heap) (hw : HW D A live adr G H) {k i : Nat} (hl : live k i) {ci : Nat} {fs : List Value} (hG : G k i = .inr (ci, fs)) {q : vw_C} (hc : vwCl[ci]? = some q) : ∃ cell : Cell, H[adr k i]? = some cell ∧ cell.vm.isStatics = false ∧ s.vm.findClass q.1 = some cell.cls := by
  obtain ⟨ids, h1, h2, h3⟩ := hw
  obtain ⟨n, -, hn⟩ := hws_at (adr := adr) (G := G) (h1 k i hl)
  rw [hG] at hn
  exact va_recv hg.1 h2 hc hn
theorem r_get (S : CallFix p m c cc nL s args WU own) (hg : GI D cI e0 A s s.heap) (hw : HW D A live adr G H) {k i : Nat} (hl : live k i) {ci : Nat} {fs : List Value} (hG : G k i = .inr (ci, fs)) {C : String} {T : u_T} {N : Nat} (hc : vwCl[ci]? = some (C, T, N)) (hin : ∀ w ∈ u_ws C T N, w ∈ WU) (fk : Nat) (hk : fk < N) {index : Nat} (hlink : Cond.fieldLink own index (T fk).1 (T fk).2.1 (T fk).2.2.1 ∈ WU) {v : Value} (hv : fs[fk]? = some v) (hdg : decode cc pc = .ok (.getfield index, 3))
    (kk : W p l e R s m args below meth c H locs cells slots Q (F0 m (pc + 3) ls (v :: rest))) : W p l e R s m args below meth c H locs cells slots Q (F0 m pc ls (.ref (adr k i) :: rest)) := by
  obtain ⟨ids, h1, h2, h3⟩ := hw
  obtain ⟨n, -, hn⟩ := hws_at (adr := adr) (G := G) (h1 k i hl)
  rw [hG] at hn
  exact va_get S.1 S.2.1 S.2.2.2.2 hin S.2.2.2.1 hg.1 h2 n hn hc fk hk (S.2.2.2.2 _ hlink) (fun _ h => h) hv hdg kk
theorem r_put (S : CallFix p m c cc nL s args WU own) (hg : GI D cI e0 A s s.heap) (hS : va_S A s.heap H locs) (hw : HW D A live adr G H) {k i : Nat} (hl : live k i) {ci : Nat} {fs : List Value} (hG : G k i = .inr (ci, fs)) {C : String} {T : u_T} {N : Nat} (hc : vwCl[ci]? = some (C, T, N)) (hin : ∀ w ∈ u_ws C T N, w ∈ WU) (ty0 : Nat → FieldType) (hty : ∀ k, k < N → parseFieldDescriptor (T k).2.2.1 = some (ty0 k)) (hnm : ∀ a, a < N → ∀ b, b < N → a ≠ b → (T a).2.1 ≠ (T b).2.1) (fk : Nat) (hk : fk < N) {index : Nat} (hlink : Cond.fieldLink own index (T fk).1 (T fk).2.1 (T fk).2.2.1 ∈ WU) (hfin : (T fk).2.2.2 = false) {v : Value} (hn : narrow (ty0 fk) v = v) (hfit : fits (ty0 fk) v = true) (hlen : fk < fs.length) (hdg : decode cc pc = .ok (.putfield index, 3))
    (kk : ∀ (H1 : Heap) (locs1 : List Loc), HW D A live adr (hU G k i (.inr (ci, fs.set fk v))) H1 → va_S A s.heap H1 locs1 → W p l e R s m args below meth c H1 locs1 cells slots Q (F0 m (pc + 3) ls rest)) : W p l e R s m args below meth c H locs cells slots Q (F0 m pc ls (v :: .ref (adr k i) :: rest)) := by
  obtain ⟨ids, h1, h2, h3⟩ := hw
  obtain ⟨n, hn1, hn2⟩ := hws_at (adr := adr) (G := G) (h1 k i hl)
  rw [hG] at hn2
  refine va_put S.1 S.2.1 S.2.2.2.2 hin ty0 hty hnm S.2.2.2.1 hg.1 h2 h3 hS n hn2 hc fk hk (S.2.2.2.2 _ hlink) (fun _ h => h) hfin (hty fk hk) hn hfit hlen hdg (fun H1 locs1 hP hD hS => ?_)
  exact kk H1 locs1 (HW.set h3 h1 hn1 hP hD) hS
theorem r_putF {y : MethodName} (S : CallFix p m c cc nL s args WU own) (hin2 : meth.name = "<init>") (hg : GI D cI e0 A s s.heap) (hS : va_S A s.heap H locs) (hw : HW D A live adr G H) {k i : Nat} (hl : live k i) {ci : Nat} {fs : List Value} (hG : G k i = .inr (ci, fs)) {C : String} {T : u_T} {N : Nat} (hc : vwCl[ci]? = some (C, T, N)) (hin : ∀ w ∈ u_ws C T N, w ∈ WU) (ty0 : Nat → FieldType) (hty : ∀ k, k < N → parseFieldDescriptor (T k).2.2.1 = some (ty0 k)) (hnm : ∀ a, a < N → ∀ b, b < N → a ≠ b → (T a).2.1 ≠ (T b).2.1) (fk : Nat) (hk : fk < N) {index : Nat} (hlink : Cond.fieldLink own index (T fk).1 (T fk).2.1 (T fk).2.2.1 ∈ WU) (hfin : (T fk).2.2.2 = true) (hdecl : (T fk).1 = own) {v : Value} (hn : narrow (ty0 fk) v = v) (hfit : fits (ty0 fk) v = true) (hlen : fk < fs.length) (hdg : decode cc pc = .ok (.putfield index, 3))
    (kk : ∀ (H1 : Heap) (locs1 : List Loc), HW D A live adr (hU G k i (.inr (ci, fs.set fk v))) H1 → va_S A s.heap H1 locs1 → W p l e R s m args below meth c H1 locs1 cells slots Q (F0 m (pc + 3) ls rest)) : W p l e R s m args below meth c H locs cells slots Q (F0 m pc ls (v :: .ref (adr k i) :: rest)) := by
  obtain ⟨ids, h1, h2, h3⟩ := hw
  obtain ⟨n, hn1, hn2⟩ := hws_at (adr := adr) (G := G) (h1 k i hl)
  rw [hG] at hn2
  refine va_putF S.1 S.2.1 S.2.2.2.2 hin ty0 hty hnm S.2.2.2.1 hg.1 h2 h3 hS n hn2 hc fk hk (S.2.2.2.2 _ hlink) (fun _ h => h) hfin hin2 hdecl (hty fk hk) hn hfit hlen hdg (fun H1 locs1 hP hD hS => ?_)
  exact kk H1 locs1 (HW.set h3 h1 hn1 hP hD) hS
theorem r_iald (S : CallFix p m c cc nL s args WU own) (hg : GI D cI e0 A s s.heap) (hw : HW D A live adr G H) {k i : Nat} (hl : live k i) {n : Nat} {f : Nat → Int32} (hG : G k i = .inl (cI 0, n, .inl f)) {j : Int32} (hj : vp_in j n) (hdg : decode cc pc = .ok (.iaload, 1))
    (kk : W p l e R s m args below meth c H locs cells slots Q (F0 m (pc + 1) ls (.int (f j.toNatClampNeg) :: rest))) : W p l e R s m args below meth c H locs cells slots Q (F0 m pc ls (.int j :: .ref (adr k i) :: rest)) := by
  obtain ⟨ids, h1, h2, h3⟩ := hw
  obtain ⟨q, -, hn⟩ := hws_at (adr := adr) (G := G) (h1 k i hl)
  rw [hG] at hn
  exact va_iald S.1 S.2.1 hg.1 h2 q 0 hn rfl hj hdg kk
theorem r_cald (S : CallFix p m c cc nL s args WU own) (hg : GI D cI e0 A s s.heap) (hw : HW D A live adr G H) {k i : Nat} (hl : live k i) {n : Nat} {f : Nat → Int32} (hG : G k i = .inl (cI 1, n, .inl f)) {j : Int32} (hj : vp_in j n) (hdg : decode cc pc = .ok (.caload, 1))
    (kk : W p l e R s m args below meth c H locs cells slots Q (F0 m (pc + 1) ls (.int (f j.toNatClampNeg) :: rest))) : W p l e R s m args below meth c H locs cells slots Q (F0 m pc ls (.int j :: .ref (adr k i) :: rest)) := by
  obtain ⟨ids, h1, h2, h3⟩ := hw
  obtain ⟨q, -, hn⟩ := hws_at (adr := adr) (G := G) (h1 k i hl)
  rw [hG] at hn
  exact va_cald S.1 S.2.1 hg.1 h2 q 1 hn rfl hj hdg kk
theorem r_aald (S : CallFix p m c cc nL s args WU own) (hg : GI D cI e0 A s s.heap) (hw : HW D A live adr G H) {k i : Nat} (hl : live k i) {n : Nat} {f : Nat → Option Nat} (hG : G k i = .inl (cI 3, n, .inr (.inr (.inr (.inr f))))) {j : Int32} (hj : vp_in j n) {a : Nat} (hf : f j.toNatClampNeg = some a) (hdg : decode cc pc = .ok (.aaload, 1))
    (kk : W p l e R s m args below meth c H locs cells slots Q (F0 m (pc + 1) ls (.ref a :: rest))) : W p l e R s m args below meth c H locs cells slots Q (F0 m pc ls (.int j :: .ref (adr k i) :: rest)) := by
  obtain ⟨ids, h1, h2, h3⟩ := hw
  obtain ⟨q, -, hn⟩ := hws_at (adr := adr) (G := G) (h1 k i hl)
  rw [hG] at hn
  have hlt : j.toNatClampNeg < n := Nat.not_le.mp fun q => hj (Or.inr q)
  exact W.aald (v := .ref a) (ty := .array .int) S.1 S.2.1 (h2 q _ hn) ((hg.1.2 3 _ (rfl : (tysOf cI)[3]? = some (cI 3, .array .int))).1 n (fun j => va_rf (f j))) rfl (fun q => by cases q) (by show ¬ (j < 0 ∨ (arrV _ _ _).slots.size ≤ _); rw [arrV_size]; exact hj) (by show (arrV _ _ _).slots[_]? = _; rw [arrV_read _ _ hlt, hf]; rfl) rfl rfl hdg kk
theorem r_iast (S : CallFix p m c cc nL s args WU own) (hg : GI D cI e0 A s s.heap) (hS : va_S A s.heap H locs) (hw : HW D A live adr G H) {k i : Nat} (hl : live k i) {n : Nat} {f : Nat → Int32} (hG : G k i = .inl (cI 0, n, .inl f)) {j x : Int32} (hj : vp_in j n) (hdg : decode cc pc = .ok (.iastore, 1))
    (kk : ∀ (H1 : Heap) (locs1 : List Loc), HW D A live adr (hU G k i (.inl (cI 0, n, .inl (upd f j.toNatClampNeg x)))) H1 → va_S A s.heap H1 locs1 → W p l e R s m args below meth c H1 locs1 cells slots Q (F0 m (pc + 1) ls rest)) : W p l e R s m args below meth c H locs cells slots Q (F0 m pc ls (.int x :: .int j :: .ref (adr k i) :: rest)) := by
  obtain ⟨ids, h1, h2, h3⟩ := hw
  obtain ⟨q, hn1, hn⟩ := hws_at (adr := adr) (G := G) (h1 k i hl)
  rw [hG] at hn
  exact va_iast S.1 S.2.1 hg.1 h2 h3 hS q 0 hn rfl hj hdg (fun H1 locs1 hP hD hS => kk H1 locs1 (HW.set h3 h1 hn1 hP hD) hS)
theorem r_cast (S : CallFix p m c cc nL s args WU own) (hg : GI D cI e0 A s s.heap) (hS : va_S A s.heap H locs) (hw : HW D A live adr G H) {k i : Nat} (hl : live k i) {n : Nat} {f : Nat → Int32} (hG : G k i = .inl (cI 1, n, .inl f)) {j x : Int32} (hj : vp_in j n) (hx : vp_nar .char x = x) (hdg : decode cc pc = .ok (.castore, 1))
    (kk : ∀ (H1 : Heap) (locs1 : List Loc), HW D A live adr (hU G k i (.inl (cI 1, n, .inl (upd f j.toNatClampNeg x)))) H1 → va_S A s.heap H1 locs1 → W p l e R s m args below meth c H1 locs1 cells slots Q (F0 m (pc + 1) ls rest)) : W p l e R s m args below meth c H locs cells slots Q (F0 m pc ls (.int x :: .int j :: .ref (adr k i) :: rest)) := by
  obtain ⟨ids, h1, h2, h3⟩ := hw
  obtain ⟨q, hn1, hn⟩ := hws_at (adr := adr) (G := G) (h1 k i hl)
  rw [hG] at hn
  exact va_cast S.1 S.2.1 hg.1 h2 h3 hS q 1 hn rfl hj hdg (fun H1 locs1 hP hD hS => kk H1 locs1 (by rw [hx] at hP hD; exact HW.set h3 h1 hn1 hP hD) hS)
theorem r_alen (S : CallFix p m c cc nL s args WU own) (hg : GI D cI e0 A s s.heap) (hw : HW D A live adr G H) {k i : Nat} (hl : live k i) (t : Nat) {ty : FieldType} {cA : ClassId} (ht : (tysOf cI)[t]? = some (cA, ty)) {x : vp_A} (hG : G k i = .inl (cA, x)) (hdg : decode cc pc = .ok (.arraylength, 1))
    (kk : W p l e R s m args below meth c H locs cells slots Q (F0 m (pc + 1) ls (.int (nI x.1) :: rest))) : W p l e R s m args below meth c H locs cells slots Q (F0 m pc ls (.ref (adr k i) :: rest)) := by
  obtain ⟨ids, h1, h2, h3⟩ := hw
  obtain ⟨q, -, hn⟩ := hws_at (adr := adr) (G := G) (h1 k i hl)
  rw [hG] at hn
  exact va_alen S.1 S.2.1 hg.1 h2 q t hn ht rfl hdg kk
theorem r_call {y : MethodName} {bytes : ByteArray} {maxL : Nat} {ret : Option FieldType} {fr lo mc ms : Nat} {As : List Value} {b : Nat} {P : Heap → Prop} {QQ : Option Value → Heap → Prop} {XX : String → Heap → Prop} {st0 : List Value} {index : Nat} {C : String}
    (S : CallFix p m c cc nL s args WU own) (hg : GI D cI e0 A s s.heap) (hS : va_S A s.heap H locs) (hM : CM l D cI e0 A y bytes maxL ret fr lo mc ms (.ref b :: As) P QQ XX)
    (k1 : Cond.methodLink own index y ∈ WU) (k2 : Cond.instanceMethod y ∈ WU) (k3 : Cond.selects C y y ∈ WU) (k4 : Cond.initialized y.cls ∈ WU) (k5 : Cond.code y bytes maxL ret ∈ WU)
    (hd : y.cls ≠ "java/lang/invoke/MethodHandle" ∧ y.cls ≠ "java/lang/invoke/VarHandle" ∧ (parseMethodDescriptor y.desc).map (fun d => d.parameters.length) = some As.length)
    (hrecv : ∃ cell : Cell, H[b]? = some cell ∧ cell.vm.isStatics = false ∧ s.vm.findClass C = some cell.cls) (hP : P H) (hR : fr + 1 ≤ R.frames ∧ 8 + (maxL + 11) + lo ≤ R.locals) (hcs : cells + mc ≤ R.cells ∧ slots + ms ≤ R.slots)
    (hsize : ls.size = nL) (hrest : (rest.map fun v => v.category).sum ≤ 8) (hst : st0 = As.reverse ++ .ref b :: rest) (hdg : decode cc pc = .ok (.invokevirtual index, 3))
    (kx : ∀ (E : String) (ce : Cell) (q : Addr) (H1 : Heap) (locs1 : List Loc), XX E H1 → va_S A s.heap H1 locs1 → H1[q]? = some ce → ce.vm = .none → s.vm.findClass E = some ce.cls → vx_W p l e R s m args below meth c H1 locs1 (cells + mc) (slots + ms) Q (F0 m pc ls rest) q)
    (kk : ∀ (r : Option Value) (H1 : Heap) (locs1 : List Loc), QQ r H1 → va_S A s.heap H1 locs1 → W p l e R s m args below meth c H1 locs1 (cells + mc) (slots + ms) Q (F0 m (pc + 3) ls (r.toList ++ rest))) : W p l e R s m args below meth c H locs cells slots Q (F0 m pc ls st0) := by
  have hcw : CallW R s args own C index y bytes maxL ret (Cond.code y bytes maxL ret :: WU) ({ frames := fr, cells := mc, slots := ms, locals := lo }) mc ms As.length := by
    have ht := S.2.2.2.2
    have hgood : ∀ w ∈ Cond.code y bytes maxL ret :: WU, ∀ (a' : Array Value) (U : State), s.WarmedH U.vm → w.before a' U = true := by
      intro w hw a' U hW
      have hw2 : w ∈ WU := by
        rcases List.mem_cons.mp hw with rfl | h
        · exact k5
        · exact h
      exact word_at hW (good_of_word (WU_good w hw2)) (ht w hw2)
    exact ⟨⟨rfl, rfl, hR.1, hR.2, hgood, List.mem_cons_self, ht _ k5, ht _ k4, ⟨hd.1, hd.2.1⟩, (fun sig h => by have h2 := hd.2.2; rw [h] at h2; exact (Option.some.inj h2).symm), ht _ k1⟩, ht _ k2, ht _ k3⟩
  have hb : FrameBlind (va_Pc (.ref b :: As) (fun U => GI D cI e0 A U U.heap ∧ P U.heap)) := fun a U g mk h => ⟨h.1, h.2.1.mv (State.WarmedH.refl U) (Nat.le_refl _) (fun _ _ _ => rfl), h.2.2⟩
  have hrun := vx_runV (e := e) (meth := meth) (below := below) (locs := locs) (cells := cells) (slots := slots) (g := F0 m pc ls st0) S hM hcw ⟨hb, hrecv, fun U hU hW => ⟨rfl, hg.at hS hU hW, by rw [hU]; exact hP⟩⟩ rfl rfl hsize hst (lv_room hrest) hdg hcs
  intro T hT X
  rcases hrun T hT X with ⟨v, st₀, t, T', L, h0, X', hL, e1, e2, ⟨⟨r, hv, hq⟩, hF⟩, st⟩ | ⟨q, st₀, t, T', L, E, ce, h0, X', hL, e1, e2, ⟨hx, hF⟩, hce, hcv, hcl, st⟩
  · cases hv
    obtain ⟨q1, q2, q3⟩ := vx_keep h0 e1 hS (fun _ _ h => h) (fun _ h => h) hL hF
    obtain ⟨t2, a1, b1⟩ := kk v T'.heap (locs ++ L) (by rw [e1]; exact hq) q3 T' rfl X'
    exact ⟨t2, st t2 a1, b1⟩
  · obtain ⟨q1, q2, q3⟩ := vx_keep h0 e1 hS (fun _ _ h => h) (fun _ h => h) hL hF
    obtain ⟨t2, a1, b1⟩ := kx E ce q T'.heap (locs ++ L) (by rw [e1]; exact hx) q3 (by rw [e1]; exact hce) hcv hcl T' rfl X'
    exact ⟨t2, st.trans a1, b1⟩
theorem r_callS {y : MethodName} {bytes : ByteArray} {maxL : Nat} {ret : Option FieldType} {fr lo mc ms : Nat} {As : List Value} {P : Heap → Prop} {QQ : Option Value → Heap → Prop} {XX : String → Heap → Prop} {st0 : List Value} {index : Nat}
    (S : CallFix p m c cc nL s args WU own) (hg : GI D cI e0 A s s.heap) (hS : va_S A s.heap H locs) (hM : CM l D cI e0 A y bytes maxL ret fr lo mc ms As P QQ XX)
    (k1 : Cond.methodLink own index y ∈ WU) (k2 : Cond.static y ∈ WU) (k4 : Cond.initialized y.cls ∈ WU) (k5 : Cond.code y bytes maxL ret ∈ WU)
    (hd : y.cls ≠ "java/lang/invoke/MethodHandle" ∧ y.cls ≠ "java/lang/invoke/VarHandle" ∧ (parseMethodDescriptor y.desc).map (fun d => d.parameters.length) = some As.length)
    (hP : P H) (hR : fr + 1 ≤ R.frames ∧ 8 + (maxL + 11) + lo ≤ R.locals) (hcs : cells + mc ≤ R.cells ∧ slots + ms ≤ R.slots)
    (hsize : ls.size = nL) (hrest : (rest.map fun v => v.category).sum ≤ 8) (hst : st0 = As.reverse ++ rest) (hdg : decode cc pc = .ok (.invokestatic index, 3))
    (kx : ∀ (E : String) (ce : Cell) (q : Addr) (H1 : Heap) (locs1 : List Loc), XX E H1 → va_S A s.heap H1 locs1 → H1[q]? = some ce → ce.vm = .none → s.vm.findClass E = some ce.cls → vx_W p l e R s m args below meth c H1 locs1 (cells + mc) (slots + ms) Q (F0 m pc ls rest) q)
    (kk : ∀ (r : Option Value) (H1 : Heap) (locs1 : List Loc), QQ r H1 → va_S A s.heap H1 locs1 → W p l e R s m args below meth c H1 locs1 (cells + mc) (slots + ms) Q (F0 m (pc + 3) ls (r.toList ++ rest))) : W p l e R s m args below meth c H locs cells slots Q (F0 m pc ls st0) := by
  have hcw : CallB R s args own index y bytes maxL ret (Cond.code y bytes maxL ret :: WU) ({ frames := fr, cells := mc, slots := ms, locals := lo }) mc ms As.length ∧ (Cond.static y).before args s = true := by
    have ht := S.2.2.2.2
    have hgood : ∀ w ∈ Cond.code y bytes maxL ret :: WU, ∀ (a' : Array Value) (U : State), s.WarmedH U.vm → w.before a' U = true := by
      intro w hw a' U hW
      have hw2 : w ∈ WU := by
        rcases List.mem_cons.mp hw with rfl | h
        · exact k5
        · exact h
      exact word_at hW (good_of_word (WU_good w hw2)) (ht w hw2)
    exact ⟨⟨rfl, rfl, hR.1, hR.2, hgood, List.mem_cons_self, ht _ k5, ht _ k4, ⟨hd.1, hd.2.1⟩, (fun sig h => by have h2 := hd.2.2; rw [h] at h2; exact (Option.some.inj h2).symm), ht _ k1⟩, ht _ k2⟩
  have hb : FrameBlind (va_Pc As (fun U => GI D cI e0 A U U.heap ∧ P U.heap)) := fun a U g mk h => ⟨h.1, h.2.1.mv (State.WarmedH.refl U) (Nat.le_refl _) (fun _ _ _ => rfl), h.2.2⟩
  have hrun := vx_runS (e := e) (meth := meth) (below := below) (locs := locs) (cells := cells) (slots := slots) (g := F0 m pc ls st0) S hM hcw ⟨hb, fun U hU hW => ⟨rfl, hg.at hS hU hW, by rw [hU]; exact hP⟩⟩ rfl rfl hsize hst (lv_room hrest) hdg hcs
  intro T hT X
  rcases hrun T hT X with ⟨v, st₀, t, T', L, h0, X', hL, e1, e2, ⟨⟨r, hv, hq⟩, hF⟩, st⟩ | ⟨q, st₀, t, T', L, E, ce, h0, X', hL, e1, e2, ⟨hx, hF⟩, hce, hcv, hcl, st⟩
  · cases hv
    obtain ⟨q1, q2, q3⟩ := vx_keep h0 e1 hS (fun _ _ h => h) (fun _ h => h) hL hF
    obtain ⟨t2, a1, b1⟩ := kk v T'.heap (locs ++ L) (by rw [e1]; exact hq) q3 T' rfl X'
    exact ⟨t2, st t2 a1, b1⟩
  · obtain ⟨q1, q2, q3⟩ := vx_keep h0 e1 hS (fun _ _ h => h) (fun _ h => h) hL hF
    obtain ⟨t2, a1, b1⟩ := kx E ce q T'.heap (locs ++ L) (by rw [e1]; exact hx) q3 (by rw [e1]; exact hce) hcv hcl T' rfl X'
    exact ⟨t2, st.trans a1, b1⟩
theorem r_iret {y : MethodName} {mc ms : Nat} {QQ : Option Value → Heap → Prop} {XC : String → State → State → Prop} {v : Int32} {ty : FieldType} (S : CallFix p m c cc nL s args WU own) (hr : meth.sig.returnType = some ty) (hn : narrow ty (.int v) = .int v) (hlk : meth.locks = false) (hS : va_S A s.heap H locs) (hc : cells ≤ mc) (hs : slots ≤ ms) (hdg : decode cc pc = .ok (.ireturn, 1)) (hq : QQ (some (.int v)) H) : W p l e R s m args below meth c H locs cells slots (vx_MQ below (fun _ st oc t => (∃ r, oc = .returned r ∧ QQ r t.heap) ∧ va_F A st t) XC args s mc ms A) (F0 m pc ls [.int v]) := by
  refine W.widen hc hs (vx_ret ?_)
  exact W.zret (Qc := fun _ st oc t => (∃ r, oc = .returned r ∧ QQ r t.heap) ∧ va_F A st t) S.1 S.2.1 hr hn (fun t ht hW => ⟨⟨_, rfl, by rw [ht]; exact hq⟩, hS.F ht⟩) hS.2.2 hdg hlk
theorem r_vret {y : MethodName} {mc ms : Nat} {QQ : Option Value → Heap → Prop} {XC : String → State → State → Prop} (S : CallFix p m c cc nL s args WU own) (hr : meth.sig.returnType = none) (hlk : meth.locks = false) (hS : va_S A s.heap H locs) (hc : cells ≤ mc) (hs : slots ≤ ms) (hdg : decode cc pc = .ok (.return_, 1)) (hq : QQ none H) : W p l e R s m args below meth c H locs cells slots (vx_MQ below (fun _ st oc t => (∃ r, oc = .returned r ∧ QQ r t.heap) ∧ va_F A st t) XC args s mc ms A) (F0 m pc ls []) := by
  refine W.widen hc hs (vx_ret ?_)
  exact W.vret (Qc := fun _ st oc t => (∃ r, oc = .returned r ∧ QQ r t.heap) ∧ va_F A st t) S.1 S.2.1 hr (fun t ht hW => ⟨⟨_, rfl, by rw [ht]; exact hq⟩, hS.F ht⟩) hS.2.2 hdg hlk
theorem r_aret {y : MethodName} {mc ms : Nat} {QQ : Option Value → Heap → Prop} {XC : String → State → State → Prop} {a : Nat} {rt : FieldType} (S : CallFix p m c cc nL s args WU own) (hr : meth.sig.returnType = some rt) (hrt : (∃ n, rt = .object n) ∨ ∃ t, rt = .array t) (hlk : meth.locks = false) (hS : va_S A s.heap H locs) (hc : cells ≤ mc) (hs : slots ≤ ms) (hdg : decode cc pc = .ok (.areturn, 1)) (hq : QQ (some (.ref a)) H) : W p l e R s m args below meth c H locs cells slots (vx_MQ below (fun _ st oc t => (∃ r, oc = .returned r ∧ QQ r t.heap) ∧ va_F A st t) XC args s mc ms A) (F0 m pc ls [.ref a]) := by
  refine W.widen hc hs (vx_ret ?_)
  exact W.aret (Qc := fun _ st oc t => (∃ r, oc = .returned r ∧ QQ r t.heap) ∧ va_F A st t) S.1 S.2.1 hr hrt (Or.inr ⟨a, rfl⟩) (fun t ht hW => ⟨⟨_, rfl, by rw [ht]; exact hq⟩, hS.F ht⟩) hS.2.2 hdg hlk
theorem r_lret {y : MethodName} {mc ms : Nat} {QQ : Option Value → Heap → Prop} {XC : String → State → State → Prop} {v : Int64} (S : CallFix p m c cc nL s args WU own) (hr : meth.sig.returnType = some .long) (hlk : meth.locks = false) (hS : va_S A s.heap H locs) (hc : cells ≤ mc) (hs : slots ≤ ms) (hdg : decode cc pc = .ok (.lreturn, 1)) (hq : QQ (some (.long v)) H) : W p l e R s m args below meth c H locs cells slots (vx_MQ below (fun _ st oc t => (∃ r, oc = .returned r ∧ QQ r t.heap) ∧ va_F A st t) XC args s mc ms A) (F0 m pc ls [.long v]) := by
  refine W.widen hc hs (vx_ret ?_)
  exact W.lret (Qc := fun _ st oc t => (∃ r, oc = .returned r ∧ QQ r t.heap) ∧ va_F A st t) S.1 S.2.1 hr (fun t ht hW => ⟨⟨_, rfl, by rw [ht]; exact hq⟩, hS.F ht⟩) hS.2.2 hdg hlk
/-- an exception of a callee that isn't caught here -/
theorem r_out {mc ms : Nat} {QQ : Option Value → Heap → Prop} {XX : String → Heap → Prop} {E : String} {ce : Cell} {q : Addr} (hout : ∀ x ∈ c.exceptionTable.toList, False) (hlk : meth.locks = false) (hS : va_S A s.heap H locs) (hc : cells ≤ mc) (hs : slots ≤ ms) (hcell : H[q]? = some ce) (hv : ce.vm = .none) (hcl : s.vm.findClass E = some ce.cls) (hx : XX E H) : vx_W p l e R s m args below meth c H locs cells slots (vx_MQ below (fun _ st oc t => (∃ r, oc = .returned r ∧ QQ r t.heap) ∧ va_F A st t) (fun E st t => XX E t.heap ∧ va_F A st t) args s mc ms A) (F0 m pc ls rest) q :=
  vx_out (fun x hx => absurd (hout x hx) id) hlk hcell hv hcl (fun t ht _ => ⟨by rw [ht]; exact hx, hS.F ht⟩) hS.2.2 hc hs
def gEx : List String := ["java/lang/RuntimeException", "java/lang/Exception"]
/-- throw new E("text") -/
theorem r_throw {mc ms fr lo : Nat} {QQ : Option Value → Heap → Prop} {XX : String → Heap → Prop} {cls text : String} {ik is ic : Nat} (hfl : l.stackTraces = false) (S : CallFix p m c cc nL s args WU RX6) (hout : ∀ x ∈ c.exceptionTable.toList, False) (hlk : meth.locks = false) (hg : GI D cI e0 A s s.heap) (hS : va_S A s.heap H locs)
    (hcls : Bundle.fit cls = true) (hk : Cond.classLink RX6 ik cls ∈ WU) (hini : Cond.initialized cls ∈ WU) (hstr : (RX6, is, text) ∈ gStr) (hat : ∀ w ∈ vx_atS RX6 ic cls gEx, w ∈ WU ∨ (∃ q ∈ gCa, w = .castable q.1 q.2) ∨ ∃ q ∈ gDc, w = .declares q) (hsize : ls.size = nL)
    (d0 : decode cc pc = .ok (.new ik, 3)) (d3 : decode cc (pc + 3) = .ok (.dup, 1)) (d4 : decode cc (pc + 4) = .ok (.ldc is, 2)) (d6 : decode cc (pc + 6) = .ok (.invokespecial ic, 3)) (d9 : decode cc (pc + 9) = .ok (.athrow, 1))
    (hfr : 6 ≤ R.frames) (hlo : (rest.map fun v => v.category).sum + 82 ≤ R.locals) (hRc : cells + 1 ≤ R.cells) (hRs : slots + 6 ≤ R.slots) (hc : cells + 1 ≤ mc) (hs : slots + 6 ≤ ms)
    (hx : ∀ H1 : Heap, H.size ≤ H1.size → (∀ q : Nat, q < H.size → H1[q]? = H[q]?) → XX cls H1) : W p l e R s m args below meth c H locs cells slots (vx_MQ below (fun _ st oc t => (∃ r, oc = .returned r ∧ QQ r t.heap) ∧ va_F A st t) (fun E st t => XX E t.heap ∧ va_F A st t) args s mc ms A) (F0 m pc ls rest) := by
  obtain ⟨sa, hsa⟩ := hg.2.2.2.1 _ hstr
  have ht := S.2.2.2.2
  have hat2 : ∀ w ∈ vx_atS RX6 ic cls gEx, w.before args s = true ∧ vx_ot w = true := by
    intro w hw
    rcases hat w hw with h | ⟨q, hq, rfl⟩ | ⟨q, hq, rfl⟩
    · exact ⟨ht w h, by unfold vx_ot; rw [WU_good w h, Bool.or_true]⟩
    · exact ⟨va_Nw.use rfl (hg.2.2.2.2.1.1 q hq), rfl⟩
    · exact ⟨va_Nw.use rfl (hg.2.2.2.2.1.2 q hq), rfl⟩
  refine vx_throwS S.1 S.2.1 hfl (names := gEx) S.2.2.2.1 hcls (by decide) (ht _ hk) (ht _ hini) hsa (fun w hw => (hat2 w hw).1) ?_ hg.2.2.1.1 hg.2.2.1.2 hS (hsize.trans S.2.2.1.symm) d0 d3 d4 d6 d9 (fun x hx => absurd (hout x hx) id) (by show 2 + 3 < _; omega) (by show _ + (13 * (2 + 1) + 43) ≤ _; omega) hRc hRs hlk ?_ hS.2.2 hc hs
  · intro w hw
    rcases List.mem_cons.mp hw with rfl | hw
    · rfl
    · rcases List.mem_cons.mp hw with rfl | hw
      · rfl
      · exact (hat2 w hw).2
  · intro t hal hz hk2
    refine ⟨hx t.heap hz hk2, Nat.le_trans hS.1 hz, fun q h1 h2 => ?_⟩
    rw [hk2 q (Nat.lt_of_lt_of_le h1 hS.1)]
    exact hS.2.1 q h1 h2
theorem HW.more {D : va_G} {A : Nat → Prop} {live : Nat → Nat → Prop} {adr : Nat → Nat → Nat} {G : Nat → Nat → va_E} {H H1 : Heap} (h : HW D A live adr G H) (hk : ∀ q : Nat, q < H.size → H1[q]? = H[q]?) : HW D A live adr G H1 := by
  obtain ⟨ids, h1, h2, h3⟩ := h
  exact ⟨ids, h1, va_P.kept h2 (fun k q hq => hk q.1 ((h2 k q hq).lt)), h3⟩
end BODY
theorem hat_50 : ∀ w ∈ vx_atS RX6 50 "java/lang/IllegalArgumentException" gEx, w ∈ WU ∨ (∃ q ∈ gCa, w = .castable q.1 q.2) ∨ ∃ q ∈ gDc, w = .declares q := hat_of (by decide +kernel) (by decide +kernel)
theorem hat_61 : ∀ w ∈ vx_atS RX6 61 "java/lang/IllegalStateException" gEx, w ∈ WU ∨ (∃ q ∈ gCa, w = .castable q.1 q.2) ∨ ∃ q ∈ gDc, w = .declares q := hat_of (by decide +kernel) (by decide +kernel)
theorem hat_118 : ∀ w ∈ vx_atS RX6 118 "java/lang/IndexOutOfBoundsException" gEx, w ∈ WU ∨ (∃ q ∈ gCa, w = .castable q.1 q.2) ∨ ∃ q ∈ gDc, w = .declares q := hat_of (by decide +kernel) (by decide +kernel)
theorem hat_158 : ∀ w ∈ vx_atS RX6 158 "java/lang/UnsupportedOperationException" gEx, w ∈ WU ∨ (∃ q ∈ gCa, w = .castable q.1 q.2) ∨ ∃ q ∈ gDc, w = .declares q := hat_of (by decide +kernel) (by decide +kernel)
theorem hat_343 : ∀ w ∈ vx_atS RX6 343 "java/lang/ArithmeticException" gEx, w ∈ WU ∨ (∃ q ∈ gCa, w = .castable q.1 q.2) ∨ ∃ q ∈ gDc, w = .declares q := hat_of (by decide +kernel) (by decide +kernel)
end
section
/-! The state in words: K, the class's numbers (kind, field or row, place), M, the reference's. Kinds: 0 the arena, 1 its ledger, 2 its store, 3 the reference, 4 cards, 5 offers, 6 duels, 7 sides (2 d + s), 8 lists (0 cards, 1 duels, 2 offers, 3 sales, 4 + side), 9 their elements, 10 the arena's own rows (coins, numbers, kept, uses), 11 the postings, 12, 21 the outer rows of a duel's keptBlocks, keptStacks, 13, 16 the reference's rows of chars, of ints, 14, 15 the law's out, outD, 17 stacks, 18 played, 19, 20 the inner rows (6 d + snapshot). Fields 20, 21, 22 of kind 0: how many cards, offers, duels were made; 5 of kind 1: the room of the postings' row; 3 of kind 8: a list's room. -/
abbrev KS : Type := Nat → Nat → Nat → Int32
def k3 (K : KS) (a b c : Nat) (v : Int32) : KS := va_up K a (va_up (K a) b (va_up (K a b) c v))
def nC (K : KS) : Nat := (K 0 20 0).toNatClampNeg
def nO (K : KS) : Nat := (K 0 21 0).toNatClampNeg
def nD (K : KS) : Nat := (K 0 22 0).toNatClampNeg
def aLen (n : Nat) : Nat := match n with | 0 => 6 | 1 => 24 | 2 => 1152 | _ => 288
def mLen (n : Nat) : Nat := match n with | 2 => 6 | 6 => 40 | 7 => 40 | 8 => 40 | 9 => 40 | 10 => 40 | 12 => 12000 | 14 => 8 | 15 => 8 | 16 => 8 | 17 => 8 | 18 => 16 | 19 => 8 | 20 => 8 | 21 => 16 | 22 => 128 | 23 => 128 | 24 => 8 | 25 => 128 | 26 => 8 | 27 => 1152 | 28 => 768 | 30 => 60 | 31 => 60 | 32 => 60 | 33 => 60 | 34 => 60 | 35 => 60 | 36 => 60 | _ => 0
def mArr (n : Nat) : Bool := match n with | 2 => true | 6 => true | 7 => true | 9 => true | 10 => true | 12 => true | 14 => true | 15 => true | 17 => true | 18 => true | 19 => true | 20 => true | 21 => true | 22 => true | 23 => true | 24 => true | 25 => true | 26 => true | 27 => true | 28 => true | 30 => true | 31 => true | 33 => true | 34 => true | 35 => true | 36 => true | _ => false
def mArc (n : Nat) : Bool := match n with | 8 => true | 16 => true | 32 => true | _ => false
def ek (n : Nat) : Nat := match n with | 1 => 6 | 2 => 5 | 3 => 5 | _ => 4
def lvK (K : KS) (k i : Nat) : Prop := match k with
  | 0 => i = 0
  | 1 => i = 0
  | 2 => i = 0
  | 3 => i = 0
  | 4 => i < nC K
  | 5 => i < nO K
  | 6 => i < nD K
  | 7 => i < 2 * nD K
  | 8 => i < 4 + 2 * nD K
  | 9 => i < 4 + 2 * nD K ∧ K 8 3 i ≠ 0
  | 10 => i < 4
  | 11 => i = 0
  | 12 => i < nD K
  | 13 => mArc i = true
  | 14 => i = 0
  | 15 => i = 0
  | 16 => mArr i = true
  | 17 => i < nD K
  | 18 => i < 2 * nD K
  | 19 => i < 6 * nD K
  | 20 => i < 6 * nD K
  | 21 => i < nD K
  | _ => False
def adK (ad av : Nat → Nat → Nat) (k i : Nat) : Nat := match k with | 9 => av 9 i | 11 => av 11 i | k => ad k i
def ctK (cI : Nat → ClassId) (e0 : Nat) (ad av : Nat → Nat → Nat) (K M : KS) (ap o : Int64) (od : UInt64) (k i : Nat) : va_E := match k with
  | 0 => .inr (9, [.ref (ad 10 0), .int (K 0 1 0), .int (K 0 2 0), .int (K 0 3 0), .int (K 0 4 0), .ref (ad 8 0), .ref (ad 8 1), .ref (ad 8 2), .ref (ad 8 3), .ref (ad 1 0), .ref (ad 2 0), .ref (ad 10 1)])
  | 1 => .inr (6, [.ref (av 11 0), .int (K 1 1 0)])
  | 2 => .inr (3, [.ref (ad 10 2), .ref (ad 10 3)])
  | 3 => .inr (10, [.int (M 3 0 0), .int (M 3 1 0), .ref (ad 16 2), .int (M 3 3 0), .long ap, .int (M 3 5 0), .ref (ad 16 6), .ref (ad 16 7), .ref (ad 13 8), .ref (ad 16 9), .ref (ad 16 10), .int (M 3 11 0), .ref (ad 16 12), .int (M 3 13 0), .ref (ad 16 14), .ref (ad 16 15), .ref (ad 13 16), .ref (ad 16 17), .ref (ad 16 18), .ref (ad 16 19), .ref (ad 16 20), .ref (ad 16 21), .ref (ad 16 22), .ref (ad 16 23), .ref (ad 16 24), .ref (ad 16 25), .ref (ad 16 26), .ref (ad 16 27), .ref (ad 16 28), .int (M 3 29 0), .ref (ad 16 30), .ref (ad 16 31), .ref (ad 13 32), .ref (ad 16 33), .ref (ad 16 34), .ref (ad 16 35), .ref (ad 16 36), .int (M 3 37 0)])
  | 4 => .inr (4, [.int (K 4 0 i), .int (K 4 1 i), .int (K 4 2 i), .int (K 4 3 i), .int (K 4 4 i), .int (K 4 5 i)])
  | 5 => .inr (7, [.ref (ad 4 (K 5 0 i).toNatClampNeg), .int (K 5 1 i), .int (K 5 2 i), .int (K 5 3 i), .int (K 5 4 i), .int (K 5 5 i)])
  | 6 => .inr (5, [.ref (ad 7 (2 * i)), .ref (ad 7 (2 * i + 1)), .int (K 6 2 i), .int (K 6 3 i), .int (K 6 4 i), .int (K 6 5 i), .ref (ad 17 i), .int (K 6 7 i), .int (K 6 8 i), .ref (ad 12 i), .ref (ad 21 i)])
  | 7 => .inr (8, [.int (K 7 0 i), .int (K 7 1 i), .ref (ad 8 (i + 4)), .ref (ad 18 i)])
  | 8 => .inr (2, [.int (K 8 0 i), .ref ((if K 8 3 i = 0 then e0 else av 9 i)), .int (K 8 2 i)])
  | 9 => .inl (cI 2, (K 8 3 i).toNatClampNeg, .inr (.inr (.inr (.inr (fun j => if j < (K 8 2 i).toNatClampNeg then some (ad (ek i) (K 9 i j).toNatClampNeg) else none)))))
  | 10 => .inl (cI 0, aLen i, .inl (K 10 i))
  | 11 => .inl (cI 0, (K 1 5 0).toNatClampNeg, .inl (K 11 0))
  | 12 => .inl (cI 3, 6, .inr (.inr (.inr (.inr (fun j => if j < 6 then some (ad 19 (6 * i + j)) else none)))))
  | 13 => .inl (cI 1, mLen i, .inl (M 13 i))
  | 14 => .inl (cI 4, 1, .inr (.inl (fun _ => o)))
  | 15 => .inl (cI 5, 1, .inr (.inr (.inr (.inl (fun _ => od)))))
  | 16 => .inl (cI 0, mLen i, .inl (M 16 i))
  | 17 => .inl (cI 0, 8, .inl (K 17 i))
  | 18 => .inl (cI 0, 8, .inl (K 18 i))
  | 19 => .inl (cI 0, 6, .inl (K 19 i))
  | 20 => .inl (cI 0, 8, .inl (K 20 i))
  | 21 => .inl (cI 3, 6, .inr (.inr (.inr (.inr (fun j => if j < 6 then some (ad 20 (6 * i + j)) else none)))))
  | _ => .inr (0, [])
def HT (D : va_G) (cI : Nat → ClassId) (e0 : Nat) (A : Nat → Prop) (ad : Nat → Nat → Nat) (K M : KS) (ap o : Int64) (od : UInt64) (H : Heap) : Prop := ∃ av, HW D A (lvK K) (adK ad av) (ctK cI e0 ad av K M ap o od) H
theorem va_up_s {α : Type} (f : Nat → α) (k : Nat) (x : α) : va_up f k x k = x := by simp [va_up]
theorem va_up_n {α : Type} (f : Nat → α) {k j : Nat} (x : α) (h : ¬ j = k) : va_up f k x j = f j := by simp [va_up, h]
theorem k3_a (K : KS) {a b c a' : Nat} (v : Int32) (h : ¬ a' = a) : k3 K a b c v a' = K a' := va_up_n _ _ h
theorem k3_b (K : KS) {a b c b' : Nat} (v : Int32) (h : ¬ b' = b) : k3 K a b c v a b' = K a b' := by unfold k3; rw [va_up_s, va_up_n _ _ h]
theorem k3_c (K : KS) {a b c c' : Nat} (v : Int32) (h : ¬ c' = c) : k3 K a b c v a b c' = K a b c' := by unfold k3; rw [va_up_s, va_up_s, va_up_n _ _ h]
theorem k3_s (K : KS) (a b c : Nat) (v : Int32) : k3 K a b c v a b c = v := by unfold k3; rw [va_up_s, va_up_s, va_up_s]
theorem k3_r (K : KS) (a b c : Nat) (v : Int32) : k3 K a b c v a b = upd (K a b) c v := by unfold k3; rw [va_up_s, va_up_s]; rfl
section TYPED
variable {p : Program} {l : Launch} {e : Env} {R : Room} {s : State} {m : MethodId} {args : Array Value} {below : List Frame} {meth : Method} {c : Code} {H : Heap} {locs : List Loc} {cells slots : Nat} {Q : State → Prop}
variable {D : va_G} {cI : Nat → ClassId} {e0 : Nat} {A : Nat → Prop} {ad av : Nat → Nat → Nat} {K M : KS} {ap o : Int64} {od : UInt64}
variable {cc : ByteArray} {nL pc : Nat} {ls : Array Slot} {rest : List Value} {own : String} {index : Nat}
theorem g0_0 (S : CallFix p m c cc nL s args WU own) (hg : GI D cI e0 A s s.heap) (hw : HT D cI e0 A ad K M ap o od H) (hk : Cond.fieldLink own index "SnapshotArena" "coins" "[I" ∈ WU) (hd : decode cc pc = .ok (.getfield index, 3)) (kk : W p l e R s m args below meth c H locs cells slots Q (F0 m (pc + 3) ls (.ref (ad 10 0) :: rest))) : W p l e R s m args below meth c H locs cells slots Q (F0 m pc ls (.ref (ad 0 0) :: rest)) := by
  obtain ⟨av, hw⟩ := hw
  exact r_get S hg hw (k := 0) (i := 0) rfl rfl rfl iWX6 0 (by decide) hk rfl hd kk
theorem g0_1 (S : CallFix p m c cc nL s args WU own) (hg : GI D cI e0 A s s.heap) (hw : HT D cI e0 A ad K M ap o od H) (hk : Cond.fieldLink own index "SnapshotArena" "playerCount" "I" ∈ WU) (hd : decode cc pc = .ok (.getfield index, 3)) (kk : W p l e R s m args below meth c H locs cells slots Q (F0 m (pc + 3) ls (.int (K 0 1 0) :: rest))) : W p l e R s m args below meth c H locs cells slots Q (F0 m pc ls (.ref (ad 0 0) :: rest)) := by
  obtain ⟨av, hw⟩ := hw
  exact r_get S hg hw (k := 0) (i := 0) rfl rfl rfl iWX6 1 (by decide) hk rfl hd kk
set_option maxHeartbeats 1000000 in
theorem p0_1 (S : CallFix p m c cc nL s args WU own) (hg : GI D cI e0 A s s.heap) (hS : va_S A s.heap H locs) (hw : HT D cI e0 A ad K M ap o od H) {v : Int32} (hk : Cond.fieldLink own index "SnapshotArena" "playerCount" "I" ∈ WU) (hd : decode cc pc = .ok (.putfield index, 3)) (kk : ∀ (H1 : Heap) (locs1 : List Loc), HT D cI e0 A ad (k3 K 0 1 0 v) M ap o od H1 → va_S A s.heap H1 locs1 → W p l e R s m args below meth c H1 locs1 cells slots Q (F0 m (pc + 3) ls rest)) : W p l e R s m args below meth c H locs cells slots Q (F0 m pc ls (.int v :: .ref (ad 0 0) :: rest)) := by
  obtain ⟨av, hw⟩ := hw
  refine r_put S hg hS hw (k := 0) (i := 0) rfl rfl rfl iWX6 tyX6 tyX6_ok nmX6 1 (by decide) hk rfl rfl rfl (Nat.le_of_ble_eq_true rfl) hd (fun H1 locs1 hw hS => kk H1 locs1 ⟨av, hw.same (fun _ _ h => h) (fun _ _ _ => rfl) (fun k i2 hl => ?_)⟩ hS)
  by_cases hc : k = 0 ∧ i2 = 0
  · obtain ⟨rfl, rfl⟩ := hc
    rw [hU_s]
    simp [ctK, k3_s, k3_b, k3_a, List.set]
  · rw [hU_n _ _ hc]
    by_cases hk2 : k = 0
    · subst hk2
      have hc2 : ¬ i2 = 0 := fun h => hc ⟨rfl, h⟩
      exact absurd hl hc2
    · unfold ctK
      split <;> first | rfl | (exact absurd rfl hk2)
theorem g0_2 (S : CallFix p m c cc nL s args WU own) (hg : GI D cI e0 A s s.heap) (hw : HT D cI e0 A ad K M ap o od H) (hk : Cond.fieldLink own index "SnapshotArena" "coinsBegunWith" "I" ∈ WU) (hd : decode cc pc = .ok (.getfield index, 3)) (kk : W p l e R s m args below meth c H locs cells slots Q (F0 m (pc + 3) ls (.int (K 0 2 0) :: rest))) : W p l e R s m args below meth c H locs cells slots Q (F0 m pc ls (.ref (ad 0 0) :: rest)) := by
  obtain ⟨av, hw⟩ := hw
  exact r_get S hg hw (k := 0) (i := 0) rfl rfl rfl iWX6 2 (by decide) hk rfl hd kk
set_option maxHeartbeats 1000000 in
theorem p0_2 (S : CallFix p m c cc nL s args WU own) (hg : GI D cI e0 A s s.heap) (hS : va_S A s.heap H locs) (hw : HT D cI e0 A ad K M ap o od H) {v : Int32} (hk : Cond.fieldLink own index "SnapshotArena" "coinsBegunWith" "I" ∈ WU) (hd : decode cc pc = .ok (.putfield index, 3)) (kk : ∀ (H1 : Heap) (locs1 : List Loc), HT D cI e0 A ad (k3 K 0 2 0 v) M ap o od H1 → va_S A s.heap H1 locs1 → W p l e R s m args below meth c H1 locs1 cells slots Q (F0 m (pc + 3) ls rest)) : W p l e R s m args below meth c H locs cells slots Q (F0 m pc ls (.int v :: .ref (ad 0 0) :: rest)) := by
  obtain ⟨av, hw⟩ := hw
  refine r_put S hg hS hw (k := 0) (i := 0) rfl rfl rfl iWX6 tyX6 tyX6_ok nmX6 2 (by decide) hk rfl rfl rfl (Nat.le_of_ble_eq_true rfl) hd (fun H1 locs1 hw hS => kk H1 locs1 ⟨av, hw.same (fun _ _ h => h) (fun _ _ _ => rfl) (fun k i2 hl => ?_)⟩ hS)
  by_cases hc : k = 0 ∧ i2 = 0
  · obtain ⟨rfl, rfl⟩ := hc
    rw [hU_s]
    simp [ctK, k3_s, k3_b, k3_a, List.set]
  · rw [hU_n _ _ hc]
    by_cases hk2 : k = 0
    · subst hk2
      have hc2 : ¬ i2 = 0 := fun h => hc ⟨rfl, h⟩
      exact absurd hl hc2
    · unfold ctK
      split <;> first | rfl | (exact absurd rfl hk2)
theorem g0_3 (S : CallFix p m c cc nL s args WU own) (hg : GI D cI e0 A s s.heap) (hw : HT D cI e0 A ad K M ap o od H) (hk : Cond.fieldLink own index "SnapshotArena" "houseCoins" "I" ∈ WU) (hd : decode cc pc = .ok (.getfield index, 3)) (kk : W p l e R s m args below meth c H locs cells slots Q (F0 m (pc + 3) ls (.int (K 0 3 0) :: rest))) : W p l e R s m args below meth c H locs cells slots Q (F0 m pc ls (.ref (ad 0 0) :: rest)) := by
  obtain ⟨av, hw⟩ := hw
  exact r_get S hg hw (k := 0) (i := 0) rfl rfl rfl iWX6 3 (by decide) hk rfl hd kk
set_option maxHeartbeats 1000000 in
theorem p0_3 (S : CallFix p m c cc nL s args WU own) (hg : GI D cI e0 A s s.heap) (hS : va_S A s.heap H locs) (hw : HT D cI e0 A ad K M ap o od H) {v : Int32} (hk : Cond.fieldLink own index "SnapshotArena" "houseCoins" "I" ∈ WU) (hd : decode cc pc = .ok (.putfield index, 3)) (kk : ∀ (H1 : Heap) (locs1 : List Loc), HT D cI e0 A ad (k3 K 0 3 0 v) M ap o od H1 → va_S A s.heap H1 locs1 → W p l e R s m args below meth c H1 locs1 cells slots Q (F0 m (pc + 3) ls rest)) : W p l e R s m args below meth c H locs cells slots Q (F0 m pc ls (.int v :: .ref (ad 0 0) :: rest)) := by
  obtain ⟨av, hw⟩ := hw
  refine r_put S hg hS hw (k := 0) (i := 0) rfl rfl rfl iWX6 tyX6 tyX6_ok nmX6 3 (by decide) hk rfl rfl rfl (Nat.le_of_ble_eq_true rfl) hd (fun H1 locs1 hw hS => kk H1 locs1 ⟨av, hw.same (fun _ _ h => h) (fun _ _ _ => rfl) (fun k i2 hl => ?_)⟩ hS)
  by_cases hc : k = 0 ∧ i2 = 0
  · obtain ⟨rfl, rfl⟩ := hc
    rw [hU_s]
    simp [ctK, k3_s, k3_b, k3_a, List.set]
  · rw [hU_n _ _ hc]
    by_cases hk2 : k = 0
    · subst hk2
      have hc2 : ¬ i2 = 0 := fun h => hc ⟨rfl, h⟩
      exact absurd hl hc2
    · unfold ctK
      split <;> first | rfl | (exact absurd rfl hk2)
theorem g0_4 (S : CallFix p m c cc nL s args WU own) (hg : GI D cI e0 A s s.heap) (hw : HT D cI e0 A ad K M ap o od H) (hk : Cond.fieldLink own index "SnapshotArena" "coinsApart" "I" ∈ WU) (hd : decode cc pc = .ok (.getfield index, 3)) (kk : W p l e R s m args below meth c H locs cells slots Q (F0 m (pc + 3) ls (.int (K 0 4 0) :: rest))) : W p l e R s m args below meth c H locs cells slots Q (F0 m pc ls (.ref (ad 0 0) :: rest)) := by
  obtain ⟨av, hw⟩ := hw
  exact r_get S hg hw (k := 0) (i := 0) rfl rfl rfl iWX6 4 (by decide) hk rfl hd kk
set_option maxHeartbeats 1000000 in
theorem p0_4 (S : CallFix p m c cc nL s args WU own) (hg : GI D cI e0 A s s.heap) (hS : va_S A s.heap H locs) (hw : HT D cI e0 A ad K M ap o od H) {v : Int32} (hk : Cond.fieldLink own index "SnapshotArena" "coinsApart" "I" ∈ WU) (hd : decode cc pc = .ok (.putfield index, 3)) (kk : ∀ (H1 : Heap) (locs1 : List Loc), HT D cI e0 A ad (k3 K 0 4 0 v) M ap o od H1 → va_S A s.heap H1 locs1 → W p l e R s m args below meth c H1 locs1 cells slots Q (F0 m (pc + 3) ls rest)) : W p l e R s m args below meth c H locs cells slots Q (F0 m pc ls (.int v :: .ref (ad 0 0) :: rest)) := by
  obtain ⟨av, hw⟩ := hw
  refine r_put S hg hS hw (k := 0) (i := 0) rfl rfl rfl iWX6 tyX6 tyX6_ok nmX6 4 (by decide) hk rfl rfl rfl (Nat.le_of_ble_eq_true rfl) hd (fun H1 locs1 hw hS => kk H1 locs1 ⟨av, hw.same (fun _ _ h => h) (fun _ _ _ => rfl) (fun k i2 hl => ?_)⟩ hS)
  by_cases hc : k = 0 ∧ i2 = 0
  · obtain ⟨rfl, rfl⟩ := hc
    rw [hU_s]
    simp [ctK, k3_s, k3_b, k3_a, List.set]
  · rw [hU_n _ _ hc]
    by_cases hk2 : k = 0
    · subst hk2
      have hc2 : ¬ i2 = 0 := fun h => hc ⟨rfl, h⟩
      exact absurd hl hc2
    · unfold ctK
      split <;> first | rfl | (exact absurd rfl hk2)
theorem g0_5 (S : CallFix p m c cc nL s args WU own) (hg : GI D cI e0 A s s.heap) (hw : HT D cI e0 A ad K M ap o od H) (hk : Cond.fieldLink own index "SnapshotArena" "cards" "Ljava/util/ArrayList;" ∈ WU) (hd : decode cc pc = .ok (.getfield index, 3)) (kk : W p l e R s m args below meth c H locs cells slots Q (F0 m (pc + 3) ls (.ref (ad 8 0) :: rest))) : W p l e R s m args below meth c H locs cells slots Q (F0 m pc ls (.ref (ad 0 0) :: rest)) := by
  obtain ⟨av, hw⟩ := hw
  exact r_get S hg hw (k := 0) (i := 0) rfl rfl rfl iWX6 5 (by decide) hk rfl hd kk
theorem g0_6 (S : CallFix p m c cc nL s args WU own) (hg : GI D cI e0 A s s.heap) (hw : HT D cI e0 A ad K M ap o od H) (hk : Cond.fieldLink own index "SnapshotArena" "duels" "Ljava/util/ArrayList;" ∈ WU) (hd : decode cc pc = .ok (.getfield index, 3)) (kk : W p l e R s m args below meth c H locs cells slots Q (F0 m (pc + 3) ls (.ref (ad 8 1) :: rest))) : W p l e R s m args below meth c H locs cells slots Q (F0 m pc ls (.ref (ad 0 0) :: rest)) := by
  obtain ⟨av, hw⟩ := hw
  exact r_get S hg hw (k := 0) (i := 0) rfl rfl rfl iWX6 6 (by decide) hk rfl hd kk
theorem g0_7 (S : CallFix p m c cc nL s args WU own) (hg : GI D cI e0 A s s.heap) (hw : HT D cI e0 A ad K M ap o od H) (hk : Cond.fieldLink own index "SnapshotArena" "offers" "Ljava/util/ArrayList;" ∈ WU) (hd : decode cc pc = .ok (.getfield index, 3)) (kk : W p l e R s m args below meth c H locs cells slots Q (F0 m (pc + 3) ls (.ref (ad 8 2) :: rest))) : W p l e R s m args below meth c H locs cells slots Q (F0 m pc ls (.ref (ad 0 0) :: rest)) := by
  obtain ⟨av, hw⟩ := hw
  exact r_get S hg hw (k := 0) (i := 0) rfl rfl rfl iWX6 7 (by decide) hk rfl hd kk
theorem g0_8 (S : CallFix p m c cc nL s args WU own) (hg : GI D cI e0 A s s.heap) (hw : HT D cI e0 A ad K M ap o od H) (hk : Cond.fieldLink own index "SnapshotArena" "sales" "Ljava/util/ArrayList;" ∈ WU) (hd : decode cc pc = .ok (.getfield index, 3)) (kk : W p l e R s m args below meth c H locs cells slots Q (F0 m (pc + 3) ls (.ref (ad 8 3) :: rest))) : W p l e R s m args below meth c H locs cells slots Q (F0 m pc ls (.ref (ad 0 0) :: rest)) := by
  obtain ⟨av, hw⟩ := hw
  exact r_get S hg hw (k := 0) (i := 0) rfl rfl rfl iWX6 8 (by decide) hk rfl hd kk
theorem g0_9 (S : CallFix p m c cc nL s args WU own) (hg : GI D cI e0 A s s.heap) (hw : HT D cI e0 A ad K M ap o od H) (hk : Cond.fieldLink own index "SnapshotArena" "ledger" "LSnapshotArena$Ledger;" ∈ WU) (hd : decode cc pc = .ok (.getfield index, 3)) (kk : W p l e R s m args below meth c H locs cells slots Q (F0 m (pc + 3) ls (.ref (ad 1 0) :: rest))) : W p l e R s m args below meth c H locs cells slots Q (F0 m pc ls (.ref (ad 0 0) :: rest)) := by
  obtain ⟨av, hw⟩ := hw
  exact r_get S hg hw (k := 0) (i := 0) rfl rfl rfl iWX6 9 (by decide) hk rfl hd kk
theorem g0_10 (S : CallFix p m c cc nL s args WU own) (hg : GI D cI e0 A s s.heap) (hw : HT D cI e0 A ad K M ap o od H) (hk : Cond.fieldLink own index "SnapshotArena" "store" "LSnapshotArena$BlockStore;" ∈ WU) (hd : decode cc pc = .ok (.getfield index, 3)) (kk : W p l e R s m args below meth c H locs cells slots Q (F0 m (pc + 3) ls (.ref (ad 2 0) :: rest))) : W p l e R s m args below meth c H locs cells slots Q (F0 m pc ls (.ref (ad 0 0) :: rest)) := by
  obtain ⟨av, hw⟩ := hw
  exact r_get S hg hw (k := 0) (i := 0) rfl rfl rfl iWX6 10 (by decide) hk rfl hd kk
theorem g0_11 (S : CallFix p m c cc nL s args WU own) (hg : GI D cI e0 A s s.heap) (hw : HT D cI e0 A ad K M ap o od H) (hk : Cond.fieldLink own index "SnapshotArena" "numbers" "[I" ∈ WU) (hd : decode cc pc = .ok (.getfield index, 3)) (kk : W p l e R s m args below meth c H locs cells slots Q (F0 m (pc + 3) ls (.ref (ad 10 1) :: rest))) : W p l e R s m args below meth c H locs cells slots Q (F0 m pc ls (.ref (ad 0 0) :: rest)) := by
  obtain ⟨av, hw⟩ := hw
  exact r_get S hg hw (k := 0) (i := 0) rfl rfl rfl iWX6 11 (by decide) hk rfl hd kk
theorem g1_1 (S : CallFix p m c cc nL s args WU own) (hg : GI D cI e0 A s s.heap) (hw : HT D cI e0 A ad K M ap o od H) (hk : Cond.fieldLink own index "SnapshotArena$Ledger" "count" "I" ∈ WU) (hd : decode cc pc = .ok (.getfield index, 3)) (kk : W p l e R s m args below meth c H locs cells slots Q (F0 m (pc + 3) ls (.int (K 1 1 0) :: rest))) : W p l e R s m args below meth c H locs cells slots Q (F0 m pc ls (.ref (ad 1 0) :: rest)) := by
  obtain ⟨av, hw⟩ := hw
  exact r_get S hg hw (k := 1) (i := 0) rfl rfl rfl iWX3 1 (by decide) hk rfl hd kk
set_option maxHeartbeats 1000000 in
theorem p1_1 (S : CallFix p m c cc nL s args WU own) (hg : GI D cI e0 A s s.heap) (hS : va_S A s.heap H locs) (hw : HT D cI e0 A ad K M ap o od H) {v : Int32} (hk : Cond.fieldLink own index "SnapshotArena$Ledger" "count" "I" ∈ WU) (hd : decode cc pc = .ok (.putfield index, 3)) (kk : ∀ (H1 : Heap) (locs1 : List Loc), HT D cI e0 A ad (k3 K 1 1 0 v) M ap o od H1 → va_S A s.heap H1 locs1 → W p l e R s m args below meth c H1 locs1 cells slots Q (F0 m (pc + 3) ls rest)) : W p l e R s m args below meth c H locs cells slots Q (F0 m pc ls (.int v :: .ref (ad 1 0) :: rest)) := by
  obtain ⟨av, hw⟩ := hw
  refine r_put S hg hS hw (k := 1) (i := 0) rfl rfl rfl iWX3 tyX3 tyX3_ok nmX3 1 (by decide) hk rfl rfl rfl (Nat.le_of_ble_eq_true rfl) hd (fun H1 locs1 hw hS => kk H1 locs1 ⟨av, hw.same (fun _ _ h => h) (fun _ _ _ => rfl) (fun k i2 hl => ?_)⟩ hS)
  by_cases hc : k = 1 ∧ i2 = 0
  · obtain ⟨rfl, rfl⟩ := hc
    rw [hU_s]
    simp [ctK, k3_s, k3_b, k3_a, List.set]
  · rw [hU_n _ _ hc]
    by_cases hk2 : k = 1
    · subst hk2
      have hc2 : ¬ i2 = 0 := fun h => hc ⟨rfl, h⟩
      exact absurd hl hc2
    · unfold ctK
      split <;> first | rfl | (exact absurd rfl hk2)
theorem g2_0 (S : CallFix p m c cc nL s args WU own) (hg : GI D cI e0 A s s.heap) (hw : HT D cI e0 A ad K M ap o od H) (hk : Cond.fieldLink own index "SnapshotArena$BlockStore" "kept" "[I" ∈ WU) (hd : decode cc pc = .ok (.getfield index, 3)) (kk : W p l e R s m args below meth c H locs cells slots Q (F0 m (pc + 3) ls (.ref (ad 10 2) :: rest))) : W p l e R s m args below meth c H locs cells slots Q (F0 m pc ls (.ref (ad 2 0) :: rest)) := by
  obtain ⟨av, hw⟩ := hw
  exact r_get S hg hw (k := 2) (i := 0) rfl rfl rfl iWX0 0 (by decide) hk rfl hd kk
theorem g2_1 (S : CallFix p m c cc nL s args WU own) (hg : GI D cI e0 A s s.heap) (hw : HT D cI e0 A ad K M ap o od H) (hk : Cond.fieldLink own index "SnapshotArena$BlockStore" "uses" "[I" ∈ WU) (hd : decode cc pc = .ok (.getfield index, 3)) (kk : W p l e R s m args below meth c H locs cells slots Q (F0 m (pc + 3) ls (.ref (ad 10 3) :: rest))) : W p l e R s m args below meth c H locs cells slots Q (F0 m pc ls (.ref (ad 2 0) :: rest)) := by
  obtain ⟨av, hw⟩ := hw
  exact r_get S hg hw (k := 2) (i := 0) rfl rfl rfl iWX0 1 (by decide) hk rfl hd kk
theorem g3_0 (S : CallFix p m c cc nL s args WU own) (hg : GI D cI e0 A s s.heap) (hw : HT D cI e0 A ad K M ap o od H) (hk : Cond.fieldLink own index "SnapshotArenaModel" "code" "I" ∈ WU) (hd : decode cc pc = .ok (.getfield index, 3)) (kk : W p l e R s m args below meth c H locs cells slots Q (F0 m (pc + 3) ls (.int (M 3 0 0) :: rest))) : W p l e R s m args below meth c H locs cells slots Q (F0 m pc ls (.ref (ad 3 0) :: rest)) := by
  obtain ⟨av, hw⟩ := hw
  exact r_get S hg hw (k := 3) (i := 0) rfl rfl rfl iWX7 0 (by decide) hk rfl hd kk
set_option maxHeartbeats 1000000 in
theorem p3_0 (S : CallFix p m c cc nL s args WU own) (hg : GI D cI e0 A s s.heap) (hS : va_S A s.heap H locs) (hw : HT D cI e0 A ad K M ap o od H) {v : Int32} (hk : Cond.fieldLink own index "SnapshotArenaModel" "code" "I" ∈ WU) (hd : decode cc pc = .ok (.putfield index, 3)) (kk : ∀ (H1 : Heap) (locs1 : List Loc), HT D cI e0 A ad K (k3 M 3 0 0 v) ap o od H1 → va_S A s.heap H1 locs1 → W p l e R s m args below meth c H1 locs1 cells slots Q (F0 m (pc + 3) ls rest)) : W p l e R s m args below meth c H locs cells slots Q (F0 m pc ls (.int v :: .ref (ad 3 0) :: rest)) := by
  obtain ⟨av, hw⟩ := hw
  refine r_put S hg hS hw (k := 3) (i := 0) rfl rfl rfl iWX7 tyX7 tyX7_ok nmX7 0 (by decide) hk rfl rfl rfl (Nat.le_of_ble_eq_true rfl) hd (fun H1 locs1 hw hS => kk H1 locs1 ⟨av, hw.same (fun _ _ h => h) (fun _ _ _ => rfl) (fun k i2 hl => ?_)⟩ hS)
  by_cases hc : k = 3 ∧ i2 = 0
  · obtain ⟨rfl, rfl⟩ := hc
    rw [hU_s]
    simp [ctK, k3_s, k3_b, k3_a, List.set]
  · rw [hU_n _ _ hc]
    by_cases hk2 : k = 3
    · subst hk2
      have hc2 : ¬ i2 = 0 := fun h => hc ⟨rfl, h⟩
      exact absurd hl hc2
    · unfold ctK
      split <;> first | rfl | (exact absurd rfl hk2)
theorem g3_1 (S : CallFix p m c cc nL s args WU own) (hg : GI D cI e0 A s s.heap) (hw : HT D cI e0 A ad K M ap o od H) (hk : Cond.fieldLink own index "SnapshotArenaModel" "players" "I" ∈ WU) (hd : decode cc pc = .ok (.getfield index, 3)) (kk : W p l e R s m args below meth c H locs cells slots Q (F0 m (pc + 3) ls (.int (M 3 1 0) :: rest))) : W p l e R s m args below meth c H locs cells slots Q (F0 m pc ls (.ref (ad 3 0) :: rest)) := by
  obtain ⟨av, hw⟩ := hw
  exact r_get S hg hw (k := 3) (i := 0) rfl rfl rfl iWX7 1 (by decide) hk rfl hd kk
set_option maxHeartbeats 1000000 in
theorem p3_1 (S : CallFix p m c cc nL s args WU own) (hg : GI D cI e0 A s s.heap) (hS : va_S A s.heap H locs) (hw : HT D cI e0 A ad K M ap o od H) {v : Int32} (hk : Cond.fieldLink own index "SnapshotArenaModel" "players" "I" ∈ WU) (hd : decode cc pc = .ok (.putfield index, 3)) (kk : ∀ (H1 : Heap) (locs1 : List Loc), HT D cI e0 A ad K (k3 M 3 1 0 v) ap o od H1 → va_S A s.heap H1 locs1 → W p l e R s m args below meth c H1 locs1 cells slots Q (F0 m (pc + 3) ls rest)) : W p l e R s m args below meth c H locs cells slots Q (F0 m pc ls (.int v :: .ref (ad 3 0) :: rest)) := by
  obtain ⟨av, hw⟩ := hw
  refine r_put S hg hS hw (k := 3) (i := 0) rfl rfl rfl iWX7 tyX7 tyX7_ok nmX7 1 (by decide) hk rfl rfl rfl (Nat.le_of_ble_eq_true rfl) hd (fun H1 locs1 hw hS => kk H1 locs1 ⟨av, hw.same (fun _ _ h => h) (fun _ _ _ => rfl) (fun k i2 hl => ?_)⟩ hS)
  by_cases hc : k = 3 ∧ i2 = 0
  · obtain ⟨rfl, rfl⟩ := hc
    rw [hU_s]
    simp [ctK, k3_s, k3_b, k3_a, List.set]
  · rw [hU_n _ _ hc]
    by_cases hk2 : k = 3
    · subst hk2
      have hc2 : ¬ i2 = 0 := fun h => hc ⟨rfl, h⟩
      exact absurd hl hc2
    · unfold ctK
      split <;> first | rfl | (exact absurd rfl hk2)
theorem g3_2 (S : CallFix p m c cc nL s args WU own) (hg : GI D cI e0 A s s.heap) (hw : HT D cI e0 A ad K M ap o od H) (hk : Cond.fieldLink own index "SnapshotArenaModel" "coins" "[I" ∈ WU) (hd : decode cc pc = .ok (.getfield index, 3)) (kk : W p l e R s m args below meth c H locs cells slots Q (F0 m (pc + 3) ls (.ref (ad 16 2) :: rest))) : W p l e R s m args below meth c H locs cells slots Q (F0 m pc ls (.ref (ad 3 0) :: rest)) := by
  obtain ⟨av, hw⟩ := hw
  exact r_get S hg hw (k := 3) (i := 0) rfl rfl rfl iWX7 2 (by decide) hk rfl hd kk
theorem g3_3 (S : CallFix p m c cc nL s args WU own) (hg : GI D cI e0 A s s.heap) (hw : HT D cI e0 A ad K M ap o od H) (hk : Cond.fieldLink own index "SnapshotArenaModel" "house" "I" ∈ WU) (hd : decode cc pc = .ok (.getfield index, 3)) (kk : W p l e R s m args below meth c H locs cells slots Q (F0 m (pc + 3) ls (.int (M 3 3 0) :: rest))) : W p l e R s m args below meth c H locs cells slots Q (F0 m pc ls (.ref (ad 3 0) :: rest)) := by
  obtain ⟨av, hw⟩ := hw
  exact r_get S hg hw (k := 3) (i := 0) rfl rfl rfl iWX7 3 (by decide) hk rfl hd kk
set_option maxHeartbeats 1000000 in
theorem p3_3 (S : CallFix p m c cc nL s args WU own) (hg : GI D cI e0 A s s.heap) (hS : va_S A s.heap H locs) (hw : HT D cI e0 A ad K M ap o od H) {v : Int32} (hk : Cond.fieldLink own index "SnapshotArenaModel" "house" "I" ∈ WU) (hd : decode cc pc = .ok (.putfield index, 3)) (kk : ∀ (H1 : Heap) (locs1 : List Loc), HT D cI e0 A ad K (k3 M 3 3 0 v) ap o od H1 → va_S A s.heap H1 locs1 → W p l e R s m args below meth c H1 locs1 cells slots Q (F0 m (pc + 3) ls rest)) : W p l e R s m args below meth c H locs cells slots Q (F0 m pc ls (.int v :: .ref (ad 3 0) :: rest)) := by
  obtain ⟨av, hw⟩ := hw
  refine r_put S hg hS hw (k := 3) (i := 0) rfl rfl rfl iWX7 tyX7 tyX7_ok nmX7 3 (by decide) hk rfl rfl rfl (Nat.le_of_ble_eq_true rfl) hd (fun H1 locs1 hw hS => kk H1 locs1 ⟨av, hw.same (fun _ _ h => h) (fun _ _ _ => rfl) (fun k i2 hl => ?_)⟩ hS)
  by_cases hc : k = 3 ∧ i2 = 0
  · obtain ⟨rfl, rfl⟩ := hc
    rw [hU_s]
    simp [ctK, k3_s, k3_b, k3_a, List.set]
  · rw [hU_n _ _ hc]
    by_cases hk2 : k = 3
    · subst hk2
      have hc2 : ¬ i2 = 0 := fun h => hc ⟨rfl, h⟩
      exact absurd hl hc2
    · unfold ctK
      split <;> first | rfl | (exact absurd rfl hk2)
theorem g3_4 (S : CallFix p m c cc nL s args WU own) (hg : GI D cI e0 A s s.heap) (hw : HT D cI e0 A ad K M ap o od H) (hk : Cond.fieldLink own index "SnapshotArenaModel" "apart" "J" ∈ WU) (hd : decode cc pc = .ok (.getfield index, 3)) (kk : W p l e R s m args below meth c H locs cells slots Q (F0 m (pc + 3) ls (.long ap :: rest))) : W p l e R s m args below meth c H locs cells slots Q (F0 m pc ls (.ref (ad 3 0) :: rest)) := by
  obtain ⟨av, hw⟩ := hw
  exact r_get S hg hw (k := 3) (i := 0) rfl rfl rfl iWX7 4 (by decide) hk rfl hd kk
set_option maxHeartbeats 1000000 in
theorem p3_4 (S : CallFix p m c cc nL s args WU own) (hg : GI D cI e0 A s s.heap) (hS : va_S A s.heap H locs) (hw : HT D cI e0 A ad K M ap o od H) {v : Int64} (hk : Cond.fieldLink own index "SnapshotArenaModel" "apart" "J" ∈ WU) (hd : decode cc pc = .ok (.putfield index, 3)) (kk : ∀ (H1 : Heap) (locs1 : List Loc), HT D cI e0 A ad K M v o od H1 → va_S A s.heap H1 locs1 → W p l e R s m args below meth c H1 locs1 cells slots Q (F0 m (pc + 3) ls rest)) : W p l e R s m args below meth c H locs cells slots Q (F0 m pc ls (.long v :: .ref (ad 3 0) :: rest)) := by
  obtain ⟨av, hw⟩ := hw
  refine r_put S hg hS hw (k := 3) (i := 0) rfl rfl rfl iWX7 tyX7 tyX7_ok nmX7 4 (by decide) hk rfl rfl rfl (Nat.le_of_ble_eq_true rfl) hd (fun H1 locs1 hw hS => kk H1 locs1 ⟨av, hw.same (fun _ _ h => h) (fun _ _ _ => rfl) (fun k i2 hl => ?_)⟩ hS)
  by_cases hc : k = 3 ∧ i2 = 0
  · obtain ⟨rfl, rfl⟩ := hc
    rw [hU_s]
    simp [ctK, k3_s, k3_b, k3_a, List.set]
  · rw [hU_n _ _ hc]
    by_cases hk2 : k = 3
    · subst hk2
      have hc2 : ¬ i2 = 0 := fun h => hc ⟨rfl, h⟩
      exact absurd hl hc2
    · unfold ctK
      split <;> first | rfl | (exact absurd rfl hk2)
theorem g3_5 (S : CallFix p m c cc nL s args WU own) (hg : GI D cI e0 A s s.heap) (hw : HT D cI e0 A ad K M ap o od H) (hk : Cond.fieldLink own index "SnapshotArenaModel" "cards" "I" ∈ WU) (hd : decode cc pc = .ok (.getfield index, 3)) (kk : W p l e R s m args below meth c H locs cells slots Q (F0 m (pc + 3) ls (.int (M 3 5 0) :: rest))) : W p l e R s m args below meth c H locs cells slots Q (F0 m pc ls (.ref (ad 3 0) :: rest)) := by
  obtain ⟨av, hw⟩ := hw
  exact r_get S hg hw (k := 3) (i := 0) rfl rfl rfl iWX7 5 (by decide) hk rfl hd kk
set_option maxHeartbeats 1000000 in
theorem p3_5 (S : CallFix p m c cc nL s args WU own) (hg : GI D cI e0 A s s.heap) (hS : va_S A s.heap H locs) (hw : HT D cI e0 A ad K M ap o od H) {v : Int32} (hk : Cond.fieldLink own index "SnapshotArenaModel" "cards" "I" ∈ WU) (hd : decode cc pc = .ok (.putfield index, 3)) (kk : ∀ (H1 : Heap) (locs1 : List Loc), HT D cI e0 A ad K (k3 M 3 5 0 v) ap o od H1 → va_S A s.heap H1 locs1 → W p l e R s m args below meth c H1 locs1 cells slots Q (F0 m (pc + 3) ls rest)) : W p l e R s m args below meth c H locs cells slots Q (F0 m pc ls (.int v :: .ref (ad 3 0) :: rest)) := by
  obtain ⟨av, hw⟩ := hw
  refine r_put S hg hS hw (k := 3) (i := 0) rfl rfl rfl iWX7 tyX7 tyX7_ok nmX7 5 (by decide) hk rfl rfl rfl (Nat.le_of_ble_eq_true rfl) hd (fun H1 locs1 hw hS => kk H1 locs1 ⟨av, hw.same (fun _ _ h => h) (fun _ _ _ => rfl) (fun k i2 hl => ?_)⟩ hS)
  by_cases hc : k = 3 ∧ i2 = 0
  · obtain ⟨rfl, rfl⟩ := hc
    rw [hU_s]
    simp [ctK, k3_s, k3_b, k3_a, List.set]
  · rw [hU_n _ _ hc]
    by_cases hk2 : k = 3
    · subst hk2
      have hc2 : ¬ i2 = 0 := fun h => hc ⟨rfl, h⟩
      exact absurd hl hc2
    · unfold ctK
      split <;> first | rfl | (exact absurd rfl hk2)
theorem g3_6 (S : CallFix p m c cc nL s args WU own) (hg : GI D cI e0 A s s.heap) (hw : HT D cI e0 A ad K M ap o od H) (hk : Cond.fieldLink own index "SnapshotArenaModel" "kind" "[I" ∈ WU) (hd : decode cc pc = .ok (.getfield index, 3)) (kk : W p l e R s m args below meth c H locs cells slots Q (F0 m (pc + 3) ls (.ref (ad 16 6) :: rest))) : W p l e R s m args below meth c H locs cells slots Q (F0 m pc ls (.ref (ad 3 0) :: rest)) := by
  obtain ⟨av, hw⟩ := hw
  exact r_get S hg hw (k := 3) (i := 0) rfl rfl rfl iWX7 6 (by decide) hk rfl hd kk
theorem g3_7 (S : CallFix p m c cc nL s args WU own) (hg : GI D cI e0 A s s.heap) (hw : HT D cI e0 A ad K M ap o od H) (hk : Cond.fieldLink own index "SnapshotArenaModel" "owner" "[I" ∈ WU) (hd : decode cc pc = .ok (.getfield index, 3)) (kk : W p l e R s m args below meth c H locs cells slots Q (F0 m (pc + 3) ls (.ref (ad 16 7) :: rest))) : W p l e R s m args below meth c H locs cells slots Q (F0 m pc ls (.ref (ad 3 0) :: rest)) := by
  obtain ⟨av, hw⟩ := hw
  exact r_get S hg hw (k := 3) (i := 0) rfl rfl rfl iWX7 7 (by decide) hk rfl hd kk
theorem g3_8 (S : CallFix p m c cc nL s args WU own) (hg : GI D cI e0 A s s.heap) (hw : HT D cI e0 A ad K M ap o od H) (hk : Cond.fieldLink own index "SnapshotArenaModel" "how" "[C" ∈ WU) (hd : decode cc pc = .ok (.getfield index, 3)) (kk : W p l e R s m args below meth c H locs cells slots Q (F0 m (pc + 3) ls (.ref (ad 13 8) :: rest))) : W p l e R s m args below meth c H locs cells slots Q (F0 m pc ls (.ref (ad 3 0) :: rest)) := by
  obtain ⟨av, hw⟩ := hw
  exact r_get S hg hw (k := 3) (i := 0) rfl rfl rfl iWX7 8 (by decide) hk rfl hd kk
theorem g3_9 (S : CallFix p m c cc nL s args WU own) (hg : GI D cI e0 A s s.heap) (hw : HT D cI e0 A ad K M ap o od H) (hk : Cond.fieldLink own index "SnapshotArenaModel" "duelOf" "[I" ∈ WU) (hd : decode cc pc = .ok (.getfield index, 3)) (kk : W p l e R s m args below meth c H locs cells slots Q (F0 m (pc + 3) ls (.ref (ad 16 9) :: rest))) : W p l e R s m args below meth c H locs cells slots Q (F0 m pc ls (.ref (ad 3 0) :: rest)) := by
  obtain ⟨av, hw⟩ := hw
  exact r_get S hg hw (k := 3) (i := 0) rfl rfl rfl iWX7 9 (by decide) hk rfl hd kk
theorem g3_10 (S : CallFix p m c cc nL s args WU own) (hg : GI D cI e0 A s s.heap) (hw : HT D cI e0 A ad K M ap o od H) (hk : Cond.fieldLink own index "SnapshotArenaModel" "offerOf" "[I" ∈ WU) (hd : decode cc pc = .ok (.getfield index, 3)) (kk : W p l e R s m args below meth c H locs cells slots Q (F0 m (pc + 3) ls (.ref (ad 16 10) :: rest))) : W p l e R s m args below meth c H locs cells slots Q (F0 m pc ls (.ref (ad 3 0) :: rest)) := by
  obtain ⟨av, hw⟩ := hw
  exact r_get S hg hw (k := 3) (i := 0) rfl rfl rfl iWX7 10 (by decide) hk rfl hd kk
theorem g3_11 (S : CallFix p m c cc nL s args WU own) (hg : GI D cI e0 A s s.heap) (hw : HT D cI e0 A ad K M ap o od H) (hk : Cond.fieldLink own index "SnapshotArenaModel" "postings" "I" ∈ WU) (hd : decode cc pc = .ok (.getfield index, 3)) (kk : W p l e R s m args below meth c H locs cells slots Q (F0 m (pc + 3) ls (.int (M 3 11 0) :: rest))) : W p l e R s m args below meth c H locs cells slots Q (F0 m pc ls (.ref (ad 3 0) :: rest)) := by
  obtain ⟨av, hw⟩ := hw
  exact r_get S hg hw (k := 3) (i := 0) rfl rfl rfl iWX7 11 (by decide) hk rfl hd kk
set_option maxHeartbeats 1000000 in
theorem p3_11 (S : CallFix p m c cc nL s args WU own) (hg : GI D cI e0 A s s.heap) (hS : va_S A s.heap H locs) (hw : HT D cI e0 A ad K M ap o od H) {v : Int32} (hk : Cond.fieldLink own index "SnapshotArenaModel" "postings" "I" ∈ WU) (hd : decode cc pc = .ok (.putfield index, 3)) (kk : ∀ (H1 : Heap) (locs1 : List Loc), HT D cI e0 A ad K (k3 M 3 11 0 v) ap o od H1 → va_S A s.heap H1 locs1 → W p l e R s m args below meth c H1 locs1 cells slots Q (F0 m (pc + 3) ls rest)) : W p l e R s m args below meth c H locs cells slots Q (F0 m pc ls (.int v :: .ref (ad 3 0) :: rest)) := by
  obtain ⟨av, hw⟩ := hw
  refine r_put S hg hS hw (k := 3) (i := 0) rfl rfl rfl iWX7 tyX7 tyX7_ok nmX7 11 (by decide) hk rfl rfl rfl (Nat.le_of_ble_eq_true rfl) hd (fun H1 locs1 hw hS => kk H1 locs1 ⟨av, hw.same (fun _ _ h => h) (fun _ _ _ => rfl) (fun k i2 hl => ?_)⟩ hS)
  by_cases hc : k = 3 ∧ i2 = 0
  · obtain ⟨rfl, rfl⟩ := hc
    rw [hU_s]
    simp [ctK, k3_s, k3_b, k3_a, List.set]
  · rw [hU_n _ _ hc]
    by_cases hk2 : k = 3
    · subst hk2
      have hc2 : ¬ i2 = 0 := fun h => hc ⟨rfl, h⟩
      exact absurd hl hc2
    · unfold ctK
      split <;> first | rfl | (exact absurd rfl hk2)
theorem g3_12 (S : CallFix p m c cc nL s args WU own) (hg : GI D cI e0 A s s.heap) (hw : HT D cI e0 A ad K M ap o od H) (hk : Cond.fieldLink own index "SnapshotArenaModel" "posted" "[I" ∈ WU) (hd : decode cc pc = .ok (.getfield index, 3)) (kk : W p l e R s m args below meth c H locs cells slots Q (F0 m (pc + 3) ls (.ref (ad 16 12) :: rest))) : W p l e R s m args below meth c H locs cells slots Q (F0 m pc ls (.ref (ad 3 0) :: rest)) := by
  obtain ⟨av, hw⟩ := hw
  exact r_get S hg hw (k := 3) (i := 0) rfl rfl rfl iWX7 12 (by decide) hk rfl hd kk
theorem g3_13 (S : CallFix p m c cc nL s args WU own) (hg : GI D cI e0 A s s.heap) (hw : HT D cI e0 A ad K M ap o od H) (hk : Cond.fieldLink own index "SnapshotArenaModel" "duels" "I" ∈ WU) (hd : decode cc pc = .ok (.getfield index, 3)) (kk : W p l e R s m args below meth c H locs cells slots Q (F0 m (pc + 3) ls (.int (M 3 13 0) :: rest))) : W p l e R s m args below meth c H locs cells slots Q (F0 m pc ls (.ref (ad 3 0) :: rest)) := by
  obtain ⟨av, hw⟩ := hw
  exact r_get S hg hw (k := 3) (i := 0) rfl rfl rfl iWX7 13 (by decide) hk rfl hd kk
set_option maxHeartbeats 1000000 in
theorem p3_13 (S : CallFix p m c cc nL s args WU own) (hg : GI D cI e0 A s s.heap) (hS : va_S A s.heap H locs) (hw : HT D cI e0 A ad K M ap o od H) {v : Int32} (hk : Cond.fieldLink own index "SnapshotArenaModel" "duels" "I" ∈ WU) (hd : decode cc pc = .ok (.putfield index, 3)) (kk : ∀ (H1 : Heap) (locs1 : List Loc), HT D cI e0 A ad K (k3 M 3 13 0 v) ap o od H1 → va_S A s.heap H1 locs1 → W p l e R s m args below meth c H1 locs1 cells slots Q (F0 m (pc + 3) ls rest)) : W p l e R s m args below meth c H locs cells slots Q (F0 m pc ls (.int v :: .ref (ad 3 0) :: rest)) := by
  obtain ⟨av, hw⟩ := hw
  refine r_put S hg hS hw (k := 3) (i := 0) rfl rfl rfl iWX7 tyX7 tyX7_ok nmX7 13 (by decide) hk rfl rfl rfl (Nat.le_of_ble_eq_true rfl) hd (fun H1 locs1 hw hS => kk H1 locs1 ⟨av, hw.same (fun _ _ h => h) (fun _ _ _ => rfl) (fun k i2 hl => ?_)⟩ hS)
  by_cases hc : k = 3 ∧ i2 = 0
  · obtain ⟨rfl, rfl⟩ := hc
    rw [hU_s]
    simp [ctK, k3_s, k3_b, k3_a, List.set]
  · rw [hU_n _ _ hc]
    by_cases hk2 : k = 3
    · subst hk2
      have hc2 : ¬ i2 = 0 := fun h => hc ⟨rfl, h⟩
      exact absurd hl hc2
    · unfold ctK
      split <;> first | rfl | (exact absurd rfl hk2)
theorem g3_14 (S : CallFix p m c cc nL s args WU own) (hg : GI D cI e0 A s s.heap) (hw : HT D cI e0 A ad K M ap o od H) (hk : Cond.fieldLink own index "SnapshotArenaModel" "first" "[I" ∈ WU) (hd : decode cc pc = .ok (.getfield index, 3)) (kk : W p l e R s m args below meth c H locs cells slots Q (F0 m (pc + 3) ls (.ref (ad 16 14) :: rest))) : W p l e R s m args below meth c H locs cells slots Q (F0 m pc ls (.ref (ad 3 0) :: rest)) := by
  obtain ⟨av, hw⟩ := hw
  exact r_get S hg hw (k := 3) (i := 0) rfl rfl rfl iWX7 14 (by decide) hk rfl hd kk
theorem g3_15 (S : CallFix p m c cc nL s args WU own) (hg : GI D cI e0 A s s.heap) (hw : HT D cI e0 A ad K M ap o od H) (hk : Cond.fieldLink own index "SnapshotArenaModel" "second" "[I" ∈ WU) (hd : decode cc pc = .ok (.getfield index, 3)) (kk : W p l e R s m args below meth c H locs cells slots Q (F0 m (pc + 3) ls (.ref (ad 16 15) :: rest))) : W p l e R s m args below meth c H locs cells slots Q (F0 m pc ls (.ref (ad 3 0) :: rest)) := by
  obtain ⟨av, hw⟩ := hw
  exact r_get S hg hw (k := 3) (i := 0) rfl rfl rfl iWX7 15 (by decide) hk rfl hd kk
theorem g3_16 (S : CallFix p m c cc nL s args WU own) (hg : GI D cI e0 A s s.heap) (hw : HT D cI e0 A ad K M ap o od H) (hk : Cond.fieldLink own index "SnapshotArenaModel" "state" "[C" ∈ WU) (hd : decode cc pc = .ok (.getfield index, 3)) (kk : W p l e R s m args below meth c H locs cells slots Q (F0 m (pc + 3) ls (.ref (ad 13 16) :: rest))) : W p l e R s m args below meth c H locs cells slots Q (F0 m pc ls (.ref (ad 3 0) :: rest)) := by
  obtain ⟨av, hw⟩ := hw
  exact r_get S hg hw (k := 3) (i := 0) rfl rfl rfl iWX7 16 (by decide) hk rfl hd kk
theorem g3_17 (S : CallFix p m c cc nL s args WU own) (hg : GI D cI e0 A s s.heap) (hw : HT D cI e0 A ad K M ap o od H) (hk : Cond.fieldLink own index "SnapshotArenaModel" "winners" "[I" ∈ WU) (hd : decode cc pc = .ok (.getfield index, 3)) (kk : W p l e R s m args below meth c H locs cells slots Q (F0 m (pc + 3) ls (.ref (ad 16 17) :: rest))) : W p l e R s m args below meth c H locs cells slots Q (F0 m pc ls (.ref (ad 3 0) :: rest)) := by
  obtain ⟨av, hw⟩ := hw
  exact r_get S hg hw (k := 3) (i := 0) rfl rfl rfl iWX7 17 (by decide) hk rfl hd kk
theorem g3_18 (S : CallFix p m c cc nL s args WU own) (hg : GI D cI e0 A s s.heap) (hw : HT D cI e0 A ad K M ap o od H) (hk : Cond.fieldLink own index "SnapshotArenaModel" "lives" "[I" ∈ WU) (hd : decode cc pc = .ok (.getfield index, 3)) (kk : W p l e R s m args below meth c H locs cells slots Q (F0 m (pc + 3) ls (.ref (ad 16 18) :: rest))) : W p l e R s m args below meth c H locs cells slots Q (F0 m pc ls (.ref (ad 3 0) :: rest)) := by
  obtain ⟨av, hw⟩ := hw
  exact r_get S hg hw (k := 3) (i := 0) rfl rfl rfl iWX7 18 (by decide) hk rfl hd kk
theorem g3_19 (S : CallFix p m c cc nL s args WU own) (hg : GI D cI e0 A s s.heap) (hw : HT D cI e0 A ad K M ap o od H) (hk : Cond.fieldLink own index "SnapshotArenaModel" "mana" "[I" ∈ WU) (hd : decode cc pc = .ok (.getfield index, 3)) (kk : W p l e R s m args below meth c H locs cells slots Q (F0 m (pc + 3) ls (.ref (ad 16 19) :: rest))) : W p l e R s m args below meth c H locs cells slots Q (F0 m pc ls (.ref (ad 3 0) :: rest)) := by
  obtain ⟨av, hw⟩ := hw
  exact r_get S hg hw (k := 3) (i := 0) rfl rfl rfl iWX7 19 (by decide) hk rfl hd kk
theorem g3_20 (S : CallFix p m c cc nL s args WU own) (hg : GI D cI e0 A s s.heap) (hw : HT D cI e0 A ad K M ap o od H) (hk : Cond.fieldLink own index "SnapshotArenaModel" "turns" "[I" ∈ WU) (hd : decode cc pc = .ok (.getfield index, 3)) (kk : W p l e R s m args below meth c H locs cells slots Q (F0 m (pc + 3) ls (.ref (ad 16 20) :: rest))) : W p l e R s m args below meth c H locs cells slots Q (F0 m pc ls (.ref (ad 3 0) :: rest)) := by
  obtain ⟨av, hw⟩ := hw
  exact r_get S hg hw (k := 3) (i := 0) rfl rfl rfl iWX7 20 (by decide) hk rfl hd kk
theorem g3_21 (S : CallFix p m c cc nL s args WU own) (hg : GI D cI e0 A s s.heap) (hw : HT D cI e0 A ad K M ap o od H) (hk : Cond.fieldLink own index "SnapshotArenaModel" "many" "[I" ∈ WU) (hd : decode cc pc = .ok (.getfield index, 3)) (kk : W p l e R s m args below meth c H locs cells slots Q (F0 m (pc + 3) ls (.ref (ad 16 21) :: rest))) : W p l e R s m args below meth c H locs cells slots Q (F0 m pc ls (.ref (ad 3 0) :: rest)) := by
  obtain ⟨av, hw⟩ := hw
  exact r_get S hg hw (k := 3) (i := 0) rfl rfl rfl iWX7 21 (by decide) hk rfl hd kk
theorem g3_22 (S : CallFix p m c cc nL s args WU own) (hg : GI D cI e0 A s s.heap) (hw : HT D cI e0 A ad K M ap o od H) (hk : Cond.fieldLink own index "SnapshotArenaModel" "staked" "[I" ∈ WU) (hd : decode cc pc = .ok (.getfield index, 3)) (kk : W p l e R s m args below meth c H locs cells slots Q (F0 m (pc + 3) ls (.ref (ad 16 22) :: rest))) : W p l e R s m args below meth c H locs cells slots Q (F0 m pc ls (.ref (ad 3 0) :: rest)) := by
  obtain ⟨av, hw⟩ := hw
  exact r_get S hg hw (k := 3) (i := 0) rfl rfl rfl iWX7 22 (by decide) hk rfl hd kk
theorem g3_23 (S : CallFix p m c cc nL s args WU own) (hg : GI D cI e0 A s s.heap) (hw : HT D cI e0 A ad K M ap o od H) (hk : Cond.fieldLink own index "SnapshotArenaModel" "played" "[I" ∈ WU) (hd : decode cc pc = .ok (.getfield index, 3)) (kk : W p l e R s m args below meth c H locs cells slots Q (F0 m (pc + 3) ls (.ref (ad 16 23) :: rest))) : W p l e R s m args below meth c H locs cells slots Q (F0 m pc ls (.ref (ad 3 0) :: rest)) := by
  obtain ⟨av, hw⟩ := hw
  exact r_get S hg hw (k := 3) (i := 0) rfl rfl rfl iWX7 23 (by decide) hk rfl hd kk
theorem g3_24 (S : CallFix p m c cc nL s args WU own) (hg : GI D cI e0 A s s.heap) (hw : HT D cI e0 A ad K M ap o od H) (hk : Cond.fieldLink own index "SnapshotArenaModel" "depth" "[I" ∈ WU) (hd : decode cc pc = .ok (.getfield index, 3)) (kk : W p l e R s m args below meth c H locs cells slots Q (F0 m (pc + 3) ls (.ref (ad 16 24) :: rest))) : W p l e R s m args below meth c H locs cells slots Q (F0 m pc ls (.ref (ad 3 0) :: rest)) := by
  obtain ⟨av, hw⟩ := hw
  exact r_get S hg hw (k := 3) (i := 0) rfl rfl rfl iWX7 24 (by decide) hk rfl hd kk
theorem g3_25 (S : CallFix p m c cc nL s args WU own) (hg : GI D cI e0 A s s.heap) (hw : HT D cI e0 A ad K M ap o od H) (hk : Cond.fieldLink own index "SnapshotArenaModel" "stack" "[I" ∈ WU) (hd : decode cc pc = .ok (.getfield index, 3)) (kk : W p l e R s m args below meth c H locs cells slots Q (F0 m (pc + 3) ls (.ref (ad 16 25) :: rest))) : W p l e R s m args below meth c H locs cells slots Q (F0 m pc ls (.ref (ad 3 0) :: rest)) := by
  obtain ⟨av, hw⟩ := hw
  exact r_get S hg hw (k := 3) (i := 0) rfl rfl rfl iWX7 25 (by decide) hk rfl hd kk
theorem g3_26 (S : CallFix p m c cc nL s args WU own) (hg : GI D cI e0 A s s.heap) (hw : HT D cI e0 A ad K M ap o od H) (hk : Cond.fieldLink own index "SnapshotArenaModel" "snapshots" "[I" ∈ WU) (hd : decode cc pc = .ok (.getfield index, 3)) (kk : W p l e R s m args below meth c H locs cells slots Q (F0 m (pc + 3) ls (.ref (ad 16 26) :: rest))) : W p l e R s m args below meth c H locs cells slots Q (F0 m pc ls (.ref (ad 3 0) :: rest)) := by
  obtain ⟨av, hw⟩ := hw
  exact r_get S hg hw (k := 3) (i := 0) rfl rfl rfl iWX7 26 (by decide) hk rfl hd kk
theorem g3_27 (S : CallFix p m c cc nL s args WU own) (hg : GI D cI e0 A s s.heap) (hw : HT D cI e0 A ad K M ap o od H) (hk : Cond.fieldLink own index "SnapshotArenaModel" "kept" "[I" ∈ WU) (hd : decode cc pc = .ok (.getfield index, 3)) (kk : W p l e R s m args below meth c H locs cells slots Q (F0 m (pc + 3) ls (.ref (ad 16 27) :: rest))) : W p l e R s m args below meth c H locs cells slots Q (F0 m pc ls (.ref (ad 3 0) :: rest)) := by
  obtain ⟨av, hw⟩ := hw
  exact r_get S hg hw (k := 3) (i := 0) rfl rfl rfl iWX7 27 (by decide) hk rfl hd kk
theorem g3_28 (S : CallFix p m c cc nL s args WU own) (hg : GI D cI e0 A s s.heap) (hw : HT D cI e0 A ad K M ap o od H) (hk : Cond.fieldLink own index "SnapshotArenaModel" "keptStack" "[I" ∈ WU) (hd : decode cc pc = .ok (.getfield index, 3)) (kk : W p l e R s m args below meth c H locs cells slots Q (F0 m (pc + 3) ls (.ref (ad 16 28) :: rest))) : W p l e R s m args below meth c H locs cells slots Q (F0 m pc ls (.ref (ad 3 0) :: rest)) := by
  obtain ⟨av, hw⟩ := hw
  exact r_get S hg hw (k := 3) (i := 0) rfl rfl rfl iWX7 28 (by decide) hk rfl hd kk
theorem g3_29 (S : CallFix p m c cc nL s args WU own) (hg : GI D cI e0 A s s.heap) (hw : HT D cI e0 A ad K M ap o od H) (hk : Cond.fieldLink own index "SnapshotArenaModel" "offers" "I" ∈ WU) (hd : decode cc pc = .ok (.getfield index, 3)) (kk : W p l e R s m args below meth c H locs cells slots Q (F0 m (pc + 3) ls (.int (M 3 29 0) :: rest))) : W p l e R s m args below meth c H locs cells slots Q (F0 m pc ls (.ref (ad 3 0) :: rest)) := by
  obtain ⟨av, hw⟩ := hw
  exact r_get S hg hw (k := 3) (i := 0) rfl rfl rfl iWX7 29 (by decide) hk rfl hd kk
set_option maxHeartbeats 1000000 in
theorem p3_29 (S : CallFix p m c cc nL s args WU own) (hg : GI D cI e0 A s s.heap) (hS : va_S A s.heap H locs) (hw : HT D cI e0 A ad K M ap o od H) {v : Int32} (hk : Cond.fieldLink own index "SnapshotArenaModel" "offers" "I" ∈ WU) (hd : decode cc pc = .ok (.putfield index, 3)) (kk : ∀ (H1 : Heap) (locs1 : List Loc), HT D cI e0 A ad K (k3 M 3 29 0 v) ap o od H1 → va_S A s.heap H1 locs1 → W p l e R s m args below meth c H1 locs1 cells slots Q (F0 m (pc + 3) ls rest)) : W p l e R s m args below meth c H locs cells slots Q (F0 m pc ls (.int v :: .ref (ad 3 0) :: rest)) := by
  obtain ⟨av, hw⟩ := hw
  refine r_put S hg hS hw (k := 3) (i := 0) rfl rfl rfl iWX7 tyX7 tyX7_ok nmX7 29 (by decide) hk rfl rfl rfl (Nat.le_of_ble_eq_true rfl) hd (fun H1 locs1 hw hS => kk H1 locs1 ⟨av, hw.same (fun _ _ h => h) (fun _ _ _ => rfl) (fun k i2 hl => ?_)⟩ hS)
  by_cases hc : k = 3 ∧ i2 = 0
  · obtain ⟨rfl, rfl⟩ := hc
    rw [hU_s]
    simp [ctK, k3_s, k3_b, k3_a, List.set]
  · rw [hU_n _ _ hc]
    by_cases hk2 : k = 3
    · subst hk2
      have hc2 : ¬ i2 = 0 := fun h => hc ⟨rfl, h⟩
      exact absurd hl hc2
    · unfold ctK
      split <;> first | rfl | (exact absurd rfl hk2)
theorem g3_30 (S : CallFix p m c cc nL s args WU own) (hg : GI D cI e0 A s s.heap) (hw : HT D cI e0 A ad K M ap o od H) (hk : Cond.fieldLink own index "SnapshotArenaModel" "offerCard" "[I" ∈ WU) (hd : decode cc pc = .ok (.getfield index, 3)) (kk : W p l e R s m args below meth c H locs cells slots Q (F0 m (pc + 3) ls (.ref (ad 16 30) :: rest))) : W p l e R s m args below meth c H locs cells slots Q (F0 m pc ls (.ref (ad 3 0) :: rest)) := by
  obtain ⟨av, hw⟩ := hw
  exact r_get S hg hw (k := 3) (i := 0) rfl rfl rfl iWX7 30 (by decide) hk rfl hd kk
theorem g3_31 (S : CallFix p m c cc nL s args WU own) (hg : GI D cI e0 A s s.heap) (hw : HT D cI e0 A ad K M ap o od H) (hk : Cond.fieldLink own index "SnapshotArenaModel" "price" "[I" ∈ WU) (hd : decode cc pc = .ok (.getfield index, 3)) (kk : W p l e R s m args below meth c H locs cells slots Q (F0 m (pc + 3) ls (.ref (ad 16 31) :: rest))) : W p l e R s m args below meth c H locs cells slots Q (F0 m pc ls (.ref (ad 3 0) :: rest)) := by
  obtain ⟨av, hw⟩ := hw
  exact r_get S hg hw (k := 3) (i := 0) rfl rfl rfl iWX7 31 (by decide) hk rfl hd kk
theorem g3_32 (S : CallFix p m c cc nL s args WU own) (hg : GI D cI e0 A s s.heap) (hw : HT D cI e0 A ad K M ap o od H) (hk : Cond.fieldLink own index "SnapshotArenaModel" "offerState" "[C" ∈ WU) (hd : decode cc pc = .ok (.getfield index, 3)) (kk : W p l e R s m args below meth c H locs cells slots Q (F0 m (pc + 3) ls (.ref (ad 13 32) :: rest))) : W p l e R s m args below meth c H locs cells slots Q (F0 m pc ls (.ref (ad 3 0) :: rest)) := by
  obtain ⟨av, hw⟩ := hw
  exact r_get S hg hw (k := 3) (i := 0) rfl rfl rfl iWX7 32 (by decide) hk rfl hd kk
theorem g3_33 (S : CallFix p m c cc nL s args WU own) (hg : GI D cI e0 A s s.heap) (hw : HT D cI e0 A ad K M ap o od H) (hk : Cond.fieldLink own index "SnapshotArenaModel" "seller" "[I" ∈ WU) (hd : decode cc pc = .ok (.getfield index, 3)) (kk : W p l e R s m args below meth c H locs cells slots Q (F0 m (pc + 3) ls (.ref (ad 16 33) :: rest))) : W p l e R s m args below meth c H locs cells slots Q (F0 m pc ls (.ref (ad 3 0) :: rest)) := by
  obtain ⟨av, hw⟩ := hw
  exact r_get S hg hw (k := 3) (i := 0) rfl rfl rfl iWX7 33 (by decide) hk rfl hd kk
theorem g3_34 (S : CallFix p m c cc nL s args WU own) (hg : GI D cI e0 A s s.heap) (hw : HT D cI e0 A ad K M ap o od H) (hk : Cond.fieldLink own index "SnapshotArenaModel" "buyer" "[I" ∈ WU) (hd : decode cc pc = .ok (.getfield index, 3)) (kk : W p l e R s m args below meth c H locs cells slots Q (F0 m (pc + 3) ls (.ref (ad 16 34) :: rest))) : W p l e R s m args below meth c H locs cells slots Q (F0 m pc ls (.ref (ad 3 0) :: rest)) := by
  obtain ⟨av, hw⟩ := hw
  exact r_get S hg hw (k := 3) (i := 0) rfl rfl rfl iWX7 34 (by decide) hk rfl hd kk
theorem g3_35 (S : CallFix p m c cc nL s args WU own) (hg : GI D cI e0 A s s.heap) (hw : HT D cI e0 A ad K M ap o od H) (hk : Cond.fieldLink own index "SnapshotArenaModel" "waits" "[I" ∈ WU) (hd : decode cc pc = .ok (.getfield index, 3)) (kk : W p l e R s m args below meth c H locs cells slots Q (F0 m (pc + 3) ls (.ref (ad 16 35) :: rest))) : W p l e R s m args below meth c H locs cells slots Q (F0 m pc ls (.ref (ad 3 0) :: rest)) := by
  obtain ⟨av, hw⟩ := hw
  exact r_get S hg hw (k := 3) (i := 0) rfl rfl rfl iWX7 35 (by decide) hk rfl hd kk
theorem g3_36 (S : CallFix p m c cc nL s args WU own) (hg : GI D cI e0 A s s.heap) (hw : HT D cI e0 A ad K M ap o od H) (hk : Cond.fieldLink own index "SnapshotArenaModel" "bought" "[I" ∈ WU) (hd : decode cc pc = .ok (.getfield index, 3)) (kk : W p l e R s m args below meth c H locs cells slots Q (F0 m (pc + 3) ls (.ref (ad 16 36) :: rest))) : W p l e R s m args below meth c H locs cells slots Q (F0 m pc ls (.ref (ad 3 0) :: rest)) := by
  obtain ⟨av, hw⟩ := hw
  exact r_get S hg hw (k := 3) (i := 0) rfl rfl rfl iWX7 36 (by decide) hk rfl hd kk
theorem g3_37 (S : CallFix p m c cc nL s args WU own) (hg : GI D cI e0 A s s.heap) (hw : HT D cI e0 A ad K M ap o od H) (hk : Cond.fieldLink own index "SnapshotArenaModel" "purchases" "I" ∈ WU) (hd : decode cc pc = .ok (.getfield index, 3)) (kk : W p l e R s m args below meth c H locs cells slots Q (F0 m (pc + 3) ls (.int (M 3 37 0) :: rest))) : W p l e R s m args below meth c H locs cells slots Q (F0 m pc ls (.ref (ad 3 0) :: rest)) := by
  obtain ⟨av, hw⟩ := hw
  exact r_get S hg hw (k := 3) (i := 0) rfl rfl rfl iWX7 37 (by decide) hk rfl hd kk
set_option maxHeartbeats 1000000 in
theorem p3_37 (S : CallFix p m c cc nL s args WU own) (hg : GI D cI e0 A s s.heap) (hS : va_S A s.heap H locs) (hw : HT D cI e0 A ad K M ap o od H) {v : Int32} (hk : Cond.fieldLink own index "SnapshotArenaModel" "purchases" "I" ∈ WU) (hd : decode cc pc = .ok (.putfield index, 3)) (kk : ∀ (H1 : Heap) (locs1 : List Loc), HT D cI e0 A ad K (k3 M 3 37 0 v) ap o od H1 → va_S A s.heap H1 locs1 → W p l e R s m args below meth c H1 locs1 cells slots Q (F0 m (pc + 3) ls rest)) : W p l e R s m args below meth c H locs cells slots Q (F0 m pc ls (.int v :: .ref (ad 3 0) :: rest)) := by
  obtain ⟨av, hw⟩ := hw
  refine r_put S hg hS hw (k := 3) (i := 0) rfl rfl rfl iWX7 tyX7 tyX7_ok nmX7 37 (by decide) hk rfl rfl rfl (Nat.le_of_ble_eq_true rfl) hd (fun H1 locs1 hw hS => kk H1 locs1 ⟨av, hw.same (fun _ _ h => h) (fun _ _ _ => rfl) (fun k i2 hl => ?_)⟩ hS)
  by_cases hc : k = 3 ∧ i2 = 0
  · obtain ⟨rfl, rfl⟩ := hc
    rw [hU_s]
    simp [ctK, k3_s, k3_b, k3_a, List.set]
  · rw [hU_n _ _ hc]
    by_cases hk2 : k = 3
    · subst hk2
      have hc2 : ¬ i2 = 0 := fun h => hc ⟨rfl, h⟩
      exact absurd hl hc2
    · unfold ctK
      split <;> first | rfl | (exact absurd rfl hk2)
theorem g4_0 (S : CallFix p m c cc nL s args WU own) (hg : GI D cI e0 A s s.heap) (hw : HT D cI e0 A ad K M ap o od H) {i : Nat} (hi : i < nC K) (hk : Cond.fieldLink own index "SnapshotArena$Card" "number" "I" ∈ WU) (hd : decode cc pc = .ok (.getfield index, 3)) (kk : W p l e R s m args below meth c H locs cells slots Q (F0 m (pc + 3) ls (.int (K 4 0 i) :: rest))) : W p l e R s m args below meth c H locs cells slots Q (F0 m pc ls (.ref (ad 4 i) :: rest)) := by
  obtain ⟨av, hw⟩ := hw
  exact r_get S hg hw (k := 4) (i := i) hi rfl rfl iWX1 0 (by decide) hk rfl hd kk
theorem g4_1 (S : CallFix p m c cc nL s args WU own) (hg : GI D cI e0 A s s.heap) (hw : HT D cI e0 A ad K M ap o od H) {i : Nat} (hi : i < nC K) (hk : Cond.fieldLink own index "SnapshotArena$Card" "kind" "I" ∈ WU) (hd : decode cc pc = .ok (.getfield index, 3)) (kk : W p l e R s m args below meth c H locs cells slots Q (F0 m (pc + 3) ls (.int (K 4 1 i) :: rest))) : W p l e R s m args below meth c H locs cells slots Q (F0 m pc ls (.ref (ad 4 i) :: rest)) := by
  obtain ⟨av, hw⟩ := hw
  exact r_get S hg hw (k := 4) (i := i) hi rfl rfl iWX1 1 (by decide) hk rfl hd kk
theorem g4_2 (S : CallFix p m c cc nL s args WU own) (hg : GI D cI e0 A s s.heap) (hw : HT D cI e0 A ad K M ap o od H) {i : Nat} (hi : i < nC K) (hk : Cond.fieldLink own index "SnapshotArena$Card" "owner" "I" ∈ WU) (hd : decode cc pc = .ok (.getfield index, 3)) (kk : W p l e R s m args below meth c H locs cells slots Q (F0 m (pc + 3) ls (.int (K 4 2 i) :: rest))) : W p l e R s m args below meth c H locs cells slots Q (F0 m pc ls (.ref (ad 4 i) :: rest)) := by
  obtain ⟨av, hw⟩ := hw
  exact r_get S hg hw (k := 4) (i := i) hi rfl rfl iWX1 2 (by decide) hk rfl hd kk
set_option maxHeartbeats 1000000 in
theorem p4_2 (S : CallFix p m c cc nL s args WU own) (hg : GI D cI e0 A s s.heap) (hS : va_S A s.heap H locs) (hw : HT D cI e0 A ad K M ap o od H) {i : Nat} (hi : i < nC K) {v : Int32} (hk : Cond.fieldLink own index "SnapshotArena$Card" "owner" "I" ∈ WU) (hd : decode cc pc = .ok (.putfield index, 3)) (kk : ∀ (H1 : Heap) (locs1 : List Loc), HT D cI e0 A ad (k3 K 4 2 i v) M ap o od H1 → va_S A s.heap H1 locs1 → W p l e R s m args below meth c H1 locs1 cells slots Q (F0 m (pc + 3) ls rest)) : W p l e R s m args below meth c H locs cells slots Q (F0 m pc ls (.int v :: .ref (ad 4 i) :: rest)) := by
  obtain ⟨av, hw⟩ := hw
  refine r_put S hg hS hw (k := 4) (i := i) hi rfl rfl iWX1 tyX1 tyX1_ok nmX1 2 (by decide) hk rfl rfl rfl (Nat.le_of_ble_eq_true rfl) hd (fun H1 locs1 hw hS => kk H1 locs1 ⟨av, hw.same (fun _ _ h => h) (fun _ _ _ => rfl) (fun k i2 hl => ?_)⟩ hS)
  by_cases hc : k = 4 ∧ i2 = i
  · obtain ⟨rfl, rfl⟩ := hc
    rw [hU_s]
    simp [ctK, k3_s, k3_b, k3_a, List.set]
  · rw [hU_n _ _ hc]
    by_cases hk2 : k = 4
    · subst hk2
      have hc2 : ¬ i2 = i := fun h => hc ⟨rfl, h⟩
      simp [ctK, k3_c, hc2, k3_b]
    · unfold ctK
      split <;> first | rfl | (exact absurd rfl hk2)
theorem g4_3 (S : CallFix p m c cc nL s args WU own) (hg : GI D cI e0 A s s.heap) (hw : HT D cI e0 A ad K M ap o od H) {i : Nat} (hi : i < nC K) (hk : Cond.fieldLink own index "SnapshotArena$Card" "state" "C" ∈ WU) (hd : decode cc pc = .ok (.getfield index, 3)) (kk : W p l e R s m args below meth c H locs cells slots Q (F0 m (pc + 3) ls (.int (K 4 3 i) :: rest))) : W p l e R s m args below meth c H locs cells slots Q (F0 m pc ls (.ref (ad 4 i) :: rest)) := by
  obtain ⟨av, hw⟩ := hw
  exact r_get S hg hw (k := 4) (i := i) hi rfl rfl iWX1 3 (by decide) hk rfl hd kk
set_option maxHeartbeats 1000000 in
theorem p4_3 (S : CallFix p m c cc nL s args WU own) (hg : GI D cI e0 A s s.heap) (hS : va_S A s.heap H locs) (hw : HT D cI e0 A ad K M ap o od H) {i : Nat} (hi : i < nC K) {v : Int32} (hn : narrow .char (.int v) = .int v) (hf : fits .char (.int v) = true) (hk : Cond.fieldLink own index "SnapshotArena$Card" "state" "C" ∈ WU) (hd : decode cc pc = .ok (.putfield index, 3)) (kk : ∀ (H1 : Heap) (locs1 : List Loc), HT D cI e0 A ad (k3 K 4 3 i v) M ap o od H1 → va_S A s.heap H1 locs1 → W p l e R s m args below meth c H1 locs1 cells slots Q (F0 m (pc + 3) ls rest)) : W p l e R s m args below meth c H locs cells slots Q (F0 m pc ls (.int v :: .ref (ad 4 i) :: rest)) := by
  obtain ⟨av, hw⟩ := hw
  refine r_put S hg hS hw (k := 4) (i := i) hi rfl rfl iWX1 tyX1 tyX1_ok nmX1 3 (by decide) hk rfl hn hf (Nat.le_of_ble_eq_true rfl) hd (fun H1 locs1 hw hS => kk H1 locs1 ⟨av, hw.same (fun _ _ h => h) (fun _ _ _ => rfl) (fun k i2 hl => ?_)⟩ hS)
  by_cases hc : k = 4 ∧ i2 = i
  · obtain ⟨rfl, rfl⟩ := hc
    rw [hU_s]
    simp [ctK, k3_s, k3_b, k3_a, List.set]
  · rw [hU_n _ _ hc]
    by_cases hk2 : k = 4
    · subst hk2
      have hc2 : ¬ i2 = i := fun h => hc ⟨rfl, h⟩
      simp [ctK, k3_c, hc2, k3_b]
    · unfold ctK
      split <;> first | rfl | (exact absurd rfl hk2)
theorem g4_4 (S : CallFix p m c cc nL s args WU own) (hg : GI D cI e0 A s s.heap) (hw : HT D cI e0 A ad K M ap o od H) {i : Nat} (hi : i < nC K) (hk : Cond.fieldLink own index "SnapshotArena$Card" "offered" "Z" ∈ WU) (hd : decode cc pc = .ok (.getfield index, 3)) (kk : W p l e R s m args below meth c H locs cells slots Q (F0 m (pc + 3) ls (.int (K 4 4 i) :: rest))) : W p l e R s m args below meth c H locs cells slots Q (F0 m pc ls (.ref (ad 4 i) :: rest)) := by
  obtain ⟨av, hw⟩ := hw
  exact r_get S hg hw (k := 4) (i := i) hi rfl rfl iWX1 4 (by decide) hk rfl hd kk
set_option maxHeartbeats 1000000 in
theorem p4_4 (S : CallFix p m c cc nL s args WU own) (hg : GI D cI e0 A s s.heap) (hS : va_S A s.heap H locs) (hw : HT D cI e0 A ad K M ap o od H) {i : Nat} (hi : i < nC K) {v : Int32} (hn : narrow .boolean (.int v) = .int v) (hf : fits .boolean (.int v) = true) (hk : Cond.fieldLink own index "SnapshotArena$Card" "offered" "Z" ∈ WU) (hd : decode cc pc = .ok (.putfield index, 3)) (kk : ∀ (H1 : Heap) (locs1 : List Loc), HT D cI e0 A ad (k3 K 4 4 i v) M ap o od H1 → va_S A s.heap H1 locs1 → W p l e R s m args below meth c H1 locs1 cells slots Q (F0 m (pc + 3) ls rest)) : W p l e R s m args below meth c H locs cells slots Q (F0 m pc ls (.int v :: .ref (ad 4 i) :: rest)) := by
  obtain ⟨av, hw⟩ := hw
  refine r_put S hg hS hw (k := 4) (i := i) hi rfl rfl iWX1 tyX1 tyX1_ok nmX1 4 (by decide) hk rfl hn hf (Nat.le_of_ble_eq_true rfl) hd (fun H1 locs1 hw hS => kk H1 locs1 ⟨av, hw.same (fun _ _ h => h) (fun _ _ _ => rfl) (fun k i2 hl => ?_)⟩ hS)
  by_cases hc : k = 4 ∧ i2 = i
  · obtain ⟨rfl, rfl⟩ := hc
    rw [hU_s]
    simp [ctK, k3_s, k3_b, k3_a, List.set]
  · rw [hU_n _ _ hc]
    by_cases hk2 : k = 4
    · subst hk2
      have hc2 : ¬ i2 = i := fun h => hc ⟨rfl, h⟩
      simp [ctK, k3_c, hc2, k3_b]
    · unfold ctK
      split <;> first | rfl | (exact absurd rfl hk2)
theorem g4_5 (S : CallFix p m c cc nL s args WU own) (hg : GI D cI e0 A s s.heap) (hw : HT D cI e0 A ad K M ap o od H) {i : Nat} (hi : i < nC K) (hk : Cond.fieldLink own index "SnapshotArena$Card" "duel" "I" ∈ WU) (hd : decode cc pc = .ok (.getfield index, 3)) (kk : W p l e R s m args below meth c H locs cells slots Q (F0 m (pc + 3) ls (.int (K 4 5 i) :: rest))) : W p l e R s m args below meth c H locs cells slots Q (F0 m pc ls (.ref (ad 4 i) :: rest)) := by
  obtain ⟨av, hw⟩ := hw
  exact r_get S hg hw (k := 4) (i := i) hi rfl rfl iWX1 5 (by decide) hk rfl hd kk
set_option maxHeartbeats 1000000 in
theorem p4_5 (S : CallFix p m c cc nL s args WU own) (hg : GI D cI e0 A s s.heap) (hS : va_S A s.heap H locs) (hw : HT D cI e0 A ad K M ap o od H) {i : Nat} (hi : i < nC K) {v : Int32} (hk : Cond.fieldLink own index "SnapshotArena$Card" "duel" "I" ∈ WU) (hd : decode cc pc = .ok (.putfield index, 3)) (kk : ∀ (H1 : Heap) (locs1 : List Loc), HT D cI e0 A ad (k3 K 4 5 i v) M ap o od H1 → va_S A s.heap H1 locs1 → W p l e R s m args below meth c H1 locs1 cells slots Q (F0 m (pc + 3) ls rest)) : W p l e R s m args below meth c H locs cells slots Q (F0 m pc ls (.int v :: .ref (ad 4 i) :: rest)) := by
  obtain ⟨av, hw⟩ := hw
  refine r_put S hg hS hw (k := 4) (i := i) hi rfl rfl iWX1 tyX1 tyX1_ok nmX1 5 (by decide) hk rfl rfl rfl (Nat.le_of_ble_eq_true rfl) hd (fun H1 locs1 hw hS => kk H1 locs1 ⟨av, hw.same (fun _ _ h => h) (fun _ _ _ => rfl) (fun k i2 hl => ?_)⟩ hS)
  by_cases hc : k = 4 ∧ i2 = i
  · obtain ⟨rfl, rfl⟩ := hc
    rw [hU_s]
    simp [ctK, k3_s, k3_b, k3_a, List.set]
  · rw [hU_n _ _ hc]
    by_cases hk2 : k = 4
    · subst hk2
      have hc2 : ¬ i2 = i := fun h => hc ⟨rfl, h⟩
      simp [ctK, k3_c, hc2, k3_b]
    · unfold ctK
      split <;> first | rfl | (exact absurd rfl hk2)
theorem g5_0 (S : CallFix p m c cc nL s args WU own) (hg : GI D cI e0 A s s.heap) (hw : HT D cI e0 A ad K M ap o od H) {i : Nat} (hi : i < nO K) (hk : Cond.fieldLink own index "SnapshotArena$Offer" "card" "LSnapshotArena$Card;" ∈ WU) (hd : decode cc pc = .ok (.getfield index, 3)) (kk : W p l e R s m args below meth c H locs cells slots Q (F0 m (pc + 3) ls (.ref (ad 4 (K 5 0 i).toNatClampNeg) :: rest))) : W p l e R s m args below meth c H locs cells slots Q (F0 m pc ls (.ref (ad 5 i) :: rest)) := by
  obtain ⟨av, hw⟩ := hw
  exact r_get S hg hw (k := 5) (i := i) hi rfl rfl iWX4 0 (by decide) hk rfl hd kk
theorem g5_1 (S : CallFix p m c cc nL s args WU own) (hg : GI D cI e0 A s s.heap) (hw : HT D cI e0 A ad K M ap o od H) {i : Nat} (hi : i < nO K) (hk : Cond.fieldLink own index "SnapshotArena$Offer" "price" "I" ∈ WU) (hd : decode cc pc = .ok (.getfield index, 3)) (kk : W p l e R s m args below meth c H locs cells slots Q (F0 m (pc + 3) ls (.int (K 5 1 i) :: rest))) : W p l e R s m args below meth c H locs cells slots Q (F0 m pc ls (.ref (ad 5 i) :: rest)) := by
  obtain ⟨av, hw⟩ := hw
  exact r_get S hg hw (k := 5) (i := i) hi rfl rfl iWX4 1 (by decide) hk rfl hd kk
theorem g5_2 (S : CallFix p m c cc nL s args WU own) (hg : GI D cI e0 A s s.heap) (hw : HT D cI e0 A ad K M ap o od H) {i : Nat} (hi : i < nO K) (hk : Cond.fieldLink own index "SnapshotArena$Offer" "seller" "I" ∈ WU) (hd : decode cc pc = .ok (.getfield index, 3)) (kk : W p l e R s m args below meth c H locs cells slots Q (F0 m (pc + 3) ls (.int (K 5 2 i) :: rest))) : W p l e R s m args below meth c H locs cells slots Q (F0 m pc ls (.ref (ad 5 i) :: rest)) := by
  obtain ⟨av, hw⟩ := hw
  exact r_get S hg hw (k := 5) (i := i) hi rfl rfl iWX4 2 (by decide) hk rfl hd kk
theorem g5_3 (S : CallFix p m c cc nL s args WU own) (hg : GI D cI e0 A s s.heap) (hw : HT D cI e0 A ad K M ap o od H) {i : Nat} (hi : i < nO K) (hk : Cond.fieldLink own index "SnapshotArena$Offer" "buyer" "I" ∈ WU) (hd : decode cc pc = .ok (.getfield index, 3)) (kk : W p l e R s m args below meth c H locs cells slots Q (F0 m (pc + 3) ls (.int (K 5 3 i) :: rest))) : W p l e R s m args below meth c H locs cells slots Q (F0 m pc ls (.ref (ad 5 i) :: rest)) := by
  obtain ⟨av, hw⟩ := hw
  exact r_get S hg hw (k := 5) (i := i) hi rfl rfl iWX4 3 (by decide) hk rfl hd kk
set_option maxHeartbeats 1000000 in
theorem p5_3 (S : CallFix p m c cc nL s args WU own) (hg : GI D cI e0 A s s.heap) (hS : va_S A s.heap H locs) (hw : HT D cI e0 A ad K M ap o od H) {i : Nat} (hi : i < nO K) {v : Int32} (hk : Cond.fieldLink own index "SnapshotArena$Offer" "buyer" "I" ∈ WU) (hd : decode cc pc = .ok (.putfield index, 3)) (kk : ∀ (H1 : Heap) (locs1 : List Loc), HT D cI e0 A ad (k3 K 5 3 i v) M ap o od H1 → va_S A s.heap H1 locs1 → W p l e R s m args below meth c H1 locs1 cells slots Q (F0 m (pc + 3) ls rest)) : W p l e R s m args below meth c H locs cells slots Q (F0 m pc ls (.int v :: .ref (ad 5 i) :: rest)) := by
  obtain ⟨av, hw⟩ := hw
  refine r_put S hg hS hw (k := 5) (i := i) hi rfl rfl iWX4 tyX4 tyX4_ok nmX4 3 (by decide) hk rfl rfl rfl (Nat.le_of_ble_eq_true rfl) hd (fun H1 locs1 hw hS => kk H1 locs1 ⟨av, hw.same (fun _ _ h => h) (fun _ _ _ => rfl) (fun k i2 hl => ?_)⟩ hS)
  by_cases hc : k = 5 ∧ i2 = i
  · obtain ⟨rfl, rfl⟩ := hc
    rw [hU_s]
    simp [ctK, k3_s, k3_b, k3_a, List.set]
  · rw [hU_n _ _ hc]
    by_cases hk2 : k = 5
    · subst hk2
      have hc2 : ¬ i2 = i := fun h => hc ⟨rfl, h⟩
      simp [ctK, k3_c, hc2, k3_b]
    · unfold ctK
      split <;> first | rfl | (exact absurd rfl hk2)
theorem g5_4 (S : CallFix p m c cc nL s args WU own) (hg : GI D cI e0 A s s.heap) (hw : HT D cI e0 A ad K M ap o od H) {i : Nat} (hi : i < nO K) (hk : Cond.fieldLink own index "SnapshotArena$Offer" "state" "C" ∈ WU) (hd : decode cc pc = .ok (.getfield index, 3)) (kk : W p l e R s m args below meth c H locs cells slots Q (F0 m (pc + 3) ls (.int (K 5 4 i) :: rest))) : W p l e R s m args below meth c H locs cells slots Q (F0 m pc ls (.ref (ad 5 i) :: rest)) := by
  obtain ⟨av, hw⟩ := hw
  exact r_get S hg hw (k := 5) (i := i) hi rfl rfl iWX4 4 (by decide) hk rfl hd kk
set_option maxHeartbeats 1000000 in
theorem p5_4 (S : CallFix p m c cc nL s args WU own) (hg : GI D cI e0 A s s.heap) (hS : va_S A s.heap H locs) (hw : HT D cI e0 A ad K M ap o od H) {i : Nat} (hi : i < nO K) {v : Int32} (hn : narrow .char (.int v) = .int v) (hf : fits .char (.int v) = true) (hk : Cond.fieldLink own index "SnapshotArena$Offer" "state" "C" ∈ WU) (hd : decode cc pc = .ok (.putfield index, 3)) (kk : ∀ (H1 : Heap) (locs1 : List Loc), HT D cI e0 A ad (k3 K 5 4 i v) M ap o od H1 → va_S A s.heap H1 locs1 → W p l e R s m args below meth c H1 locs1 cells slots Q (F0 m (pc + 3) ls rest)) : W p l e R s m args below meth c H locs cells slots Q (F0 m pc ls (.int v :: .ref (ad 5 i) :: rest)) := by
  obtain ⟨av, hw⟩ := hw
  refine r_put S hg hS hw (k := 5) (i := i) hi rfl rfl iWX4 tyX4 tyX4_ok nmX4 4 (by decide) hk rfl hn hf (Nat.le_of_ble_eq_true rfl) hd (fun H1 locs1 hw hS => kk H1 locs1 ⟨av, hw.same (fun _ _ h => h) (fun _ _ _ => rfl) (fun k i2 hl => ?_)⟩ hS)
  by_cases hc : k = 5 ∧ i2 = i
  · obtain ⟨rfl, rfl⟩ := hc
    rw [hU_s]
    simp [ctK, k3_s, k3_b, k3_a, List.set]
  · rw [hU_n _ _ hc]
    by_cases hk2 : k = 5
    · subst hk2
      have hc2 : ¬ i2 = i := fun h => hc ⟨rfl, h⟩
      simp [ctK, k3_c, hc2, k3_b]
    · unfold ctK
      split <;> first | rfl | (exact absurd rfl hk2)
theorem g5_5 (S : CallFix p m c cc nL s args WU own) (hg : GI D cI e0 A s s.heap) (hw : HT D cI e0 A ad K M ap o od H) {i : Nat} (hi : i < nO K) (hk : Cond.fieldLink own index "SnapshotArena$Offer" "duelToWaitFor" "I" ∈ WU) (hd : decode cc pc = .ok (.getfield index, 3)) (kk : W p l e R s m args below meth c H locs cells slots Q (F0 m (pc + 3) ls (.int (K 5 5 i) :: rest))) : W p l e R s m args below meth c H locs cells slots Q (F0 m pc ls (.ref (ad 5 i) :: rest)) := by
  obtain ⟨av, hw⟩ := hw
  exact r_get S hg hw (k := 5) (i := i) hi rfl rfl iWX4 5 (by decide) hk rfl hd kk
set_option maxHeartbeats 1000000 in
theorem p5_5 (S : CallFix p m c cc nL s args WU own) (hg : GI D cI e0 A s s.heap) (hS : va_S A s.heap H locs) (hw : HT D cI e0 A ad K M ap o od H) {i : Nat} (hi : i < nO K) {v : Int32} (hk : Cond.fieldLink own index "SnapshotArena$Offer" "duelToWaitFor" "I" ∈ WU) (hd : decode cc pc = .ok (.putfield index, 3)) (kk : ∀ (H1 : Heap) (locs1 : List Loc), HT D cI e0 A ad (k3 K 5 5 i v) M ap o od H1 → va_S A s.heap H1 locs1 → W p l e R s m args below meth c H1 locs1 cells slots Q (F0 m (pc + 3) ls rest)) : W p l e R s m args below meth c H locs cells slots Q (F0 m pc ls (.int v :: .ref (ad 5 i) :: rest)) := by
  obtain ⟨av, hw⟩ := hw
  refine r_put S hg hS hw (k := 5) (i := i) hi rfl rfl iWX4 tyX4 tyX4_ok nmX4 5 (by decide) hk rfl rfl rfl (Nat.le_of_ble_eq_true rfl) hd (fun H1 locs1 hw hS => kk H1 locs1 ⟨av, hw.same (fun _ _ h => h) (fun _ _ _ => rfl) (fun k i2 hl => ?_)⟩ hS)
  by_cases hc : k = 5 ∧ i2 = i
  · obtain ⟨rfl, rfl⟩ := hc
    rw [hU_s]
    simp [ctK, k3_s, k3_b, k3_a, List.set]
  · rw [hU_n _ _ hc]
    by_cases hk2 : k = 5
    · subst hk2
      have hc2 : ¬ i2 = i := fun h => hc ⟨rfl, h⟩
      simp [ctK, k3_c, hc2, k3_b]
    · unfold ctK
      split <;> first | rfl | (exact absurd rfl hk2)
theorem g6_0 (S : CallFix p m c cc nL s args WU own) (hg : GI D cI e0 A s s.heap) (hw : HT D cI e0 A ad K M ap o od H) {i : Nat} (hi : i < nD K) (hk : Cond.fieldLink own index "SnapshotArena$Duel" "first" "LSnapshotArena$Side;" ∈ WU) (hd : decode cc pc = .ok (.getfield index, 3)) (kk : W p l e R s m args below meth c H locs cells slots Q (F0 m (pc + 3) ls (.ref (ad 7 (2 * i)) :: rest))) : W p l e R s m args below meth c H locs cells slots Q (F0 m pc ls (.ref (ad 6 i) :: rest)) := by
  obtain ⟨av, hw⟩ := hw
  exact r_get S hg hw (k := 6) (i := i) hi rfl rfl iWX2 0 (by decide) hk rfl hd kk
theorem g6_1 (S : CallFix p m c cc nL s args WU own) (hg : GI D cI e0 A s s.heap) (hw : HT D cI e0 A ad K M ap o od H) {i : Nat} (hi : i < nD K) (hk : Cond.fieldLink own index "SnapshotArena$Duel" "second" "LSnapshotArena$Side;" ∈ WU) (hd : decode cc pc = .ok (.getfield index, 3)) (kk : W p l e R s m args below meth c H locs cells slots Q (F0 m (pc + 3) ls (.ref (ad 7 (2 * i + 1)) :: rest))) : W p l e R s m args below meth c H locs cells slots Q (F0 m pc ls (.ref (ad 6 i) :: rest)) := by
  obtain ⟨av, hw⟩ := hw
  exact r_get S hg hw (k := 6) (i := i) hi rfl rfl iWX2 1 (by decide) hk rfl hd kk
theorem g6_2 (S : CallFix p m c cc nL s args WU own) (hg : GI D cI e0 A s s.heap) (hw : HT D cI e0 A ad K M ap o od H) {i : Nat} (hi : i < nD K) (hk : Cond.fieldLink own index "SnapshotArena$Duel" "state" "C" ∈ WU) (hd : decode cc pc = .ok (.getfield index, 3)) (kk : W p l e R s m args below meth c H locs cells slots Q (F0 m (pc + 3) ls (.int (K 6 2 i) :: rest))) : W p l e R s m args below meth c H locs cells slots Q (F0 m pc ls (.ref (ad 6 i) :: rest)) := by
  obtain ⟨av, hw⟩ := hw
  exact r_get S hg hw (k := 6) (i := i) hi rfl rfl iWX2 2 (by decide) hk rfl hd kk
set_option maxHeartbeats 1000000 in
theorem p6_2 (S : CallFix p m c cc nL s args WU own) (hg : GI D cI e0 A s s.heap) (hS : va_S A s.heap H locs) (hw : HT D cI e0 A ad K M ap o od H) {i : Nat} (hi : i < nD K) {v : Int32} (hn : narrow .char (.int v) = .int v) (hf : fits .char (.int v) = true) (hk : Cond.fieldLink own index "SnapshotArena$Duel" "state" "C" ∈ WU) (hd : decode cc pc = .ok (.putfield index, 3)) (kk : ∀ (H1 : Heap) (locs1 : List Loc), HT D cI e0 A ad (k3 K 6 2 i v) M ap o od H1 → va_S A s.heap H1 locs1 → W p l e R s m args below meth c H1 locs1 cells slots Q (F0 m (pc + 3) ls rest)) : W p l e R s m args below meth c H locs cells slots Q (F0 m pc ls (.int v :: .ref (ad 6 i) :: rest)) := by
  obtain ⟨av, hw⟩ := hw
  refine r_put S hg hS hw (k := 6) (i := i) hi rfl rfl iWX2 tyX2 tyX2_ok nmX2 2 (by decide) hk rfl hn hf (Nat.le_of_ble_eq_true rfl) hd (fun H1 locs1 hw hS => kk H1 locs1 ⟨av, hw.same (fun _ _ h => h) (fun _ _ _ => rfl) (fun k i2 hl => ?_)⟩ hS)
  by_cases hc : k = 6 ∧ i2 = i
  · obtain ⟨rfl, rfl⟩ := hc
    rw [hU_s]
    simp [ctK, k3_s, k3_b, k3_a, List.set]
  · rw [hU_n _ _ hc]
    by_cases hk2 : k = 6
    · subst hk2
      have hc2 : ¬ i2 = i := fun h => hc ⟨rfl, h⟩
      simp [ctK, k3_c, hc2, k3_b]
    · unfold ctK
      split <;> first | rfl | (exact absurd rfl hk2)
theorem g6_3 (S : CallFix p m c cc nL s args WU own) (hg : GI D cI e0 A s s.heap) (hw : HT D cI e0 A ad K M ap o od H) {i : Nat} (hi : i < nD K) (hk : Cond.fieldLink own index "SnapshotArena$Duel" "winner" "I" ∈ WU) (hd : decode cc pc = .ok (.getfield index, 3)) (kk : W p l e R s m args below meth c H locs cells slots Q (F0 m (pc + 3) ls (.int (K 6 3 i) :: rest))) : W p l e R s m args below meth c H locs cells slots Q (F0 m pc ls (.ref (ad 6 i) :: rest)) := by
  obtain ⟨av, hw⟩ := hw
  exact r_get S hg hw (k := 6) (i := i) hi rfl rfl iWX2 3 (by decide) hk rfl hd kk
set_option maxHeartbeats 1000000 in
theorem p6_3 (S : CallFix p m c cc nL s args WU own) (hg : GI D cI e0 A s s.heap) (hS : va_S A s.heap H locs) (hw : HT D cI e0 A ad K M ap o od H) {i : Nat} (hi : i < nD K) {v : Int32} (hk : Cond.fieldLink own index "SnapshotArena$Duel" "winner" "I" ∈ WU) (hd : decode cc pc = .ok (.putfield index, 3)) (kk : ∀ (H1 : Heap) (locs1 : List Loc), HT D cI e0 A ad (k3 K 6 3 i v) M ap o od H1 → va_S A s.heap H1 locs1 → W p l e R s m args below meth c H1 locs1 cells slots Q (F0 m (pc + 3) ls rest)) : W p l e R s m args below meth c H locs cells slots Q (F0 m pc ls (.int v :: .ref (ad 6 i) :: rest)) := by
  obtain ⟨av, hw⟩ := hw
  refine r_put S hg hS hw (k := 6) (i := i) hi rfl rfl iWX2 tyX2 tyX2_ok nmX2 3 (by decide) hk rfl rfl rfl (Nat.le_of_ble_eq_true rfl) hd (fun H1 locs1 hw hS => kk H1 locs1 ⟨av, hw.same (fun _ _ h => h) (fun _ _ _ => rfl) (fun k i2 hl => ?_)⟩ hS)
  by_cases hc : k = 6 ∧ i2 = i
  · obtain ⟨rfl, rfl⟩ := hc
    rw [hU_s]
    simp [ctK, k3_s, k3_b, k3_a, List.set]
  · rw [hU_n _ _ hc]
    by_cases hk2 : k = 6
    · subst hk2
      have hc2 : ¬ i2 = i := fun h => hc ⟨rfl, h⟩
      simp [ctK, k3_c, hc2, k3_b]
    · unfold ctK
      split <;> first | rfl | (exact absurd rfl hk2)
theorem g6_4 (S : CallFix p m c cc nL s args WU own) (hg : GI D cI e0 A s s.heap) (hw : HT D cI e0 A ad K M ap o od H) {i : Nat} (hi : i < nD K) (hk : Cond.fieldLink own index "SnapshotArena$Duel" "mana" "I" ∈ WU) (hd : decode cc pc = .ok (.getfield index, 3)) (kk : W p l e R s m args below meth c H locs cells slots Q (F0 m (pc + 3) ls (.int (K 6 4 i) :: rest))) : W p l e R s m args below meth c H locs cells slots Q (F0 m pc ls (.ref (ad 6 i) :: rest)) := by
  obtain ⟨av, hw⟩ := hw
  exact r_get S hg hw (k := 6) (i := i) hi rfl rfl iWX2 4 (by decide) hk rfl hd kk
set_option maxHeartbeats 1000000 in
theorem p6_4 (S : CallFix p m c cc nL s args WU own) (hg : GI D cI e0 A s s.heap) (hS : va_S A s.heap H locs) (hw : HT D cI e0 A ad K M ap o od H) {i : Nat} (hi : i < nD K) {v : Int32} (hk : Cond.fieldLink own index "SnapshotArena$Duel" "mana" "I" ∈ WU) (hd : decode cc pc = .ok (.putfield index, 3)) (kk : ∀ (H1 : Heap) (locs1 : List Loc), HT D cI e0 A ad (k3 K 6 4 i v) M ap o od H1 → va_S A s.heap H1 locs1 → W p l e R s m args below meth c H1 locs1 cells slots Q (F0 m (pc + 3) ls rest)) : W p l e R s m args below meth c H locs cells slots Q (F0 m pc ls (.int v :: .ref (ad 6 i) :: rest)) := by
  obtain ⟨av, hw⟩ := hw
  refine r_put S hg hS hw (k := 6) (i := i) hi rfl rfl iWX2 tyX2 tyX2_ok nmX2 4 (by decide) hk rfl rfl rfl (Nat.le_of_ble_eq_true rfl) hd (fun H1 locs1 hw hS => kk H1 locs1 ⟨av, hw.same (fun _ _ h => h) (fun _ _ _ => rfl) (fun k i2 hl => ?_)⟩ hS)
  by_cases hc : k = 6 ∧ i2 = i
  · obtain ⟨rfl, rfl⟩ := hc
    rw [hU_s]
    simp [ctK, k3_s, k3_b, k3_a, List.set]
  · rw [hU_n _ _ hc]
    by_cases hk2 : k = 6
    · subst hk2
      have hc2 : ¬ i2 = i := fun h => hc ⟨rfl, h⟩
      simp [ctK, k3_c, hc2, k3_b]
    · unfold ctK
      split <;> first | rfl | (exact absurd rfl hk2)
theorem g6_5 (S : CallFix p m c cc nL s args WU own) (hg : GI D cI e0 A s s.heap) (hw : HT D cI e0 A ad K M ap o od H) {i : Nat} (hi : i < nD K) (hk : Cond.fieldLink own index "SnapshotArena$Duel" "turns" "I" ∈ WU) (hd : decode cc pc = .ok (.getfield index, 3)) (kk : W p l e R s m args below meth c H locs cells slots Q (F0 m (pc + 3) ls (.int (K 6 5 i) :: rest))) : W p l e R s m args below meth c H locs cells slots Q (F0 m pc ls (.ref (ad 6 i) :: rest)) := by
  obtain ⟨av, hw⟩ := hw
  exact r_get S hg hw (k := 6) (i := i) hi rfl rfl iWX2 5 (by decide) hk rfl hd kk
set_option maxHeartbeats 1000000 in
theorem p6_5 (S : CallFix p m c cc nL s args WU own) (hg : GI D cI e0 A s s.heap) (hS : va_S A s.heap H locs) (hw : HT D cI e0 A ad K M ap o od H) {i : Nat} (hi : i < nD K) {v : Int32} (hk : Cond.fieldLink own index "SnapshotArena$Duel" "turns" "I" ∈ WU) (hd : decode cc pc = .ok (.putfield index, 3)) (kk : ∀ (H1 : Heap) (locs1 : List Loc), HT D cI e0 A ad (k3 K 6 5 i v) M ap o od H1 → va_S A s.heap H1 locs1 → W p l e R s m args below meth c H1 locs1 cells slots Q (F0 m (pc + 3) ls rest)) : W p l e R s m args below meth c H locs cells slots Q (F0 m pc ls (.int v :: .ref (ad 6 i) :: rest)) := by
  obtain ⟨av, hw⟩ := hw
  refine r_put S hg hS hw (k := 6) (i := i) hi rfl rfl iWX2 tyX2 tyX2_ok nmX2 5 (by decide) hk rfl rfl rfl (Nat.le_of_ble_eq_true rfl) hd (fun H1 locs1 hw hS => kk H1 locs1 ⟨av, hw.same (fun _ _ h => h) (fun _ _ _ => rfl) (fun k i2 hl => ?_)⟩ hS)
  by_cases hc : k = 6 ∧ i2 = i
  · obtain ⟨rfl, rfl⟩ := hc
    rw [hU_s]
    simp [ctK, k3_s, k3_b, k3_a, List.set]
  · rw [hU_n _ _ hc]
    by_cases hk2 : k = 6
    · subst hk2
      have hc2 : ¬ i2 = i := fun h => hc ⟨rfl, h⟩
      simp [ctK, k3_c, hc2, k3_b]
    · unfold ctK
      split <;> first | rfl | (exact absurd rfl hk2)
theorem g6_6 (S : CallFix p m c cc nL s args WU own) (hg : GI D cI e0 A s s.heap) (hw : HT D cI e0 A ad K M ap o od H) {i : Nat} (hi : i < nD K) (hk : Cond.fieldLink own index "SnapshotArena$Duel" "stack" "[I" ∈ WU) (hd : decode cc pc = .ok (.getfield index, 3)) (kk : W p l e R s m args below meth c H locs cells slots Q (F0 m (pc + 3) ls (.ref (ad 17 i) :: rest))) : W p l e R s m args below meth c H locs cells slots Q (F0 m pc ls (.ref (ad 6 i) :: rest)) := by
  obtain ⟨av, hw⟩ := hw
  exact r_get S hg hw (k := 6) (i := i) hi rfl rfl iWX2 6 (by decide) hk rfl hd kk
theorem g6_7 (S : CallFix p m c cc nL s args WU own) (hg : GI D cI e0 A s s.heap) (hw : HT D cI e0 A ad K M ap o od H) {i : Nat} (hi : i < nD K) (hk : Cond.fieldLink own index "SnapshotArena$Duel" "depth" "I" ∈ WU) (hd : decode cc pc = .ok (.getfield index, 3)) (kk : W p l e R s m args below meth c H locs cells slots Q (F0 m (pc + 3) ls (.int (K 6 7 i) :: rest))) : W p l e R s m args below meth c H locs cells slots Q (F0 m pc ls (.ref (ad 6 i) :: rest)) := by
  obtain ⟨av, hw⟩ := hw
  exact r_get S hg hw (k := 6) (i := i) hi rfl rfl iWX2 7 (by decide) hk rfl hd kk
set_option maxHeartbeats 1000000 in
theorem p6_7 (S : CallFix p m c cc nL s args WU own) (hg : GI D cI e0 A s s.heap) (hS : va_S A s.heap H locs) (hw : HT D cI e0 A ad K M ap o od H) {i : Nat} (hi : i < nD K) {v : Int32} (hk : Cond.fieldLink own index "SnapshotArena$Duel" "depth" "I" ∈ WU) (hd : decode cc pc = .ok (.putfield index, 3)) (kk : ∀ (H1 : Heap) (locs1 : List Loc), HT D cI e0 A ad (k3 K 6 7 i v) M ap o od H1 → va_S A s.heap H1 locs1 → W p l e R s m args below meth c H1 locs1 cells slots Q (F0 m (pc + 3) ls rest)) : W p l e R s m args below meth c H locs cells slots Q (F0 m pc ls (.int v :: .ref (ad 6 i) :: rest)) := by
  obtain ⟨av, hw⟩ := hw
  refine r_put S hg hS hw (k := 6) (i := i) hi rfl rfl iWX2 tyX2 tyX2_ok nmX2 7 (by decide) hk rfl rfl rfl (Nat.le_of_ble_eq_true rfl) hd (fun H1 locs1 hw hS => kk H1 locs1 ⟨av, hw.same (fun _ _ h => h) (fun _ _ _ => rfl) (fun k i2 hl => ?_)⟩ hS)
  by_cases hc : k = 6 ∧ i2 = i
  · obtain ⟨rfl, rfl⟩ := hc
    rw [hU_s]
    simp [ctK, k3_s, k3_b, k3_a, List.set]
  · rw [hU_n _ _ hc]
    by_cases hk2 : k = 6
    · subst hk2
      have hc2 : ¬ i2 = i := fun h => hc ⟨rfl, h⟩
      simp [ctK, k3_c, hc2, k3_b]
    · unfold ctK
      split <;> first | rfl | (exact absurd rfl hk2)
theorem g6_8 (S : CallFix p m c cc nL s args WU own) (hg : GI D cI e0 A s s.heap) (hw : HT D cI e0 A ad K M ap o od H) {i : Nat} (hi : i < nD K) (hk : Cond.fieldLink own index "SnapshotArena$Duel" "snapshotCount" "I" ∈ WU) (hd : decode cc pc = .ok (.getfield index, 3)) (kk : W p l e R s m args below meth c H locs cells slots Q (F0 m (pc + 3) ls (.int (K 6 8 i) :: rest))) : W p l e R s m args below meth c H locs cells slots Q (F0 m pc ls (.ref (ad 6 i) :: rest)) := by
  obtain ⟨av, hw⟩ := hw
  exact r_get S hg hw (k := 6) (i := i) hi rfl rfl iWX2 8 (by decide) hk rfl hd kk
set_option maxHeartbeats 1000000 in
theorem p6_8 (S : CallFix p m c cc nL s args WU own) (hg : GI D cI e0 A s s.heap) (hS : va_S A s.heap H locs) (hw : HT D cI e0 A ad K M ap o od H) {i : Nat} (hi : i < nD K) {v : Int32} (hk : Cond.fieldLink own index "SnapshotArena$Duel" "snapshotCount" "I" ∈ WU) (hd : decode cc pc = .ok (.putfield index, 3)) (kk : ∀ (H1 : Heap) (locs1 : List Loc), HT D cI e0 A ad (k3 K 6 8 i v) M ap o od H1 → va_S A s.heap H1 locs1 → W p l e R s m args below meth c H1 locs1 cells slots Q (F0 m (pc + 3) ls rest)) : W p l e R s m args below meth c H locs cells slots Q (F0 m pc ls (.int v :: .ref (ad 6 i) :: rest)) := by
  obtain ⟨av, hw⟩ := hw
  refine r_put S hg hS hw (k := 6) (i := i) hi rfl rfl iWX2 tyX2 tyX2_ok nmX2 8 (by decide) hk rfl rfl rfl (Nat.le_of_ble_eq_true rfl) hd (fun H1 locs1 hw hS => kk H1 locs1 ⟨av, hw.same (fun _ _ h => h) (fun _ _ _ => rfl) (fun k i2 hl => ?_)⟩ hS)
  by_cases hc : k = 6 ∧ i2 = i
  · obtain ⟨rfl, rfl⟩ := hc
    rw [hU_s]
    simp [ctK, k3_s, k3_b, k3_a, List.set]
  · rw [hU_n _ _ hc]
    by_cases hk2 : k = 6
    · subst hk2
      have hc2 : ¬ i2 = i := fun h => hc ⟨rfl, h⟩
      simp [ctK, k3_c, hc2, k3_b]
    · unfold ctK
      split <;> first | rfl | (exact absurd rfl hk2)
theorem g6_9 (S : CallFix p m c cc nL s args WU own) (hg : GI D cI e0 A s s.heap) (hw : HT D cI e0 A ad K M ap o od H) {i : Nat} (hi : i < nD K) (hk : Cond.fieldLink own index "SnapshotArena$Duel" "keptBlocks" "[[I" ∈ WU) (hd : decode cc pc = .ok (.getfield index, 3)) (kk : W p l e R s m args below meth c H locs cells slots Q (F0 m (pc + 3) ls (.ref (ad 12 i) :: rest))) : W p l e R s m args below meth c H locs cells slots Q (F0 m pc ls (.ref (ad 6 i) :: rest)) := by
  obtain ⟨av, hw⟩ := hw
  exact r_get S hg hw (k := 6) (i := i) hi rfl rfl iWX2 9 (by decide) hk rfl hd kk
theorem g6_10 (S : CallFix p m c cc nL s args WU own) (hg : GI D cI e0 A s s.heap) (hw : HT D cI e0 A ad K M ap o od H) {i : Nat} (hi : i < nD K) (hk : Cond.fieldLink own index "SnapshotArena$Duel" "keptStacks" "[[I" ∈ WU) (hd : decode cc pc = .ok (.getfield index, 3)) (kk : W p l e R s m args below meth c H locs cells slots Q (F0 m (pc + 3) ls (.ref (ad 21 i) :: rest))) : W p l e R s m args below meth c H locs cells slots Q (F0 m pc ls (.ref (ad 6 i) :: rest)) := by
  obtain ⟨av, hw⟩ := hw
  exact r_get S hg hw (k := 6) (i := i) hi rfl rfl iWX2 10 (by decide) hk rfl hd kk
theorem g7_0 (S : CallFix p m c cc nL s args WU own) (hg : GI D cI e0 A s s.heap) (hw : HT D cI e0 A ad K M ap o od H) {i : Nat} (hi : i < 2 * nD K) (hk : Cond.fieldLink own index "SnapshotArena$Side" "player" "I" ∈ WU) (hd : decode cc pc = .ok (.getfield index, 3)) (kk : W p l e R s m args below meth c H locs cells slots Q (F0 m (pc + 3) ls (.int (K 7 0 i) :: rest))) : W p l e R s m args below meth c H locs cells slots Q (F0 m pc ls (.ref (ad 7 i) :: rest)) := by
  obtain ⟨av, hw⟩ := hw
  exact r_get S hg hw (k := 7) (i := i) hi rfl rfl iWX5 0 (by decide) hk rfl hd kk
theorem g7_1 (S : CallFix p m c cc nL s args WU own) (hg : GI D cI e0 A s s.heap) (hw : HT D cI e0 A ad K M ap o od H) {i : Nat} (hi : i < 2 * nD K) (hk : Cond.fieldLink own index "SnapshotArena$Side" "life" "I" ∈ WU) (hd : decode cc pc = .ok (.getfield index, 3)) (kk : W p l e R s m args below meth c H locs cells slots Q (F0 m (pc + 3) ls (.int (K 7 1 i) :: rest))) : W p l e R s m args below meth c H locs cells slots Q (F0 m pc ls (.ref (ad 7 i) :: rest)) := by
  obtain ⟨av, hw⟩ := hw
  exact r_get S hg hw (k := 7) (i := i) hi rfl rfl iWX5 1 (by decide) hk rfl hd kk
set_option maxHeartbeats 1000000 in
theorem p7_1 (S : CallFix p m c cc nL s args WU own) (hg : GI D cI e0 A s s.heap) (hS : va_S A s.heap H locs) (hw : HT D cI e0 A ad K M ap o od H) {i : Nat} (hi : i < 2 * nD K) {v : Int32} (hk : Cond.fieldLink own index "SnapshotArena$Side" "life" "I" ∈ WU) (hd : decode cc pc = .ok (.putfield index, 3)) (kk : ∀ (H1 : Heap) (locs1 : List Loc), HT D cI e0 A ad (k3 K 7 1 i v) M ap o od H1 → va_S A s.heap H1 locs1 → W p l e R s m args below meth c H1 locs1 cells slots Q (F0 m (pc + 3) ls rest)) : W p l e R s m args below meth c H locs cells slots Q (F0 m pc ls (.int v :: .ref (ad 7 i) :: rest)) := by
  obtain ⟨av, hw⟩ := hw
  refine r_put S hg hS hw (k := 7) (i := i) hi rfl rfl iWX5 tyX5 tyX5_ok nmX5 1 (by decide) hk rfl rfl rfl (Nat.le_of_ble_eq_true rfl) hd (fun H1 locs1 hw hS => kk H1 locs1 ⟨av, hw.same (fun _ _ h => h) (fun _ _ _ => rfl) (fun k i2 hl => ?_)⟩ hS)
  by_cases hc : k = 7 ∧ i2 = i
  · obtain ⟨rfl, rfl⟩ := hc
    rw [hU_s]
    simp [ctK, k3_s, k3_b, k3_a, List.set]
  · rw [hU_n _ _ hc]
    by_cases hk2 : k = 7
    · subst hk2
      have hc2 : ¬ i2 = i := fun h => hc ⟨rfl, h⟩
      simp [ctK, k3_c, hc2, k3_b]
    · unfold ctK
      split <;> first | rfl | (exact absurd rfl hk2)
theorem g7_2 (S : CallFix p m c cc nL s args WU own) (hg : GI D cI e0 A s s.heap) (hw : HT D cI e0 A ad K M ap o od H) {i : Nat} (hi : i < 2 * nD K) (hk : Cond.fieldLink own index "SnapshotArena$Side" "staked" "Ljava/util/ArrayList;" ∈ WU) (hd : decode cc pc = .ok (.getfield index, 3)) (kk : W p l e R s m args below meth c H locs cells slots Q (F0 m (pc + 3) ls (.ref (ad 8 (i + 4)) :: rest))) : W p l e R s m args below meth c H locs cells slots Q (F0 m pc ls (.ref (ad 7 i) :: rest)) := by
  obtain ⟨av, hw⟩ := hw
  exact r_get S hg hw (k := 7) (i := i) hi rfl rfl iWX5 2 (by decide) hk rfl hd kk
theorem g7_3 (S : CallFix p m c cc nL s args WU own) (hg : GI D cI e0 A s s.heap) (hw : HT D cI e0 A ad K M ap o od H) {i : Nat} (hi : i < 2 * nD K) (hk : Cond.fieldLink own index "SnapshotArena$Side" "played" "[I" ∈ WU) (hd : decode cc pc = .ok (.getfield index, 3)) (kk : W p l e R s m args below meth c H locs cells slots Q (F0 m (pc + 3) ls (.ref (ad 18 i) :: rest))) : W p l e R s m args below meth c H locs cells slots Q (F0 m pc ls (.ref (ad 7 i) :: rest)) := by
  obtain ⟨av, hw⟩ := hw
  exact r_get S hg hw (k := 7) (i := i) hi rfl rfl iWX5 3 (by decide) hk rfl hd kk
theorem a10 (S : CallFix p m c cc nL s args WU own) (hg : GI D cI e0 A s s.heap) (hw : HT D cI e0 A ad K M ap o od H) {i : Nat} (hi : i < 4) {j : Int32} (hj : vp_in j (aLen i)) (hd : decode cc pc = .ok (.iaload, 1)) (kk : W p l e R s m args below meth c H locs cells slots Q (F0 m (pc + 1) ls (.int (K 10 i j.toNatClampNeg) :: rest))) : W p l e R s m args below meth c H locs cells slots Q (F0 m pc ls (.int j :: .ref (ad 10 i) :: rest)) := by
  obtain ⟨av, hw⟩ := hw
  exact r_iald S hg hw (k := 10) (i := i) hi rfl hj hd kk
set_option maxHeartbeats 1000000 in
theorem s10 (S : CallFix p m c cc nL s args WU own) (hg : GI D cI e0 A s s.heap) (hS : va_S A s.heap H locs) (hw : HT D cI e0 A ad K M ap o od H) {i : Nat} (hi : i < 4) {j x : Int32} (hj : vp_in j (aLen i)) (hd : decode cc pc = .ok (.iastore, 1)) (kk : ∀ (H1 : Heap) (locs1 : List Loc), HT D cI e0 A ad (k3 K 10 i j.toNatClampNeg x) M ap o od H1 → va_S A s.heap H1 locs1 → W p l e R s m args below meth c H1 locs1 cells slots Q (F0 m (pc + 1) ls rest)) : W p l e R s m args below meth c H locs cells slots Q (F0 m pc ls (.int x :: .int j :: .ref (ad 10 i) :: rest)) := by
  obtain ⟨av, hw⟩ := hw
  refine r_iast S hg hS hw (k := 10) (i := i) hi rfl hj hd (fun H1 locs1 hw hS => kk H1 locs1 ⟨av, hw.same (fun _ _ h => h) (fun _ _ _ => rfl) (fun k i2 hl => ?_)⟩ hS)
  by_cases hc : k = 10 ∧ i2 = i
  · obtain ⟨rfl, rfl⟩ := hc
    rw [hU_s]
    simp [ctK, k3_r]
  · rw [hU_n _ _ hc]
    by_cases hk2 : k = 10
    · subst hk2
      have hc2 : ¬ i2 = i := fun h => hc ⟨rfl, h⟩
      simp [ctK, k3_b, hc2]
    · unfold ctK
      split <;> first | rfl | (exact absurd rfl hk2)
theorem n10 (S : CallFix p m c cc nL s args WU own) (hg : GI D cI e0 A s s.heap) (hw : HT D cI e0 A ad K M ap o od H) {i : Nat} (hi : i < 4) (hd : decode cc pc = .ok (.arraylength, 1)) (kk : W p l e R s m args below meth c H locs cells slots Q (F0 m (pc + 1) ls (.int (nI (aLen i)) :: rest))) : W p l e R s m args below meth c H locs cells slots Q (F0 m pc ls (.ref (ad 10 i) :: rest)) := by
  obtain ⟨av, hw⟩ := hw
  exact r_alen S hg hw (k := 10) (i := i) hi 0 rfl rfl hd kk
theorem a13 (S : CallFix p m c cc nL s args WU own) (hg : GI D cI e0 A s s.heap) (hw : HT D cI e0 A ad K M ap o od H) {i : Nat} (hi : mArc i = true) {j : Int32} (hj : vp_in j (mLen i)) (hd : decode cc pc = .ok (.caload, 1)) (kk : W p l e R s m args below meth c H locs cells slots Q (F0 m (pc + 1) ls (.int (M 13 i j.toNatClampNeg) :: rest))) : W p l e R s m args below meth c H locs cells slots Q (F0 m pc ls (.int j :: .ref (ad 13 i) :: rest)) := by
  obtain ⟨av, hw⟩ := hw
  exact r_cald S hg hw (k := 13) (i := i) hi rfl hj hd kk
set_option maxHeartbeats 1000000 in
theorem s13 (S : CallFix p m c cc nL s args WU own) (hg : GI D cI e0 A s s.heap) (hS : va_S A s.heap H locs) (hw : HT D cI e0 A ad K M ap o od H) {i : Nat} (hi : mArc i = true) {j x : Int32} (hj : vp_in j (mLen i)) (hx : vp_nar .char x = x) (hd : decode cc pc = .ok (.castore, 1)) (kk : ∀ (H1 : Heap) (locs1 : List Loc), HT D cI e0 A ad K (k3 M 13 i j.toNatClampNeg x) ap o od H1 → va_S A s.heap H1 locs1 → W p l e R s m args below meth c H1 locs1 cells slots Q (F0 m (pc + 1) ls rest)) : W p l e R s m args below meth c H locs cells slots Q (F0 m pc ls (.int x :: .int j :: .ref (ad 13 i) :: rest)) := by
  obtain ⟨av, hw⟩ := hw
  refine r_cast S hg hS hw (k := 13) (i := i) hi rfl hj hx hd (fun H1 locs1 hw hS => kk H1 locs1 ⟨av, hw.same (fun _ _ h => h) (fun _ _ _ => rfl) (fun k i2 hl => ?_)⟩ hS)
  by_cases hc : k = 13 ∧ i2 = i
  · obtain ⟨rfl, rfl⟩ := hc
    rw [hU_s]
    simp [ctK, k3_r]
  · rw [hU_n _ _ hc]
    by_cases hk2 : k = 13
    · subst hk2
      have hc2 : ¬ i2 = i := fun h => hc ⟨rfl, h⟩
      simp [ctK, k3_b, hc2]
    · unfold ctK
      split <;> first | rfl | (exact absurd rfl hk2)
theorem n13 (S : CallFix p m c cc nL s args WU own) (hg : GI D cI e0 A s s.heap) (hw : HT D cI e0 A ad K M ap o od H) {i : Nat} (hi : mArc i = true) (hd : decode cc pc = .ok (.arraylength, 1)) (kk : W p l e R s m args below meth c H locs cells slots Q (F0 m (pc + 1) ls (.int (nI (mLen i)) :: rest))) : W p l e R s m args below meth c H locs cells slots Q (F0 m pc ls (.ref (ad 13 i) :: rest)) := by
  obtain ⟨av, hw⟩ := hw
  exact r_alen S hg hw (k := 13) (i := i) hi 1 rfl rfl hd kk
theorem a16 (S : CallFix p m c cc nL s args WU own) (hg : GI D cI e0 A s s.heap) (hw : HT D cI e0 A ad K M ap o od H) {i : Nat} (hi : mArr i = true) {j : Int32} (hj : vp_in j (mLen i)) (hd : decode cc pc = .ok (.iaload, 1)) (kk : W p l e R s m args below meth c H locs cells slots Q (F0 m (pc + 1) ls (.int (M 16 i j.toNatClampNeg) :: rest))) : W p l e R s m args below meth c H locs cells slots Q (F0 m pc ls (.int j :: .ref (ad 16 i) :: rest)) := by
  obtain ⟨av, hw⟩ := hw
  exact r_iald S hg hw (k := 16) (i := i) hi rfl hj hd kk
set_option maxHeartbeats 1000000 in
theorem s16 (S : CallFix p m c cc nL s args WU own) (hg : GI D cI e0 A s s.heap) (hS : va_S A s.heap H locs) (hw : HT D cI e0 A ad K M ap o od H) {i : Nat} (hi : mArr i = true) {j x : Int32} (hj : vp_in j (mLen i)) (hd : decode cc pc = .ok (.iastore, 1)) (kk : ∀ (H1 : Heap) (locs1 : List Loc), HT D cI e0 A ad K (k3 M 16 i j.toNatClampNeg x) ap o od H1 → va_S A s.heap H1 locs1 → W p l e R s m args below meth c H1 locs1 cells slots Q (F0 m (pc + 1) ls rest)) : W p l e R s m args below meth c H locs cells slots Q (F0 m pc ls (.int x :: .int j :: .ref (ad 16 i) :: rest)) := by
  obtain ⟨av, hw⟩ := hw
  refine r_iast S hg hS hw (k := 16) (i := i) hi rfl hj hd (fun H1 locs1 hw hS => kk H1 locs1 ⟨av, hw.same (fun _ _ h => h) (fun _ _ _ => rfl) (fun k i2 hl => ?_)⟩ hS)
  by_cases hc : k = 16 ∧ i2 = i
  · obtain ⟨rfl, rfl⟩ := hc
    rw [hU_s]
    simp [ctK, k3_r]
  · rw [hU_n _ _ hc]
    by_cases hk2 : k = 16
    · subst hk2
      have hc2 : ¬ i2 = i := fun h => hc ⟨rfl, h⟩
      simp [ctK, k3_b, hc2]
    · unfold ctK
      split <;> first | rfl | (exact absurd rfl hk2)
theorem n16 (S : CallFix p m c cc nL s args WU own) (hg : GI D cI e0 A s s.heap) (hw : HT D cI e0 A ad K M ap o od H) {i : Nat} (hi : mArr i = true) (hd : decode cc pc = .ok (.arraylength, 1)) (kk : W p l e R s m args below meth c H locs cells slots Q (F0 m (pc + 1) ls (.int (nI (mLen i)) :: rest))) : W p l e R s m args below meth c H locs cells slots Q (F0 m pc ls (.ref (ad 16 i) :: rest)) := by
  obtain ⟨av, hw⟩ := hw
  exact r_alen S hg hw (k := 16) (i := i) hi 0 rfl rfl hd kk
theorem a17 (S : CallFix p m c cc nL s args WU own) (hg : GI D cI e0 A s s.heap) (hw : HT D cI e0 A ad K M ap o od H) {i : Nat} (hi : i < nD K) {j : Int32} (hj : vp_in j (8)) (hd : decode cc pc = .ok (.iaload, 1)) (kk : W p l e R s m args below meth c H locs cells slots Q (F0 m (pc + 1) ls (.int (K 17 i j.toNatClampNeg) :: rest))) : W p l e R s m args below meth c H locs cells slots Q (F0 m pc ls (.int j :: .ref (ad 17 i) :: rest)) := by
  obtain ⟨av, hw⟩ := hw
  exact r_iald S hg hw (k := 17) (i := i) hi rfl hj hd kk
set_option maxHeartbeats 1000000 in
theorem s17 (S : CallFix p m c cc nL s args WU own) (hg : GI D cI e0 A s s.heap) (hS : va_S A s.heap H locs) (hw : HT D cI e0 A ad K M ap o od H) {i : Nat} (hi : i < nD K) {j x : Int32} (hj : vp_in j (8)) (hd : decode cc pc = .ok (.iastore, 1)) (kk : ∀ (H1 : Heap) (locs1 : List Loc), HT D cI e0 A ad (k3 K 17 i j.toNatClampNeg x) M ap o od H1 → va_S A s.heap H1 locs1 → W p l e R s m args below meth c H1 locs1 cells slots Q (F0 m (pc + 1) ls rest)) : W p l e R s m args below meth c H locs cells slots Q (F0 m pc ls (.int x :: .int j :: .ref (ad 17 i) :: rest)) := by
  obtain ⟨av, hw⟩ := hw
  refine r_iast S hg hS hw (k := 17) (i := i) hi rfl hj hd (fun H1 locs1 hw hS => kk H1 locs1 ⟨av, hw.same (fun _ _ h => h) (fun _ _ _ => rfl) (fun k i2 hl => ?_)⟩ hS)
  by_cases hc : k = 17 ∧ i2 = i
  · obtain ⟨rfl, rfl⟩ := hc
    rw [hU_s]
    simp [ctK, k3_r]
  · rw [hU_n _ _ hc]
    by_cases hk2 : k = 17
    · subst hk2
      have hc2 : ¬ i2 = i := fun h => hc ⟨rfl, h⟩
      simp [ctK, k3_b, hc2]
    · unfold ctK
      split <;> first | rfl | (exact absurd rfl hk2)
theorem n17 (S : CallFix p m c cc nL s args WU own) (hg : GI D cI e0 A s s.heap) (hw : HT D cI e0 A ad K M ap o od H) {i : Nat} (hi : i < nD K) (hd : decode cc pc = .ok (.arraylength, 1)) (kk : W p l e R s m args below meth c H locs cells slots Q (F0 m (pc + 1) ls (.int (nI (8)) :: rest))) : W p l e R s m args below meth c H locs cells slots Q (F0 m pc ls (.ref (ad 17 i) :: rest)) := by
  obtain ⟨av, hw⟩ := hw
  exact r_alen S hg hw (k := 17) (i := i) hi 0 rfl rfl hd kk
theorem a18 (S : CallFix p m c cc nL s args WU own) (hg : GI D cI e0 A s s.heap) (hw : HT D cI e0 A ad K M ap o od H) {i : Nat} (hi : i < 2 * nD K) {j : Int32} (hj : vp_in j (8)) (hd : decode cc pc = .ok (.iaload, 1)) (kk : W p l e R s m args below meth c H locs cells slots Q (F0 m (pc + 1) ls (.int (K 18 i j.toNatClampNeg) :: rest))) : W p l e R s m args below meth c H locs cells slots Q (F0 m pc ls (.int j :: .ref (ad 18 i) :: rest)) := by
  obtain ⟨av, hw⟩ := hw
  exact r_iald S hg hw (k := 18) (i := i) hi rfl hj hd kk
set_option maxHeartbeats 1000000 in
theorem s18 (S : CallFix p m c cc nL s args WU own) (hg : GI D cI e0 A s s.heap) (hS : va_S A s.heap H locs) (hw : HT D cI e0 A ad K M ap o od H) {i : Nat} (hi : i < 2 * nD K) {j x : Int32} (hj : vp_in j (8)) (hd : decode cc pc = .ok (.iastore, 1)) (kk : ∀ (H1 : Heap) (locs1 : List Loc), HT D cI e0 A ad (k3 K 18 i j.toNatClampNeg x) M ap o od H1 → va_S A s.heap H1 locs1 → W p l e R s m args below meth c H1 locs1 cells slots Q (F0 m (pc + 1) ls rest)) : W p l e R s m args below meth c H locs cells slots Q (F0 m pc ls (.int x :: .int j :: .ref (ad 18 i) :: rest)) := by
  obtain ⟨av, hw⟩ := hw
  refine r_iast S hg hS hw (k := 18) (i := i) hi rfl hj hd (fun H1 locs1 hw hS => kk H1 locs1 ⟨av, hw.same (fun _ _ h => h) (fun _ _ _ => rfl) (fun k i2 hl => ?_)⟩ hS)
  by_cases hc : k = 18 ∧ i2 = i
  · obtain ⟨rfl, rfl⟩ := hc
    rw [hU_s]
    simp [ctK, k3_r]
  · rw [hU_n _ _ hc]
    by_cases hk2 : k = 18
    · subst hk2
      have hc2 : ¬ i2 = i := fun h => hc ⟨rfl, h⟩
      simp [ctK, k3_b, hc2]
    · unfold ctK
      split <;> first | rfl | (exact absurd rfl hk2)
theorem n18 (S : CallFix p m c cc nL s args WU own) (hg : GI D cI e0 A s s.heap) (hw : HT D cI e0 A ad K M ap o od H) {i : Nat} (hi : i < 2 * nD K) (hd : decode cc pc = .ok (.arraylength, 1)) (kk : W p l e R s m args below meth c H locs cells slots Q (F0 m (pc + 1) ls (.int (nI (8)) :: rest))) : W p l e R s m args below meth c H locs cells slots Q (F0 m pc ls (.ref (ad 18 i) :: rest)) := by
  obtain ⟨av, hw⟩ := hw
  exact r_alen S hg hw (k := 18) (i := i) hi 0 rfl rfl hd kk
theorem a19 (S : CallFix p m c cc nL s args WU own) (hg : GI D cI e0 A s s.heap) (hw : HT D cI e0 A ad K M ap o od H) {i : Nat} (hi : i < 6 * nD K) {j : Int32} (hj : vp_in j (6)) (hd : decode cc pc = .ok (.iaload, 1)) (kk : W p l e R s m args below meth c H locs cells slots Q (F0 m (pc + 1) ls (.int (K 19 i j.toNatClampNeg) :: rest))) : W p l e R s m args below meth c H locs cells slots Q (F0 m pc ls (.int j :: .ref (ad 19 i) :: rest)) := by
  obtain ⟨av, hw⟩ := hw
  exact r_iald S hg hw (k := 19) (i := i) hi rfl hj hd kk
set_option maxHeartbeats 1000000 in
theorem s19 (S : CallFix p m c cc nL s args WU own) (hg : GI D cI e0 A s s.heap) (hS : va_S A s.heap H locs) (hw : HT D cI e0 A ad K M ap o od H) {i : Nat} (hi : i < 6 * nD K) {j x : Int32} (hj : vp_in j (6)) (hd : decode cc pc = .ok (.iastore, 1)) (kk : ∀ (H1 : Heap) (locs1 : List Loc), HT D cI e0 A ad (k3 K 19 i j.toNatClampNeg x) M ap o od H1 → va_S A s.heap H1 locs1 → W p l e R s m args below meth c H1 locs1 cells slots Q (F0 m (pc + 1) ls rest)) : W p l e R s m args below meth c H locs cells slots Q (F0 m pc ls (.int x :: .int j :: .ref (ad 19 i) :: rest)) := by
  obtain ⟨av, hw⟩ := hw
  refine r_iast S hg hS hw (k := 19) (i := i) hi rfl hj hd (fun H1 locs1 hw hS => kk H1 locs1 ⟨av, hw.same (fun _ _ h => h) (fun _ _ _ => rfl) (fun k i2 hl => ?_)⟩ hS)
  by_cases hc : k = 19 ∧ i2 = i
  · obtain ⟨rfl, rfl⟩ := hc
    rw [hU_s]
    simp [ctK, k3_r]
  · rw [hU_n _ _ hc]
    by_cases hk2 : k = 19
    · subst hk2
      have hc2 : ¬ i2 = i := fun h => hc ⟨rfl, h⟩
      simp [ctK, k3_b, hc2]
    · unfold ctK
      split <;> first | rfl | (exact absurd rfl hk2)
theorem n19 (S : CallFix p m c cc nL s args WU own) (hg : GI D cI e0 A s s.heap) (hw : HT D cI e0 A ad K M ap o od H) {i : Nat} (hi : i < 6 * nD K) (hd : decode cc pc = .ok (.arraylength, 1)) (kk : W p l e R s m args below meth c H locs cells slots Q (F0 m (pc + 1) ls (.int (nI (6)) :: rest))) : W p l e R s m args below meth c H locs cells slots Q (F0 m pc ls (.ref (ad 19 i) :: rest)) := by
  obtain ⟨av, hw⟩ := hw
  exact r_alen S hg hw (k := 19) (i := i) hi 0 rfl rfl hd kk
theorem a20 (S : CallFix p m c cc nL s args WU own) (hg : GI D cI e0 A s s.heap) (hw : HT D cI e0 A ad K M ap o od H) {i : Nat} (hi : i < 6 * nD K) {j : Int32} (hj : vp_in j (8)) (hd : decode cc pc = .ok (.iaload, 1)) (kk : W p l e R s m args below meth c H locs cells slots Q (F0 m (pc + 1) ls (.int (K 20 i j.toNatClampNeg) :: rest))) : W p l e R s m args below meth c H locs cells slots Q (F0 m pc ls (.int j :: .ref (ad 20 i) :: rest)) := by
  obtain ⟨av, hw⟩ := hw
  exact r_iald S hg hw (k := 20) (i := i) hi rfl hj hd kk
set_option maxHeartbeats 1000000 in
theorem s20 (S : CallFix p m c cc nL s args WU own) (hg : GI D cI e0 A s s.heap) (hS : va_S A s.heap H locs) (hw : HT D cI e0 A ad K M ap o od H) {i : Nat} (hi : i < 6 * nD K) {j x : Int32} (hj : vp_in j (8)) (hd : decode cc pc = .ok (.iastore, 1)) (kk : ∀ (H1 : Heap) (locs1 : List Loc), HT D cI e0 A ad (k3 K 20 i j.toNatClampNeg x) M ap o od H1 → va_S A s.heap H1 locs1 → W p l e R s m args below meth c H1 locs1 cells slots Q (F0 m (pc + 1) ls rest)) : W p l e R s m args below meth c H locs cells slots Q (F0 m pc ls (.int x :: .int j :: .ref (ad 20 i) :: rest)) := by
  obtain ⟨av, hw⟩ := hw
  refine r_iast S hg hS hw (k := 20) (i := i) hi rfl hj hd (fun H1 locs1 hw hS => kk H1 locs1 ⟨av, hw.same (fun _ _ h => h) (fun _ _ _ => rfl) (fun k i2 hl => ?_)⟩ hS)
  by_cases hc : k = 20 ∧ i2 = i
  · obtain ⟨rfl, rfl⟩ := hc
    rw [hU_s]
    simp [ctK, k3_r]
  · rw [hU_n _ _ hc]
    by_cases hk2 : k = 20
    · subst hk2
      have hc2 : ¬ i2 = i := fun h => hc ⟨rfl, h⟩
      simp [ctK, k3_b, hc2]
    · unfold ctK
      split <;> first | rfl | (exact absurd rfl hk2)
theorem n20 (S : CallFix p m c cc nL s args WU own) (hg : GI D cI e0 A s s.heap) (hw : HT D cI e0 A ad K M ap o od H) {i : Nat} (hi : i < 6 * nD K) (hd : decode cc pc = .ok (.arraylength, 1)) (kk : W p l e R s m args below meth c H locs cells slots Q (F0 m (pc + 1) ls (.int (nI (8)) :: rest))) : W p l e R s m args below meth c H locs cells slots Q (F0 m pc ls (.ref (ad 20 i) :: rest)) := by
  obtain ⟨av, hw⟩ := hw
  exact r_alen S hg hw (k := 20) (i := i) hi 0 rfl rfl hd kk
theorem a12 (S : CallFix p m c cc nL s args WU own) (hg : GI D cI e0 A s s.heap) (hw : HT D cI e0 A ad K M ap o od H) {i : Nat} (hi : i < nD K) {j : Int32} (hj : vp_in j 6) (hd : decode cc pc = .ok (.aaload, 1)) (kk : W p l e R s m args below meth c H locs cells slots Q (F0 m (pc + 1) ls (.ref (ad 19 (6 * i + j.toNatClampNeg)) :: rest))) : W p l e R s m args below meth c H locs cells slots Q (F0 m pc ls (.int j :: .ref (ad 12 i) :: rest)) := by
  obtain ⟨av, hw⟩ := hw
  exact r_aald S hg hw (k := 12) (i := i) hi rfl hj (if_pos (Nat.not_le.mp fun q => hj (Or.inr q))) hd kk
theorem a21 (S : CallFix p m c cc nL s args WU own) (hg : GI D cI e0 A s s.heap) (hw : HT D cI e0 A ad K M ap o od H) {i : Nat} (hi : i < nD K) {j : Int32} (hj : vp_in j 6) (hd : decode cc pc = .ok (.aaload, 1)) (kk : W p l e R s m args below meth c H locs cells slots Q (F0 m (pc + 1) ls (.ref (ad 20 (6 * i + j.toNatClampNeg)) :: rest))) : W p l e R s m args below meth c H locs cells slots Q (F0 m pc ls (.int j :: .ref (ad 21 i) :: rest)) := by
  obtain ⟨av, hw⟩ := hw
  exact r_aald S hg hw (k := 21) (i := i) hi rfl hj (if_pos (Nat.not_le.mp fun q => hj (Or.inr q))) hd kk
end TYPED
end
section
/-! what the walks print in: posts, throws, lists, copies -/
abbrev rI : Int32 → Option Value := fun r => some (.int r)
abbrev rL : Int64 → Option Value := fun r => some (.long r)
abbrev rF : UInt32 → Option Value := fun r => some (.float r)
abbrev rD : UInt64 → Option Value := fun r => some (.double r)
abbrev rV : Unit → Option Value := fun _ => none
abbrev rR (ad : Nat → Nat → Nat) (k : Nat) : Nat → Option Value := fun i => some (.ref (ad k i))
def qP (D : va_G) (cI : Nat → ClassId) (e0 : Nat) (A : Nat → Prop) (ad : Nat → Nat → Nat) (K M : KS) (ap o : Int64) (od : UInt64) {α : Type} (val : α → Option Value) (post : α → Prop) (rv : Option Value) (H : Heap) : Prop := ∃ r, rv = val r ∧ post r ∧ HT D cI e0 A ad K M ap o od H
def xP (D : va_G) (cI : Nat → ClassId) (e0 : Nat) (A : Nat → Prop) (ad : Nat → Nat → Nat) (K M : KS) (ap o : Int64) (od : UInt64) (px : String → Prop) (E : String) (H : Heap) : Prop := px E ∧ HT D cI e0 A ad K M ap o od H
def qK (D : va_G) (cI : Nat → ClassId) (e0 : Nat) (A : Nat → Prop) (ad : Nat → Nat → Nat) (M : KS) (ap o : Int64) (od : UInt64) {α : Type} (val : α → Option Value) (post : α → KS → Prop) (rv : Option Value) (H : Heap) : Prop := ∃ r K, rv = val r ∧ post r K ∧ HT D cI e0 A ad K M ap o od H
def xK (D : va_G) (cI : Nat → ClassId) (e0 : Nat) (A : Nat → Prop) (ad : Nat → Nat → Nat) (M : KS) (ap o : Int64) (od : UInt64) (px : String → KS → Prop) (E : String) (H : Heap) : Prop := ∃ K, px E K ∧ HT D cI e0 A ad K M ap o od H
def qM (D : va_G) (cI : Nat → ClassId) (e0 : Nat) (A : Nat → Prop) (ad : Nat → Nat → Nat) (K : KS) (o : Int64) (od : UInt64) {α : Type} (val : α → Option Value) (post : α → KS → Int64 → Prop) (rv : Option Value) (H : Heap) : Prop := ∃ r M ap, rv = val r ∧ post r M ap ∧ HT D cI e0 A ad K M ap o od H
def xN (_ : String) (_ : Heap) : Prop := False
abbrev MQQ (below : List Frame) (QQ : Option Value → Heap → Prop) (XX : String → Heap → Prop) (args : Array Value) (s : State) (mc ms : Nat) (A : Nat → Prop) : State → Prop := vx_MQ below (fun _ st oc t => (∃ r, oc = .returned r ∧ QQ r t.heap) ∧ va_F A st t) (fun E st t => XX E t.heap ∧ va_F A st t) args s mc ms A
theorem nfw : nativeFrameWords "java/lang/System" "arraycopy" 5 ≤ 19 := by decide
theorem lt2 {a b : Nat} (h : a < b) : 2 * a < 2 * b := by omega
theorem lt2s {a b : Nat} (h : a < b) : 2 * a + 1 < 2 * b := by omega
theorem vp_in_lt {j : Int32} {n : Nat} (h : vp_in j n) : j.toNatClampNeg < n := Nat.not_le.mp fun q => h (Or.inr q)
theorem lt6 {a b : Nat} {j : Int32} (h : a < b) (hj : vp_in j 6) : 6 * a + j.toNatClampNeg < 6 * b := by
  have := vp_in_lt hj
  omega
theorem lv8 {K : KS} (n : Nat) (h : n < 4 := by decide) : n < 4 + 2 * nD K := by omega
theorem lv8s {K : KS} {n : Nat} (h : n < 2 * nD K) : n + 4 < 4 + 2 * nD K := by omega
/-- a row, all of it -/
def kr (K : KS) (a b : Nat) (f : Nat → Int32) : KS := va_up K a (va_up (K a) b f)
theorem kr_a (K : KS) {a b a' : Nat} (f : Nat → Int32) (h : ¬ a' = a) : kr K a b f a' = K a' := va_up_n _ _ h
theorem kr_b (K : KS) {a b b' : Nat} (f : Nat → Int32) (h : ¬ b' = b) : kr K a b f a b' = K a b' := by unfold kr; rw [va_up_s, va_up_n _ _ h]
theorem kr_s (K : KS) (a b : Nat) (f : Nat → Int32) : kr K a b f a b = f := by unfold kr; rw [va_up_s, va_up_s]
def okCpy (sp dp n : Int32) (a b : Nat) : Prop := ¬ sp < 0 ∧ ¬ dp < 0 ∧ ¬ n < 0 ∧ sp.toNatClampNeg + n.toNatClampNeg ≤ a ∧ dp.toNatClampNeg + n.toNatClampNeg ≤ b
/-- get(j) of list n -/
def okGet (K : KS) (n : Nat) (j : Int32) : Prop := ¬ j < 0 ∧ j < K 8 2 n ∧ K 8 3 n ≠ 0 ∧ (K 8 2 n).toNatClampNeg ≤ (K 8 3 n).toNatClampNeg
/-- the room of a list of c elements of room n after an add -/
def lCap (c n : Int32) : Int32 := if n = 0 then 10 else if c = n then nI (n.toNatClampNeg + n.toNatClampNeg / 2) else n
def lAdd (K : KS) (n : Nat) (x : Nat) : KS := k3 (k3 (k3 (k3 K 8 0 n (K 8 0 n + 1)) 8 3 n (lCap (K 8 2 n) (K 8 3 n))) 9 n (K 8 2 n).toNatClampNeg (nI x)) 8 2 n (K 8 2 n + 1)
/-- add(x) to list n, which makes mc objects of ms places -/
def okAdd (K : KS) (n mc ms : Nat) : Prop := ∃ k q : Nat, K 8 2 n = nI k ∧ K 8 3 n = nI q ∧ k ≤ q ∧ q ≤ 40000 ∧ (q = 0 ∨ 2 ≤ q) ∧ (k = q → 1 ≤ mc ∧ (q = 0 → 10 ≤ ms) ∧ (q ≠ 0 → q + q / 2 ≤ ms) ∧ ∀ j, j < q → lvK K (ek n) (K 9 n j).toNatClampNeg)
section SUPPORT
variable {p : Program} {l : Launch} {e : Env} {R : Room} {s : State} {m : MethodId} {args : Array Value} {below : List Frame} {meth : Method} {c : Code} {H : Heap} {locs : List Loc} {cells slots : Nat} {Q : State → Prop}
variable {D : va_G} {cI : Nat → ClassId} {e0 : Nat} {A : Nat → Prop} {ad av : Nat → Nat → Nat} {K M : KS} {ap o : Int64} {od : UInt64}
variable {cc : ByteArray} {nL pc : Nat} {ls : Array Slot} {rest : List Value} {own : String} {index : Nat}
theorem HW.inj {adr : Nat → Nat → Nat} {G : Nat → Nat → va_E} {live : Nat → Nat → Prop} (h : HW D A live adr G H) {k i k2 i2 : Nat} (h1 : live k i) (h2 : live k2 i2) (e : adr k i = adr k2 i2) : k = k2 ∧ i = i2 := by
  obtain ⟨ids, q1, q2, q3⟩ := h
  obtain ⟨n, n1, n2⟩ := hws_at (adr := adr) (G := G) (q1 _ _ h1)
  obtain ⟨n', n3, n4⟩ := hws_at (adr := adr) (G := G) (q1 _ _ h2)
  have := q3.1 _ _ _ _ n2 n4 e
  subst this
  have h5 := n1.symm.trans n3
  have h6 := Option.some.inj h5
  exact ⟨congrArg Prod.fst h6, congrArg Prod.snd h6⟩
theorem HT.more {H1 : Heap} (h : HT D cI e0 A ad K M ap o od H) (hk : ∀ q : Nat, q < H.size → H1[q]? = H[q]?) : HT D cI e0 A ad K M ap o od H1 := by
  obtain ⟨av, h⟩ := h
  exact ⟨av, HW.more h hk⟩
theorem inj4 (hw : HT D cI e0 A ad K M ap o od H) {i j : Nat} (hi : i < nC K) (hj : j < nC K) (e : ad 4 i = ad 4 j) : i = j := by
  obtain ⟨av, hw⟩ := hw
  exact (HW.inj hw (k := 4) (k2 := 4) hi hj e).2
theorem inj5 (hw : HT D cI e0 A ad K M ap o od H) {i j : Nat} (hi : i < nO K) (hj : j < nO K) (e : ad 5 i = ad 5 j) : i = j := by
  obtain ⟨av, hw⟩ := hw
  exact (HW.inj hw (k := 5) (k2 := 5) hi hj e).2
theorem inj6 (hw : HT D cI e0 A ad K M ap o od H) {i j : Nat} (hi : i < nD K) (hj : j < nD K) (e : ad 6 i = ad 6 j) : i = j := by
  obtain ⟨av, hw⟩ := hw
  exact (HW.inj hw (k := 6) (k2 := 6) hi hj e).2
theorem inj7 (hw : HT D cI e0 A ad K M ap o od H) {i j : Nat} (hi : i < 2 * nD K) (hj : j < 2 * nD K) (e : ad 7 i = ad 7 j) : i = j := by
  obtain ⟨av, hw⟩ := hw
  exact (HW.inj hw (k := 7) (k2 := 7) hi hj e).2
theorem rv0 (hg : GI D cI e0 A s s.heap) (hw : HT D cI e0 A ad K M ap o od H) : ∃ cell : Cell, H[ad 0 0]? = some cell ∧ cell.vm.isStatics = false ∧ s.vm.findClass RX6 = some cell.cls := by
  obtain ⟨av, hw⟩ := hw
  exact r_recv hg hw (k := 0) (i := 0) rfl rfl (q := (RX6, TX6, 12)) rfl
theorem rv1 (hg : GI D cI e0 A s s.heap) (hw : HT D cI e0 A ad K M ap o od H) : ∃ cell : Cell, H[ad 1 0]? = some cell ∧ cell.vm.isStatics = false ∧ s.vm.findClass RX3 = some cell.cls := by
  obtain ⟨av, hw⟩ := hw
  exact r_recv hg hw (k := 1) (i := 0) rfl rfl (q := (RX3, TX3, 2)) rfl
theorem rv2 (hg : GI D cI e0 A s s.heap) (hw : HT D cI e0 A ad K M ap o od H) : ∃ cell : Cell, H[ad 2 0]? = some cell ∧ cell.vm.isStatics = false ∧ s.vm.findClass RX0 = some cell.cls := by
  obtain ⟨av, hw⟩ := hw
  exact r_recv hg hw (k := 2) (i := 0) rfl rfl (q := (RX0, TX0, 2)) rfl
theorem rv3 (hg : GI D cI e0 A s s.heap) (hw : HT D cI e0 A ad K M ap o od H) : ∃ cell : Cell, H[ad 3 0]? = some cell ∧ cell.vm.isStatics = false ∧ s.vm.findClass RX7 = some cell.cls := by
  obtain ⟨av, hw⟩ := hw
  exact r_recv hg hw (k := 3) (i := 0) rfl rfl (q := (RX7, TX7, 38)) rfl
theorem rv4 (hg : GI D cI e0 A s s.heap) (hw : HT D cI e0 A ad K M ap o od H) {i : Nat} (hi : i < nC K) : ∃ cell : Cell, H[ad 4 i]? = some cell ∧ cell.vm.isStatics = false ∧ s.vm.findClass RX1 = some cell.cls := by
  obtain ⟨av, hw⟩ := hw
  exact r_recv hg hw (k := 4) (i := i) hi rfl (q := (RX1, TX1, 6)) rfl
theorem rv5 (hg : GI D cI e0 A s s.heap) (hw : HT D cI e0 A ad K M ap o od H) {i : Nat} (hi : i < nO K) : ∃ cell : Cell, H[ad 5 i]? = some cell ∧ cell.vm.isStatics = false ∧ s.vm.findClass RX4 = some cell.cls := by
  obtain ⟨av, hw⟩ := hw
  exact r_recv hg hw (k := 5) (i := i) hi rfl (q := (RX4, TX4, 6)) rfl
theorem rv6 (hg : GI D cI e0 A s s.heap) (hw : HT D cI e0 A ad K M ap o od H) {i : Nat} (hi : i < nD K) : ∃ cell : Cell, H[ad 6 i]? = some cell ∧ cell.vm.isStatics = false ∧ s.vm.findClass RX2 = some cell.cls := by
  obtain ⟨av, hw⟩ := hw
  exact r_recv hg hw (k := 6) (i := i) hi rfl (q := (RX2, TX2, 11)) rfl
theorem rv7 (hg : GI D cI e0 A s s.heap) (hw : HT D cI e0 A ad K M ap o od H) {i : Nat} (hi : i < 2 * nD K) : ∃ cell : Cell, H[ad 7 i]? = some cell ∧ cell.vm.isStatics = false ∧ s.vm.findClass RX5 = some cell.cls := by
  obtain ⟨av, hw⟩ := hw
  exact r_recv hg hw (k := 7) (i := i) hi rfl (q := (RX5, TX5, 4)) rfl
theorem ck4 (S : CallFix p m c cc nL s args WU own) (hg : GI D cI e0 A s s.heap) (hw : HT D cI e0 A ad K M ap o od H) {i : Nat} (hi : i < nC K) (hl : Cond.classLink own index "SnapshotArena$Card" ∈ WU) (hd : decode cc pc = .ok (.checkcast index, 3)) (kk : W p l e R s m args below meth c H locs cells slots Q (F0 m (pc + 3) ls (.ref (ad 4 i) :: rest))) : W p l e R s m args below meth c H locs cells slots Q (F0 m pc ls (.ref (ad 4 i) :: rest)) :=
  va_castS S.1 S.2.1 (cC := D.1 4) S.2.2.2.1 (S.2.2.2.2 _ hl) (hg.1.1 4 _ rfl).2 (rv4 hg hw hi) hd kk
theorem ck5 (S : CallFix p m c cc nL s args WU own) (hg : GI D cI e0 A s s.heap) (hw : HT D cI e0 A ad K M ap o od H) {i : Nat} (hi : i < nO K) (hl : Cond.classLink own index "SnapshotArena$Offer" ∈ WU) (hd : decode cc pc = .ok (.checkcast index, 3)) (kk : W p l e R s m args below meth c H locs cells slots Q (F0 m (pc + 3) ls (.ref (ad 5 i) :: rest))) : W p l e R s m args below meth c H locs cells slots Q (F0 m pc ls (.ref (ad 5 i) :: rest)) :=
  va_castS S.1 S.2.1 (cC := D.1 7) S.2.2.2.1 (S.2.2.2.2 _ hl) (hg.1.1 7 _ rfl).2 (rv5 hg hw hi) hd kk
theorem ck6 (S : CallFix p m c cc nL s args WU own) (hg : GI D cI e0 A s s.heap) (hw : HT D cI e0 A ad K M ap o od H) {i : Nat} (hi : i < nD K) (hl : Cond.classLink own index "SnapshotArena$Duel" ∈ WU) (hd : decode cc pc = .ok (.checkcast index, 3)) (kk : W p l e R s m args below meth c H locs cells slots Q (F0 m (pc + 3) ls (.ref (ad 6 i) :: rest))) : W p l e R s m args below meth c H locs cells slots Q (F0 m pc ls (.ref (ad 6 i) :: rest)) :=
  va_castS S.1 S.2.1 (cC := D.1 5) S.2.2.2.1 (S.2.2.2.2 _ hl) (hg.1.1 5 _ rfl).2 (rv6 hg hw hi) hd kk
def HTa (D : va_G) (cI : Nat → ClassId) (e0 : Nat) (A : Nat → Prop) (ad : Nat → Nat → Nat) (K M : KS) (ap o : Int64) (od : UInt64) (a : Nat) (H : Heap) : Prop := ∃ av, av 11 0 = a ∧ HW D A (lvK K) (adK ad av) (ctK cI e0 ad av K M ap o od) H
theorem g1_0 (S : CallFix p m c cc nL s args WU own) (hg : GI D cI e0 A s s.heap) (hw : HT D cI e0 A ad K M ap o od H) (hk : Cond.fieldLink own index "SnapshotArena$Ledger" "rows" "[I" ∈ WU) (hd : decode cc pc = .ok (.getfield index, 3)) (kk : ∀ a : Nat, HTa D cI e0 A ad K M ap o od a H → W p l e R s m args below meth c H locs cells slots Q (F0 m (pc + 3) ls (.ref a :: rest))) : W p l e R s m args below meth c H locs cells slots Q (F0 m pc ls (.ref (ad 1 0) :: rest)) := by
  obtain ⟨av, hw⟩ := hw
  exact r_get S hg hw (k := 1) (i := 0) rfl rfl rfl iWX3 0 (by decide) hk rfl hd (kk _ ⟨av, rfl, hw⟩)
theorem n11 {a : Nat} (S : CallFix p m c cc nL s args WU own) (hg : GI D cI e0 A s s.heap) (hw : HTa D cI e0 A ad K M ap o od a H) (hd : decode cc pc = .ok (.arraylength, 1)) (kk : W p l e R s m args below meth c H locs cells slots Q (F0 m (pc + 1) ls (.int (nI (K 1 5 0).toNatClampNeg) :: rest))) : W p l e R s m args below meth c H locs cells slots Q (F0 m pc ls (.ref a :: rest)) := by
  obtain ⟨av, rfl, hw⟩ := hw
  exact r_alen S hg hw (k := 11) (i := 0) rfl 0 rfl rfl hd kk
theorem a11 {a : Nat} (S : CallFix p m c cc nL s args WU own) (hg : GI D cI e0 A s s.heap) (hw : HTa D cI e0 A ad K M ap o od a H) {j : Int32} (hj : vp_in j (K 1 5 0).toNatClampNeg) (hd : decode cc pc = .ok (.iaload, 1)) (kk : W p l e R s m args below meth c H locs cells slots Q (F0 m (pc + 1) ls (.int (K 11 0 j.toNatClampNeg) :: rest))) : W p l e R s m args below meth c H locs cells slots Q (F0 m pc ls (.int j :: .ref a :: rest)) := by
  obtain ⟨av, rfl, hw⟩ := hw
  exact r_iald S hg hw (k := 11) (i := 0) rfl rfl hj hd kk
set_option maxHeartbeats 1000000 in
theorem cp_10_10 (S : CallFix p m c cc nL s args WU own) (hg : GI D cI e0 A s s.heap) (hS : va_S A s.heap H locs) (hw : HT D cI e0 A ad K M ap o od H) {i1 i2 : Nat} (h1 : i1 < 4) (h2 : i2 < 4) {sp dp n : Int32} (hok : okCpy sp dp n (aLen i1) (aLen i2)) (hsz : ls.size = nL) (hf : 1 ≤ R.frames) (hlo : (rest.map fun v => v.category).sum + 30 ≤ R.locals) (hl : Cond.methodLink own index arraycopyName ∈ WU) (hd : decode cc pc = .ok (.invokestatic index, 3))
    (kk : ∀ (H1 : Heap) (locs1 : List Loc), HT D cI e0 A ad (kr K 10 i2 (va_cpy (K 10 i1) (K 10 i2) sp.toNatClampNeg dp.toNatClampNeg n.toNatClampNeg)) M ap o od H1 → va_S A s.heap H1 locs1 → W p l e R s m args below meth c H1 locs1 cells slots Q (F0 m (pc + 3) ls rest)) : W p l e R s m args below meth c H locs cells slots Q (F0 m pc ls (.int n :: .int dp :: .ref (ad 10 i2) :: .int sp :: .ref (ad 10 i1) :: rest)) := by
  obtain ⟨av, hw⟩ := hw
  obtain ⟨ids, q1, q2, q3⟩ := hw
  obtain ⟨a, -, a2⟩ := hws_at (adr := adK ad av) (G := ctK cI e0 ad av K M ap o od) (q1 10 i1 h1)
  obtain ⟨b, b1, b2⟩ := hws_at (adr := adK ad av) (G := ctK cI e0 ad av K M ap o od) (q1 10 i2 h2)
  obtain ⟨o1, o2, o3, o4, o5⟩ := hok
  refine va_copyi (rest := rest) S.1 S.2.1 (S.2.2.1.trans hsz.symm) S.2.2.2.1 (S.2.2.2.2 _ hl) (S.2.2.2.2 _ u467) (S.2.2.2.2 _ u466) (S.2.2.2.2 _ u62) hg.1 q2 q3 hS a b 0 0 a2 b2 rfl rfl rfl o1 o2 o3 o4 o5 (fun _ _ => rfl) hf (by have := nfw; omega) hd (fun H1 locs1 hP hD hS => kk H1 locs1 ⟨av, (HW.set q3 q1 b1 hP hD).same (fun _ _ h => h) (fun _ _ _ => rfl) (fun k i3 hl => ?_)⟩ hS)
  by_cases hc : k = 10 ∧ i3 = i2
  · obtain ⟨rfl, rfl⟩ := hc
    rw [hU_s]
    simp [ctK, kr_s]
  · rw [hU_n _ _ hc]
    by_cases hk2 : k = 10
    · subst hk2
      have hc2 : ¬ i3 = i2 := fun h => hc ⟨rfl, h⟩
      simp [ctK, kr_b, hc2]
    · unfold ctK
      split <;> first | rfl | (exact absurd rfl hk2)
set_option maxHeartbeats 1000000 in
theorem cp_18_10 (S : CallFix p m c cc nL s args WU own) (hg : GI D cI e0 A s s.heap) (hS : va_S A s.heap H locs) (hw : HT D cI e0 A ad K M ap o od H) {i1 i2 : Nat} (h1 : i1 < 2 * nD K) (h2 : i2 < 4) {sp dp n : Int32} (hok : okCpy sp dp n (8) (aLen i2)) (hsz : ls.size = nL) (hf : 1 ≤ R.frames) (hlo : (rest.map fun v => v.category).sum + 30 ≤ R.locals) (hl : Cond.methodLink own index arraycopyName ∈ WU) (hd : decode cc pc = .ok (.invokestatic index, 3))
    (kk : ∀ (H1 : Heap) (locs1 : List Loc), HT D cI e0 A ad (kr K 10 i2 (va_cpy (K 18 i1) (K 10 i2) sp.toNatClampNeg dp.toNatClampNeg n.toNatClampNeg)) M ap o od H1 → va_S A s.heap H1 locs1 → W p l e R s m args below meth c H1 locs1 cells slots Q (F0 m (pc + 3) ls rest)) : W p l e R s m args below meth c H locs cells slots Q (F0 m pc ls (.int n :: .int dp :: .ref (ad 10 i2) :: .int sp :: .ref (ad 18 i1) :: rest)) := by
  obtain ⟨av, hw⟩ := hw
  obtain ⟨ids, q1, q2, q3⟩ := hw
  obtain ⟨a, -, a2⟩ := hws_at (adr := adK ad av) (G := ctK cI e0 ad av K M ap o od) (q1 18 i1 h1)
  obtain ⟨b, b1, b2⟩ := hws_at (adr := adK ad av) (G := ctK cI e0 ad av K M ap o od) (q1 10 i2 h2)
  obtain ⟨o1, o2, o3, o4, o5⟩ := hok
  refine va_copyi (rest := rest) S.1 S.2.1 (S.2.2.1.trans hsz.symm) S.2.2.2.1 (S.2.2.2.2 _ hl) (S.2.2.2.2 _ u467) (S.2.2.2.2 _ u466) (S.2.2.2.2 _ u62) hg.1 q2 q3 hS a b 0 0 a2 b2 rfl rfl rfl o1 o2 o3 o4 o5 (fun _ _ => rfl) hf (by have := nfw; omega) hd (fun H1 locs1 hP hD hS => kk H1 locs1 ⟨av, (HW.set q3 q1 b1 hP hD).same (fun _ _ h => h) (fun _ _ _ => rfl) (fun k i3 hl => ?_)⟩ hS)
  by_cases hc : k = 10 ∧ i3 = i2
  · obtain ⟨rfl, rfl⟩ := hc
    rw [hU_s]
    simp [ctK, kr_s]
  · rw [hU_n _ _ hc]
    by_cases hk2 : k = 10
    · subst hk2
      have hc2 : ¬ i3 = i2 := fun h => hc ⟨rfl, h⟩
      simp [ctK, kr_b, hc2]
    · unfold ctK
      split <;> first | rfl | (exact absurd rfl hk2)
set_option maxHeartbeats 1000000 in
theorem cp_10_18 (S : CallFix p m c cc nL s args WU own) (hg : GI D cI e0 A s s.heap) (hS : va_S A s.heap H locs) (hw : HT D cI e0 A ad K M ap o od H) {i1 i2 : Nat} (h1 : i1 < 4) (h2 : i2 < 2 * nD K) {sp dp n : Int32} (hok : okCpy sp dp n (aLen i1) (8)) (hsz : ls.size = nL) (hf : 1 ≤ R.frames) (hlo : (rest.map fun v => v.category).sum + 30 ≤ R.locals) (hl : Cond.methodLink own index arraycopyName ∈ WU) (hd : decode cc pc = .ok (.invokestatic index, 3))
    (kk : ∀ (H1 : Heap) (locs1 : List Loc), HT D cI e0 A ad (kr K 18 i2 (va_cpy (K 10 i1) (K 18 i2) sp.toNatClampNeg dp.toNatClampNeg n.toNatClampNeg)) M ap o od H1 → va_S A s.heap H1 locs1 → W p l e R s m args below meth c H1 locs1 cells slots Q (F0 m (pc + 3) ls rest)) : W p l e R s m args below meth c H locs cells slots Q (F0 m pc ls (.int n :: .int dp :: .ref (ad 18 i2) :: .int sp :: .ref (ad 10 i1) :: rest)) := by
  obtain ⟨av, hw⟩ := hw
  obtain ⟨ids, q1, q2, q3⟩ := hw
  obtain ⟨a, -, a2⟩ := hws_at (adr := adK ad av) (G := ctK cI e0 ad av K M ap o od) (q1 10 i1 h1)
  obtain ⟨b, b1, b2⟩ := hws_at (adr := adK ad av) (G := ctK cI e0 ad av K M ap o od) (q1 18 i2 h2)
  obtain ⟨o1, o2, o3, o4, o5⟩ := hok
  refine va_copyi (rest := rest) S.1 S.2.1 (S.2.2.1.trans hsz.symm) S.2.2.2.1 (S.2.2.2.2 _ hl) (S.2.2.2.2 _ u467) (S.2.2.2.2 _ u466) (S.2.2.2.2 _ u62) hg.1 q2 q3 hS a b 0 0 a2 b2 rfl rfl rfl o1 o2 o3 o4 o5 (fun _ _ => rfl) hf (by have := nfw; omega) hd (fun H1 locs1 hP hD hS => kk H1 locs1 ⟨av, (HW.set q3 q1 b1 hP hD).same (fun _ _ h => h) (fun _ _ _ => rfl) (fun k i3 hl => ?_)⟩ hS)
  by_cases hc : k = 18 ∧ i3 = i2
  · obtain ⟨rfl, rfl⟩ := hc
    rw [hU_s]
    simp [ctK, kr_s]
  · rw [hU_n _ _ hc]
    by_cases hk2 : k = 18
    · subst hk2
      have hc2 : ¬ i3 = i2 := fun h => hc ⟨rfl, h⟩
      simp [ctK, kr_b, hc2]
    · unfold ctK
      split <;> first | rfl | (exact absurd rfl hk2)
set_option maxHeartbeats 1000000 in
theorem cp_20_17 (S : CallFix p m c cc nL s args WU own) (hg : GI D cI e0 A s s.heap) (hS : va_S A s.heap H locs) (hw : HT D cI e0 A ad K M ap o od H) {i1 i2 : Nat} (h1 : i1 < 6 * nD K) (h2 : i2 < nD K) {sp dp n : Int32} (hok : okCpy sp dp n (8) (8)) (hsz : ls.size = nL) (hf : 1 ≤ R.frames) (hlo : (rest.map fun v => v.category).sum + 30 ≤ R.locals) (hl : Cond.methodLink own index arraycopyName ∈ WU) (hd : decode cc pc = .ok (.invokestatic index, 3))
    (kk : ∀ (H1 : Heap) (locs1 : List Loc), HT D cI e0 A ad (kr K 17 i2 (va_cpy (K 20 i1) (K 17 i2) sp.toNatClampNeg dp.toNatClampNeg n.toNatClampNeg)) M ap o od H1 → va_S A s.heap H1 locs1 → W p l e R s m args below meth c H1 locs1 cells slots Q (F0 m (pc + 3) ls rest)) : W p l e R s m args below meth c H locs cells slots Q (F0 m pc ls (.int n :: .int dp :: .ref (ad 17 i2) :: .int sp :: .ref (ad 20 i1) :: rest)) := by
  obtain ⟨av, hw⟩ := hw
  obtain ⟨ids, q1, q2, q3⟩ := hw
  obtain ⟨a, -, a2⟩ := hws_at (adr := adK ad av) (G := ctK cI e0 ad av K M ap o od) (q1 20 i1 h1)
  obtain ⟨b, b1, b2⟩ := hws_at (adr := adK ad av) (G := ctK cI e0 ad av K M ap o od) (q1 17 i2 h2)
  obtain ⟨o1, o2, o3, o4, o5⟩ := hok
  refine va_copyi (rest := rest) S.1 S.2.1 (S.2.2.1.trans hsz.symm) S.2.2.2.1 (S.2.2.2.2 _ hl) (S.2.2.2.2 _ u467) (S.2.2.2.2 _ u466) (S.2.2.2.2 _ u62) hg.1 q2 q3 hS a b 0 0 a2 b2 rfl rfl rfl o1 o2 o3 o4 o5 (fun _ _ => rfl) hf (by have := nfw; omega) hd (fun H1 locs1 hP hD hS => kk H1 locs1 ⟨av, (HW.set q3 q1 b1 hP hD).same (fun _ _ h => h) (fun _ _ _ => rfl) (fun k i3 hl => ?_)⟩ hS)
  by_cases hc : k = 17 ∧ i3 = i2
  · obtain ⟨rfl, rfl⟩ := hc
    rw [hU_s]
    simp [ctK, kr_s]
  · rw [hU_n _ _ hc]
    by_cases hk2 : k = 17
    · subst hk2
      have hc2 : ¬ i3 = i2 := fun h => hc ⟨rfl, h⟩
      simp [ctK, kr_b, hc2]
    · unfold ctK
      split <;> first | rfl | (exact absurd rfl hk2)
set_option maxHeartbeats 1000000 in
theorem cp_17_20 (S : CallFix p m c cc nL s args WU own) (hg : GI D cI e0 A s s.heap) (hS : va_S A s.heap H locs) (hw : HT D cI e0 A ad K M ap o od H) {i1 i2 : Nat} (h1 : i1 < nD K) (h2 : i2 < 6 * nD K) {sp dp n : Int32} (hok : okCpy sp dp n (8) (8)) (hsz : ls.size = nL) (hf : 1 ≤ R.frames) (hlo : (rest.map fun v => v.category).sum + 30 ≤ R.locals) (hl : Cond.methodLink own index arraycopyName ∈ WU) (hd : decode cc pc = .ok (.invokestatic index, 3))
    (kk : ∀ (H1 : Heap) (locs1 : List Loc), HT D cI e0 A ad (kr K 20 i2 (va_cpy (K 17 i1) (K 20 i2) sp.toNatClampNeg dp.toNatClampNeg n.toNatClampNeg)) M ap o od H1 → va_S A s.heap H1 locs1 → W p l e R s m args below meth c H1 locs1 cells slots Q (F0 m (pc + 3) ls rest)) : W p l e R s m args below meth c H locs cells slots Q (F0 m pc ls (.int n :: .int dp :: .ref (ad 20 i2) :: .int sp :: .ref (ad 17 i1) :: rest)) := by
  obtain ⟨av, hw⟩ := hw
  obtain ⟨ids, q1, q2, q3⟩ := hw
  obtain ⟨a, -, a2⟩ := hws_at (adr := adK ad av) (G := ctK cI e0 ad av K M ap o od) (q1 17 i1 h1)
  obtain ⟨b, b1, b2⟩ := hws_at (adr := adK ad av) (G := ctK cI e0 ad av K M ap o od) (q1 20 i2 h2)
  obtain ⟨o1, o2, o3, o4, o5⟩ := hok
  refine va_copyi (rest := rest) S.1 S.2.1 (S.2.2.1.trans hsz.symm) S.2.2.2.1 (S.2.2.2.2 _ hl) (S.2.2.2.2 _ u467) (S.2.2.2.2 _ u466) (S.2.2.2.2 _ u62) hg.1 q2 q3 hS a b 0 0 a2 b2 rfl rfl rfl o1 o2 o3 o4 o5 (fun _ _ => rfl) hf (by have := nfw; omega) hd (fun H1 locs1 hP hD hS => kk H1 locs1 ⟨av, (HW.set q3 q1 b1 hP hD).same (fun _ _ h => h) (fun _ _ _ => rfl) (fun k i3 hl => ?_)⟩ hS)
  by_cases hc : k = 20 ∧ i3 = i2
  · obtain ⟨rfl, rfl⟩ := hc
    rw [hU_s]
    simp [ctK, kr_s]
  · rw [hU_n _ _ hc]
    by_cases hk2 : k = 20
    · subst hk2
      have hc2 : ¬ i3 = i2 := fun h => hc ⟨rfl, h⟩
      simp [ctK, kr_b, hc2]
    · unfold ctK
      split <;> first | rfl | (exact absurd rfl hk2)
/-- throw new E("text") -/
theorem r_throwW {mc ms fr lo : Nat} {QQ : Option Value → Heap → Prop} {XX : String → Heap → Prop} {cls text : String} {ik is ic : Nat} (hfl : l.stackTraces = false) (S : CallFix p m c cc nL s args WU RX6) (hout : ∀ x ∈ c.exceptionTable.toList, False) (hlk : meth.locks = false) (hg : GI D cI e0 A s s.heap) (hS : va_S A s.heap H locs)
    (hcls : Bundle.fit cls = true) (hk : Cond.classLink RX6 ik cls ∈ WU) (hini : Cond.initialized cls ∈ WU) (hstr : (RX6, is, text) ∈ gStr) (hat : ∀ w ∈ vx_atS RX6 ic cls gEx, w ∈ WU ∨ (∃ q ∈ gCa, w = .castable q.1 q.2) ∨ ∃ q ∈ gDc, w = .declares q) (hsize : ls.size = nL)
    (d0 : decode cc pc = .ok (.new ik, 3)) (d3 : decode cc (pc + 3) = .ok (.dup, 1)) (d4 : decode cc (pc + 4) = .ok (.ldc_w is, 3)) (d6 : decode cc (pc + 7) = .ok (.invokespecial ic, 3)) (d9 : decode cc (pc + 10) = .ok (.athrow, 1))
    (hfr : 6 ≤ R.frames) (hlo : (rest.map fun v => v.category).sum + 82 ≤ R.locals) (hRc : cells + 1 ≤ R.cells) (hRs : slots + 6 ≤ R.slots) (hc : cells + 1 ≤ mc) (hs : slots + 6 ≤ ms)
    (hx : ∀ H1 : Heap, H.size ≤ H1.size → (∀ q : Nat, q < H.size → H1[q]? = H[q]?) → XX cls H1) : W p l e R s m args below meth c H locs cells slots (vx_MQ below (fun _ st oc t => (∃ r, oc = .returned r ∧ QQ r t.heap) ∧ va_F A st t) (fun E st t => XX E t.heap ∧ va_F A st t) args s mc ms A) (F0 m pc ls rest) := by
  obtain ⟨sa, hsa⟩ := hg.2.2.2.1 _ hstr
  have ht := S.2.2.2.2
  have hat2 : ∀ w ∈ vx_atS RX6 ic cls gEx, w.before args s = true ∧ vx_ot w = true := by
    intro w hw
    rcases hat w hw with h | ⟨q, hq, rfl⟩ | ⟨q, hq, rfl⟩
    · exact ⟨ht w h, by unfold vx_ot; rw [WU_good w h, Bool.or_true]⟩
    · exact ⟨va_Nw.use rfl (hg.2.2.2.2.1.1 q hq), rfl⟩
    · exact ⟨va_Nw.use rfl (hg.2.2.2.2.1.2 q hq), rfl⟩
  refine vx_throwSW S.1 S.2.1 hfl (names := gEx) S.2.2.2.1 hcls (by decide) (ht _ hk) (ht _ hini) hsa (fun w hw => (hat2 w hw).1) ?_ hg.2.2.1.1 hg.2.2.1.2 hS (hsize.trans S.2.2.1.symm) d0 d3 d4 d6 d9 (fun x hx => absurd (hout x hx) id) (by show 2 + 3 < _; omega) (by show _ + (13 * (2 + 1) + 43) ≤ _; omega) hRc hRs hlk ?_ hS.2.2 hc hs
  · intro w hw
    rcases List.mem_cons.mp hw with rfl | hw
    · rfl
    · rcases List.mem_cons.mp hw with rfl | hw
      · rfl
      · exact (hat2 w hw).2
  · intro t hal hz hk2
    refine ⟨hx t.heap hz hk2, Nat.le_trans hS.1 hz, fun q h1 h2 => ?_⟩
    rw [hk2 q (Nat.lt_of_lt_of_le h1 hS.1)]
    exact hS.2.1 q h1 h2
theorem r_dret {y : MethodName} {mc ms : Nat} {QQ : Option Value → Heap → Prop} {XC : String → State → State → Prop} {v : UInt64} (S : CallFix p m c cc nL s args WU own) (hr : meth.sig.returnType = some .double) (hlk : meth.locks = false) (hS : va_S A s.heap H locs) (hc : cells ≤ mc) (hs : slots ≤ ms) (hdg : decode cc pc = .ok (.dreturn, 1)) (hq : QQ (some (.double v)) H) : W p l e R s m args below meth c H locs cells slots (vx_MQ below (fun _ st oc t => (∃ r, oc = .returned r ∧ QQ r t.heap) ∧ va_F A st t) XC args s mc ms A) (F0 m pc ls [.double v]) := by
  refine W.widen hc hs (vx_ret ?_)
  exact W.dret (Qc := fun _ st oc t => (∃ r, oc = .returned r ∧ QQ r t.heap) ∧ va_F A st t) S.1 S.2.1 hr (fun t ht hW => ⟨⟨_, rfl, by rw [ht]; exact hq⟩, hS.F ht⟩) hS.2.2 hdg hlk
end SUPPORT
end
section
/-! the JDK's own methods: lists, copies -/
section JDK
variable {p : Program} {l : Launch} {e : Env} {R : Room} {s : State} {m : MethodId} {args : Array Value} {below : List Frame} {meth : Method} {c : Code} {H : Heap} {locs : List Loc} {cells slots : Nat} {Q : State → Prop}
variable {D : va_G} {cI : Nat → ClassId} {e0 : Nat} {A : Nat → Prop} {ad av : Nat → Nat → Nat} {K M : KS} {ap o : Int64} {od : UInt64} {adr adr' : Nat → Nat → Nat} {G G' : Nat → Nat → va_E} {live live' : Nat → Nat → Prop}
variable {cc : ByteArray} {nL pc : Nat} {ls : Array Slot} {rest : List Value} {own : String} {index : Nat}
theorem tn0 : (0 : Int32).toNatClampNeg = 0 := rfl
/-- back with v, in a heap of P -/
def qE (v : Option Value) (P : Heap → Prop) (rv : Option Value) (H : Heap) : Prop := rv = v ∧ P H
/-- a cell under another name -/
theorem HW.ren {k i k2 i2 : Nat} (h : HW D A live adr G H) (hl : live k i) (hn : ∀ k' i', live' k' i' → (k' = k2 ∧ i' = i2) ∨ (live k' i' ∧ ¬ (k' = k ∧ i' = i) ∧ ¬ (k' = k2 ∧ i' = i2)))
    (ha : adr' k2 i2 = adr k i) (hG : G' k2 i2 = G k i) (ha2 : ∀ k' i', live' k' i' → ¬ (k' = k2 ∧ i' = i2) → adr' k' i' = adr k' i') (hG2 : ∀ k' i', live' k' i' → ¬ (k' = k2 ∧ i' = i2) → G' k' i' = G k' i') : HW D A live' adr' G' H := by
  obtain ⟨ids, h1, h2, h3⟩ := h
  have hki := h1 k i hl
  let F : List (Nat × Nat) := ids.filter (fun z => !decide (z.1 = k ∧ z.2 = i) && !decide (z.1 = k2 ∧ z.2 = i2))
  have hF : ∀ z, z ∈ F ↔ z ∈ ids ∧ ¬ (z.1 = k ∧ z.2 = i) ∧ ¬ (z.1 = k2 ∧ z.2 = i2) := by
    intro z
    simp only [F, List.mem_filter, Bool.and_eq_true, Bool.not_eq_true', decide_eq_false_iff_not]
  have h4 := va_D_iff.mp h3
  have key : HW D A live' (hU adr k2 i2 (adr k i)) (hU G k2 i2 (G k i)) H := by
    have e1 : hws (F ++ [(k2, i2)]) (hU adr k2 i2 (adr k i)) (hU G k2 i2 (G k i)) = hws F adr G ++ [(adr k i, G k i)] := by
      unfold hws
      rw [List.map_append]
      congr 1
      · apply List.map_congr_left
        intro z hz
        have hne := ((hF z).mp hz).2.2
        rw [hU_n _ _ hne, hU_n _ _ hne]
      · simp [hU]
    have hmem : ∀ q ∈ hws F adr G ++ [(adr k i, G k i)], q ∈ hws ids adr G := by
      intro q hq
      rcases List.mem_append.mp hq with hq | hq
      · obtain ⟨z, hz, rfl⟩ := List.mem_map.mp hq
        exact List.mem_map.mpr ⟨z, ((hF z).mp hz).1, rfl⟩
      · rw [List.mem_singleton.mp hq]
        exact List.mem_map.mpr ⟨(k, i), hki, rfl⟩
    refine ⟨F ++ [(k2, i2)], ?_, ?_, ?_⟩
    · intro k' i' hl'
      rcases hn k' i' hl' with ⟨rfl, rfl⟩ | ⟨q1, q2, q3⟩
      · simp
      · exact List.mem_append_left _ ((hF _).mpr ⟨h1 _ _ q1, q2, q3⟩)
    · rw [e1]
      exact va_P_iff.mpr fun q hq => va_P_iff.mp h2 q (hmem q hq)
    · rw [e1]
      refine va_D_iff.mpr ⟨?_, fun q hq => h4.2 q (hmem q hq)⟩
      rw [List.map_append]
      refine List.nodup_append.mpr ⟨?_, by simp, ?_⟩
      · exact List.Nodup.sublist ((List.Sublist.map _ List.filter_sublist).map Prod.fst) h4.1
      · intro a ha b hb
        have hb2 : b = adr k i := by simpa using hb
        subst hb2
        intro hab
        obtain ⟨q, hq, hqa⟩ := List.mem_map.mp ha
        obtain ⟨z, hz, rfl⟩ := List.mem_map.mp hq
        have hz2 := (hF z).mp hz
        obtain ⟨x, x1, x2⟩ := hws_at (adr := adr) (G := G) hki
        obtain ⟨y, y1, y2⟩ := hws_at (adr := adr) (G := G) (k := z.1) (i := z.2) hz2.1
        have hxy := h3.1 x y _ _ x2 y2 (by rw [← hab]; exact hqa.symm)
        subst hxy
        have := Option.some.inj (x1.symm.trans y1)
        exact hz2.2.1 ⟨(congrArg Prod.fst this).symm, (congrArg Prod.snd this).symm⟩
  refine key.only ?_ ?_
  · intro k' i' hl'
    by_cases hc : k' = k2 ∧ i' = i2
    · obtain ⟨rfl, rfl⟩ := hc
      rw [hU_s]; exact ha
    · rw [hU_n _ _ hc]; exact ha2 _ _ hl' hc
  · intro k' i' hl'
    by_cases hc : k' = k2 ∧ i' = i2
    · obtain ⟨rfl, rfl⟩ := hc
      rw [hU_s]; exact hG
    · rw [hU_n _ _ hc]; exact hG2 _ _ hl' hc
theorem cI_obj (hK : va_K D vwCl (tysOf cI) s) {cA : ClassId} (h : va_RA s cA (.object "java/lang/Object")) : cA = cI 2 := by
  obtain ⟨_, _, _, _, _, h1⟩ := h
  obtain ⟨_, _, _, _, _, h2⟩ := (hK.2 2 _ rfl).2
  exact Option.some.inj (h1.symm.trans h2)
theorem cI_int (hK : va_K D vwCl (tysOf cI) s) {cA : ClassId} (h : va_RA s cA .int) : cA = cI 0 :=
  Option.some.inj (Eq.trans (Eq.symm h) ((hK.2 0 _ rfl).2 : s.vm.findClass _ = some (cI 0)))
theorem r_oald (S : CallFix p m c cc nL s args WU own) (hg : GI D cI e0 A s s.heap) (hw : HW D A live adr G H) {k i : Nat} (hl : live k i) {n : Nat} {f : Nat → Option Nat} (hG : G k i = .inl (cI 2, n, .inr (.inr (.inr (.inr f))))) {j : Int32} (hj : vp_in j n) {a : Nat} (hf : f j.toNatClampNeg = some a) (hdg : decode cc pc = .ok (.aaload, 1))
    (kk : W p l e R s m args below meth c H locs cells slots Q (F0 m (pc + 1) ls (.ref a :: rest))) : W p l e R s m args below meth c H locs cells slots Q (F0 m pc ls (.int j :: .ref (adr k i) :: rest)) := by
  obtain ⟨ids, h1, h2, h3⟩ := hw
  obtain ⟨q, -, hn⟩ := hws_at (adr := adr) (G := G) (h1 k i hl)
  rw [hG] at hn
  refine va_aldq S.1 S.2.1 hg.1 h2 q 2 hn rfl hj hdg ?_
  rw [hf]
  exact kk
theorem r_oast (S : CallFix p m c cc nL s args WU own) (hg : GI D cI e0 A s s.heap) (hS : va_S A s.heap H locs) (hw : HW D A live adr G H) {k i : Nat} (hl : live k i) {n : Nat} {f : Nat → Option Nat} (hG : G k i = .inl (cI 2, n, .inr (.inr (.inr (.inr f))))) {k2 i2 : Nat} (hl2 : live k2 i2) {ci : Nat} {fs : List Value} (hG2 : G k2 i2 = .inr (ci, fs)) {r : vw_C} (hc : vwCl[ci]? = some r) (hca : (r.1, "java/lang/Object") ∈ gCa) {j : Int32} (hj : vp_in j n) (hdg : decode cc pc = .ok (.aastore, 1))
    (kk : ∀ (H1 : Heap) (locs1 : List Loc), HW D A live adr (hU G k i (.inl (cI 2, n, .inr (.inr (.inr (.inr (va_up f j.toNatClampNeg (some (adr k2 i2))))))))) H1 → va_S A s.heap H1 locs1 → W p l e R s m args below meth c H1 locs1 cells slots Q (F0 m (pc + 1) ls rest)) : W p l e R s m args below meth c H locs cells slots Q (F0 m pc ls (.ref (adr k2 i2) :: .int j :: .ref (adr k i) :: rest)) := by
  obtain ⟨ids, h1, h2, h3⟩ := hw
  obtain ⟨q, q1, hn⟩ := hws_at (adr := adr) (G := G) (h1 k i hl)
  obtain ⟨x, -, hx⟩ := hws_at (adr := adr) (G := G) (h1 k2 i2 hl2)
  rw [hG] at hn
  rw [hG2] at hx
  exact va_astqO S.1 S.2.1 hg.1 h2 h3 hS q 2 x ci hn rfl (hg.2.2.2.2.1.1 _ hca) hx hc hj hdg (fun H1 locs1 hP hD hS => kk H1 locs1 (HW.set h3 h1 q1 hP hD) hS)
/-- new Object[n], under the name (k, i) -/
theorem r_onew (S : CallFix p m c cc nL s args WU own) (hg : GI D cI e0 A s s.heap) (hS : va_S A s.heap H locs) (hw : HW D A live adr G H) (k i : Nat) {n : Int32} {N : Nat} (hl : Cond.classLink own index "java/lang/Object" ∈ WU) (hn : ¬ n < 0) (hN : n.toNatClampNeg = N) (hb : N * 4 ≤ 536870912) (hc : cells + 1 ≤ R.cells) (hs : slots + N ≤ R.slots) (hdg : decode cc pc = .ok (.anewarray index, 3))
    (kk : ∀ (q : Nat) (H1 : Heap), HW D A (fun k' i' => live k' i' ∨ (k' = k ∧ i' = i)) (hU adr k i q) (hU G k i (.inl (cI 2, N, .inr (.inr (.inr (.inr (fun _ => none))))))) H1 → va_S A s.heap H1 locs → W p l e R s m args below meth c H1 locs (cells + 1) (slots + N) Q (F0 m (pc + 3) ls (.ref q :: rest))) : W p l e R s m args below meth c H locs cells slots Q (F0 m pc ls (.int n :: rest)) := by
  obtain ⟨ids, h1, h2, h3⟩ := hw
  refine va_newq S.1 S.2.1 S.2.2.2.1 (S.2.2.2.2 _ hl) hg.2.2.2.2.2.2.2.2.1.1 hg.1 h2 h3 hS hg.2.2.2.2.2.2.2.2.2 hn hN hb hc hs hdg (fun q cA H1 hK hP hD hS => ?_)
  have e : cA = cI 2 := cI_obj hg.1 (hK.2 6 _ rfl).2
  subst e
  exact kk q H1 (HW.push h1 hP hD (fun _ _ h => h)) hS
theorem r_inew (S : CallFix p m c cc nL s args WU own) (hg : GI D cI e0 A s s.heap) (hS : va_S A s.heap H locs) (hw : HW D A live adr G H) (k i : Nat) {n : Int32} {N : Nat} (hl : Cond.arrayClass .int ∈ WU) (hn : ¬ n < 0) (hN : n.toNatClampNeg = N) (hb : N * 4 ≤ 536870912) (hc : cells + 1 ≤ R.cells) (hs : slots + N ≤ R.slots) (hdg : decode cc pc = .ok (.newarray .int, 2))
    (kk : ∀ (q : Nat) (H1 : Heap), HW D A (fun k' i' => live k' i' ∨ (k' = k ∧ i' = i)) (hU adr k i q) (hU G k i (.inl (cI 0, N, .inl (fun _ => 0)))) H1 → va_S A s.heap H1 locs → W p l e R s m args below meth c H1 locs (cells + 1) (slots + N) Q (F0 m (pc + 2) ls (.ref q :: rest))) : W p l e R s m args below meth c H locs cells slots Q (F0 m pc ls (.int n :: rest)) := by
  obtain ⟨ids, h1, h2, h3⟩ := hw
  refine va_newa (atype := .int) (ty := .int) (a0 := (N, .inl (fun _ => 0))) S.1 S.2.1 (S.2.2.2.2 _ hl) rfl hg.1 h2 h3 hS hg.2.2.2.2.2.2.2.2.2 (fun _ => rfl) hn hN hb hc hs hdg (fun q cA H1 hK hP hD hS => ?_)
  have e : cA = cI 0 := cI_int hg.1 (hK.2 6 _ rfl).2
  subst e
  exact kk q H1 (HW.push h1 hP hD (fun _ _ h => h)) hS
theorem dJxf58ca_isNaN_12338_0 : decode cJxf58ca_isNaN_12338 0 = .ok (.fload_n 0, 1) := by decide +kernel
theorem dJxf58ca_isNaN_12338_1 : decode cJxf58ca_isNaN_12338 1 = .ok (.fload_n 0, 1) := by decide +kernel
theorem dJxf58ca_isNaN_12338_2 : decode cJxf58ca_isNaN_12338 2 = .ok (.fcmp .l, 1) := by decide +kernel
theorem dJxf58ca_isNaN_12338_3 : decode cJxf58ca_isNaN_12338 3 = .ok (.ifCond .eq 7, 3) := by decide +kernel
theorem dJxf58ca_isNaN_12338_6 : decode cJxf58ca_isNaN_12338 6 = .ok (.iconst 1, 1) := by decide +kernel
theorem dJxf58ca_isNaN_12338_7 : decode cJxf58ca_isNaN_12338 7 = .ok (.goto 4, 3) := by decide +kernel
theorem dJxf58ca_isNaN_12338_10 : decode cJxf58ca_isNaN_12338 10 = .ok (.iconst 0, 1) := by decide +kernel
theorem dJxf58ca_isNaN_12338_11 : decode cJxf58ca_isNaN_12338 11 = .ok (.ireturn, 1) := by decide +kernel
theorem dJxf58ca_floatToIntBits_5c35a_0 : decode cJxf58ca_floatToIntBits_5c35a 0 = .ok (.fload_n 0, 1) := by decide +kernel
theorem dJxf58ca_floatToIntBits_5c35a_1 : decode cJxf58ca_floatToIntBits_5c35a 1 = .ok (.invokestatic 59, 3) := by decide +kernel
theorem dJxf58ca_floatToIntBits_5c35a_4 : decode cJxf58ca_floatToIntBits_5c35a 4 = .ok (.ifCond .ne 8, 3) := by decide +kernel
theorem dJxf58ca_floatToIntBits_5c35a_7 : decode cJxf58ca_floatToIntBits_5c35a 7 = .ok (.fload_n 0, 1) := by decide +kernel
theorem dJxf58ca_floatToIntBits_5c35a_8 : decode cJxf58ca_floatToIntBits_5c35a 8 = .ok (.invokestatic 74, 3) := by decide +kernel
theorem dJxf58ca_floatToIntBits_5c35a_11 : decode cJxf58ca_floatToIntBits_5c35a 11 = .ok (.ireturn, 1) := by decide +kernel
theorem dJxf58ca_floatToIntBits_5c35a_12 : decode cJxf58ca_floatToIntBits_5c35a 12 = .ok (.ldc 77, 2) := by decide +kernel
theorem dJxf58ca_floatToIntBits_5c35a_14 : decode cJxf58ca_floatToIntBits_5c35a 14 = .ok (.ireturn, 1) := by decide +kernel
theorem dJxa1e45_init_da8c8_0 : decode cJxa1e45_init_da8c8 0 = .ok (.aload_n 0, 1) := by decide +kernel
theorem dJxa1e45_init_da8c8_1 : decode cJxa1e45_init_da8c8 1 = .ok (.invokespecial 1, 3) := by decide +kernel
theorem dJxa1e45_init_da8c8_4 : decode cJxa1e45_init_da8c8 4 = .ok (.return_, 1) := by decide +kernel
theorem dJxc12de_init_da8c8_0 : decode cJxc12de_init_da8c8 0 = .ok (.aload_n 0, 1) := by decide +kernel
theorem dJxc12de_init_da8c8_1 : decode cJxc12de_init_da8c8 1 = .ok (.invokespecial 1, 3) := by decide +kernel
theorem dJxc12de_init_da8c8_4 : decode cJxc12de_init_da8c8 4 = .ok (.aload_n 0, 1) := by decide +kernel
theorem dJxc12de_init_da8c8_5 : decode cJxc12de_init_da8c8 5 = .ok (.iconst 0, 1) := by decide +kernel
theorem dJxc12de_init_da8c8_6 : decode cJxc12de_init_da8c8 6 = .ok (.putfield 7, 3) := by decide +kernel
theorem dJxc12de_init_da8c8_9 : decode cJxc12de_init_da8c8 9 = .ok (.return_, 1) := by decide +kernel
theorem dJx4a65c_init_da8c8_0 : decode cJx4a65c_init_da8c8 0 = .ok (.aload_n 0, 1) := by decide +kernel
theorem dJx4a65c_init_da8c8_1 : decode cJx4a65c_init_da8c8 1 = .ok (.invokespecial 1, 3) := by decide +kernel
theorem dJx4a65c_init_da8c8_4 : decode cJx4a65c_init_da8c8 4 = .ok (.aload_n 0, 1) := by decide +kernel
theorem dJx4a65c_init_da8c8_5 : decode cJx4a65c_init_da8c8 5 = .ok (.getstatic 39, 3) := by decide +kernel
theorem dJx4a65c_init_da8c8_8 : decode cJx4a65c_init_da8c8 8 = .ok (.putfield 9, 3) := by decide +kernel
theorem dJx4a65c_init_da8c8_11 : decode cJx4a65c_init_da8c8 11 = .ok (.return_, 1) := by decide +kernel
theorem dJx4a65c_grow_92f84_0 : decode cJx4a65c_grow_92f84 0 = .ok (.aload_n 0, 1) := by decide +kernel
theorem dJx4a65c_grow_92f84_1 : decode cJx4a65c_grow_92f84 1 = .ok (.getfield 9, 3) := by decide +kernel
theorem dJx4a65c_grow_92f84_4 : decode cJx4a65c_grow_92f84 4 = .ok (.arraylength, 1) := by decide +kernel
theorem dJx4a65c_grow_92f84_5 : decode cJx4a65c_grow_92f84 5 = .ok (.istore_n 2, 1) := by decide +kernel
theorem dJx4a65c_grow_92f84_6 : decode cJx4a65c_grow_92f84 6 = .ok (.iload_n 2, 1) := by decide +kernel
theorem dJx4a65c_grow_92f84_7 : decode cJx4a65c_grow_92f84 7 = .ok (.ifCond .gt 13, 3) := by decide +kernel
theorem dJx4a65c_grow_92f84_10 : decode cJx4a65c_grow_92f84 10 = .ok (.aload_n 0, 1) := by decide +kernel
theorem dJx4a65c_grow_92f84_11 : decode cJx4a65c_grow_92f84 11 = .ok (.getfield 9, 3) := by decide +kernel
theorem dJx4a65c_grow_92f84_14 : decode cJx4a65c_grow_92f84 14 = .ok (.getstatic 39, 3) := by decide +kernel
theorem dJx4a65c_grow_92f84_17 : decode cJx4a65c_grow_92f84 17 = .ok (.if_acmp .eq 28, 3) := by decide +kernel
theorem dJx4a65c_grow_92f84_20 : decode cJx4a65c_grow_92f84 20 = .ok (.iload_n 2, 1) := by decide +kernel
theorem dJx4a65c_grow_92f84_21 : decode cJx4a65c_grow_92f84 21 = .ok (.iload_n 1, 1) := by decide +kernel
theorem dJx4a65c_grow_92f84_22 : decode cJx4a65c_grow_92f84 22 = .ok (.iload_n 2, 1) := by decide +kernel
theorem dJx4a65c_grow_92f84_23 : decode cJx4a65c_grow_92f84 23 = .ok (.isub, 1) := by decide +kernel
theorem dJx4a65c_grow_92f84_24 : decode cJx4a65c_grow_92f84 24 = .ok (.iload_n 2, 1) := by decide +kernel
theorem dJx4a65c_grow_92f84_25 : decode cJx4a65c_grow_92f84 25 = .ok (.iconst 1, 1) := by decide +kernel
theorem dJx4a65c_grow_92f84_26 : decode cJx4a65c_grow_92f84 26 = .ok (.ishr, 1) := by decide +kernel
theorem dJx4a65c_grow_92f84_27 : decode cJx4a65c_grow_92f84 27 = .ok (.invokestatic 73, 3) := by decide +kernel
theorem dJx4a65c_grow_92f84_30 : decode cJx4a65c_grow_92f84 30 = .ok (.istore_n 3, 1) := by decide +kernel
theorem dJx4a65c_grow_92f84_31 : decode cJx4a65c_grow_92f84 31 = .ok (.aload_n 0, 1) := by decide +kernel
theorem dJx4a65c_grow_92f84_32 : decode cJx4a65c_grow_92f84 32 = .ok (.aload_n 0, 1) := by decide +kernel
theorem dJx4a65c_grow_92f84_33 : decode cJx4a65c_grow_92f84 33 = .ok (.getfield 9, 3) := by decide +kernel
theorem dJx4a65c_grow_92f84_36 : decode cJx4a65c_grow_92f84 36 = .ok (.iload_n 3, 1) := by decide +kernel
theorem dJx4a65c_grow_92f84_37 : decode cJx4a65c_grow_92f84 37 = .ok (.invokestatic 66, 3) := by decide +kernel
theorem dJx4a65c_grow_92f84_40 : decode cJx4a65c_grow_92f84 40 = .ok (.dup_x1, 1) := by decide +kernel
theorem dJx4a65c_grow_92f84_41 : decode cJx4a65c_grow_92f84 41 = .ok (.putfield 9, 3) := by decide +kernel
theorem dJx4a65c_grow_92f84_44 : decode cJx4a65c_grow_92f84 44 = .ok (.areturn, 1) := by decide +kernel
theorem dJx4a65c_grow_92f84_45 : decode cJx4a65c_grow_92f84 45 = .ok (.aload_n 0, 1) := by decide +kernel
theorem dJx4a65c_grow_92f84_46 : decode cJx4a65c_grow_92f84 46 = .ok (.bipush 10, 2) := by decide +kernel
theorem dJx4a65c_grow_92f84_48 : decode cJx4a65c_grow_92f84 48 = .ok (.iload_n 1, 1) := by decide +kernel
theorem dJx4a65c_grow_92f84_49 : decode cJx4a65c_grow_92f84 49 = .ok (.invokestatic 79, 3) := by decide +kernel
theorem dJx4a65c_grow_92f84_52 : decode cJx4a65c_grow_92f84 52 = .ok (.anewarray 7, 3) := by decide +kernel
theorem dJx4a65c_grow_92f84_55 : decode cJx4a65c_grow_92f84 55 = .ok (.dup_x1, 1) := by decide +kernel
theorem dJx4a65c_grow_92f84_56 : decode cJx4a65c_grow_92f84 56 = .ok (.putfield 9, 3) := by decide +kernel
theorem dJx4a65c_grow_92f84_59 : decode cJx4a65c_grow_92f84 59 = .ok (.areturn, 1) := by decide +kernel
theorem dJx4a65c_grow_d5877_0 : decode cJx4a65c_grow_d5877 0 = .ok (.aload_n 0, 1) := by decide +kernel
theorem dJx4a65c_grow_d5877_1 : decode cJx4a65c_grow_d5877 1 = .ok (.aload_n 0, 1) := by decide +kernel
theorem dJx4a65c_grow_d5877_2 : decode cJx4a65c_grow_d5877 2 = .ok (.getfield 48, 3) := by decide +kernel
theorem dJx4a65c_grow_d5877_5 : decode cJx4a65c_grow_d5877 5 = .ok (.iconst 1, 1) := by decide +kernel
theorem dJx4a65c_grow_d5877_6 : decode cJx4a65c_grow_d5877 6 = .ok (.iadd, 1) := by decide +kernel
theorem dJx4a65c_grow_d5877_7 : decode cJx4a65c_grow_d5877 7 = .ok (.invokevirtual 69, 3) := by decide +kernel
theorem dJx4a65c_grow_d5877_10 : decode cJx4a65c_grow_d5877 10 = .ok (.areturn, 1) := by decide +kernel
theorem dJx4a65c_size_8abf5_0 : decode cJx4a65c_size_8abf5 0 = .ok (.aload_n 0, 1) := by decide +kernel
theorem dJx4a65c_size_8abf5_1 : decode cJx4a65c_size_8abf5 1 = .ok (.getfield 48, 3) := by decide +kernel
theorem dJx4a65c_size_8abf5_4 : decode cJx4a65c_size_8abf5 4 = .ok (.ireturn, 1) := by decide +kernel
theorem dJx4a65c_isEmpty_aae02_0 : decode cJx4a65c_isEmpty_aae02 0 = .ok (.aload_n 0, 1) := by decide +kernel
theorem dJx4a65c_isEmpty_aae02_1 : decode cJx4a65c_isEmpty_aae02 1 = .ok (.getfield 48, 3) := by decide +kernel
theorem dJx4a65c_isEmpty_aae02_4 : decode cJx4a65c_isEmpty_aae02 4 = .ok (.ifCond .ne 7, 3) := by decide +kernel
theorem dJx4a65c_isEmpty_aae02_7 : decode cJx4a65c_isEmpty_aae02 7 = .ok (.iconst 1, 1) := by decide +kernel
theorem dJx4a65c_isEmpty_aae02_8 : decode cJx4a65c_isEmpty_aae02 8 = .ok (.goto 4, 3) := by decide +kernel
theorem dJx4a65c_isEmpty_aae02_11 : decode cJx4a65c_isEmpty_aae02 11 = .ok (.iconst 0, 1) := by decide +kernel
theorem dJx4a65c_isEmpty_aae02_12 : decode cJx4a65c_isEmpty_aae02 12 = .ok (.ireturn, 1) := by decide +kernel
theorem dJx4a65c_elementData_915e3_0 : decode cJx4a65c_elementData_915e3 0 = .ok (.aload_n 0, 1) := by decide +kernel
theorem dJx4a65c_elementData_915e3_1 : decode cJx4a65c_elementData_915e3 1 = .ok (.getfield 9, 3) := by decide +kernel
theorem dJx4a65c_elementData_915e3_4 : decode cJx4a65c_elementData_915e3 4 = .ok (.iload_n 1, 1) := by decide +kernel
theorem dJx4a65c_elementData_915e3_5 : decode cJx4a65c_elementData_915e3 5 = .ok (.aaload, 1) := by decide +kernel
theorem dJx4a65c_elementData_915e3_6 : decode cJx4a65c_elementData_915e3 6 = .ok (.areturn, 1) := by decide +kernel
theorem dJx4a65c_get_915e3_0 : decode cJx4a65c_get_915e3 0 = .ok (.iload_n 1, 1) := by decide +kernel
theorem dJx4a65c_get_915e3_1 : decode cJx4a65c_get_915e3 1 = .ok (.aload_n 0, 1) := by decide +kernel
theorem dJx4a65c_get_915e3_2 : decode cJx4a65c_get_915e3 2 = .ok (.getfield 48, 3) := by decide +kernel
theorem dJx4a65c_get_915e3_5 : decode cJx4a65c_get_915e3 5 = .ok (.invokestatic 118, 3) := by decide +kernel
theorem dJx4a65c_get_915e3_8 : decode cJx4a65c_get_915e3 8 = .ok (.pop, 1) := by decide +kernel
theorem dJx4a65c_get_915e3_9 : decode cJx4a65c_get_915e3 9 = .ok (.aload_n 0, 1) := by decide +kernel
theorem dJx4a65c_get_915e3_10 : decode cJx4a65c_get_915e3 10 = .ok (.iload_n 1, 1) := by decide +kernel
theorem dJx4a65c_get_915e3_11 : decode cJx4a65c_get_915e3 11 = .ok (.invokevirtual 123, 3) := by decide +kernel
theorem dJx4a65c_get_915e3_14 : decode cJx4a65c_get_915e3 14 = .ok (.areturn, 1) := by decide +kernel
theorem dJx4a65c_add_72be8_0 : decode cJx4a65c_add_72be8 0 = .ok (.iload_n 3, 1) := by decide +kernel
theorem dJx4a65c_add_72be8_1 : decode cJx4a65c_add_72be8 1 = .ok (.aload_n 2, 1) := by decide +kernel
theorem dJx4a65c_add_72be8_2 : decode cJx4a65c_add_72be8 2 = .ok (.arraylength, 1) := by decide +kernel
theorem dJx4a65c_add_72be8_3 : decode cJx4a65c_add_72be8 3 = .ok (.if_icmp .ne 8, 3) := by decide +kernel
theorem dJx4a65c_add_72be8_6 : decode cJx4a65c_add_72be8 6 = .ok (.aload_n 0, 1) := by decide +kernel
theorem dJx4a65c_add_72be8_7 : decode cJx4a65c_add_72be8 7 = .ok (.invokevirtual 129, 3) := by decide +kernel
theorem dJx4a65c_add_72be8_10 : decode cJx4a65c_add_72be8 10 = .ok (.astore_n 2, 1) := by decide +kernel
theorem dJx4a65c_add_72be8_11 : decode cJx4a65c_add_72be8 11 = .ok (.aload_n 2, 1) := by decide +kernel
theorem dJx4a65c_add_72be8_12 : decode cJx4a65c_add_72be8 12 = .ok (.iload_n 3, 1) := by decide +kernel
theorem dJx4a65c_add_72be8_13 : decode cJx4a65c_add_72be8 13 = .ok (.aload_n 1, 1) := by decide +kernel
theorem dJx4a65c_add_72be8_14 : decode cJx4a65c_add_72be8 14 = .ok (.aastore, 1) := by decide +kernel
theorem dJx4a65c_add_72be8_15 : decode cJx4a65c_add_72be8 15 = .ok (.aload_n 0, 1) := by decide +kernel
theorem dJx4a65c_add_72be8_16 : decode cJx4a65c_add_72be8 16 = .ok (.iload_n 3, 1) := by decide +kernel
theorem dJx4a65c_add_72be8_17 : decode cJx4a65c_add_72be8 17 = .ok (.iconst 1, 1) := by decide +kernel
theorem dJx4a65c_add_72be8_18 : decode cJx4a65c_add_72be8 18 = .ok (.iadd, 1) := by decide +kernel
theorem dJx4a65c_add_72be8_19 : decode cJx4a65c_add_72be8 19 = .ok (.putfield 48, 3) := by decide +kernel
theorem dJx4a65c_add_72be8_22 : decode cJx4a65c_add_72be8 22 = .ok (.return_, 1) := by decide +kernel
theorem dJx4a65c_add_9ea2d_0 : decode cJx4a65c_add_9ea2d 0 = .ok (.aload_n 0, 1) := by decide +kernel
theorem dJx4a65c_add_9ea2d_1 : decode cJx4a65c_add_9ea2d 1 = .ok (.dup, 1) := by decide +kernel
theorem dJx4a65c_add_9ea2d_2 : decode cJx4a65c_add_9ea2d 2 = .ok (.getfield 63, 3) := by decide +kernel
theorem dJx4a65c_add_9ea2d_5 : decode cJx4a65c_add_9ea2d 5 = .ok (.iconst 1, 1) := by decide +kernel
theorem dJx4a65c_add_9ea2d_6 : decode cJx4a65c_add_9ea2d 6 = .ok (.iadd, 1) := by decide +kernel
theorem dJx4a65c_add_9ea2d_7 : decode cJx4a65c_add_9ea2d 7 = .ok (.putfield 63, 3) := by decide +kernel
theorem dJx4a65c_add_9ea2d_10 : decode cJx4a65c_add_9ea2d 10 = .ok (.aload_n 0, 1) := by decide +kernel
theorem dJx4a65c_add_9ea2d_11 : decode cJx4a65c_add_9ea2d 11 = .ok (.aload_n 1, 1) := by decide +kernel
theorem dJx4a65c_add_9ea2d_12 : decode cJx4a65c_add_9ea2d 12 = .ok (.aload_n 0, 1) := by decide +kernel
theorem dJx4a65c_add_9ea2d_13 : decode cJx4a65c_add_9ea2d 13 = .ok (.getfield 9, 3) := by decide +kernel
theorem dJx4a65c_add_9ea2d_16 : decode cJx4a65c_add_9ea2d 16 = .ok (.aload_n 0, 1) := by decide +kernel
theorem dJx4a65c_add_9ea2d_17 : decode cJx4a65c_add_9ea2d 17 = .ok (.getfield 48, 3) := by decide +kernel
theorem dJx4a65c_add_9ea2d_20 : decode cJx4a65c_add_9ea2d 20 = .ok (.invokevirtual 131, 3) := by decide +kernel
theorem dJx4a65c_add_9ea2d_23 : decode cJx4a65c_add_9ea2d 23 = .ok (.iconst 1, 1) := by decide +kernel
theorem dJx4a65c_add_9ea2d_24 : decode cJx4a65c_add_9ea2d 24 = .ok (.ireturn, 1) := by decide +kernel
theorem dJ7_copyOf_1904c_0 : decode cJ7_copyOf_1904c 0 = .ok (.aload_n 0, 1) := by decide +kernel
theorem dJ7_copyOf_1904c_1 : decode cJ7_copyOf_1904c 1 = .ok (.iload_n 1, 1) := by decide +kernel
theorem dJ7_copyOf_1904c_2 : decode cJ7_copyOf_1904c 2 = .ok (.aload_n 0, 1) := by decide +kernel
theorem dJ7_copyOf_1904c_3 : decode cJ7_copyOf_1904c 3 = .ok (.invokevirtual 86, 3) := by decide +kernel
theorem dJ7_copyOf_1904c_6 : decode cJ7_copyOf_1904c 6 = .ok (.invokestatic 300, 3) := by decide +kernel
theorem dJ7_copyOf_1904c_9 : decode cJ7_copyOf_1904c 9 = .ok (.areturn, 1) := by decide +kernel
theorem dJ7_copyOf_6403c_0 : decode cJ7_copyOf_6403c 0 = .ok (.aload_n 2, 1) := by decide +kernel
theorem dJ7_copyOf_6403c_1 : decode cJ7_copyOf_6403c 1 = .ok (.ldc 110, 2) := by decide +kernel
theorem dJ7_copyOf_6403c_3 : decode cJ7_copyOf_6403c 3 = .ok (.if_acmp .ne 10, 3) := by decide +kernel
theorem dJ7_copyOf_6403c_6 : decode cJ7_copyOf_6403c 6 = .ok (.iload_n 1, 1) := by decide +kernel
theorem dJ7_copyOf_6403c_7 : decode cJ7_copyOf_6403c 7 = .ok (.anewarray 2, 3) := by decide +kernel
theorem dJ7_copyOf_6403c_10 : decode cJ7_copyOf_6403c 10 = .ok (.goto 14, 3) := by decide +kernel
theorem dJ7_copyOf_6403c_13 : decode cJ7_copyOf_6403c 13 = .ok (.aload_n 2, 1) := by decide +kernel
theorem dJ7_copyOf_6403c_14 : decode cJ7_copyOf_6403c 14 = .ok (.invokevirtual 90, 3) := by decide +kernel
theorem dJ7_copyOf_6403c_17 : decode cJ7_copyOf_6403c 17 = .ok (.iload_n 1, 1) := by decide +kernel
theorem dJ7_copyOf_6403c_18 : decode cJ7_copyOf_6403c 18 = .ok (.invokestatic 95, 3) := by decide +kernel
theorem dJ7_copyOf_6403c_21 : decode cJ7_copyOf_6403c 21 = .ok (.checkcast 110, 3) := by decide +kernel
theorem dJ7_copyOf_6403c_24 : decode cJ7_copyOf_6403c 24 = .ok (.astore_n 3, 1) := by decide +kernel
theorem dJ7_copyOf_6403c_25 : decode cJ7_copyOf_6403c 25 = .ok (.aload_n 0, 1) := by decide +kernel
theorem dJ7_copyOf_6403c_26 : decode cJ7_copyOf_6403c 26 = .ok (.iconst 0, 1) := by decide +kernel
theorem dJ7_copyOf_6403c_27 : decode cJ7_copyOf_6403c 27 = .ok (.aload_n 3, 1) := by decide +kernel
theorem dJ7_copyOf_6403c_28 : decode cJ7_copyOf_6403c 28 = .ok (.iconst 0, 1) := by decide +kernel
theorem dJ7_copyOf_6403c_29 : decode cJ7_copyOf_6403c 29 = .ok (.aload_n 0, 1) := by decide +kernel
theorem dJ7_copyOf_6403c_30 : decode cJ7_copyOf_6403c 30 = .ok (.arraylength, 1) := by decide +kernel
theorem dJ7_copyOf_6403c_31 : decode cJ7_copyOf_6403c 31 = .ok (.iload_n 1, 1) := by decide +kernel
theorem dJ7_copyOf_6403c_32 : decode cJ7_copyOf_6403c 32 = .ok (.invokestatic 304, 3) := by decide +kernel
theorem dJ7_copyOf_6403c_35 : decode cJ7_copyOf_6403c 35 = .ok (.invokestatic 150, 3) := by decide +kernel
theorem dJ7_copyOf_6403c_38 : decode cJ7_copyOf_6403c 38 = .ok (.aload_n 3, 1) := by decide +kernel
theorem dJ7_copyOf_6403c_39 : decode cJ7_copyOf_6403c 39 = .ok (.areturn, 1) := by decide +kernel
theorem dJ7_copyOf_59c91_0 : decode cJ7_copyOf_59c91 0 = .ok (.iload_n 1, 1) := by decide +kernel
theorem dJ7_copyOf_59c91_1 : decode cJ7_copyOf_59c91 1 = .ok (.aload_n 0, 1) := by decide +kernel
theorem dJ7_copyOf_59c91_2 : decode cJ7_copyOf_59c91 2 = .ok (.arraylength, 1) := by decide +kernel
theorem dJ7_copyOf_59c91_3 : decode cJ7_copyOf_59c91 3 = .ok (.if_icmp .ne 11, 3) := by decide +kernel
theorem dJ7_copyOf_59c91_6 : decode cJ7_copyOf_59c91 6 = .ok (.aload_n 0, 1) := by decide +kernel
theorem dJ7_copyOf_59c91_7 : decode cJ7_copyOf_59c91 7 = .ok (.invokevirtual 316, 3) := by decide +kernel
theorem dJ7_copyOf_59c91_10 : decode cJ7_copyOf_59c91 10 = .ok (.checkcast 317, 3) := by decide +kernel
theorem dJ7_copyOf_59c91_13 : decode cJ7_copyOf_59c91 13 = .ok (.areturn, 1) := by decide +kernel
theorem dJ7_copyOf_59c91_14 : decode cJ7_copyOf_59c91 14 = .ok (.iload_n 1, 1) := by decide +kernel
theorem dJ7_copyOf_59c91_15 : decode cJ7_copyOf_59c91 15 = .ok (.newarray .int, 2) := by decide +kernel
theorem dJ7_copyOf_59c91_17 : decode cJ7_copyOf_59c91 17 = .ok (.astore_n 2, 1) := by decide +kernel
theorem dJ7_copyOf_59c91_18 : decode cJ7_copyOf_59c91 18 = .ok (.aload_n 0, 1) := by decide +kernel
theorem dJ7_copyOf_59c91_19 : decode cJ7_copyOf_59c91 19 = .ok (.iconst 0, 1) := by decide +kernel
theorem dJ7_copyOf_59c91_20 : decode cJ7_copyOf_59c91 20 = .ok (.aload_n 2, 1) := by decide +kernel
theorem dJ7_copyOf_59c91_21 : decode cJ7_copyOf_59c91 21 = .ok (.iconst 0, 1) := by decide +kernel
theorem dJ7_copyOf_59c91_22 : decode cJ7_copyOf_59c91 22 = .ok (.aload_n 0, 1) := by decide +kernel
theorem dJ7_copyOf_59c91_23 : decode cJ7_copyOf_59c91 23 = .ok (.arraylength, 1) := by decide +kernel
theorem dJ7_copyOf_59c91_24 : decode cJ7_copyOf_59c91 24 = .ok (.iload_n 1, 1) := by decide +kernel
theorem dJ7_copyOf_59c91_25 : decode cJ7_copyOf_59c91 25 = .ok (.invokestatic 304, 3) := by decide +kernel
theorem dJ7_copyOf_59c91_28 : decode cJ7_copyOf_59c91 28 = .ok (.invokestatic 150, 3) := by decide +kernel
theorem dJ7_copyOf_59c91_31 : decode cJ7_copyOf_59c91 31 = .ok (.aload_n 2, 1) := by decide +kernel
theorem dJ7_copyOf_59c91_32 : decode cJ7_copyOf_59c91 32 = .ok (.areturn, 1) := by decide +kernel
theorem dJ15_checkIndex_7cf53_0 : decode cJ15_checkIndex_7cf53 0 = .ok (.iload_n 0, 1) := by decide +kernel
theorem dJ15_checkIndex_7cf53_1 : decode cJ15_checkIndex_7cf53 1 = .ok (.iload_n 1, 1) := by decide +kernel
theorem dJ15_checkIndex_7cf53_2 : decode cJ15_checkIndex_7cf53 2 = .ok (.aconst_null, 1) := by decide +kernel
theorem dJ15_checkIndex_7cf53_3 : decode cJ15_checkIndex_7cf53 3 = .ok (.invokestatic 105, 3) := by decide +kernel
theorem dJ15_checkIndex_7cf53_6 : decode cJ15_checkIndex_7cf53 6 = .ok (.ireturn, 1) := by decide +kernel
theorem dJ8_newLength_cabcc_0 : decode cJ8_newLength_cabcc 0 = .ok (.iload_n 0, 1) := by decide +kernel
theorem dJ8_newLength_cabcc_1 : decode cJ8_newLength_cabcc 1 = .ok (.iload_n 1, 1) := by decide +kernel
theorem dJ8_newLength_cabcc_2 : decode cJ8_newLength_cabcc 2 = .ok (.iload_n 2, 1) := by decide +kernel
theorem dJ8_newLength_cabcc_3 : decode cJ8_newLength_cabcc 3 = .ok (.invokestatic 194, 3) := by decide +kernel
theorem dJ8_newLength_cabcc_6 : decode cJ8_newLength_cabcc 6 = .ok (.iadd, 1) := by decide +kernel
theorem dJ8_newLength_cabcc_7 : decode cJ8_newLength_cabcc 7 = .ok (.istore_n 3, 1) := by decide +kernel
theorem dJ8_newLength_cabcc_8 : decode cJ8_newLength_cabcc 8 = .ok (.iconst 0, 1) := by decide +kernel
theorem dJ8_newLength_cabcc_9 : decode cJ8_newLength_cabcc 9 = .ok (.iload_n 3, 1) := by decide +kernel
theorem dJ8_newLength_cabcc_10 : decode cJ8_newLength_cabcc 10 = .ok (.if_icmp .ge 11, 3) := by decide +kernel
theorem dJ8_newLength_cabcc_13 : decode cJ8_newLength_cabcc 13 = .ok (.iload_n 3, 1) := by decide +kernel
theorem dJ8_newLength_cabcc_14 : decode cJ8_newLength_cabcc 14 = .ok (.ldc 200, 2) := by decide +kernel
theorem dJ8_newLength_cabcc_16 : decode cJ8_newLength_cabcc 16 = .ok (.if_icmp .gt 5, 3) := by decide +kernel
theorem dJ8_newLength_cabcc_19 : decode cJ8_newLength_cabcc 19 = .ok (.iload_n 3, 1) := by decide +kernel
theorem dJ8_newLength_cabcc_20 : decode cJ8_newLength_cabcc 20 = .ok (.ireturn, 1) := by decide +kernel
theorem dJ8_newLength_cabcc_21 : decode cJ8_newLength_cabcc 21 = .ok (.iload_n 0, 1) := by decide +kernel
theorem dJ8_newLength_cabcc_22 : decode cJ8_newLength_cabcc 22 = .ok (.iload_n 1, 1) := by decide +kernel
theorem dJ8_newLength_cabcc_23 : decode cJ8_newLength_cabcc 23 = .ok (.invokestatic 201, 3) := by decide +kernel
theorem dJ8_newLength_cabcc_26 : decode cJ8_newLength_cabcc 26 = .ok (.ireturn, 1) := by decide +kernel
theorem dJ3_checkIndex_8e157_0 : decode cJ3_checkIndex_8e157 0 = .ok (.iload_n 0, 1) := by decide +kernel
theorem dJ3_checkIndex_8e157_1 : decode cJ3_checkIndex_8e157 1 = .ok (.ifCond .lt 8, 3) := by decide +kernel
theorem dJ3_checkIndex_8e157_4 : decode cJ3_checkIndex_8e157 4 = .ok (.iload_n 0, 1) := by decide +kernel
theorem dJ3_checkIndex_8e157_5 : decode cJ3_checkIndex_8e157 5 = .ok (.iload_n 1, 1) := by decide +kernel
theorem dJ3_checkIndex_8e157_6 : decode cJ3_checkIndex_8e157 6 = .ok (.if_icmp .lt 10, 3) := by decide +kernel
theorem dJ3_checkIndex_8e157_9 : decode cJ3_checkIndex_8e157 9 = .ok (.aload_n 2, 1) := by decide +kernel
theorem dJ3_checkIndex_8e157_10 : decode cJ3_checkIndex_8e157 10 = .ok (.iload_n 0, 1) := by decide +kernel
theorem dJ3_checkIndex_8e157_11 : decode cJ3_checkIndex_8e157 11 = .ok (.iload_n 1, 1) := by decide +kernel
theorem dJ3_checkIndex_8e157_12 : decode cJ3_checkIndex_8e157 12 = .ok (.invokestatic 95, 3) := by decide +kernel
theorem dJ3_checkIndex_8e157_15 : decode cJ3_checkIndex_8e157 15 = .ok (.athrow, 1) := by decide +kernel
theorem dJ3_checkIndex_8e157_16 : decode cJ3_checkIndex_8e157 16 = .ok (.iload_n 0, 1) := by decide +kernel
theorem dJ3_checkIndex_8e157_17 : decode cJ3_checkIndex_8e157 17 = .ok (.ireturn, 1) := by decide +kernel
theorem hdJxf58ca_isNaN_12338 : yJxf58ca_isNaN_12338.cls ≠ "java/lang/invoke/MethodHandle" ∧ yJxf58ca_isNaN_12338.cls ≠ "java/lang/invoke/VarHandle" ∧ (parseMethodDescriptor yJxf58ca_isNaN_12338.desc).map (fun d => d.parameters.length) = some 1 := by decide +kernel
theorem hdJxf58ca_floatToIntBits_5c35a : yJxf58ca_floatToIntBits_5c35a.cls ≠ "java/lang/invoke/MethodHandle" ∧ yJxf58ca_floatToIntBits_5c35a.cls ≠ "java/lang/invoke/VarHandle" ∧ (parseMethodDescriptor yJxf58ca_floatToIntBits_5c35a.desc).map (fun d => d.parameters.length) = some 1 := by decide +kernel
theorem hdJxa1e45_init_da8c8 : yJxa1e45_init_da8c8.cls ≠ "java/lang/invoke/MethodHandle" ∧ yJxa1e45_init_da8c8.cls ≠ "java/lang/invoke/VarHandle" ∧ (parseMethodDescriptor yJxa1e45_init_da8c8.desc).map (fun d => d.parameters.length) = some 0 := by decide +kernel
theorem hdJxc12de_init_da8c8 : yJxc12de_init_da8c8.cls ≠ "java/lang/invoke/MethodHandle" ∧ yJxc12de_init_da8c8.cls ≠ "java/lang/invoke/VarHandle" ∧ (parseMethodDescriptor yJxc12de_init_da8c8.desc).map (fun d => d.parameters.length) = some 0 := by decide +kernel
theorem hdJx4a65c_init_da8c8 : yJx4a65c_init_da8c8.cls ≠ "java/lang/invoke/MethodHandle" ∧ yJx4a65c_init_da8c8.cls ≠ "java/lang/invoke/VarHandle" ∧ (parseMethodDescriptor yJx4a65c_init_da8c8.desc).map (fun d => d.parameters.length) = some 0 := by decide +kernel
theorem hdJx4a65c_grow_92f84 : yJx4a65c_grow_92f84.cls ≠ "java/lang/invoke/MethodHandle" ∧ yJx4a65c_grow_92f84.cls ≠ "java/lang/invoke/VarHandle" ∧ (parseMethodDescriptor yJx4a65c_grow_92f84.desc).map (fun d => d.parameters.length) = some 1 := by decide +kernel
theorem hdJx4a65c_grow_d5877 : yJx4a65c_grow_d5877.cls ≠ "java/lang/invoke/MethodHandle" ∧ yJx4a65c_grow_d5877.cls ≠ "java/lang/invoke/VarHandle" ∧ (parseMethodDescriptor yJx4a65c_grow_d5877.desc).map (fun d => d.parameters.length) = some 0 := by decide +kernel
theorem hdJx4a65c_size_8abf5 : yJx4a65c_size_8abf5.cls ≠ "java/lang/invoke/MethodHandle" ∧ yJx4a65c_size_8abf5.cls ≠ "java/lang/invoke/VarHandle" ∧ (parseMethodDescriptor yJx4a65c_size_8abf5.desc).map (fun d => d.parameters.length) = some 0 := by decide +kernel
theorem hdJx4a65c_isEmpty_aae02 : yJx4a65c_isEmpty_aae02.cls ≠ "java/lang/invoke/MethodHandle" ∧ yJx4a65c_isEmpty_aae02.cls ≠ "java/lang/invoke/VarHandle" ∧ (parseMethodDescriptor yJx4a65c_isEmpty_aae02.desc).map (fun d => d.parameters.length) = some 0 := by decide +kernel
theorem hdJx4a65c_elementData_915e3 : yJx4a65c_elementData_915e3.cls ≠ "java/lang/invoke/MethodHandle" ∧ yJx4a65c_elementData_915e3.cls ≠ "java/lang/invoke/VarHandle" ∧ (parseMethodDescriptor yJx4a65c_elementData_915e3.desc).map (fun d => d.parameters.length) = some 1 := by decide +kernel
theorem hdJx4a65c_get_915e3 : yJx4a65c_get_915e3.cls ≠ "java/lang/invoke/MethodHandle" ∧ yJx4a65c_get_915e3.cls ≠ "java/lang/invoke/VarHandle" ∧ (parseMethodDescriptor yJx4a65c_get_915e3.desc).map (fun d => d.parameters.length) = some 1 := by decide +kernel
theorem hdJx4a65c_add_72be8 : yJx4a65c_add_72be8.cls ≠ "java/lang/invoke/MethodHandle" ∧ yJx4a65c_add_72be8.cls ≠ "java/lang/invoke/VarHandle" ∧ (parseMethodDescriptor yJx4a65c_add_72be8.desc).map (fun d => d.parameters.length) = some 3 := by decide +kernel
theorem hdJx4a65c_add_9ea2d : yJx4a65c_add_9ea2d.cls ≠ "java/lang/invoke/MethodHandle" ∧ yJx4a65c_add_9ea2d.cls ≠ "java/lang/invoke/VarHandle" ∧ (parseMethodDescriptor yJx4a65c_add_9ea2d.desc).map (fun d => d.parameters.length) = some 1 := by decide +kernel
theorem hdJ7_copyOf_1904c : yJ7_copyOf_1904c.cls ≠ "java/lang/invoke/MethodHandle" ∧ yJ7_copyOf_1904c.cls ≠ "java/lang/invoke/VarHandle" ∧ (parseMethodDescriptor yJ7_copyOf_1904c.desc).map (fun d => d.parameters.length) = some 2 := by decide +kernel
theorem hdJ7_copyOf_6403c : yJ7_copyOf_6403c.cls ≠ "java/lang/invoke/MethodHandle" ∧ yJ7_copyOf_6403c.cls ≠ "java/lang/invoke/VarHandle" ∧ (parseMethodDescriptor yJ7_copyOf_6403c.desc).map (fun d => d.parameters.length) = some 3 := by decide +kernel
theorem hdJ7_copyOf_59c91 : yJ7_copyOf_59c91.cls ≠ "java/lang/invoke/MethodHandle" ∧ yJ7_copyOf_59c91.cls ≠ "java/lang/invoke/VarHandle" ∧ (parseMethodDescriptor yJ7_copyOf_59c91.desc).map (fun d => d.parameters.length) = some 2 := by decide +kernel
theorem hdJ15_checkIndex_7cf53 : yJ15_checkIndex_7cf53.cls ≠ "java/lang/invoke/MethodHandle" ∧ yJ15_checkIndex_7cf53.cls ≠ "java/lang/invoke/VarHandle" ∧ (parseMethodDescriptor yJ15_checkIndex_7cf53.desc).map (fun d => d.parameters.length) = some 2 := by decide +kernel
theorem hdJ8_newLength_cabcc : yJ8_newLength_cabcc.cls ≠ "java/lang/invoke/MethodHandle" ∧ yJ8_newLength_cabcc.cls ≠ "java/lang/invoke/VarHandle" ∧ (parseMethodDescriptor yJ8_newLength_cabcc.desc).map (fun d => d.parameters.length) = some 3 := by decide +kernel
theorem hdJ8_hugeLength_7cf53 : yJ8_hugeLength_7cf53.cls ≠ "java/lang/invoke/MethodHandle" ∧ yJ8_hugeLength_7cf53.cls ≠ "java/lang/invoke/VarHandle" ∧ (parseMethodDescriptor yJ8_hugeLength_7cf53.desc).map (fun d => d.parameters.length) = some 2 := by decide +kernel
theorem hdJ3_checkIndex_8e157 : yJ3_checkIndex_8e157.cls ≠ "java/lang/invoke/MethodHandle" ∧ yJ3_checkIndex_8e157.cls ≠ "java/lang/invoke/VarHandle" ∧ (parseMethodDescriptor yJ3_checkIndex_8e157.desc).map (fun d => d.parameters.length) = some 3 := by decide +kernel
theorem mtL_size {mc ms n : Nat} (hn : n < 4 + 2 * nD K) : CM l D cI e0 A yJx4a65c_size_8abf5 cJx4a65c_size_8abf5 1 (some .int) 0 0 mc ms [.ref (ad 8 n)] (HT D cI e0 A ad K M ap o od) (qE (some (.int (K 8 2 n))) (HT D cI e0 A ad K M ap o od)) xN := by
  refine CM.of (by decide) (Nat.le_of_ble_eq_true rfl) (fun p e s m below meth c ls FX hw hS hl => ?_)
  obtain ⟨S, hg, hr, hlk, hnm, hout⟩ := FX
  have hl : lv_has ls 1 [(0, .ref (ad 8 n))] := hl
  have hw0 := hw
  obtain ⟨av, hw⟩ := hw
  refine lv_aload_n S.1 S.2.1 dJx4a65c_size_8abf5_0 rfl (lv_at hl 0 rfl) ?_
  refine r_get S hg hw (k := 8) (i := n) hn rfl rfl iWJx4a65c 2 (by decide) u96 rfl dJx4a65c_size_8abf5_1 ?_
  exact r_iret (y := yJx4a65c_size_8abf5) S hr rfl hlk hS (by omega) (by omega) dJx4a65c_size_8abf5_4 ⟨rfl, hw0⟩
theorem mtL_isEmpty {mc ms n : Nat} (hn : n < 4 + 2 * nD K) : CM l D cI e0 A yJx4a65c_isEmpty_aae02 cJx4a65c_isEmpty_aae02 1 (some .boolean) 0 0 mc ms [.ref (ad 8 n)] (HT D cI e0 A ad K M ap o od) (qE (some (.int (if K 8 2 n = 0 then 1 else 0))) (HT D cI e0 A ad K M ap o od)) xN := by
  refine CM.of (by decide) (Nat.le_of_ble_eq_true rfl) (fun p e s m below meth c ls FX hw hS hl => ?_)
  obtain ⟨S, hg, hr, hlk, hnm, hout⟩ := FX
  have hl : lv_has ls 1 [(0, .ref (ad 8 n))] := hl
  have hw0 := hw
  obtain ⟨av, hw⟩ := hw
  refine lv_aload_n S.1 S.2.1 dJx4a65c_isEmpty_aae02_0 rfl (lv_at hl 0 rfl) ?_
  refine r_get S hg hw (k := 8) (i := n) hn rfl rfl iWJx4a65c 2 (by decide) u96 rfl dJx4a65c_isEmpty_aae02_1 ?_
  refine lv_if_ne (tgt := 11) S.1 S.2.1 dJx4a65c_isEmpty_aae02_4 (by decide) (fun c1 => ?_) (fun c1 => ?_)
  · refine lv_iconst (v := 0) S.1 S.2.1 dJx4a65c_isEmpty_aae02_11 (by decide) ?_
    exact r_iret (y := yJx4a65c_isEmpty_aae02) S hr rfl hlk hS (by omega) (by omega) dJx4a65c_isEmpty_aae02_12 ⟨by rw [if_neg c1], hw0⟩
  · refine lv_iconst (v := 1) S.1 S.2.1 dJx4a65c_isEmpty_aae02_7 (by decide) ?_
    refine lv_goto (tgt := 12) S.1 S.2.1 dJx4a65c_isEmpty_aae02_8 (by decide) ?_
    exact r_iret (y := yJx4a65c_isEmpty_aae02) S hr rfl hlk hS (by omega) (by omega) dJx4a65c_isEmpty_aae02_12 ⟨by rw [if_pos c1], hw0⟩
theorem mtL_check3 {mc ms : Nat} {i n : Int32} (h0 : ¬ i < 0) (h1 : i < n) (P : Heap → Prop) : CM l D cI e0 A yJ3_checkIndex_8e157 cJ3_checkIndex_8e157 3 (some .int) 0 0 mc ms [.int i, .int n, .null] P (qE (some (.int i)) (P)) xN := by
  refine CM.of (by decide) (Nat.le_of_ble_eq_true rfl) (fun p e s m below meth c ls FX hw hS hl => ?_)
  obtain ⟨S, hg, hr, hlk, hnm, hout⟩ := FX
  have hl : lv_has ls 3 [(0, .int i), (1, .int n), (2, .null)] := hl
  refine lv_iload_n S.1 S.2.1 dJ3_checkIndex_8e157_0 rfl (lv_at hl 0 rfl) ?_
  refine lv_if_lt (tgt := 9) S.1 S.2.1 dJ3_checkIndex_8e157_1 (by decide) (fun c1 => absurd c1 h0) (fun c1 => ?_)
  refine lv_iload_n S.1 S.2.1 dJ3_checkIndex_8e157_4 rfl (lv_at hl 0 rfl) ?_
  refine lv_iload_n S.1 S.2.1 dJ3_checkIndex_8e157_5 rfl (lv_at hl 1 rfl) ?_
  refine lv_icmp_lt (tgt := 16) S.1 S.2.1 dJ3_checkIndex_8e157_6 (by decide) (fun c1 => ?_) (fun c1 => absurd h1 c1)
  refine lv_iload_n S.1 S.2.1 dJ3_checkIndex_8e157_16 rfl (lv_at hl 0 rfl) ?_
  exact r_iret (y := yJ3_checkIndex_8e157) S hr rfl hlk hS (by omega) (by omega) dJ3_checkIndex_8e157_17 ⟨rfl, hw⟩
theorem mtL_check2 {mc ms : Nat} {i n : Int32} (h0 : ¬ i < 0) (h1 : i < n) (P : Heap → Prop) : CM l D cI e0 A yJ15_checkIndex_7cf53 cJ15_checkIndex_7cf53 2 (some .int) 1 22 mc ms [.int i, .int n] P (qE (some (.int i)) (P)) xN := by
  refine CM.of (by decide) (Nat.le_of_ble_eq_true rfl) (fun p e s m below meth c ls FX hw hS hl => ?_)
  obtain ⟨S, hg, hr, hlk, hnm, hout⟩ := FX
  have hl : lv_has ls 2 [(0, .int i), (1, .int n)] := hl
  refine lv_iload_n S.1 S.2.1 dJ15_checkIndex_7cf53_0 rfl (lv_at hl 0 rfl) ?_
  refine lv_iload_n S.1 S.2.1 dJ15_checkIndex_7cf53_1 rfl (lv_at hl 1 rfl) ?_
  refine lv_null S.1 S.2.1 dJ15_checkIndex_7cf53_2 ?_
  refine r_callS (rest := []) S hg hS (mtL_check3 (mc := 0) (ms := 0) h0 h1 P) u207 u208 u64 u209 hdJ3_checkIndex_8e157 hw ⟨Nat.le_of_ble_eq_true rfl, Nat.le_of_ble_eq_true rfl⟩ ⟨by show 0 + 0 ≤ mc; omega, by show 0 + 0 ≤ ms; omega⟩ hl.1 (Nat.le_of_ble_eq_true rfl) rfl dJ15_checkIndex_7cf53_3 (fun E ce q H1 locs1 hx hS1 hc1 hc2 hc3 => hx.elim) (fun rv H locs hq hS => ?_)
  obtain ⟨rfl, hw⟩ := hq
  exact r_iret (y := yJ15_checkIndex_7cf53) S hr rfl hlk hS (by omega) (by omega) dJ15_checkIndex_7cf53_6 ⟨rfl, hw⟩
theorem mtL_elem {mc ms n : Nat} {j : Int32} (hn : n < 4 + 2 * nD K) (hj : okGet K n j) : CM l D cI e0 A yJx4a65c_elementData_915e3 cJx4a65c_elementData_915e3 2 (some (.object "java/lang/Object")) 0 0 mc ms [.ref (ad 8 n), .int j] (HT D cI e0 A ad K M ap o od) (qE (some (.ref (ad (ek n) (K 9 n j.toNatClampNeg).toNatClampNeg))) (HT D cI e0 A ad K M ap o od)) xN := by
  refine CM.of (by decide) (Nat.le_of_ble_eq_true rfl) (fun p e s m below meth c ls FX hw hS hl => ?_)
  obtain ⟨S, hg, hr, hlk, hnm, hout⟩ := FX
  have hl : lv_has ls 2 [(0, .ref (ad 8 n)), (1, .int j)] := hl
  have hw0 := hw
  obtain ⟨av, hw⟩ := hw
  obtain ⟨j0, j1, j2, j3⟩ := hj
  have jl : j.toNatClampNeg < (K 8 2 n).toNatClampNeg := by
    have a1 := Int32.lt_iff_toInt_lt.mp j1
    have a0 : ¬ j.toInt < 0 := fun z => j0 (Int32.lt_iff_toInt_lt.mpr z)
    show j.toInt.toNat < (K 8 2 n).toInt.toNat
    omega
  refine lv_aload_n S.1 S.2.1 dJx4a65c_elementData_915e3_0 rfl (lv_at hl 0 rfl) ?_
  refine r_get S hg hw (k := 8) (i := n) hn rfl rfl iWJx4a65c 1 (by decide) u95 (v := .ref (av 9 n)) (by show some (Value.ref (if K 8 3 n = 0 then e0 else av 9 n)) = _; rw [if_neg j2]) dJx4a65c_elementData_915e3_1 ?_
  refine lv_iload_n S.1 S.2.1 dJx4a65c_elementData_915e3_4 rfl (lv_at hl 1 rfl) ?_
  refine r_oald S hg hw (k := 9) (i := n) ⟨hn, j2⟩ rfl (j := j) (a := ad (ek n) (K 9 n j.toNatClampNeg).toNatClampNeg) (fun z => z.elim j0 (fun z => by omega)) (by show (if _ then _ else _) = _; rw [if_pos jl]) dJx4a65c_elementData_915e3_5 ?_
  exact r_aret (y := yJx4a65c_elementData_915e3) S hr (Or.inl ⟨_, rfl⟩) hlk hS (by omega) (by omega) dJx4a65c_elementData_915e3_6 ⟨rfl, hw0⟩
theorem rv8 (hg : GI D cI e0 A s s.heap) (hw : HT D cI e0 A ad K M ap o od H) {i : Nat} (hi : i < 4 + 2 * nD K) : ∃ cell : Cell, H[ad 8 i]? = some cell ∧ cell.vm.isStatics = false ∧ s.vm.findClass RJx4a65c = some cell.cls := by
  obtain ⟨av, hw⟩ := hw
  exact r_recv hg hw (k := 8) (i := i) hi rfl (q := (RJx4a65c, TJx4a65c, 3)) rfl
theorem mtL_get {mc ms n : Nat} {j : Int32} (hn : n < 4 + 2 * nD K) (hj : okGet K n j) : CM l D cI e0 A yJx4a65c_get_915e3 cJx4a65c_get_915e3 2 (some (.object "java/lang/Object")) 2 60 mc ms [.ref (ad 8 n), .int j] (HT D cI e0 A ad K M ap o od) (qE (some (.ref (ad (ek n) (K 9 n j.toNatClampNeg).toNatClampNeg))) (HT D cI e0 A ad K M ap o od)) xN := by
  refine CM.of (by decide) (Nat.le_of_ble_eq_true rfl) (fun p e s m below meth c ls FX hw hS hl => ?_)
  obtain ⟨S, hg, hr, hlk, hnm, hout⟩ := FX
  have hl : lv_has ls 2 [(0, .ref (ad 8 n)), (1, .int j)] := hl
  have hw0 := hw
  obtain ⟨av, hw1⟩ := hw
  refine lv_iload_n S.1 S.2.1 dJx4a65c_get_915e3_0 rfl (lv_at hl 1 rfl) ?_
  refine lv_aload_n S.1 S.2.1 dJx4a65c_get_915e3_1 rfl (lv_at hl 0 rfl) ?_
  refine r_get S hg hw1 (k := 8) (i := n) hn rfl rfl iWJx4a65c 2 (by decide) u96 rfl dJx4a65c_get_915e3_2 ?_
  refine r_callS (rest := []) S hg hS (mtL_check2 (mc := 0) (ms := 0) hj.1 hj.2.1 (HT D cI e0 A ad K M ap o od)) u204 u205 u63 u206 hdJ15_checkIndex_7cf53 hw0 ⟨Nat.le_of_ble_eq_true rfl, Nat.le_of_ble_eq_true rfl⟩ ⟨by show 0 + 0 ≤ mc; omega, by show 0 + 0 ≤ ms; omega⟩ hl.1 (Nat.le_of_ble_eq_true rfl) rfl dJx4a65c_get_915e3_5 (fun E ce q H1 locs1 hx hS1 hc1 hc2 hc3 => hx.elim) (fun rv H locs hq hS => ?_)
  obtain ⟨rfl, hw⟩ := hq
  refine lv_pop S.1 S.2.1 dJx4a65c_get_915e3_8 rfl ?_
  refine lv_aload_n S.1 S.2.1 dJx4a65c_get_915e3_9 rfl (lv_at hl 0 rfl) ?_
  refine lv_iload_n S.1 S.2.1 dJx4a65c_get_915e3_10 rfl (lv_at hl 1 rfl) ?_
  refine r_call (rest := []) S hg hS (mtL_elem (mc := 0) (ms := 0) hn hj) u210 u211 u212 u46 u213 hdJx4a65c_elementData_915e3 (rv8 hg hw hn) hw ⟨Nat.le_of_ble_eq_true rfl, Nat.le_of_ble_eq_true rfl⟩ ⟨by show 0 + 0 + 0 ≤ mc; omega, by show 0 + 0 + 0 ≤ ms; omega⟩ hl.1 (Nat.le_of_ble_eq_true rfl) rfl dJx4a65c_get_915e3_11 (fun E ce q H1 locs1 hx hS1 hc1 hc2 hc3 => hx.elim) (fun rv H locs hq hS => ?_)
  obtain ⟨rfl, hw⟩ := hq
  exact r_aret (y := yJx4a65c_get_915e3) S hr (Or.inl ⟨_, rfl⟩) hlk hS (by omega) (by omega) dJx4a65c_get_915e3_14 ⟨rfl, hw⟩
theorem rL_size (S : CallFix p m c cc nL s args WU own) (hg : GI D cI e0 A s s.heap) (hS : va_S A s.heap H locs) (hw : HT D cI e0 A ad K M ap o od H) {n : Nat} (hn : n < 4 + 2 * nD K) (k1 : Cond.methodLink own index yJx4a65c_size_8abf5 ∈ WU) (hsz : ls.size = nL) (hrest : (rest.map fun v => v.category).sum ≤ 8) (hR : 1 ≤ R.frames ∧ 20 ≤ R.locals) (hcs : cells ≤ R.cells ∧ slots ≤ R.slots) (hd : decode cc pc = .ok (.invokevirtual index, 3))
    (kk : ∀ (H1 : Heap) (locs1 : List Loc), HT D cI e0 A ad K M ap o od H1 → va_S A s.heap H1 locs1 → W p l e R s m args below meth c H1 locs1 cells slots Q (F0 m (pc + 3) ls (.int (K 8 2 n) :: rest))) : W p l e R s m args below meth c H locs cells slots Q (F0 m pc ls (.ref (ad 8 n) :: rest)) :=
  r_call (rest := rest) S hg hS (mtL_size (mc := 0) (ms := 0) hn) k1 u197 u198 u46 u199 (by decide +kernel) (rv8 hg hw hn) hw ⟨hR.1, hR.2⟩ hcs hsz hrest rfl hd (fun E ce q H1 locs1 hx hS1 hc1 hc2 hc3 => hx.elim) (fun rv H locs hq hS => by obtain ⟨rfl, hw⟩ := hq; exact kk H locs hw hS)
theorem rL_isEmpty (S : CallFix p m c cc nL s args WU own) (hg : GI D cI e0 A s s.heap) (hS : va_S A s.heap H locs) (hw : HT D cI e0 A ad K M ap o od H) {n : Nat} (hn : n < 4 + 2 * nD K) (k1 : Cond.methodLink own index yJx4a65c_isEmpty_aae02 ∈ WU) (hsz : ls.size = nL) (hrest : (rest.map fun v => v.category).sum ≤ 8) (hR : 1 ≤ R.frames ∧ 20 ≤ R.locals) (hcs : cells ≤ R.cells ∧ slots ≤ R.slots) (hd : decode cc pc = .ok (.invokevirtual index, 3))
    (kk : ∀ (H1 : Heap) (locs1 : List Loc), HT D cI e0 A ad K M ap o od H1 → va_S A s.heap H1 locs1 → W p l e R s m args below meth c H1 locs1 cells slots Q (F0 m (pc + 3) ls (.int (if K 8 2 n = 0 then 1 else 0) :: rest))) : W p l e R s m args below meth c H locs cells slots Q (F0 m pc ls (.ref (ad 8 n) :: rest)) :=
  r_call (rest := rest) S hg hS (mtL_isEmpty (mc := 0) (ms := 0) hn) k1 u681 u682 u46 u683 (by decide +kernel) (rv8 hg hw hn) hw ⟨hR.1, hR.2⟩ hcs hsz hrest rfl hd (fun E ce q H1 locs1 hx hS1 hc1 hc2 hc3 => hx.elim) (fun rv H locs hq hS => by obtain ⟨rfl, hw⟩ := hq; exact kk H locs hw hS)
theorem rL_get (S : CallFix p m c cc nL s args WU own) (hg : GI D cI e0 A s s.heap) (hS : va_S A s.heap H locs) (hw : HT D cI e0 A ad K M ap o od H) {n : Nat} {j : Int32} (hn : n < 4 + 2 * nD K) (hj : okGet K n j) (k1 : Cond.methodLink own index yJx4a65c_get_915e3 ∈ WU) (hsz : ls.size = nL) (hrest : (rest.map fun v => v.category).sum ≤ 8) (hR : 3 ≤ R.frames ∧ 81 ≤ R.locals) (hcs : cells ≤ R.cells ∧ slots ≤ R.slots) (hd : decode cc pc = .ok (.invokevirtual index, 3))
    (kk : ∀ (H1 : Heap) (locs1 : List Loc), HT D cI e0 A ad K M ap o od H1 → va_S A s.heap H1 locs1 → W p l e R s m args below meth c H1 locs1 cells slots Q (F0 m (pc + 3) ls (.ref (ad (ek n) (K 9 n j.toNatClampNeg).toNatClampNeg) :: rest))) : W p l e R s m args below meth c H locs cells slots Q (F0 m pc ls (.int j :: .ref (ad 8 n) :: rest)) :=
  r_call (rest := rest) S hg hS (mtL_get (mc := 0) (ms := 0) hn hj) k1 u201 u202 u46 u203 hdJx4a65c_get_915e3 (rv8 hg hw hn) hw ⟨hR.1, hR.2⟩ hcs hsz hrest rfl hd (fun E ce q H1 locs1 hx hS1 hc1 hc2 hc3 => hx.elim) (fun rv H locs hq hS => by obtain ⟨rfl, hw⟩ := hq; exact kk H locs hw hS)
theorem mtL_newLen {mc ms : Nat} {o1 a b : Int32} (h1 : (if a < b then b else a) = o1 - o1 + (if a < b then b else a)) {r : Int32} (hr0 : o1 + (if a < b then b else a) = r) (hp : 0 < r) (hm : ¬ 2147483639 < r) (P : Heap → Prop) : CM l D cI e0 A yJ8_newLength_cabcc cJ8_newLength_cabcc 4 (some .int) 1 40 mc ms [.int o1, .int a, .int b] P (qE (some (.int r)) P) xN := by
  refine CM.of (by decide) (Nat.le_of_ble_eq_true rfl) (fun p e s m below meth c ls FX hw hS hl => ?_)
  obtain ⟨S, hg, hr, hlk, hnm, hout⟩ := FX
  have hl : lv_has ls 4 [(0, .int o1), (1, .int a), (2, .int b)] := hl
  refine lv_iload_n S.1 S.2.1 dJ8_newLength_cabcc_0 rfl (lv_at hl 0 rfl) ?_
  refine lv_iload_n S.1 S.2.1 dJ8_newLength_cabcc_1 rfl (lv_at hl 1 rfl) ?_
  refine lv_iload_n S.1 S.2.1 dJ8_newLength_cabcc_2 rfl (lv_at hl 2 rfl) ?_
  refine va_mmax S.1 S.2.1 (S.2.2.1.trans hl.1.symm) S.2.2.2.1 (S.2.2.2.2 _ u426) (S.2.2.2.2 _ u427) (S.2.2.2.2 _ u60) (S.2.2.2.2 _ u428) (Nat.le_of_ble_eq_true rfl) (Nat.le_of_ble_eq_true rfl) (by show 0 ≤ mc; omega) (by show 0 ≤ ms; omega) dJ8_newLength_cabcc_3 ?_
  refine lv_iadd S.1 S.2.1 dJ8_newLength_cabcc_6 ?_
  rw [hr0]
  refine lv_istore_n (lv' := [(3, .int r), (0, .int o1), (1, .int a), (2, .int b)]) S.1 S.2.1 dJ8_newLength_cabcc_7 rfl hl (by decide) rfl (fun ls hl => ?_)
  refine lv_iconst (v := 0) S.1 S.2.1 dJ8_newLength_cabcc_8 (by decide) ?_
  refine lv_iload_n S.1 S.2.1 dJ8_newLength_cabcc_9 rfl (lv_at hl 0 rfl) ?_
  refine lv_icmp_ge (tgt := 21) S.1 S.2.1 dJ8_newLength_cabcc_10 (by decide) (fun c1 => absurd hp (Int32.not_lt.mpr c1)) (fun c1 => ?_)
  refine lv_iload_n S.1 S.2.1 dJ8_newLength_cabcc_13 rfl (lv_at hl 0 rfl) ?_
  refine lv_ldc S.1 S.2.1 S.2.2.2.1 (S.2.2.2.2 _ u429) dJ8_newLength_cabcc_14 ?_
  refine lv_icmp_gt (tgt := 21) S.1 S.2.1 dJ8_newLength_cabcc_16 (by decide) (fun c1 => absurd c1 hm) (fun c1 => ?_)
  refine lv_iload_n S.1 S.2.1 dJ8_newLength_cabcc_19 rfl (lv_at hl 0 rfl) ?_
  exact r_iret (y := yJ8_newLength_cabcc) S hr rfl hlk hS (by omega) (by omega) dJ8_newLength_cabcc_20 ⟨rfl, hw⟩
/-- list n's elements at a, and a copy of them in the N places at q -/
def HTc (D : va_G) (cI : Nat → ClassId) (e0 : Nat) (A : Nat → Prop) (ad : Nat → Nat → Nat) (K M : KS) (ap o : Int64) (od : UInt64) (n a N q : Nat) (H : Heap) : Prop := ∃ av, av 9 n = a ∧ HW D A (fun k i => lvK K k i ∨ (k = 30 ∧ i = 0)) (hU (adK ad av) 30 0 q) (hU (ctK cI e0 ad av K M ap o od) 30 0 (.inl (cI 2, N, .inr (.inr (.inr (.inr (fun j => if j < (K 8 2 n).toNatClampNeg then some (ad (ek n) (K 9 n j).toNatClampNeg) else none))))))) H
def HTe (D : va_G) (cI : Nat → ClassId) (e0 : Nat) (A : Nat → Prop) (ad : Nat → Nat → Nat) (K M : KS) (ap o : Int64) (od : UInt64) (n a : Nat) (H : Heap) : Prop := ∃ av, av 9 n = a ∧ HW D A (lvK K) (adK ad av) (ctK cI e0 ad av K M ap o od) H
theorem ek_known {n : Nat} : ∃ (r : vw_C) (ci : Nat), vwCl[ci]? = some r ∧ (r.1, "java/lang/Object") ∈ gCa ∧ ∀ (K M : KS) (ap o : Int64) (od : UInt64) (cI : Nat → ClassId) (e0 : Nat) (ad av : Nat → Nat → Nat) (i : Nat), ∃ fs, ctK cI e0 ad av K M ap o od (ek n) i = .inr (ci, fs) := by
  have h : ek n = 4 ∨ ek n = 5 ∨ ek n = 6 := by
    unfold ek
    split <;> simp
  rcases h with h | h | h
  · refine ⟨(RX1, TX1, 6), 4, rfl, by decide +kernel, fun K M ap o od cI e0 ad av i => ?_⟩
    rw [h]; exact ⟨_, rfl⟩
  · refine ⟨(RX4, TX4, 6), 7, rfl, by decide +kernel, fun K M ap o od cI e0 ad av i => ?_⟩
    rw [h]; exact ⟨_, rfl⟩
  · refine ⟨(RX2, TX2, 11), 5, rfl, by decide +kernel, fun K M ap o od cI e0 ad av i => ?_⟩
    rw [h]; exact ⟨_, rfl⟩
theorem r_ocpy (S : CallFix p m c cc nL s args WU own) (hg : GI D cI e0 A s s.heap) (hS : va_S A s.heap H locs) (hw : HW D A live adr G H) {k i k2 i2 : Nat} (hl : live k i) (hl2 : live k2 i2) {n1 n2 : Nat} {f g : Nat → Option Nat} (hG : G k i = .inl (cI 2, n1, .inr (.inr (.inr (.inr f))))) (hG2 : G k2 i2 = .inl (cI 2, n2, .inr (.inr (.inr (.inr g)))))
    {r : vw_C} {ci kx : Nat} (hc : vwCl[ci]? = some r) (hca : (r.1, "java/lang/Object") ∈ gCa) {n : Int32} (h3 : ¬ n < 0) (h4 : n.toNatClampNeg ≤ n1) (h5 : n.toNatClampNeg ≤ n2) (hel : ∀ j, j < n.toNatClampNeg → ∀ y, f j = some y → ∃ ix fs, y = adr kx ix ∧ live kx ix ∧ G kx ix = .inr (ci, fs)) (hk : Cond.methodLink own index ⟨"java/lang/System", "arraycopy", "(Ljava/lang/Object;ILjava/lang/Object;II)V"⟩ ∈ WU) (hsz : ls.size = nL) (hf : 1 ≤ R.frames) (hlo : (rest.map fun v => v.category).sum + 30 ≤ R.locals) (hdg : decode cc pc = .ok (.invokestatic index, 3))
    (kk : ∀ (H1 : Heap) (locs1 : List Loc), HW D A live adr (hU G k2 i2 (.inl (cI 2, n2, .inr (.inr (.inr (.inr (va_cpy f g 0 0 n.toNatClampNeg))))))) H1 → va_S A s.heap H1 locs1 → W p l e R s m args below meth c H1 locs1 cells slots Q (F0 m (pc + 3) ls rest)) : W p l e R s m args below meth c H locs cells slots Q (F0 m pc ls (.int n :: .int 0 :: .ref (adr k2 i2) :: .int 0 :: .ref (adr k i) :: rest)) := by
  have hw0 := hw
  obtain ⟨ids, h1, h2, hD⟩ := hw
  obtain ⟨q, -, hq⟩ := hws_at (adr := adr) (G := G) (h1 k i hl)
  obtain ⟨q2, q3, hq2⟩ := hws_at (adr := adr) (G := G) (h1 k2 i2 hl2)
  rw [hG] at hq
  rw [hG2] at hq2
  refine va_copyq (rest := rest) (C := r.1) (sp := 0) (dp := 0) S.1 S.2.1 (S.2.2.1.trans hsz.symm) S.2.2.2.1 (S.2.2.2.2 _ hk) (S.2.2.2.2 _ u467) (S.2.2.2.2 _ u466) (S.2.2.2.2 _ u62) hg.1 h2 hD hS q q2 2 2 hq hq2 rfl rfl (by decide) (by decide) h3 (by rw [tn0]; omega) (by rw [tn0]; omega) ?_ ?_ hf (by have := nfw; omega) hdg (fun H1 locs1 hP hD2 hS => kk H1 locs1 (HW.set hD h1 q3 hP hD2) hS)
  · intro j hj y hy
    rw [show (0 : Int32).toNatClampNeg = 0 from rfl, Nat.zero_add] at hy
    obtain ⟨ix, fs, rfl, q5, q6⟩ := hel j hj y hy
    exact r_recv hg hw0 q5 q6 hc
  · intro comp c0 e1 e2
    have h9 := hg.2.2.2.2.1.1 _ hca
    obtain ⟨c3, c4, a1, a2, a3⟩ := Cond.castable_spec (va_Nw.use (A := args) rfl h9)
    cases Option.some.inj (a1.symm.trans e2)
    cases Option.some.inj (a2.symm.trans e1)
    exact a3
def qC (D : va_G) (cI : Nat → ClassId) (e0 : Nat) (A : Nat → Prop) (ad : Nat → Nat → Nat) (K M : KS) (ap o : Int64) (od : UInt64) (n a N : Nat) (rv : Option Value) (H : Heap) : Prop := ∃ q, rv = some (.ref q) ∧ HTc D cI e0 A ad K M ap o od n a N q H
def qG (D : va_G) (cI : Nat → ClassId) (e0 : Nat) (A : Nat → Prop) (ad : Nat → Nat → Nat) (K M : KS) (ap o : Int64) (od : UInt64) (n : Nat) (rv : Option Value) (H : Heap) : Prop := ∃ a, rv = some (.ref a) ∧ HTe D cI e0 A ad K M ap o od n a H
theorem objArr : "[" ++ (FieldType.object "java/lang/Object").toString = "[Ljava/lang/Object;" := by decide +kernel
theorem r_rarr (hg : GI D cI e0 A s s.heap) (hw : HW D A live adr G H) {k i : Nat} (hl : live k i) {x : vp_A} (hG : G k i = .inl (cI 2, x)) : ∃ cell : Cell, H[adr k i]? = some cell ∧ cell.vm.isStatics = false ∧ s.vm.findClass "[Ljava/lang/Object;" = some cell.cls := by
  obtain ⟨ids, h1, h2, h3⟩ := hw
  obtain ⟨q, -, hq⟩ := hws_at (adr := adr) (G := G) (h1 k i hl)
  rw [hG] at hq
  obtain ⟨_, _, _, _, _, h9⟩ := (hg.1.2 2 _ rfl).2
  rw [objArr] at h9
  refine ⟨_, h2 q _ hq, ?_, ?_⟩
  · obtain ⟨x1, x2⟩ := x
    rcases x2 with f | f | f | f | f <;> rfl
  · rw [h9]
    obtain ⟨x1, x2⟩ := x
    rcases x2 with f | f | f | f | f <;> rfl
set_option maxHeartbeats 4000000 in
theorem mtL_copy4 {mc ms n a N q : Nat} (hq : K 8 3 n = nI q) (hq0 : 2 ≤ q) (hN : q < N) (hN2 : N ≤ 65536) (hn : n < 4 + 2 * nD K) (hc : (K 8 2 n).toNatClampNeg ≤ q) (hel : ∀ j, j < (K 8 2 n).toNatClampNeg → lvK K (ek n) (K 9 n j).toNatClampNeg) (h1 : 1 ≤ mc) (h2 : N ≤ ms) : CM l D cI e0 A yJ7_copyOf_6403c cJ7_copyOf_6403c 4 (some (.array (.object "java/lang/Object"))) 1 60 mc ms [.ref a, .int (nI N), .ref (cI 9)] (HTe D cI e0 A ad K M ap o od n a) (qC D cI e0 A ad K M ap o od n a N) xN := by
  refine CM.of (by decide) (Nat.le_of_ble_eq_true rfl) (fun p e s m below meth c ls FX hw hS hl => ?_)
  obtain ⟨S, hg, hr, hlk, hnm, hout⟩ := FX
  have hl : lv_has ls 4 [(0, .ref a), (1, .int (nI N)), (2, .ref (cI 9))] := hl
  obtain ⟨av, rfl, hw⟩ := hw
  have hcap : (K 8 3 n).toNatClampNeg = q := by rw [hq]; exact nI_clamp (by omega)
  have hne : K 8 3 n ≠ 0 := by rw [hq]; exact nI_ne0 (by omega) (by omega)
  refine lv_aload_n S.1 S.2.1 dJ7_copyOf_6403c_0 rfl (lv_at hl 2 rfl) ?_
  refine va_ldcM S.1 S.2.1 S.2.2.2.1 (S.2.2.2.2 _ u459) hg.2.2.2.2.2.2.1.1 dJ7_copyOf_6403c_1 ?_
  refine lv_acmp_ne (rx := some (cI 9)) (ry := some (cI 9)) (tgt := 13) S.1 S.2.1 dJ7_copyOf_6403c_3 (by decide) (fun c1 => absurd rfl c1) (fun c1 => ?_)
  refine lv_iload_n S.1 S.2.1 dJ7_copyOf_6403c_6 rfl (lv_at hl 1 rfl) ?_
  refine r_onew S hg hS hw 30 0 (N := N) u461 (nI_pos (by omega)) (nI_clamp (by omega)) (by omega) (by show 0 + 1 ≤ mc; omega) (by show 0 + N ≤ ms; omega) dJ7_copyOf_6403c_7 (fun x H hw hS => ?_)
  refine lv_goto (tgt := 24) S.1 S.2.1 dJ7_copyOf_6403c_10 (by decide) ?_
  refine lv_astore_n (lv' := [(3, .ref x), (0, .ref (av 9 n)), (1, .int (nI N)), (2, .ref (cI 9))]) S.1 S.2.1 dJ7_copyOf_6403c_24 rfl hl (by decide) rfl (fun ls hl => ?_)
  refine lv_aload_n S.1 S.2.1 dJ7_copyOf_6403c_25 rfl (lv_at hl 1 rfl) ?_
  refine lv_iconst (v := 0) S.1 S.2.1 dJ7_copyOf_6403c_26 (by decide) ?_
  refine lv_aload_n S.1 S.2.1 dJ7_copyOf_6403c_27 rfl (lv_at hl 0 rfl) ?_
  refine lv_iconst (v := 0) S.1 S.2.1 dJ7_copyOf_6403c_28 (by decide) ?_
  refine lv_aload_n S.1 S.2.1 dJ7_copyOf_6403c_29 rfl (lv_at hl 1 rfl) ?_
  have ea : hU (adK ad av) 30 0 x 9 n = av 9 n := hU_n _ _ (by omega)
  have ex : hU (adK ad av) 30 0 x 30 0 = x := hU_s _ _ _ _
  have eg : hU (ctK cI e0 ad av K M ap o od) 30 0 (.inl (cI 2, N, .inr (.inr (.inr (.inr (fun _ => none)))))) 9 n = ctK cI e0 ad av K M ap o od 9 n := hU_n _ _ (by omega)
  have hl9 : lvK K 9 n := ⟨hn, hne⟩
  rw [← ea]
  refine r_alen S hg hw (k := 9) (i := n) (Or.inl hl9) 2 rfl (x := ((K 8 3 n).toNatClampNeg, .inr (.inr (.inr (.inr (fun j => if j < (K 8 2 n).toNatClampNeg then some (ad (ek n) (K 9 n j).toNatClampNeg) else none)))))) eg dJ7_copyOf_6403c_30 ?_
  refine lv_iload_n S.1 S.2.1 dJ7_copyOf_6403c_31 rfl (lv_at hl 2 rfl) ?_
  refine va_mmin S.1 S.2.1 (S.2.2.1.trans hl.1.symm) S.2.2.2.1 (S.2.2.2.2 _ u462) (S.2.2.2.2 _ u463) (S.2.2.2.2 _ u60) (S.2.2.2.2 _ u464) (Nat.le_of_ble_eq_true rfl) (Nat.le_of_ble_eq_true rfl) (by show 0 + 1 ≤ mc; omega) (by show 0 + N ≤ ms; omega) dJ7_copyOf_6403c_32 ?_
  rw [hcap, if_neg (nI_nlt (by omega) (by omega))]
  have ex2 : (Value.ref x) = .ref (hU (adK ad av) 30 0 x 30 0) := by rw [ex]
  rw [ex2]
  obtain ⟨r, ci, hc1, hca, hck⟩ := ek_known (n := n)
  have hek : ¬ (ek n = 30 ∧ True) := by
    unfold ek
    split <;> simp
  have hek2 : ∀ i, ¬ (ek n = 30 ∧ i = 0) := fun i z => hek ⟨z.1, trivial⟩
  have hek9 : ∀ i, adK ad av (ek n) i = ad (ek n) i := by
    intro i
    unfold ek
    split <;> rfl
  refine r_ocpy (rest := []) S hg hS hw (k := 9) (i := n) (k2 := 30) (i2 := 0) (Or.inl hl9) (Or.inr ⟨rfl, rfl⟩) (n1 := q) (f := fun j => if j < (K 8 2 n).toNatClampNeg then some (ad (ek n) (K 9 n j).toNatClampNeg) else none) (by rw [eg]; show Sum.inl (cI 2, (K 8 3 n).toNatClampNeg, _) = _; rw [hcap]) (hU_s _ _ _ _) (kx := ek n) hc1 hca (nI_pos (by omega)) (by rw [nI_clamp (by omega)]; exact Nat.le_refl _) (by rw [nI_clamp (by omega)]; omega) ?_ u465 hl.1 (Nat.le_of_ble_eq_true rfl) (Nat.le_of_ble_eq_true rfl) dJ7_copyOf_6403c_35 (fun H locs hw hS => ?_)
  · intro j hj y hy
    by_cases hjc : j < (K 8 2 n).toNatClampNeg
    · have hy2 : some (ad (ek n) (K 9 n j).toNatClampNeg) = some y := by rw [← hy]; exact (if_pos hjc).symm
      obtain ⟨fs, hfs⟩ := hck K M ap o od cI e0 ad av (K 9 n j).toNatClampNeg
      refine ⟨(K 9 n j).toNatClampNeg, fs, ?_, Or.inl (hel j hjc), ?_⟩
      · rw [hU_n _ _ (hek2 _), hek9]; exact (Option.some.inj hy2).symm
      · rw [hU_n _ _ (hek2 _)]; exact hfs
    · exact absurd (show none = some y by rw [← hy]; exact (if_neg hjc).symm) (by simp)
  refine lv_aload_n S.1 S.2.1 dJ7_copyOf_6403c_38 rfl (lv_at hl 0 rfl) ?_
  refine r_aret (y := yJ7_copyOf_6403c) S hr (Or.inr ⟨_, rfl⟩) hlk hS (by omega) (by omega) dJ7_copyOf_6403c_39 ⟨x, rfl, av, rfl, hw.only (fun _ _ _ => rfl) (fun k i hli => ?_)⟩
  by_cases h30 : k = 30 ∧ i = 0
  · obtain ⟨rfl, rfl⟩ := h30
    rw [hU_s, hU_s]
    refine congrArg (fun f => Sum.inl (cI 2, N, Sum.inr (Sum.inr (Sum.inr (Sum.inr f))))) (funext fun j => ?_)
    show _ = va_cpy _ _ 0 0 (nI q).toNatClampNeg j
    rw [nI_clamp (by omega)]
    unfold va_cpy
    by_cases hjq : j < q
    · rw [if_pos (show 0 ≤ j ∧ j < 0 + q from ⟨Nat.zero_le _, by omega⟩)]
      simp
    · rw [if_neg (show ¬ (0 ≤ j ∧ j < 0 + q) by omega), if_neg (show ¬ j < (K 8 2 n).toNatClampNeg by omega)]
  · rw [hU_n _ _ h30, hU_n _ _ h30, hU_n _ _ h30]
set_option maxHeartbeats 4000000 in
theorem mtL_copy2 {mc ms n a N q : Nat} (hq : K 8 3 n = nI q) (hq0 : 2 ≤ q) (hN : q < N) (hN2 : N ≤ 65536) (hn : n < 4 + 2 * nD K) (hc : (K 8 2 n).toNatClampNeg ≤ q) (hel : ∀ j, j < (K 8 2 n).toNatClampNeg → lvK K (ek n) (K 9 n j).toNatClampNeg) (h1 : 1 ≤ mc) (h2 : N ≤ ms) : CM l D cI e0 A yJ7_copyOf_1904c cJ7_copyOf_1904c 2 (some (.array (.object "java/lang/Object"))) 2 90 mc ms [.ref a, .int (nI N)] (HTe D cI e0 A ad K M ap o od n a) (qC D cI e0 A ad K M ap o od n a N) xN := by
  refine CM.of (by decide) (Nat.le_of_ble_eq_true rfl) (fun p e s m below meth c ls FX hw hS hl => ?_)
  obtain ⟨S, hg, hr, hlk, hnm, hout⟩ := FX
  have hl : lv_has ls 2 [(0, .ref a), (1, .int (nI N))] := hl
  have hw0 := hw
  obtain ⟨av, rfl, hw⟩ := hw
  have hne : K 8 3 n ≠ 0 := by rw [hq]; exact nI_ne0 (by omega) (by omega)
  refine lv_aload_n S.1 S.2.1 dJ7_copyOf_1904c_0 rfl (lv_at hl 0 rfl) ?_
  refine lv_iload_n S.1 S.2.1 dJ7_copyOf_1904c_1 rfl (lv_at hl 1 rfl) ?_
  refine lv_aload_n S.1 S.2.1 dJ7_copyOf_1904c_2 rfl (lv_at hl 0 rfl) ?_
  refine va_getC S.1 S.2.1 (S.2.2.1.trans hl.1.symm) S.2.2.2.1 (S.2.2.2.2 _ u436) (va_Dc.use hg.2.2.2.2.2.2.1.2) (S.2.2.2.2 _ u1396) (S.2.2.2.2 _ u437) (S.2.2.2.2 _ u455) hg.2.2.2.2.2.2.1.1 (r_rarr hg hw (k := 9) (i := n) ⟨hn, hne⟩ rfl) (Nat.le_of_ble_eq_true rfl) (Nat.le_of_ble_eq_true rfl) dJ7_copyOf_1904c_3 ?_
  refine r_callS (rest := []) S hg hS (mtL_copy4 (mc := mc) (ms := ms) hq hq0 hN hN2 hn hc hel h1 h2) u456 u457 u61 u458 hdJ7_copyOf_6403c hw0 ⟨Nat.le_of_ble_eq_true rfl, Nat.le_of_ble_eq_true rfl⟩ ⟨by show 0 + mc ≤ mc; omega, by show 0 + ms ≤ ms; omega⟩ hl.1 (Nat.le_of_ble_eq_true rfl) rfl dJ7_copyOf_1904c_6 (fun E ce q H1 locs1 hx hS1 hc1 hc2 hc3 => hx.elim) (fun rv H locs hq hS => ?_)
  obtain ⟨x, rfl, hw⟩ := hq
  exact r_aret (y := yJ7_copyOf_1904c) S hr (Or.inr ⟨_, rfl⟩) hlk hS (by omega) (by omega) dJ7_copyOf_1904c_9 ⟨x, rfl, hw⟩
theorem ek_r {n : Nat} : ek n = 4 ∨ ek n = 5 ∨ ek n = 6 := by
  unfold ek
  split <;> simp
theorem lvK_30 {K : KS} {k i : Nat} (h : lvK K k i) : ¬ (k = 30 ∧ i = 0) := by
  rintro ⟨rfl, rfl⟩
  exact h
theorem lvK_cap {n : Nat} {v : Int32} {k i : Nat} (h : lvK (k3 K 8 3 n v) k i) : lvK K k i ∨ (k = 9 ∧ i = n) := by
  by_cases hk : k = 9
  · subst hk
    by_cases hi : i = n
    · exact Or.inr ⟨rfl, hi⟩
    · refine Or.inl ?_
      have h2 : i < 4 + 2 * nD K ∧ k3 K 8 3 n v 8 3 i ≠ 0 := h
      rw [k3_c K v hi] at h2
      exact h2
  · refine Or.inl ?_
    unfold lvK at h ⊢
    split at h <;> first | exact h | exact absurd rfl hk
/-- the room of list n is another, its elements lie elsewhere -/
theorem ct_cap {n q : Nat} {v : Int32} {f : Nat → Option Nat} (hv : v ≠ 0) {k i : Nat} (hf : ctK cI e0 ad (hU av 9 n q) (k3 K 8 3 n v) M ap o od 9 n = .inl (cI 2, v.toNatClampNeg, .inr (.inr (.inr (.inr f))))) : ctK cI e0 ad (hU av 9 n q) (k3 K 8 3 n v) M ap o od k i = hU (hU (ctK cI e0 ad av K M ap o od) 9 n (.inl (cI 2, v.toNatClampNeg, .inr (.inr (.inr (.inr f)))))) 8 n (.inr (2, [.int (K 8 0 n), .ref q, .int (K 8 2 n)])) k i := by
  by_cases h8 : k = 8 ∧ i = n
  · obtain ⟨rfl, rfl⟩ := h8
    rw [hU_s]
    simp [ctK, k3_b, k3_s, hv, hU]
  · rw [hU_n _ _ h8]
    by_cases h9 : k = 9 ∧ i = n
    · obtain ⟨rfl, rfl⟩ := h9
      rw [hU_s]; exact hf
    · rw [hU_n _ _ h9]
      by_cases hk8 : k = 8
      · subst hk8
        have hi : ¬ i = n := fun z => h8 ⟨rfl, z⟩
        simp [ctK, k3_c, hi, k3_b, hU]
      · by_cases hk9 : k = 9
        · subst hk9
          have hi : ¬ i = n := fun z => h9 ⟨rfl, z⟩
          simp only [ctK]
          rw [k3_b K v (show ¬ 2 = 3 by decide), k3_a K v (show ¬ 9 = 8 by decide)]
          have e : k3 K 8 3 n v 8 3 i = K 8 3 i := k3_c K v hi
          rw [e]
        · have e11 : hU av 9 n q 11 0 = av 11 0 := hU_n _ _ (by omega)
          unfold ctK
          split <;> first | rfl | (exact absurd rfl hk8) | (exact absurd rfl hk9) | (rw [e11])
theorem ad_cap {n q k i : Nat} : adK ad (hU av 9 n q) k i = hU (adK ad av) 9 n q k i := by
  by_cases h9 : k = 9 ∧ i = n
  · obtain ⟨rfl, rfl⟩ := h9
    rw [hU_s]; exact hU_s _ _ _ _
  · rw [hU_n _ _ h9]
    unfold adK
    split
    · exact hU_n _ _ h9
    · exact hU_n _ _ (by omega)
    · rfl
theorem r_putE (S : CallFix p m c cc nL s args WU own) (hg : GI D cI e0 A s s.heap) (hS : va_S A s.heap H locs) (hw : HW D A live adr G H) {n : Nat} (hl : live 8 n) {m0 c0 : Int32} {v0 : Value} (hG : G 8 n = .inr (2, [.int m0, v0, .int c0])) {q : Nat} (hlink : Cond.fieldLink own index "java/util/ArrayList" "elementData" "[Ljava/lang/Object;" ∈ WU) (hdg : decode cc pc = .ok (.putfield index, 3))
    (kk : ∀ (H1 : Heap) (locs1 : List Loc), HW D A live adr (hU G 8 n (.inr (2, [.int m0, .ref q, .int c0]))) H1 → va_S A s.heap H1 locs1 → W p l e R s m args below meth c H1 locs1 cells slots Q (F0 m (pc + 3) ls rest)) : W p l e R s m args below meth c H locs cells slots Q (F0 m pc ls (.ref q :: .ref (adr 8 n) :: rest)) :=
  r_put S hg hS hw hl hG rfl iWJx4a65c tyJx4a65c tyJx4a65c_ok nmJx4a65c 1 (by decide) hlink rfl rfl rfl (Nat.le_of_ble_eq_true rfl) hdg kk
set_option maxHeartbeats 4000000 in
theorem mtL_grow1F {mc ms n q : Nat} (hq : K 8 3 n = nI q) (hq0 : 2 ≤ q) (hN2 : q + q / 2 ≤ 65536) (hn : n < 4 + 2 * nD K) (hc : K 8 2 n = nI q) (hel : ∀ j, j < q → lvK K (ek n) (K 9 n j).toNatClampNeg) (h1 : 1 ≤ mc) (h2 : q + q / 2 ≤ ms) : CM l D cI e0 A yJx4a65c_grow_92f84 cJx4a65c_grow_92f84 4 (some (.array (.object "java/lang/Object"))) 3 130 mc ms [.ref (ad 8 n), .int (nI (q + 1))] (HT D cI e0 A ad K M ap o od) (qG D cI e0 A ad (k3 K 8 3 n (nI (q + q / 2))) M ap o od n) xN := by
  refine CM.of (by decide) (Nat.le_of_ble_eq_true rfl) (fun p e s m below meth c ls FX hw hS hl => ?_)
  obtain ⟨S, hg, hr, hlk, hnm, hout⟩ := FX
  have hl : lv_has ls 4 [(0, .ref (ad 8 n)), (1, .int (nI (q + 1)))] := hl
  obtain ⟨av, hw⟩ := hw
  have hcap : (K 8 3 n).toNatClampNeg = q := by rw [hq]; exact nI_clamp (by omega)
  have hcs : (K 8 2 n).toNatClampNeg = q := by rw [hc]; exact nI_clamp (by omega)
  have hne : K 8 3 n ≠ 0 := by rw [hq]; exact nI_ne0 (by omega) (by omega)
  have hcell : ctK cI e0 ad av K M ap o od 8 n = .inr (2, [.int (K 8 0 n), .ref (av 9 n), .int (K 8 2 n)]) := by
    show Sum.inr (2, [Value.int (K 8 0 n), .ref (if K 8 3 n = 0 then e0 else av 9 n), .int (K 8 2 n)]) = _
    rw [if_neg hne]
  refine lv_aload_n S.1 S.2.1 dJx4a65c_grow_92f84_0 rfl (lv_at hl 0 rfl) ?_
  refine r_get S hg hw (k := 8) (i := n) hn hcell rfl iWJx4a65c 1 (by decide) u95 rfl dJx4a65c_grow_92f84_1 ?_
  refine r_alen S hg hw (k := 9) (i := n) ⟨hn, hne⟩ 2 rfl rfl dJx4a65c_grow_92f84_4 ?_
  show W p l e _ s m _ below meth c s.heap [] 0 0 _ (F0 m 5 ls [.int (nI (K 8 3 n).toNatClampNeg)])
  rw [hcap]
  refine lv_istore_n (lv' := [(2, .int (nI q)), (0, .ref (ad 8 n)), (1, .int (nI (q + 1)))]) S.1 S.2.1 dJx4a65c_grow_92f84_5 rfl hl (by decide) rfl (fun ls hl => ?_)
  refine lv_iload_n S.1 S.2.1 dJx4a65c_grow_92f84_6 rfl (lv_at hl 0 rfl) ?_
  refine lv_if_gt (tgt := 20) S.1 S.2.1 dJx4a65c_grow_92f84_7 (by decide) (fun c1 => ?_) (fun c1 => absurd (show 0 < nI q from nI_lt (a := 0) (by omega) (by omega)) c1)
  refine lv_iload_n S.1 S.2.1 dJx4a65c_grow_92f84_20 rfl (lv_at hl 0 rfl) ?_
  refine lv_iload_n S.1 S.2.1 dJx4a65c_grow_92f84_21 rfl (lv_at hl 2 rfl) ?_
  refine lv_iload_n S.1 S.2.1 dJx4a65c_grow_92f84_22 rfl (lv_at hl 0 rfl) ?_
  refine lv_isub S.1 S.2.1 dJx4a65c_grow_92f84_23 ?_
  refine lv_iload_n S.1 S.2.1 dJx4a65c_grow_92f84_24 rfl (lv_at hl 0 rfl) ?_
  refine lv_iconst (v := 1) S.1 S.2.1 dJx4a65c_grow_92f84_25 (by decide) ?_
  refine lv_ishr S.1 S.2.1 dJx4a65c_grow_92f84_26 ?_
  have e1 : nI (q + 1) - nI q = nI 1 := by rw [pk_sub (by omega), Nat.add_sub_cancel_left]
  have e2 : nI q >>> ((1 : Int32) &&& 31) = nI (q / 2) := by
    have k := pk_shrN (n := q) (by omega) ((1 : Int32) &&& 31) 1 (by decide)
    rw [Nat.pow_one] at k
    exact k
  rw [e1, e2]
  have e3 : (if nI 1 < nI (q / 2) then nI (q / 2) else nI 1) = nI (q / 2) := by
    by_cases h : 1 < q / 2
    · rw [if_pos (nI_lt h (by omega))]
    · rw [if_neg (nI_nlt (by omega) (by omega))]
      have : q / 2 = 1 := by omega
      rw [this]
  refine r_callS (rest := []) S hg hS (mtL_newLen (mc := 0) (ms := 0) (o1 := nI q) (a := nI 1) (b := nI (q / 2)) (r := nI (q + q / 2)) (by rw [e3, pk_sub (Nat.le_refl q), Nat.sub_self]; show _ = 0 + _; simp) (by rw [e3, nI_add]) (show 0 < nI (q + q / 2) from nI_lt (a := 0) (by omega) (by omega)) (show ¬ nI 2147483639 < nI (q + q / 2) from nI_nlt (by omega) (by decide)) (HW D A (lvK K) (adK ad av) (ctK cI e0 ad av K M ap o od))) u423 u424 u59 u425 hdJ8_newLength_cabcc hw ⟨Nat.le_of_ble_eq_true rfl, Nat.le_of_ble_eq_true rfl⟩ ⟨by show 0 + 0 ≤ mc; omega, by show 0 + 0 ≤ ms; omega⟩ hl.1 (Nat.le_of_ble_eq_true rfl) rfl dJx4a65c_grow_92f84_27 (fun E ce q H1 locs1 hx hS1 hc1 hc2 hc3 => hx.elim) (fun rv H locs hq hS => ?_)
  obtain ⟨rfl, hw⟩ := hq
  refine lv_istore_n (lv' := [(3, .int (nI (q + q / 2))), (2, .int (nI q)), (0, .ref (ad 8 n)), (1, .int (nI (q + 1)))]) S.1 S.2.1 dJx4a65c_grow_92f84_30 rfl hl (by decide) rfl (fun ls hl => ?_)
  refine lv_aload_n S.1 S.2.1 dJx4a65c_grow_92f84_31 rfl (lv_at hl 2 rfl) ?_
  refine lv_aload_n S.1 S.2.1 dJx4a65c_grow_92f84_32 rfl (lv_at hl 2 rfl) ?_
  refine r_get S hg hw (k := 8) (i := n) hn hcell rfl iWJx4a65c 1 (by decide) u95 rfl dJx4a65c_grow_92f84_33 ?_
  refine lv_iload_n S.1 S.2.1 dJx4a65c_grow_92f84_36 rfl (lv_at hl 0 rfl) ?_
  refine r_callS (rest := [.ref (ad 8 n)]) S hg hS (mtL_copy2 (mc := mc) (ms := ms) (a := av 9 n) hq hq0 (show q < q + q / 2 by omega) hN2 hn (by omega) (by rw [hcs]; exact hel) h1 h2) u433 u434 u61 u435 hdJ7_copyOf_1904c ⟨av, rfl, hw⟩ ⟨Nat.le_of_ble_eq_true rfl, Nat.le_of_ble_eq_true rfl⟩ ⟨by show 0 + 0 + mc ≤ mc; omega, by show 0 + 0 + ms ≤ ms; omega⟩ hl.1 (Nat.le_of_ble_eq_true rfl) rfl dJx4a65c_grow_92f84_37 (fun E ce q H1 locs1 hx hS1 hc1 hc2 hc3 => hx.elim) (fun rv H locs hq2 hS => ?_)
  obtain ⟨x, rfl, av2, hav, hw⟩ := hq2
  show W p l e _ s m _ below meth c H locs _ _ _ (F0 m 40 ls [.ref x, .ref (ad 8 n)])
  refine lv_dup_x1 S.1 S.2.1 dJx4a65c_grow_92f84_40 rfl rfl ?_
  have h8 : hU (adK ad av2) 30 0 x 8 n = ad 8 n := hU_n _ _ (by omega)
  have ev0 : ∀ v : Int32, v = nI (q + q / 2) → v ≠ 0 := fun v h => by rw [h]; exact nI_ne0 (by omega) (by omega)
  rw [← h8]
  refine r_putE S hg hS hw (n := n) (m0 := K 8 0 n) (c0 := K 8 2 n) (v0 := .ref (if K 8 3 n = 0 then e0 else av2 9 n)) (Or.inl hn) (by rw [hU_n _ _ (by omega)]; rfl) u95 dJx4a65c_grow_92f84_41 (fun H locs hw hS => ?_)
  refine r_aret (y := yJx4a65c_grow_92f84) S hr (Or.inr ⟨_, rfl⟩) hlk hS (by show 0 + 0 + mc ≤ mc; omega) (by show 0 + 0 + ms ≤ ms; omega) dJx4a65c_grow_92f84_44 ⟨x, rfl, hU av2 9 n x, hU_s _ _ _ _, ?_⟩
  have hf : ctK cI e0 ad (hU av2 9 n x) (k3 K 8 3 n (nI (q + q / 2))) M ap o od 9 n = .inl (cI 2, (nI (q + q / 2)).toNatClampNeg, .inr (.inr (.inr (.inr (fun j => if j < (K 8 2 n).toNatClampNeg then some (ad (ek n) (K 9 n j).toNatClampNeg) else none))))) := by
    simp only [ctK]
    rw [k3_b K _ (show ¬ 2 = 3 by decide), k3_a K _ (show ¬ 9 = 8 by decide), k3_s]
  refine HW.ren hw (k := 30) (i := 0) (k2 := 9) (i2 := n) (Or.inr ⟨rfl, rfl⟩) ?_ ?_ ?_ ?_ ?_
  · intro k i h
    rcases lvK_cap h with h | h
    · by_cases h9 : k = 9 ∧ i = n
      · exact Or.inl h9
      · exact Or.inr ⟨Or.inl h, fun z => (by obtain ⟨rfl, rfl⟩ := z; exact h), h9⟩
    · exact Or.inl h
  · rw [ad_cap, hU_s, hU_s]
  · rw [hf, hU_n _ _ (by omega), hU_s, nI_clamp (by omega)]
  · intro k i h hne9
    rw [ad_cap, hU_n _ _ hne9, hU_n _ _ (lvK_30 h)]
  · intro k i h hne9
    rw [ct_cap (ev0 _ rfl) hf]
    by_cases h8 : k = 8 ∧ i = n
    · obtain ⟨rfl, rfl⟩ := h8
      rw [hU_s, hU_s]
    · rw [hU_n _ _ h8, hU_n _ _ hne9, hU_n _ _ h8, hU_n _ _ (lvK_30 h)]
set_option maxHeartbeats 4000000 in
theorem mtL_grow1E {mc ms n : Nat} (hq : K 8 3 n = 0) (hn : n < 4 + 2 * nD K) (hc : K 8 2 n = 0) (h1 : 1 ≤ mc) (h2 : 10 ≤ ms) : CM l D cI e0 A yJx4a65c_grow_92f84 cJx4a65c_grow_92f84 4 (some (.array (.object "java/lang/Object"))) 3 130 mc ms [.ref (ad 8 n), .int 1] (HT D cI e0 A ad K M ap o od) (qG D cI e0 A ad (k3 K 8 3 n 10) M ap o od n) xN := by
  refine CM.of (by decide) (Nat.le_of_ble_eq_true rfl) (fun p e s m below meth c ls FX hw hS hl => ?_)
  obtain ⟨S, hg, hr, hlk, hnm, hout⟩ := FX
  have hl : lv_has ls 4 [(0, .ref (ad 8 n)), (1, .int 1)] := hl
  obtain ⟨av, hw⟩ := hw
  have hcell : ctK cI e0 ad av K M ap o od 8 n = .inr (2, [.int (K 8 0 n), .ref e0, .int (K 8 2 n)]) := by
    show Sum.inr (2, [Value.int (K 8 0 n), .ref (if K 8 3 n = 0 then e0 else av 9 n), .int (K 8 2 n)]) = _
    rw [if_pos hq]
  refine lv_aload_n S.1 S.2.1 dJx4a65c_grow_92f84_0 rfl (lv_at hl 0 rfl) ?_
  refine r_get S hg hw (k := 8) (i := n) hn hcell rfl iWJx4a65c 1 (by decide) u95 rfl dJx4a65c_grow_92f84_1 ?_
  refine va_tlen S.1 S.2.1 hg.2.1.2 hS rfl dJx4a65c_grow_92f84_4 ?_
  refine lv_istore_n (lv' := [(2, .int (nI 0)), (0, .ref (ad 8 n)), (1, .int 1)]) S.1 S.2.1 dJx4a65c_grow_92f84_5 rfl hl (by decide) rfl (fun ls hl => ?_)
  refine lv_iload_n S.1 S.2.1 dJx4a65c_grow_92f84_6 rfl (lv_at hl 0 rfl) ?_
  refine lv_if_gt (tgt := 20) S.1 S.2.1 dJx4a65c_grow_92f84_7 (by decide) (fun c1 => absurd c1 (by decide)) (fun c1 => ?_)
  refine lv_aload_n S.1 S.2.1 dJx4a65c_grow_92f84_10 rfl (lv_at hl 1 rfl) ?_
  refine r_get S hg hw (k := 8) (i := n) hn hcell rfl iWJx4a65c 1 (by decide) u95 rfl dJx4a65c_grow_92f84_11 ?_
  refine va_gets S.1 S.2.1 hg.2.1.1 hS S.2.2.2.1 (S.2.2.2.2 _ u93) (fun _ h => h) dJx4a65c_grow_92f84_14 ?_
  refine lv_acmp_eq (rx := some e0) (ry := some e0) (tgt := 45) S.1 S.2.1 dJx4a65c_grow_92f84_17 (by decide) (fun c1 => ?_) (fun c1 => absurd rfl c1)
  refine lv_aload_n S.1 S.2.1 dJx4a65c_grow_92f84_45 rfl (lv_at hl 1 rfl) ?_
  refine lv_bipush (v := 10) S.1 S.2.1 dJx4a65c_grow_92f84_46 (by decide) ?_
  refine lv_iload_n S.1 S.2.1 dJx4a65c_grow_92f84_48 rfl (lv_at hl 2 rfl) ?_
  refine va_mmax S.1 S.2.1 (S.2.2.1.trans hl.1.symm) S.2.2.2.1 (S.2.2.2.2 _ u468) (S.2.2.2.2 _ u427) (S.2.2.2.2 _ u60) (S.2.2.2.2 _ u428) (Nat.le_of_ble_eq_true rfl) (Nat.le_of_ble_eq_true rfl) (by show 0 ≤ mc; omega) (by show 0 ≤ ms; omega) dJx4a65c_grow_92f84_49 ?_
  rw [if_neg (show ¬ (10 : Int32) < 1 by decide)]
  refine r_onew S hg hS hw 9 n (N := 10) u469 (by decide) (by decide) (by decide) (by show 0 + 1 ≤ mc; omega) (by show 0 + 10 ≤ ms; omega) dJx4a65c_grow_92f84_52 (fun x H hw hS => ?_)
  refine lv_dup_x1 S.1 S.2.1 dJx4a65c_grow_92f84_55 rfl rfl ?_
  have h8 : hU (adK ad av) 9 n x 8 n = ad 8 n := hU_n _ _ (by omega)
  rw [← h8]
  refine r_putE S hg hS hw (n := n) (m0 := K 8 0 n) (c0 := K 8 2 n) (v0 := .ref e0) (Or.inl hn) (by rw [hU_n _ _ (by omega)]; exact hcell) u95 dJx4a65c_grow_92f84_56 (fun H locs hw hS => ?_)
  refine r_aret (y := yJx4a65c_grow_92f84) S hr (Or.inr ⟨_, rfl⟩) hlk hS (by show 0 + 1 ≤ mc; omega) (by show 0 + 10 ≤ ms; omega) dJx4a65c_grow_92f84_59 ⟨x, rfl, hU av 9 n x, hU_s _ _ _ _, ?_⟩
  have hf : ctK cI e0 ad (hU av 9 n x) (k3 K 8 3 n 10) M ap o od 9 n = .inl (cI 2, (10 : Int32).toNatClampNeg, .inr (.inr (.inr (.inr (fun _ => none))))) := by
    simp only [ctK]
    rw [k3_b K _ (show ¬ 2 = 3 by decide), k3_a K _ (show ¬ 9 = 8 by decide), k3_s, hc]
    rfl
  refine hw.same (fun k i h => lvK_cap h) (fun k i h => ad_cap) (fun k i h => ?_)
  rw [ct_cap (show (10 : Int32) ≠ 0 by decide) hf]
  rfl
theorem nI1 : (1 : Int32) = nI 1 := rfl
set_option maxHeartbeats 4000000 in
theorem mtL_grow0 {mc ms n q : Nat} (hc : K 8 2 n = nI q) (hq : K 8 3 n = nI q) (hq0 : q = 0 ∨ 2 ≤ q) (hN2 : q ≤ 40000) (hn : n < 4 + 2 * nD K) (hel : ∀ j, j < q → lvK K (ek n) (K 9 n j).toNatClampNeg) (h1 : 1 ≤ mc) (h2 : (q = 0 → 10 ≤ ms) ∧ (q ≠ 0 → q + q / 2 ≤ ms)) : CM l D cI e0 A yJx4a65c_grow_d5877 cJx4a65c_grow_d5877 1 (some (.array (.object "java/lang/Object"))) 4 160 mc ms [.ref (ad 8 n)] (HT D cI e0 A ad K M ap o od) (qG D cI e0 A ad (k3 K 8 3 n (lCap (K 8 2 n) (K 8 3 n))) M ap o od n) xN := by
  refine CM.of (by decide) (Nat.le_of_ble_eq_true rfl) (fun p e s m below meth c ls FX hw hS hl => ?_)
  obtain ⟨S, hg, hr, hlk, hnm, hout⟩ := FX
  have hl : lv_has ls 1 [(0, .ref (ad 8 n))] := hl
  have hw0 := hw
  obtain ⟨av, hw⟩ := hw
  refine lv_aload_n S.1 S.2.1 dJx4a65c_grow_d5877_0 rfl (lv_at hl 0 rfl) ?_
  refine lv_aload_n S.1 S.2.1 dJx4a65c_grow_d5877_1 rfl (lv_at hl 0 rfl) ?_
  refine r_get S hg hw (k := 8) (i := n) hn rfl rfl iWJx4a65c 2 (by decide) u96 rfl dJx4a65c_grow_d5877_2 ?_
  refine lv_iconst (v := 1) S.1 S.2.1 dJx4a65c_grow_d5877_5 (by decide) ?_
  refine lv_iadd S.1 S.2.1 dJx4a65c_grow_d5877_6 ?_
  rw [hc, nI_1]
  rcases hq0 with rfl | hq0
  · have hcap : lCap (nI 0) (K 8 3 n) = 10 := by unfold lCap; rw [if_pos (by rw [hq]; rfl)]
    rw [hcap]
    refine r_call (rest := []) S hg hS (mtL_grow1E (mc := mc) (ms := ms) hq hn hc h1 (h2.1 rfl)) u419 u421 u5 u46 u422 hdJx4a65c_grow_92f84 (rv8 hg hw0 hn) hw0 ⟨Nat.le_of_ble_eq_true rfl, Nat.le_of_ble_eq_true rfl⟩ ⟨by show 0 + mc ≤ mc; omega, by show 0 + ms ≤ ms; omega⟩ hl.1 (Nat.le_of_ble_eq_true rfl) rfl dJx4a65c_grow_d5877_7 (fun E ce q H1 locs1 hx hS1 hc1 hc2 hc3 => hx.elim) (fun rv H locs hq9 hS => ?_)
    obtain ⟨x, rfl, hw⟩ := hq9
    exact r_aret (y := yJx4a65c_grow_d5877) S hr (Or.inr ⟨_, rfl⟩) hlk hS (by omega) (by omega) dJx4a65c_grow_d5877_10 ⟨x, rfl, hw⟩
  · have hcap : lCap (nI q) (K 8 3 n) = nI (q + q / 2) := by
      unfold lCap
      rw [hq, if_neg (nI_ne0 (by omega) (by omega)), if_pos rfl, nI_clamp (by omega)]
    rw [hcap]
    refine r_call (rest := []) S hg hS (mtL_grow1F (mc := mc) (ms := ms) hq hq0 (by omega) hn hc hel h1 (h2.2 (by omega))) u419 u421 u5 u46 u422 hdJx4a65c_grow_92f84 (rv8 hg hw0 hn) hw0 ⟨Nat.le_of_ble_eq_true rfl, Nat.le_of_ble_eq_true rfl⟩ ⟨by show 0 + mc ≤ mc; omega, by show 0 + ms ≤ ms; omega⟩ hl.1 (Nat.le_of_ble_eq_true rfl) rfl dJx4a65c_grow_d5877_7 (fun E ce q H1 locs1 hx hS1 hc1 hc2 hc3 => hx.elim) (fun rv H locs hq9 hS => ?_)
    obtain ⟨x, rfl, hw⟩ := hq9
    exact r_aret (y := yJx4a65c_grow_d5877) S hr (Or.inr ⟨_, rfl⟩) hlk hS (by omega) (by omega) dJx4a65c_grow_d5877_10 ⟨x, rfl, hw⟩
theorem k3_id (K : KS) (a b d : Nat) : k3 K a b d (K a b d) = K := by
  funext a' b' c'
  by_cases ha : a' = a
  · subst ha
    by_cases hb : b' = b
    · subst hb
      by_cases hc : c' = d
      · subst hc; rw [k3_s]
      · rw [k3_c K _ hc]
    · rw [k3_b K _ hb]
  · rw [k3_a K _ ha]
theorem tn_lt (v : Int32) : v.toNatClampNeg < 2 ^ 31 := by
  have := v.toInt_lt
  show v.toInt.toNat < _
  omega
theorem lv_small {n x : Nat} (h : lvK K (ek n) x) : x < 2 ^ 31 := by
  rcases ek_r (n := n) with e | e | e <;> rw [e] at h
  · exact Nat.lt_trans (show x < nC K from h) (tn_lt _)
  · exact Nat.lt_trans (show x < nO K from h) (tn_lt _)
  · exact Nat.lt_trans (show x < nD K from h) (tn_lt _)
theorem ct_add {n x k0 : Nat} (hc : K 8 2 n = nI k0) (hk0 : k0 < 2 ^ 30) (hx : x < 2 ^ 31) {k i : Nat} : ctK cI e0 ad av (k3 (k3 K 9 n k0 (nI x)) 8 2 n (nI (k0 + 1))) M ap o od k i = hU (hU (ctK cI e0 ad av K M ap o od) 9 n (.inl (cI 2, (K 8 3 n).toNatClampNeg, .inr (.inr (.inr (.inr (va_up (fun j => if j < (K 8 2 n).toNatClampNeg then some (ad (ek n) (K 9 n j).toNatClampNeg) else none) k0 (some (ad (ek n) x))))))))) 8 n (.inr (2, [.int (K 8 0 n), .ref (if K 8 3 n = 0 then e0 else av 9 n), .int (nI (k0 + 1))])) k i := by
  have f1 : ∀ z w, k3 (k3 K 9 n k0 (nI x)) 8 2 n w 8 z = if z = 2 then va_up (K 8 2) n w else K 8 z := by
    intro z w
    by_cases hz : z = 2
    · subst hz
      rw [if_pos rfl]
      funext y
      by_cases hy : y = n
      · subst hy; rw [k3_s, va_up_s]
      · rw [k3_c _ _ hy, k3_a K _ (show ¬ 8 = 9 by decide), va_up_n _ _ hy]
    · rw [if_neg hz, k3_b _ _ hz, k3_a K _ (show ¬ 8 = 9 by decide)]
  by_cases h8 : k = 8 ∧ i = n
  · obtain ⟨rfl, rfl⟩ := h8
    rw [hU_s]
    simp [ctK, f1, va_up_s]
  · rw [hU_n _ _ h8]
    by_cases h9 : k = 9 ∧ i = n
    · obtain ⟨rfl, rfl⟩ := h9
      rw [hU_s]
      simp only [ctK, f1]
      rw [if_neg (by decide), if_pos trivial, va_up_s]
      refine congrArg (fun f => Sum.inl (cI 2, (K 8 3 i).toNatClampNeg, Sum.inr (Sum.inr (Sum.inr (Sum.inr f))))) (funext fun j => ?_)
      rw [nI_clamp (by omega), k3_a _ _ (show ¬ 9 = 8 by decide), hc, nI_clamp (by omega)]
      by_cases hj : j = k0
      · subst hj
        rw [if_pos (by omega), k3_s, va_up_s, nI_clamp (by omega)]
      · rw [k3_c _ _ hj, va_up_n _ _ hj]
        by_cases hj2 : j < k0
        · rw [if_pos (by omega), if_pos hj2]
        · rw [if_neg (by omega), if_neg hj2]
    · rw [hU_n _ _ h9]
      by_cases hk8 : k = 8
      · subst hk8
        have hi : ¬ i = n := fun z => h8 ⟨rfl, z⟩
        simp [ctK, f1, va_up_n _ _ hi]
      · by_cases hk9 : k = 9
        · subst hk9
          have hi : ¬ i = n := fun z => h9 ⟨rfl, z⟩
          simp only [ctK, f1]
          rw [if_neg (by decide), if_pos trivial, va_up_n _ _ hi, k3_a _ _ (show ¬ 9 = 8 by decide), k3_b _ _ hi]
        · unfold ctK
          split <;> first | rfl | (exact absurd rfl hk8) | (exact absurd rfl hk9)
theorem lv_add {n x k0 : Nat} {v : Int32} {k i : Nat} (h : lvK (k3 (k3 K 9 n k0 (nI x)) 8 2 n v) k i) : lvK K k i := by
  unfold lvK at h ⊢
  split at h <;> exact h
/-- the end of add(e, elements, size): the element is laid, the size is one more -/
theorem add3_tail {y : MethodName} {mc ms n x k0 a : Nat} {ls : Array Slot} {XX : String → Heap → Prop} (hc : K 8 2 n = nI k0) (hq : K 8 3 n ≠ 0) (hcq : k0 < (K 8 3 n).toNatClampNeg) (hk0 : k0 ≤ 40000) (hn : n < 4 + 2 * nD K) (hx : lvK K (ek n) x) (S : CallFix p m c cJx4a65c_add_72be8 4 s args WU RJx4a65c) (hr : meth.sig.returnType = none) (hlk : meth.locks = false) (hg : GI D cI e0 A s s.heap) (hS : va_S A s.heap H locs) (hw : HTe D cI e0 A ad K M ap o od n a H) (hl : lv_has ls 4 [(0, .ref (ad 8 n)), (1, .ref (ad (ek n) x)), (2, .ref a), (3, .int (nI k0))]) (hcc : cells ≤ mc) (hss : slots ≤ ms) :
    W p l e R s m args below meth c H locs cells slots (MQQ below (qE none (HT D cI e0 A ad (k3 (k3 K 9 n k0 (nI x)) 8 2 n (nI (k0 + 1))) M ap o od)) XX args s mc ms A) (F0 m 11 ls []) := by
  obtain ⟨av, rfl, hw⟩ := hw
  have hek9 : ∀ i, adK ad av (ek n) i = ad (ek n) i := by
    intro i
    rcases ek_r (n := n) with e | e | e <;> rw [e] <;> rfl
  obtain ⟨r, ci, hc1, hca, hck⟩ := ek_known (n := n)
  obtain ⟨fs, hfs⟩ := hck K M ap o od cI e0 ad av x
  refine lv_aload_n S.1 S.2.1 dJx4a65c_add_72be8_11 rfl (lv_at hl 2 rfl) ?_
  refine lv_iload_n S.1 S.2.1 dJx4a65c_add_72be8_12 rfl (lv_at hl 3 rfl) ?_
  refine lv_aload_n S.1 S.2.1 dJx4a65c_add_72be8_13 rfl (lv_at hl 1 rfl) ?_
  rw [← hek9 x]
  refine r_oast S hg hS hw (k := 9) (i := n) ⟨hn, hq⟩ rfl (k2 := ek n) (i2 := x) hx hfs hc1 hca (vp_in_nI hcq (tn_lt _)) dJx4a65c_add_72be8_14 (fun H locs hw hS => ?_)
  rw [nI_clamp (by omega), hek9] at hw
  refine lv_aload_n S.1 S.2.1 dJx4a65c_add_72be8_15 rfl (lv_at hl 0 rfl) ?_
  refine lv_iload_n S.1 S.2.1 dJx4a65c_add_72be8_16 rfl (lv_at hl 3 rfl) ?_
  refine lv_iconst (v := 1) S.1 S.2.1 dJx4a65c_add_72be8_17 (by decide) ?_
  refine lv_iadd S.1 S.2.1 dJx4a65c_add_72be8_18 ?_
  rw [nI_1]
  refine r_put S hg hS hw (k := 8) (i := n) hn (ci := 2) (fs := [.int (K 8 0 n), .ref (if K 8 3 n = 0 then e0 else av 9 n), .int (K 8 2 n)]) (hU_n _ _ (by omega)) rfl iWJx4a65c tyJx4a65c tyJx4a65c_ok nmJx4a65c 2 (by decide) u96 rfl rfl rfl (Nat.le_of_ble_eq_true rfl) dJx4a65c_add_72be8_19 (fun H locs hw hS => ?_)
  exact r_vret (y := yJx4a65c_add_72be8) S hr hlk hS hcc hss dJx4a65c_add_72be8_22 ⟨rfl, av, hw.same (fun k i h => lv_add h) (fun _ _ _ => rfl) (fun k i h => ct_add hc (by omega) (lv_small hx))⟩
/-- the address of list n's elements -/
def HTl (D : va_G) (cI : Nat → ClassId) (e0 : Nat) (A : Nat → Prop) (ad : Nat → Nat → Nat) (K M : KS) (ap o : Int64) (od : UInt64) (n a : Nat) (H : Heap) : Prop := (K 8 3 n = 0 ∧ a = e0 ∧ HT D cI e0 A ad K M ap o od H) ∨ (K 8 3 n ≠ 0 ∧ HTe D cI e0 A ad K M ap o od n a H)
theorem HTe.ht {n a : Nat} (h : HTe D cI e0 A ad K M ap o od n a H) : HT D cI e0 A ad K M ap o od H := by
  obtain ⟨av, -, hw⟩ := h
  exact ⟨av, hw⟩
theorem HTl.ht {n a : Nat} (h : HTl D cI e0 A ad K M ap o od n a H) : HT D cI e0 A ad K M ap o od H := by
  rcases h with ⟨-, -, h⟩ | ⟨-, h⟩
  · exact h
  · exact h.ht
set_option maxHeartbeats 4000000 in
theorem mtL_add3 {mc ms n x a : Nat} (hok : okAdd K n mc ms) (hn : n < 4 + 2 * nD K) (hx : lvK K (ek n) x) : CM l D cI e0 A yJx4a65c_add_72be8 cJx4a65c_add_72be8 4 none 5 190 mc ms [.ref (ad 8 n), .ref (ad (ek n) x), .ref a, .int (K 8 2 n)] (HTl D cI e0 A ad K M ap o od n a) (qE none (HT D cI e0 A ad (k3 (k3 (k3 K 8 3 n (lCap (K 8 2 n) (K 8 3 n))) 9 n (K 8 2 n).toNatClampNeg (nI x)) 8 2 n (K 8 2 n + 1)) M ap o od)) xN := by
  refine CM.of (by decide) (Nat.le_of_ble_eq_true rfl) (fun p e s m below meth c ls FX hw hS hl => ?_)
  obtain ⟨S, hg, hr, hlk, hnm, hout⟩ := FX
  generalize hae : #[Value.ref (ad 8 n), Value.ref (ad (ek n) x), Value.ref a, Value.int (K 8 2 n)] = ar at S ⊢
  have hl : lv_has ls 4 [(0, .ref (ad 8 n)), (1, .ref (ad (ek n) x)), (2, .ref a), (3, .int (K 8 2 n))] := hl
  obtain ⟨k0, q, hk0, hq, hkq, hq4, hq0, hgr⟩ := hok
  have hw0 := hw.ht
  have hcq : (K 8 2 n).toNatClampNeg = k0 := by rw [hk0]; exact nI_clamp (by omega)
  have hcap : (K 8 3 n).toNatClampNeg = q := by rw [hq]; exact nI_clamp (by omega)
  rw [hcq, hk0, nI_1]
  rw [hk0] at hl
  refine lv_iload_n S.1 S.2.1 dJx4a65c_add_72be8_0 rfl (lv_at hl 3 rfl) ?_
  refine lv_aload_n S.1 S.2.1 dJx4a65c_add_72be8_1 rfl (lv_at hl 2 rfl) ?_
  have key : W p l e ({ frames := 5, cells := mc, slots := ms, locals := 190 } : Room) s m ar below meth c s.heap [] 0 0 (MQQ below (qE none (HT D cI e0 A ad (k3 (k3 (k3 K 8 3 n (lCap (nI k0) (K 8 3 n))) 9 n k0 (nI x)) 8 2 n (nI (k0 + 1))) M ap o od)) xN ar s mc ms A) (F0 m 3 ls [.int (nI q), .int (nI k0)]) := by
    refine lv_icmp_ne (tgt := 11) S.1 S.2.1 dJx4a65c_add_72be8_3 (by decide) (fun c1 => ?_) (fun c1 => ?_)
    · have hne : k0 ≠ q := fun z => c1 (by rw [z])
      have hq1 : q ≠ 0 := by omega
      have hqn : K 8 3 n ≠ 0 := by rw [hq]; exact nI_ne0 (by omega) (by omega)
      have hcp : lCap (nI k0) (K 8 3 n) = K 8 3 n := by
        unfold lCap
        rw [if_neg hqn, if_neg (by rw [hq]; intro z; exact hne ((nI_eq (by omega) (by omega)).mp z))]
      rw [hcp, k3_id]
      rcases hw with ⟨z, -, -⟩ | ⟨-, hw⟩
      · exact absurd z hqn
      · exact add3_tail (y := yJx4a65c_add_72be8) hk0 hqn (by omega) (by omega) hn hx S hr hlk hg hS hw hl (by omega) (by omega)
    · have heq : k0 = q := (nI_eq (by omega) (by omega)).mp c1
      subst heq
      obtain ⟨g1, g2, g3, g4⟩ := hgr rfl
      refine lv_aload_n S.1 S.2.1 dJx4a65c_add_72be8_6 rfl (lv_at hl 0 rfl) ?_
      refine r_call (rest := []) S hg hS (mtL_grow0 (mc := mc) (ms := ms) hk0 hq hq0 hq4 hn g4 g1 ⟨g2, g3⟩) u415 u417 u4 u46 u418 hdJx4a65c_grow_d5877 (rv8 hg hw0 hn) hw0 ⟨Nat.le_of_ble_eq_true rfl, Nat.le_of_ble_eq_true rfl⟩ ⟨by show 0 + mc ≤ mc; omega, by show 0 + ms ≤ ms; omega⟩ hl.1 (Nat.le_of_ble_eq_true rfl) rfl dJx4a65c_add_72be8_7 (fun E ce q H1 locs1 hx hS1 hc1 hc2 hc3 => hx.elim) (fun rv H locs hq9 hS => ?_)
      obtain ⟨x9, rfl, hw⟩ := hq9
      show W p l e _ s m _ below meth c H locs _ _ _ (F0 m 10 ls [.ref x9])
      refine lv_astore_n (lv' := [(2, .ref x9), (0, .ref (ad 8 n)), (1, .ref (ad (ek n) x)), (3, .int (nI k0))]) S.1 S.2.1 dJx4a65c_add_72be8_10 rfl hl (by decide) rfl (fun ls hl => ?_)
      have hl := lv_sub hl (l' := [(0, .ref (ad 8 n)), (1, .ref (ad (ek n) x)), (2, .ref x9), (3, .int (nI k0))]) [1, 2, 0, 3] rfl
      rw [hk0] at hw
      have hcp : lCap (nI k0) (K 8 3 n) ≠ 0 ∧ k0 < (lCap (nI k0) (K 8 3 n)).toNatClampNeg := by
        unfold lCap
        rcases hq0 with rfl | h2
        · rw [if_pos (by rw [hq]; rfl)]; exact ⟨by decide, by decide⟩
        · rw [hq, if_neg (nI_ne0 (by omega) (by omega)), if_pos rfl, nI_clamp (by omega), nI_clamp (by omega)]
          exact ⟨nI_ne0 (by omega) (by omega), by omega⟩
      refine add3_tail (y := yJx4a65c_add_72be8) (K := k3 K 8 3 n (lCap (nI k0) (K 8 3 n))) (by rw [k3_b K _ (show ¬ 2 = 3 by decide)]; exact hk0) (by rw [k3_s]; exact hcp.1) (by rw [k3_s]; exact hcp.2) (by omega) hn ?_ S hr hlk hg hS hw hl (by omega) (by omega)
      rcases ek_r (n := n) with e | e | e <;> rw [e] at hx ⊢ <;> exact hx
  rcases id hw with ⟨z, rfl, hw9⟩ | ⟨z, hw9⟩
  · have hq1 : q = 0 := by
      rcases Nat.eq_zero_or_pos q with h | h
      · exact h
      · exact absurd (hq.symm.trans z) (nI_ne0 h (by omega))
    subst hq1
    exact va_tlen S.1 S.2.1 hg.2.1.2 hS rfl dJx4a65c_add_72be8_2 key
  · obtain ⟨av, rfl, hw9⟩ := hw9
    refine r_alen S hg hw9 (k := 9) (i := n) ⟨hn, z⟩ 2 rfl rfl dJx4a65c_add_72be8_2 ?_
    show W p l e _ s m _ below meth c _ _ _ _ _ (F0 m 3 ls [.int (nI (K 8 3 n).toNatClampNeg), .int (nI k0)])
    rw [hcap]
    exact key
theorem lv_mod {n : Nat} {v : Int32} {k i : Nat} : lvK (k3 K 8 0 n v) k i ↔ lvK K k i := by
  unfold lvK
  split <;> exact Iff.rfl
theorem ct_mod {n : Nat} {v : Int32} {k i : Nat} : ctK cI e0 ad av (k3 K 8 0 n v) M ap o od k i = hU (ctK cI e0 ad av K M ap o od) 8 n (.inr (2, [.int v, .ref (if K 8 3 n = 0 then e0 else av 9 n), .int (K 8 2 n)])) k i := by
  by_cases h8 : k = 8 ∧ i = n
  · obtain ⟨rfl, rfl⟩ := h8
    rw [hU_s]
    simp [ctK, k3_b, k3_s]
  · rw [hU_n _ _ h8]
    by_cases hk8 : k = 8
    · subst hk8
      have hi : ¬ i = n := fun z => h8 ⟨rfl, z⟩
      simp [ctK, k3_c, hi, k3_b]
    · unfold ctK
      split <;> first | rfl | (exact absurd rfl hk8)
set_option maxHeartbeats 4000000 in
theorem mtL_add1 {mc ms n x : Nat} (hok : okAdd K n mc ms) (hn : n < 4 + 2 * nD K) (hx : lvK K (ek n) x) : CM l D cI e0 A yJx4a65c_add_9ea2d cJx4a65c_add_9ea2d 2 (some .boolean) 6 300 mc ms [.ref (ad 8 n), .ref (ad (ek n) x)] (HT D cI e0 A ad K M ap o od) (qE (some (.int 1)) (HT D cI e0 A ad (lAdd K n x) M ap o od)) xN := by
  refine CM.of (by decide) (Nat.le_of_ble_eq_true rfl) (fun p e s m below meth c ls FX hw hS hl => ?_)
  obtain ⟨S, hg, hr, hlk, hnm, hout⟩ := FX
  have hl : lv_has ls 2 [(0, .ref (ad 8 n)), (1, .ref (ad (ek n) x))] := hl
  obtain ⟨av, hw⟩ := hw
  have hsame : ∀ z, s.fieldFound? (TJx4a65c 0).1 (TJx4a65c 0).2.1 (TJx4a65c 0).2.2.1 = some z → s.fieldFound? "java/util/ArrayList" (TJx4a65c 0).2.1 (TJx4a65c 0).2.2.1 = some z := fun z hz => u_same (S.2.2.2.2 _ u99) z hz
  refine lv_aload_n S.1 S.2.1 dJx4a65c_add_9ea2d_0 rfl (lv_at hl 0 rfl) ?_
  refine lv_dup S.1 S.2.1 dJx4a65c_add_9ea2d_1 rfl ?_
  obtain ⟨ids, h1, h2, h3⟩ := id hw
  obtain ⟨r, r1, r2⟩ := hws_at (adr := adK ad av) (G := ctK cI e0 ad av K M ap o od) (h1 8 n hn)
  refine va_get S.1 S.2.1 S.2.2.2.2 iWJx4a65c S.2.2.2.1 hg.1 h2 r r2 rfl 0 (by decide) (S.2.2.2.2 _ u98) hsame rfl dJx4a65c_add_9ea2d_2 ?_
  refine lv_iconst (v := 1) S.1 S.2.1 dJx4a65c_add_9ea2d_5 (by decide) ?_
  refine lv_iadd S.1 S.2.1 dJx4a65c_add_9ea2d_6 ?_
  refine va_put S.1 S.2.1 S.2.2.2.2 iWJx4a65c tyJx4a65c tyJx4a65c_ok nmJx4a65c S.2.2.2.1 hg.1 h2 h3 hS r r2 rfl 0 (by decide) (S.2.2.2.2 _ u98) hsame rfl (tyJx4a65c_ok 0 (by decide)) rfl rfl (Nat.le_of_ble_eq_true rfl) dJx4a65c_add_9ea2d_7 (fun H locs hP hD hS => ?_)
  have hw : HW D A (lvK (k3 K 8 0 n (K 8 0 n + 1))) (adK ad av) (ctK cI e0 ad av (k3 K 8 0 n (K 8 0 n + 1)) M ap o od) H := (HW.set h3 h1 r1 hP hD).same (fun k i h => lv_mod.mp h) (fun _ _ _ => rfl) (fun k i h => ct_mod)
  have e2 : k3 K 8 0 n (K 8 0 n + 1) 8 2 n = K 8 2 n := by rw [k3_b K _ (show ¬ 2 = 0 by decide)]
  have e3 : k3 K 8 0 n (K 8 0 n + 1) 8 3 n = K 8 3 n := by rw [k3_b K _ (show ¬ 3 = 0 by decide)]
  refine lv_aload_n S.1 S.2.1 dJx4a65c_add_9ea2d_10 rfl (lv_at hl 0 rfl) ?_
  refine lv_aload_n S.1 S.2.1 dJx4a65c_add_9ea2d_11 rfl (lv_at hl 1 rfl) ?_
  refine lv_aload_n S.1 S.2.1 dJx4a65c_add_9ea2d_12 rfl (lv_at hl 0 rfl) ?_
  refine r_get S hg hw (k := 8) (i := n) hn rfl rfl iWJx4a65c 1 (by decide) u95 rfl dJx4a65c_add_9ea2d_13 ?_
  refine lv_aload_n S.1 S.2.1 dJx4a65c_add_9ea2d_16 rfl (lv_at hl 0 rfl) ?_
  refine r_get S hg hw (k := 8) (i := n) hn rfl rfl iWJx4a65c 2 (by decide) u96 rfl dJx4a65c_add_9ea2d_17 ?_
  have hok2 : okAdd (k3 K 8 0 n (K 8 0 n + 1)) n mc ms := by
    obtain ⟨k0, q, a1, a2, a3, a4, a5, a6⟩ := hok
    refine ⟨k0, q, e2.trans a1, e3.trans a2, a3, a4, a5, fun h => ?_⟩
    obtain ⟨b1, b2, b3, b4⟩ := a6 h
    refine ⟨b1, b2, b3, fun j hj => lv_mod.mpr ?_⟩
    have := b4 j hj
    rw [k3_a K _ (show ¬ 9 = 8 by decide)]
    exact this
  have hwl : HTl D cI e0 A ad (k3 K 8 0 n (K 8 0 n + 1)) M ap o od n (if k3 K 8 0 n (K 8 0 n + 1) 8 3 n = 0 then e0 else av 9 n) H := by
    by_cases hz : k3 K 8 0 n (K 8 0 n + 1) 8 3 n = 0
    · exact Or.inl ⟨hz, by rw [if_pos hz], av, hw⟩
    · exact Or.inr ⟨hz, by rw [if_neg hz]; exact ⟨av, rfl, hw⟩⟩
  refine r_call (rest := []) S hg hS (mtL_add3 (mc := mc) (ms := ms) hok2 hn (lv_mod.mpr hx)) u411 u413 u3 u46 u414 hdJx4a65c_add_72be8 (rv8 hg ⟨av, hw⟩ hn) hwl ⟨Nat.le_of_ble_eq_true rfl, Nat.le_of_ble_eq_true rfl⟩ ⟨by show 0 + mc ≤ mc; omega, by show 0 + ms ≤ ms; omega⟩ hl.1 (Nat.le_of_ble_eq_true rfl) rfl dJx4a65c_add_9ea2d_20 (fun E ce q H1 locs1 hx hS1 hc1 hc2 hc3 => hx.elim) (fun rv H locs hq9 hS => ?_)
  obtain ⟨rfl, hw⟩ := hq9
  show W p l e _ s m _ below meth c H locs _ _ _ (F0 m 23 ls [])
  refine lv_iconst (v := 1) S.1 S.2.1 dJx4a65c_add_9ea2d_23 (by decide) ?_
  refine r_iret (y := yJx4a65c_add_9ea2d) S hr rfl hlk hS (by omega) (by omega) dJx4a65c_add_9ea2d_24 ⟨rfl, ?_⟩
  rw [e2, e3] at hw
  exact hw
theorem rL_add {mc ms : Nat} (S : CallFix p m c cc nL s args WU own) (hg : GI D cI e0 A s s.heap) (hS : va_S A s.heap H locs) (hw : HT D cI e0 A ad K M ap o od H) {n x : Nat} (hn : n < 4 + 2 * nD K) (hx : lvK K (ek n) x) (hok : okAdd K n mc ms) (hsz : ls.size = nL) (hrest : (rest.map fun v => v.category).sum ≤ 8) (hR : 7 ≤ R.frames ∧ 321 ≤ R.locals) (hcs : cells + mc ≤ R.cells ∧ slots + ms ≤ R.slots) (k1 : Cond.methodLink own index yJx4a65c_add_9ea2d ∈ WU) (hd : decode cc pc = .ok (.invokevirtual index, 3))
    (kk : ∀ (H1 : Heap) (locs1 : List Loc), HT D cI e0 A ad (lAdd K n x) M ap o od H1 → va_S A s.heap H1 locs1 → W p l e R s m args below meth c H1 locs1 (cells + mc) (slots + ms) Q (F0 m (pc + 3) ls (.int 1 :: rest))) : W p l e R s m args below meth c H locs cells slots Q (F0 m pc ls (.ref (ad (ek n) x) :: .ref (ad 8 n) :: rest)) :=
  r_call (rest := rest) S hg hS (mtL_add1 (mc := mc) (ms := ms) hok hn hx) k1 u408 u409 u46 u410 hdJx4a65c_add_9ea2d (rv8 hg hw hn) hw ⟨hR.1, hR.2⟩ hcs hsz hrest rfl hd (fun E ce q H1 locs1 hx hS1 hc1 hc2 hc3 => hx.elim) (fun rv H locs hq hS => by obtain ⟨rfl, hw⟩ := hq; exact kk H locs hw hS)
/-- the postings' row at a, and a longer copy of it at q -/
def HTd (D : va_G) (cI : Nat → ClassId) (e0 : Nat) (A : Nat → Prop) (ad : Nat → Nat → Nat) (K M : KS) (ap o : Int64) (od : UInt64) (N q : Nat) (H : Heap) : Prop := ∃ av, HW D A (fun k i => lvK K k i ∨ (k = 30 ∧ i = 0)) (hU (adK ad av) 30 0 q) (hU (ctK cI e0 ad av K M ap o od) 30 0 (.inl (cI 0, N, .inl (va_cpy (K 11 0) (fun _ => 0) 0 0 (K 1 5 0).toNatClampNeg)))) H
def qD (D : va_G) (cI : Nat → ClassId) (e0 : Nat) (A : Nat → Prop) (ad : Nat → Nat → Nat) (K M : KS) (ap o : Int64) (od : UInt64) (N : Nat) (rv : Option Value) (H : Heap) : Prop := ∃ q, rv = some (.ref q) ∧ HTd D cI e0 A ad K M ap o od N q H
set_option maxHeartbeats 4000000 in
theorem mtL_copyI {mc ms a N r : Nat} (hr1 : K 1 5 0 = nI r) (hN : r < N) (hN2 : N ≤ 65536) (h1 : 1 ≤ mc) (h2 : N ≤ ms) : CM l D cI e0 A yJ7_copyOf_59c91 cJ7_copyOf_59c91 3 (some (.array .int)) 1 60 mc ms [.ref a, .int (nI N)] (HTa D cI e0 A ad K M ap o od a) (qD D cI e0 A ad K M ap o od N) xN := by
  refine CM.of (by decide) (Nat.le_of_ble_eq_true rfl) (fun p e s m below meth c ls FX hw hS hl => ?_)
  obtain ⟨S, hg, hr, hlk, hnm, hout⟩ := FX
  have hl : lv_has ls 3 [(0, .ref a), (1, .int (nI N))] := hl
  obtain ⟨av, rfl, hw⟩ := hw
  have hrn : (K 1 5 0).toNatClampNeg = r := by rw [hr1]; exact nI_clamp (by omega)
  refine lv_iload_n S.1 S.2.1 dJ7_copyOf_59c91_0 rfl (lv_at hl 1 rfl) ?_
  refine lv_aload_n S.1 S.2.1 dJ7_copyOf_59c91_1 rfl (lv_at hl 0 rfl) ?_
  refine r_alen S hg hw (k := 11) (i := 0) rfl 0 rfl rfl dJ7_copyOf_59c91_2 ?_
  refine lv_icmp_ne (tgt := 14) S.1 S.2.1 dJ7_copyOf_59c91_3 (by decide) (fun c1 => ?_) (fun c1 => absurd (show nI N = nI (K 1 5 0).toNatClampNeg from c1) (by rw [hrn]; intro z; have := (nI_eq (by omega) (by omega)).mp z; omega))
  refine lv_iload_n S.1 S.2.1 dJ7_copyOf_59c91_14 rfl (lv_at hl 1 rfl) ?_
  refine r_inew S hg hS hw 30 0 (N := N) u107 (nI_pos (by omega)) (nI_clamp (by omega)) (by omega) (by show 0 + 1 ≤ mc; omega) (by show 0 + N ≤ ms; omega) dJ7_copyOf_59c91_15 (fun x H hw hS => ?_)
  refine lv_astore_n (lv' := [(2, .ref x), (0, .ref (av 11 0)), (1, .int (nI N))]) S.1 S.2.1 dJ7_copyOf_59c91_17 rfl hl (by decide) rfl (fun ls hl => ?_)
  refine lv_aload_n S.1 S.2.1 dJ7_copyOf_59c91_18 rfl (lv_at hl 1 rfl) ?_
  refine lv_iconst (v := 0) S.1 S.2.1 dJ7_copyOf_59c91_19 (by decide) ?_
  refine lv_aload_n S.1 S.2.1 dJ7_copyOf_59c91_20 rfl (lv_at hl 0 rfl) ?_
  refine lv_iconst (v := 0) S.1 S.2.1 dJ7_copyOf_59c91_21 (by decide) ?_
  refine lv_aload_n S.1 S.2.1 dJ7_copyOf_59c91_22 rfl (lv_at hl 1 rfl) ?_
  have ea : hU (adK ad av) 30 0 x 11 0 = av 11 0 := hU_n _ _ (by omega)
  have ex : hU (adK ad av) 30 0 x 30 0 = x := hU_s _ _ _ _
  have eg : hU (ctK cI e0 ad av K M ap o od) 30 0 (.inl (cI 0, N, .inl (fun _ => 0))) 11 0 = .inl (cI 0, (K 1 5 0).toNatClampNeg, .inl (K 11 0)) := hU_n _ _ (by omega)
  rw [← ea]
  refine r_alen S hg hw (k := 11) (i := 0) (Or.inl rfl) 0 rfl eg dJ7_copyOf_59c91_23 ?_
  refine lv_iload_n S.1 S.2.1 dJ7_copyOf_59c91_24 rfl (lv_at hl 2 rfl) ?_
  refine va_mmin S.1 S.2.1 (S.2.2.1.trans hl.1.symm) S.2.2.2.1 (S.2.2.2.2 _ u462) (S.2.2.2.2 _ u463) (S.2.2.2.2 _ u60) (S.2.2.2.2 _ u464) (Nat.le_of_ble_eq_true rfl) (Nat.le_of_ble_eq_true rfl) (by show 0 + 1 ≤ mc; omega) (by show 0 + N ≤ ms; omega) dJ7_copyOf_59c91_25 ?_
  rw [if_neg (by rw [hrn]; exact nI_nlt (by omega) (by omega))]
  have ex2 : (Value.ref x) = .ref (hU (adK ad av) 30 0 x 30 0) := by rw [ex]
  rw [ex2]
  obtain ⟨ids, i1, i2, i3⟩ := id hw
  obtain ⟨y, -, y2⟩ := hws_at (adr := hU (adK ad av) 30 0 x) (G := hU (ctK cI e0 ad av K M ap o od) 30 0 (.inl (cI 0, N, .inl (fun _ => 0)))) (i1 11 0 (Or.inl rfl))
  obtain ⟨z, z1, z2⟩ := hws_at (adr := hU (adK ad av) 30 0 x) (G := hU (ctK cI e0 ad av K M ap o od) 30 0 (.inl (cI 0, N, .inl (fun _ => 0)))) (i1 30 0 (Or.inr ⟨rfl, rfl⟩))
  rw [eg] at y2
  rw [hU_s] at z2
  rw [hU_s] at z2
  have z3 := z2
  rw [hU_s]
  refine va_copyi (rest := []) (sp := 0) (dp := 0) S.1 S.2.1 (S.2.2.1.trans hl.1.symm) S.2.2.2.1 (S.2.2.2.2 _ u465) (S.2.2.2.2 _ u467) (S.2.2.2.2 _ u466) (S.2.2.2.2 _ u62) hg.1 i2 i3 hS y z 0 0 y2 z2 rfl rfl rfl (by decide) (by decide) (nI_pos (by rw [hrn]; omega)) (by rw [tn0, nI_clamp (by rw [hrn]; omega)]; omega) (by rw [tn0, nI_clamp (by rw [hrn]; omega)]; omega) (fun _ _ => rfl) (Nat.le_of_ble_eq_true rfl) (by have := nfw; show 0 + _ ≤ 60; omega) dJ7_copyOf_59c91_28 (fun H locs hP hD hS => ?_)
  refine lv_aload_n S.1 S.2.1 dJ7_copyOf_59c91_31 rfl (lv_at hl 0 rfl) ?_
  refine r_aret (y := yJ7_copyOf_59c91) S hr (Or.inr ⟨_, rfl⟩) hlk hS (by omega) (by omega) dJ7_copyOf_59c91_32 ⟨x, rfl, av, ?_⟩
  rw [← ex] at hP hD
  refine (HW.set i3 i1 z1 (by rw [ex] at hP ⊢; exact hP) (by rw [ex] at hD ⊢; exact hD)).only (fun _ _ _ => rfl) (fun k i hli => ?_)
  rw [tn0, nI_clamp (by rw [hrn]; omega)]
  by_cases h30 : k = 30 ∧ i = 0
  · obtain ⟨rfl, rfl⟩ := h30
    rw [hU_s, hU_s]
  · rw [hU_n _ _ h30, hU_n _ _ h30, hU_n _ _ h30]
def eGrow (K : KS) (N : Nat) : KS := kr (k3 K 1 5 0 (nI N)) 11 0 (va_cpy (K 11 0) (fun _ => 0) 0 0 (K 1 5 0).toNatClampNeg)
/-- the ledger's row, twice as long -/
def okGrow (K : KS) (n : Int32) (N mc ms : Nat) : Prop := n = nI N ∧ ∃ r : Nat, K 1 5 0 = nI r ∧ r < N ∧ N ≤ 65536 ∧ 1 ≤ mc ∧ N ≤ ms
theorem e_grow {n : Int32} {N mc ms a : Nat} (S : CallFix p m c cX3_enter nL s args WU RX3) (hg : GI D cI e0 A s s.heap) (hS : va_S A s.heap H locs) (hw : HTa D cI e0 A ad K M ap o od a H) (hok : okGrow K n N mc ms) (hsz : ls.size = nL) (hR : 2 ≤ R.frames ∧ 82 ≤ R.locals) (hcs : cells + mc ≤ R.cells ∧ slots + ms ≤ R.slots) (hd : decode cX3_enter pc = .ok (.invokestatic 19, 3)) (hd2 : decode cX3_enter (pc + 3) = .ok (.putfield 9, 3))
    (kk : ∀ (H1 : Heap) (locs1 : List Loc), HT D cI e0 A ad (eGrow K N) M ap o od H1 → va_S A s.heap H1 locs1 → W p l e R s m args below meth c H1 locs1 (cells + mc) (slots + ms) Q (F0 m (pc + 3 + 3) ls [])) : W p l e R s m args below meth c H locs cells slots Q (F0 m pc ls [.int n, .ref a, .ref (ad 1 0)]) := by
  obtain ⟨rfl, r, h1, h2, h3, h4, h5⟩ := hok
  refine r_callS (rest := [.ref (ad 1 0)]) S hg hS (mtL_copyI (mc := mc) (ms := ms) h1 h2 h3 h4 h5) u474 u475 u61 u476 hdJ7_copyOf_59c91 hw ⟨hR.1, hR.2⟩ hcs hsz (Nat.le_of_ble_eq_true rfl) rfl hd (fun E ce q H1 locs1 hx hS1 hc1 hc2 hc3 => hx.elim) (fun rv H locs hq9 hS => ?_)
  obtain ⟨x, rfl, av, hw⟩ := hq9
  show W p l e _ s m _ below meth c H locs _ _ _ (F0 m (pc + 3) ls [.ref x, .ref (ad 1 0)])
  have e1 : hU (adK ad av) 30 0 x 1 0 = ad 1 0 := hU_n _ _ (by omega)
  rw [← e1]
  refine r_put S hg hS hw (k := 1) (i := 0) (Or.inl rfl) (ci := 6) (fs := [.ref (av 11 0), .int (K 1 1 0)]) (hU_n _ _ (by omega)) rfl iWX3 tyX3 tyX3_ok nmX3 0 (by decide) u114 rfl rfl rfl (Nat.le_of_ble_eq_true rfl) hd2 (fun H locs hw hS => kk H locs ⟨hU av 11 0 x, ?_⟩ hS)
  have f1 : ∀ z, ¬ z = 11 → ∀ b, ¬ (z = 1 ∧ b = 5) → eGrow K N z b = K z b := by
    intro z hz b hb
    unfold eGrow
    rw [kr_a _ _ hz]
    by_cases h : z = 1
    · subst h
      exact k3_b K _ (fun q => hb ⟨rfl, q⟩)
    · rw [k3_a K _ h]
  have f5 : eGrow K N 1 5 0 = nI N := by unfold eGrow; rw [kr_a _ _ (show ¬ 1 = 11 by decide), k3_s]
  have f11 : eGrow K N 11 0 = va_cpy (K 11 0) (fun _ => 0) 0 0 (K 1 5 0).toNatClampNeg := by unfold eGrow; rw [kr_s]
  have hlv : ∀ k i, lvK (eGrow K N) k i → lvK K k i := by
    intro k i h
    unfold lvK at h ⊢
    split at h <;> exact h
  refine HW.ren hw (k := 30) (i := 0) (k2 := 11) (i2 := 0) (Or.inr ⟨rfl, rfl⟩) ?_ ?_ ?_ ?_ ?_
  · intro k i h
    by_cases h11 : k = 11 ∧ i = 0
    · exact Or.inl h11
    · exact Or.inr ⟨Or.inl (hlv k i h), lvK_30 (hlv k i h), h11⟩
  · rw [hU_s]; exact hU_s _ _ _ _
  · rw [hU_n _ _ (by omega), hU_s]
    show Sum.inl (cI 0, (eGrow K N 1 5 0).toNatClampNeg, Sum.inl (eGrow K N 11 0)) = _
    rw [f5, f11, nI_clamp (by omega)]
  · intro k i h h11
    rw [hU_n _ _ (lvK_30 (hlv k i h))]
    unfold adK
    split
    · exact hU_n _ _ (by omega)
    · exact hU_n _ _ h11
    · rfl
  · intro k i h h11
    by_cases h1 : k = 1 ∧ i = 0
    · obtain ⟨rfl, rfl⟩ := h1
      rw [hU_s]
      show Sum.inr (6, [Value.ref (hU av 11 0 x 11 0), Value.int (eGrow K N 1 1 0)]) = _
      rw [hU_s, f1 1 (by decide) 1 (by omega)]
      rfl
    · rw [hU_n _ _ h1, hU_n _ _ (lvK_30 (hlv k i h))]
      have e9 : ∀ i, hU av 11 0 x 9 i = av 9 i := fun i => hU_n _ _ (by omega)
      by_cases hk1 : k = 1
      · subst hk1; exact absurd ⟨rfl, hlv _ _ h⟩ h1
      · by_cases hk11 : k = 11
        · subst hk11; exact absurd ⟨rfl, hlv _ _ h⟩ h11
        · unfold ctK
          split <;> first | rfl | (exact absurd rfl hk1) | (exact absurd rfl hk11) | (rw [e9]; rfl)
theorem s11 {a : Nat} (S : CallFix p m c cc nL s args WU own) (hg : GI D cI e0 A s s.heap) (hS : va_S A s.heap H locs) (hw : HTa D cI e0 A ad K M ap o od a H) {j x : Int32} (hj : vp_in j (K 1 5 0).toNatClampNeg) (hd : decode cc pc = .ok (.iastore, 1)) (kk : ∀ (H1 : Heap) (locs1 : List Loc), HT D cI e0 A ad (k3 K 11 0 j.toNatClampNeg x) M ap o od H1 → va_S A s.heap H1 locs1 → W p l e R s m args below meth c H1 locs1 cells slots Q (F0 m (pc + 1) ls rest)) : W p l e R s m args below meth c H locs cells slots Q (F0 m pc ls (.int x :: .int j :: .ref a :: rest)) := by
  obtain ⟨av, rfl, hw⟩ := hw
  refine r_iast S hg hS hw (k := 11) (i := 0) rfl rfl hj hd (fun H1 locs1 hw hS => kk H1 locs1 ⟨av, hw.same (fun _ _ h => h) (fun _ _ _ => rfl) (fun k i2 hl => ?_)⟩ hS)
  by_cases hc : k = 11 ∧ i2 = 0
  · obtain ⟨rfl, rfl⟩ := hc
    rw [hU_s]
    simp [ctK, k3_r, k3_a]
  · rw [hU_n _ _ hc]
    by_cases hk2 : k = 11
    · subst hk2
      exact absurd ⟨rfl, hl⟩ hc
    · unfold ctK
      split <;> first | rfl | (exact absurd rfl hk2)
end JDK
end
section
section MORE
variable {p : Program} {l : Launch} {e : Env} {R : Room} {s : State} {m : MethodId} {args : Array Value} {below : List Frame} {meth : Method} {c : Code} {H : Heap} {locs : List Loc} {cells slots : Nat} {Q : State → Prop}
variable {D : va_G} {cI : Nat → ClassId} {e0 : Nat} {A : Nat → Prop} {ad av : Nat → Nat → Nat} {K M : KS} {ap o : Int64} {od : UInt64}
variable {cc : ByteArray} {nL pc : Nat} {ls : Array Slot} {rest : List Value} {own : String} {index : Nat}
theorem lv_ldcfW (hexec : p.tables.exec = Jvm.exec) (hb : c.code = cc) {v : UInt32} (hown : s.vm.findClass own = some m.cls) (hconst : (Cond.constantFloat own index v).before args s = true) (hdg : decode cc pc = .ok (.ldc_w index, 3)) (k : W p l e R s m args below meth c H locs cells slots Q (F0 m (pc + 3) ls (.float v :: rest))) : W p l e R s m args below meth c H locs cells slots Q (F0 m pc ls rest) := by
  intro T hT X
  obtain ⟨t, a, b⟩ := k T hT X
  obtain ⟨k9, cf, hk, hcf, hcp⟩ := Cond.constantFloat_spec hown hconst
  obtain ⟨k', hk', he⟩ := X.warmed.alike.2.2 _ _ hk
  have hdg' : decode c.code (F0 m pc ls rest).pc = .ok (.ldc_w index, 3) := by rw [hb]; exact hdg
  refine ⟨t, ?_, b⟩
  jvm_step X.here [hexec, hdg', ldc_w.wp_float (s := T) (f := F0 m pc ls rest) X.here.top hk' (by rw [he]; exact hcf) hcp]
  exact a
/-! throw new NoSuchElementException(".."): its constructor hands the text on through the pool's place 13, where the kit's law wants place 7; so the chain's first link is made here by the library's own PassC.ofS_atoms -/
def nsE : String := "java/util/NoSuchElementException"
def rtE : String := "java/lang/RuntimeException"
def nsB : ByteArray := ⟨#[0x2a, 0x2b, 0xb7, 0x00, 0x0d, 0xb1]⟩
def nsOwn (own : String) (ic : Nat) : List Cond :=
  [.methodLink own ic (Bundle.initS nsE), .instantiable nsE 6, .selects nsE Bundle.tFill0 Bundle.tFill0, .selects nsE Bundle.tFill Bundle.tFill,
   .lays nsE Bundle.tN "cause" "Ljava/lang/Throwable;", .lays nsE Bundle.tN "stackTrace" Bundle.steD, .lays nsE Bundle.tN "suppressedExceptions" Bundle.listD, .lays nsE Bundle.tN "detailMessage" "Ljava/lang/String;",
   .isRef (.static Bundle.tN "UNASSIGNED_STACK" Bundle.steD), .isRef (.static Bundle.tN "SUPPRESSED_SENTINEL" Bundle.listD),
   .fieldLink Bundle.tN 198 Bundle.tN "backtrace" "Ljava/lang/Object;", .lays Bundle.tN Bundle.tN "backtrace" "Ljava/lang/Object;", .lays nsE Bundle.tN "backtrace" "Ljava/lang/Object;"]
def nsAt (own : String) (ic : Nat) : List Cond :=
  Bundle.throwableAtoms ++ (Bundle.throwableSAtoms ++ (Bundle.chainSAtoms rtE ["java/lang/Exception"] ++ (Bundle.passSAtoms nsE rtE 13 nsB ++ nsOwn own ic)))
theorem nsAt_1 {own : String} {ic : Nat} {w : Cond} (h : w ∈ Bundle.throwableAtoms) : w ∈ nsAt own ic := List.mem_append_left _ h
theorem nsAt_2 {own : String} {ic : Nat} {w : Cond} (h : w ∈ Bundle.throwableSAtoms) : w ∈ nsAt own ic := List.mem_append_right _ (List.mem_append_left _ h)
theorem nsAt_3 {own : String} {ic : Nat} {w : Cond} (h : w ∈ Bundle.chainSAtoms rtE ["java/lang/Exception"]) : w ∈ nsAt own ic := List.mem_append_right _ (List.mem_append_right _ (List.mem_append_left _ h))
theorem nsAt_4 {own : String} {ic : Nat} {w : Cond} (h : w ∈ Bundle.passSAtoms nsE rtE 13 nsB) : w ∈ nsAt own ic := List.mem_append_right _ (List.mem_append_right _ (List.mem_append_right _ (List.mem_append_left _ h)))
theorem nsAt_5 {own : String} {ic : Nat} {w : Cond} (h : w ∈ nsOwn own ic) : w ∈ nsAt own ic := List.mem_append_right _ (List.mem_append_right _ (List.mem_append_right _ (List.mem_append_right _ h)))
set_option maxHeartbeats 2000000 in
theorem nsThrow {s : State} {W0 : State} (X : Stand p l e R s m args below meth c W0 locs cells slots) (hexec : p.tables.exec = Jvm.exec) (htr : e.platform.stackTraces = false) {ic : Nat}
    (hown : s.vm.findClass own = some m.cls) (h : ∀ w ∈ nsAt own ic, w.before args s = true)
    (hlocs : ∀ x ∈ locs, ∀ cell, s.heap[x.base]? = some cell → cell.vm.isStatics = false)
    {a : Addr} {cX : ClassId} {kX : Class} (hfX : s.vm.findClass nsE = some cX) (hkX : s.vm.classes[cX]? = some kX) (hcell : W0.heap[a]? = some (freshCell cX kX)) (hnew : s.heap.size ≤ a)
    {msg : Value} (hmsg : msg.isRef = true) {g : JFrame} (hg : g.method = m) (hsize : g.locals.size = c.maxLocals) (hlocked : g.locked = none) (hentered : g.entered = []) {rest : List Value} (hstack : g.stack = msg :: .ref a :: .ref a :: rest)
    (hd6 : decode c.code g.pc = .ok (.invokespecial ic, 3)) (hd9 : decode c.code (g.pc + 3) = .ok (.athrow, 1)) (hout : ∀ x ∈ c.exceptionTable.toList, covers x (g.pc + 3) = false)
    (hRf : 5 < R.frames) (hRl : 2 * g.monitorRoom + ((Value.ref a :: rest).map fun v => v.category).sum + 81 ≤ R.locals) (hlocks : meth.locks = false) :
    ∃ U : State, Steps p.tables e below (W0.setTop g) U ∧ U.status = .running ∧ Ended U below (.threw a) ∧ s.WarmedH U.vm ∧ s.sameButNew ({ U with vm := s.vm } : State) locs cells slots ∧ ∃ ce, U.heap[a]? = some ce ∧ ce.vm = .none ∧ s.vm.findClass nsE = some ce.cls := by
  have pf := X.admits.platform
  have howns : e.platform.frameOwnsMonitors = true := by rw [pf]
  have hfin : e.platform.finalization = false := by rw [pf]
  have hpl : e.platform.magicAccessors = ({} : Platform).magicAccessors := by rw [pf]
  have o : ∀ w, w ∈ nsOwn own ic → w.holds args s none s [] = true := fun w hw => h w (nsAt_5 hw)
  obtain ⟨T, Z0, L, -, Y⟩ := ThrowableC.of_atoms (args := args) howns hfin hpl (fun w hw => h w (nsAt_1 hw))
  obtain ⟨Z, N, LZ, LN, hnZ⟩ := Init0T.ofS_atoms (args := args) hpl L Y (fun w hw => h w (nsAt_2 hw))
  obtain ⟨P2, Ps, hlen, L2, hLs, hP2, hl2, hls⟩ := Bundle.chainS (args := args) hpl hnZ ["java/lang/Exception"] rtE (by decide) (by decide) (fun w hw => h w (nsAt_3 hw))
  obtain ⟨P1, L1, hP1, hP1s⟩ := PassC.ofS_atoms (args := args) (s := s) hpl (X := nsE) (Y := rtE) (index := 13) (bytes := nsB) (by decide) (by decide) (by decide +kernel) (by decide +kernel) (by decide +kernel) (by decide +kernel) (fun w hw => h w (nsAt_4 hw))
  have hsup : P1.sup = P2.m := Option.some.inj (hP1s.symm.trans hP2)
  have hcl : s.vm.findClass nsE = some P1.m.cls := findClass_of_methodNamed hP1
  cases Option.some.inj (hfX.symm.trans hcl)
  obtain ⟨k1, kY, hk1, hk, hord, -, -, -⟩ := Cond.instantiable_spec (o (.instantiable nsE 6) (by simp [nsOwn]))
  cases Option.some.inj (hk1.symm.trans hcl)
  cases Option.some.inj (hkX.symm.trans hk)
  have hse : ∀ (y : MethodName) (id : MethodId), Cond.selects nsE y y ∈ nsOwn own ic → s.methodNamed? y = some id → s.methodFound? y.cls y.name y.desc = some id → selectMethod e.platform s.vm P1.m.cls id = .method id := by
    intro y id hin hn hf
    obtain ⟨c2, r2, m2, q1, q2, q3, q4, -⟩ := Cond.selects_spec (o _ hin)
    cases Option.some.inj (q1.symm.trans hcl)
    cases Option.some.inj (q2.symm.trans hf)
    cases Option.some.inj (q3.symm.trans hn)
    rw [Launch.admits_selectMethod X.admits]
    exact q4
  have hs0 := hse Bundle.tFill0 T.fill0 (by simp [nsOwn]) Y.fill0 (State.methodFound?_of_named Y.fill0 (by decide))
  have hsF := hse Bundle.tFill T.fill (by simp [nsOwn]) Y.fill (State.methodFound?_of_named Y.fill (by decide))
  obtain ⟨cS, hcS, hiss⟩ := Y.statics
  obtain ⟨u0, hu0⟩ := Cond.staticRefV Y.unassigned L.unassignedStatic L.statics hcS hiss (o (.isRef (.static Bundle.tN "UNASSIGNED_STACK" Bundle.steD)) (by simp [nsOwn]))
  obtain ⟨sen, hsen⟩ := Cond.staticRefV Y.sentinel L.sentinelStatic L.statics hcS hiss (o (.isRef (.static Bundle.tN "SUPPRESSED_SENTINEL" Bundle.listD)) (by simp [nsOwn]))
  obtain ⟨bc, bi, fB, hb1, hb2, hb3, hb4, -, hnB, htB, hffB⟩ := Cond.ownField (t := .object "java/lang/Object") Y.found L.cls (by decide +kernel) (o (.fieldLink Bundle.tN 198 Bundle.tN "backtrace" "Ljava/lang/Object;") (by simp [nsOwn])) (o (.lays Bundle.tN Bundle.tN "backtrace" "Ljava/lang/Object;") (by simp [nsOwn])) e.platform hpl
  obtain ⟨cT, hcT, heT, -, hkeep⟩ := X.same.2.2.2.2.2 T.aS cS hcS
  have hcT : W0.heap[T.aS]? = some cT := hcT
  have hno : ∀ i, (⟨T.aS, i⟩ : Loc) ∉ locs := by
    intro i hm
    have h9 := hlocs _ hm cS hcS
    rw [hiss] at h9
    cases h9
  have hku : cT.vm ≠ .unknown := by
    rw [heT]
    intro hu
    rw [hu] at hiss
    cases hiss
  have hne : T.aS ≠ a := Nat.ne_of_lt (Nat.lt_of_lt_of_le (Array.getElem?_eq_some_iff.mp hcS).1 hnew)
  obtain ⟨iM, hfM⟩ := Y.msg
  obtain ⟨tC, dC, eC, nC9⟩ := Cond.laysAt hcl hk Y.cause (o (.lays nsE Bundle.tN "cause" "Ljava/lang/Throwable;") (by simp [nsOwn]))
  obtain ⟨tS, dS, eS, nS9⟩ := Cond.laysAt hcl hk Y.stack (o (.lays nsE Bundle.tN "stackTrace" Bundle.steD) (by simp [nsOwn]))
  obtain ⟨tP, dP, eP, nP9⟩ := Cond.laysAt hcl hk Y.supp (o (.lays nsE Bundle.tN "suppressedExceptions" Bundle.listD) (by simp [nsOwn]))
  obtain ⟨tM, dM, eM, nM9⟩ := Cond.laysAt hcl hk hfM (o (.lays nsE Bundle.tN "detailMessage" "Ljava/lang/String;") (by simp [nsOwn]))
  obtain ⟨tB, dB, eB, nB9⟩ := Cond.laysAt hcl hk hffB (o (.lays nsE Bundle.tN "backtrace" "Ljava/lang/Object;") (by simp [nsOwn]))
  have bC := Cond.laysApart eB eC nB9 nC9 (by rw [hnB, Y.causeName]; decide)
  have bS := Cond.laysApart eB eS nB9 nS9 (by rw [hnB, Y.stackName]; decide)
  have bP := Cond.laysApart eB eP nB9 nP9 (by rw [hnB, Y.suppName]; decide)
  have hskip : SkipFacts T e.platform s (fun u => u) u0 ((preparedCellV T.toThrowableT (freshCell P1.m.cls kX) a u0 sen).withEntry W0.cur) :=
    ⟨{ ci198 := bc, i198 := bi, fBack := fB }, ⟨hb1, hb2, hb3, hb4⟩, by
      have q := fresh_default (c := P1.m.cls) tB
      rw [htB] at q
      simpa [preparedCellV, Cell.setSlot, Cell.withEntry, Array.getElem?_setIfInBounds, bC, bS, bP, bC.symm, bS.symm, bP.symm, defaultValue] using q, fun _ _ => rfl⟩
  obtain ⟨tm, mC, cdC, kC, vm1, hnC, -, -, -, -, -, -, -, hW1, st1⟩ := Steps.initColdS (tb := p.tables) (e := e) (below := below) (s := s) (U := W0) X.here hexec X.warmed hpl hown (t := Bundle.initS nsE) rfl rfl (by decide)
    (o (.methodLink own ic (Bundle.initS nsE)) (by simp [nsOwn])) (h (.instanceMethod (Bundle.initS nsE)) (nsAt_4 (by simp [Bundle.passSAtoms]))) (bytes := nsB) (maxL := 2) (h (.code (Bundle.initS nsE) nsB 2 none) (nsAt_4 (by simp [Bundle.passSAtoms])))
    (f := g) hg (a := a) (msg := msg) (rest := .ref a :: rest) hstack hd6
  cases Option.some.inj (hnC.symm.trans hP1)
  have X1 := X.noted hW1
  obtain ⟨vm2, X2, st2⟩ := X1.ctorMessageOffV hexec (g := { g with stack := .ref a :: rest }) hg hsize T L Z LZ N LN (P1 :: P2 :: Ps)
    (fun P hP => by
      rcases List.mem_cons.mp hP with rfl | hP
      · exact L1
      · rcases List.mem_cons.mp hP with rfl | hP
        · exact L2
        · exact hLs P hP) ⟨hsup, hl2, hls⟩ (u0 := u0) (sen := sen) (self := a) hmsg (cell := freshCell P1.m.cls kX) (cellS := cT)
    hcell (fun _ => by simp) (by simp) rfl rfl hs0 hsF hcT hne hku (by rw [hkeep _ (hno _)]; exact hu0) (by rw [hkeep _ (hno _)]; exact hsen)
    (Takes.of_laid hk hord tC (by rw [Y.causeType]; rfl)) (Takes.of_laid hk hord tS (by rw [Y.stackType]; exact fits_refV_array _ u0)) (Takes.of_laid hk hord tP (by rw [Y.suppType]; exact fits_refV_object _ sen))
    (Takes.of_laid hk hord tM (by rw [Y.msgType]; exact fits_refV_object _ ⟨msg, hmsg⟩)) Y.objLocals hskip htr [] hd6
    (by have hl1 : Ps.length = 1 := hlen
        simp only [List.length_cons, hl1]; omega) (by
        have hl1 : Ps.length = 1 := hlen
        simp only [List.length_cons, hl1]; exact hRl)
  obtain ⟨hwalk, hrun, hend, hWU, hsame⟩ := X2.athrowLeaves hexec (g := { g with stack := .ref a :: rest, pc := g.pc + 3 }) hg hlocked hentered hout (a := a) (rest := rest) rfl hd9
  have hlt : a < ((W0.setVm vm1).setVm vm2).heap.size := (Array.getElem?_eq_some_iff.mp hcell).1
  have hU := heapAt_setCell_self (s := (W0.setVm vm1).setVm vm2) (plainBareV T.toThrowableT (freshCell P1.m.cls kX) a u0 sen msg) hlt
  refine ⟨_, st1 _ (fun acts => ?_), hrun, hend, hWU, hsame.weaken (fun y hy hlt9 => ?_) (Nat.le_refl _) (Nat.le_refl _), _, hU, rfl, hcl⟩
  · rw [doInvoke_state]
    exact st2 _ hwalk
  · rcases List.mem_append.mp hy with h1 | h1
    · exact h1
    · exfalso
      have hb : y.base = a := by
        simp only [List.mem_cons, List.not_mem_nil, or_false] at h1
        rcases h1 with rfl | rfl | rfl | rfl | rfl <;> rfl
      rw [hb] at hlt9
      exact Nat.not_lt.mpr hnew hlt9
theorem hatN_245 : ∀ w ∈ (nsAt RX6 245).filter vx_no, w ∈ WU ∨ (∃ q ∈ gCa, w = .castable q.1 q.2) ∨ ∃ q ∈ gDc, w = .declares q := hat_of (by decide +kernel) (by decide +kernel)
theorem r_throwN {mc ms : Nat} {QQ : Option Value → Heap → Prop} {XX : String → Heap → Prop} {text : String} {ik is : Nat} (hfl : l.stackTraces = false) (S : CallFix p m c cc nL s args WU RX6) (hout : ∀ x ∈ c.exceptionTable.toList, False) (hlk : meth.locks = false) (hg : GI D cI e0 A s s.heap) (hS : va_S A s.heap H locs)
    (hk : Cond.classLink RX6 ik "java/util/NoSuchElementException" ∈ WU) (hini : Cond.initialized "java/util/NoSuchElementException" ∈ WU) (hstr : (RX6, is, text) ∈ gStr) (hsize : ls.size = nL)
    (d0 : decode cc pc = .ok (.new ik, 3)) (d3 : decode cc (pc + 3) = .ok (.dup, 1)) (d4 : decode cc (pc + 4) = .ok (.ldc is, 2)) (d6 : decode cc (pc + 6) = .ok (.invokespecial 245, 3)) (d9 : decode cc (pc + 9) = .ok (.athrow, 1))
    (hfr : 6 ≤ R.frames) (hlo : (rest.map fun v => v.category).sum + 82 ≤ R.locals) (hRc : cells + 1 ≤ R.cells) (hRs : slots + 6 ≤ R.slots) (hc : cells + 1 ≤ mc) (hs : slots + 6 ≤ ms)
    (hx : ∀ H1 : Heap, H.size ≤ H1.size → (∀ q : Nat, q < H.size → H1[q]? = H[q]?) → XX "java/util/NoSuchElementException" H1) : W p l e R s m args below meth c H locs cells slots (vx_MQ below (fun _ st oc t => (∃ r, oc = .returned r ∧ QQ r t.heap) ∧ va_F A st t) (fun E st t => XX E t.heap ∧ va_F A st t) args s mc ms A) (F0 m pc ls rest) := by
  obtain ⟨sa, hsa⟩ := hg.2.2.2.1 _ hstr
  have ht := S.2.2.2.2
  have hat2 : ∀ w ∈ (nsAt RX6 245).filter vx_no, w.before args s = true ∧ vx_ot w = true := by
    intro w hw
    rcases hatN_245 w hw with h | ⟨q, hq, rfl⟩ | ⟨q, hq, rfl⟩
    · exact ⟨ht w h, by unfold vx_ot; rw [WU_good w h, Bool.or_true]⟩
    · exact ⟨va_Nw.use rfl (hg.2.2.2.2.1.1 q hq), rfl⟩
    · exact ⟨va_Nw.use rfl (hg.2.2.2.2.1.2 q hq), rfl⟩
  have hexec := S.1
  have hb := S.2.1
  intro T hT X
  have htr : e.platform.stackTraces = false := (show e.platform.stackTraces = l.stackTraces by rw [X.admits.platform]).trans hfl
  have Y := vx_rebase X (R' := { frames := R.frames, locals := R.locals, cells := 1, slots := 6 }) (Nat.le_refl _) (Nat.le_refl _) hRc hRs
  obtain ⟨s', hA⟩ : ∃ z, z = (T.setVm s.vm).setFrames (.invoking m args :: below) := ⟨_, rfl⟩
  rw [← hA] at Y
  have hvm : s'.vm = s.vm := by rw [hA]; rfl
  have hhp : s'.heap = H := by rw [hA]; exact hT
  have hW0 : s.WarmedH s'.vm := by rw [hvm]; exact State.WarmedH.refl s
  have hU' : vx_Zq Bundle.tN "UNASSIGNED_STACK" Bundle.steD A s' s'.heap := by rw [hhp]; exact vx_Zq.moved hW0.alike (hg.2.2.1.1.kept hS.2.1)
  have hN' : vx_Zq Bundle.tN "SUPPRESSED_SENTINEL" Bundle.listD A s' s'.heap := by rw [hhp]; exact vx_Zq.moved hW0.alike (hg.2.2.1.2.kept hS.2.1)
  have h : ∀ w ∈ nsAt RX6 245, w.before args s' = true := vx_own (fun w hw => vx_ot_at hW0 hvm.symm (hat2 w hw).2 (hat2 w hw).1) (vx_isRefq hU'.1) (vx_isRefq hN'.1) hU'.2.word hN'.2.word
  have hown' : s'.vm.findClass RX6 = some m.cls := by rw [hvm]; exact S.2.2.2.1
  have hk' : (Cond.classLink RX6 ik nsE).before args s' = true := vx_ot_at hW0 hvm.symm (by unfold vx_ot; rw [WU_good (Cond.classLink RX6 ik nsE) hk, Bool.or_true]) (ht _ hk)
  have hini' : (Cond.initialized nsE).before args s' = true := vx_ot_at hW0 hvm.symm (by unfold vx_ot; rw [WU_good (Cond.initialized nsE) hini, Bool.or_true]) (ht _ hini)
  obtain ⟨vm1, cX, kX, hfX, hkX, -, -, X1, st1⟩ := Y.newCold hexec (own := RX6) (C := nsE) (index := ik) (n := 6) hown' hk' (h _ (nsAt_5 (by simp [nsOwn]))) hini'
    (g := F0 m pc ls rest) rfl (by rw [hb]; exact d0) (Nat.le_refl _) (Nat.le_refl _)
  generalize hT1 : (T.setVm vm1).pushCell { cls := cX, slots := kX.instanceTypes.map defaultValue, vm := .none } = T1 at X1 st1
  have hcat : (Value.ref T.heap.size).category = 1 := rfl
  have hcA : T1.heap[T.heap.size]? = some (freshCell cX kX) := by rw [← hT1]; exact State.heap_pushCell_size _ _
  have d3' : decode c.code (pc + 3) = .ok (.dup, 1) := by rw [hb]; exact d3
  have d4' : decode c.code (pc + 4) = .ok (.ldc is, 2) := by rw [hb]; exact d4
  have hstr' : vk_R RX6 is text sa s' := vk_R.warm hW0 hsa
  obtain ⟨U, hst, hrun, hend, hW, hsame, ce, hce, hcv, hcf⟩ := nsThrow X1 hexec htr (own := RX6) (ic := 245) hown' h (fun x hx => nomatch hx) hfX hkX hcA (by rw [hhp, hT]; exact Nat.le_refl _) (msg := .ref sa) rfl
    (g := { method := m, pc := pc + 6, locals := ls, stack := .ref sa :: .ref T.heap.size :: .ref T.heap.size :: rest, locked := none }) rfl (hsize.trans S.2.2.1.symm) rfl rfl (rest := rest) rfl
    (by rw [hb]; exact d6) (by rw [hb]; exact d9) (fun x hx => absurd (hout x hx) id) (by show 5 < R.frames; omega) (by simp only [List.map_cons, List.sum_cons, hcat]; show 2 * 0 + _ + 81 ≤ R.locals; omega) hlk
  obtain ⟨f1, f2⟩ := vx_frame hsame
  rw [hhp] at f1 f2
  have hWs : s.WarmedH U.vm := State.WarmedH.trans hW0 hW
  have hcl : s.vm.findClass nsE = some ce.cls := by
    rw [hvm] at hcf
    exact hcf
  have hall : s.sameButNew ({ U with vm := s.vm } : State) locs mc ms := by
    subst hA
    obtain ⟨e1, e2⟩ := hsame
    rw [State.setFrames_setFrames] at e1
    have h2 : (T.setVm s.vm).sameButNew ({ U with vm := s.vm } : State) [] (0 + 1) (0 + 6) := ⟨e1, e2⟩
    have h3 := X.same.trans h2
    rw [List.append_nil] at h3
    exact h3.mono hc hs
  have hk2 : ∀ q : Nat, q < H.size → U.heap[q]? = H[q]? := fun q hq => f2 q hq (fun z hz => nomatch hz)
  have hF : va_F A s U := by
    refine ⟨Nat.le_trans hS.1 f1, fun q h1 h2 => ?_⟩
    rw [hk2 q (Nat.lt_of_lt_of_le h1 hS.1)]
    exact hS.2.1 q h1 h2
  refine ⟨U, ?_, .threw T.heap.size, hrun, hend, Or.inr ⟨T.heap.size, rfl, nsE, ce, locs, ⟨hx U.heap f1 hk2, hF⟩, hce, hcv, hcl, hWs, hall, hS.2.2⟩⟩
  refine st1 _ ?_
  show Steps p.tables e below (T1.setTop { method := m, pc := pc + 3, locals := ls, stack := .ref T.heap.size :: rest, locked := none }) _
  jvm_step X1.here [X1.here.top, hexec, d3', Value.category]
  exact X1.ldcString hexec (own := RX6) (text := text) (index := is) (a := sa) hown' hstr'.1 hstr'.2
    (g := { method := m, pc := pc + 4, locals := ls, stack := .ref T.heap.size :: .ref T.heap.size :: rest, locked := none }) rfl d4' _ hst
/-- as CM.of, for a method of a class that the machine runs some methods of itself, but not this one -/
theorem CM.ofF {y : MethodName} {bytes : ByteArray} {maxL : Nat} {ret : Option FieldType} {fr lo mc ms : Nat} {av : List Value} {P : Heap → Prop} {QQ : Option Value → Heap → Prop} {XX : String → Heap → Prop} (hy : plainFor y = true) (hav : (lg_sl av).length ≤ maxL)
    (body : ∀ (p : Program) (e : Env) (s : State) (m : MethodId) (below : List Frame) (meth : Method) (c : Code) (ls : Array Slot), EN p l D cI e0 A m meth c s av.toArray y bytes maxL ret → P s.heap → va_S A s.heap s.heap [] → lv_has ls maxL (lv_args 0 av) →
      W p l e ({ frames := fr, cells := mc, slots := ms, locals := lo }) s m av.toArray below meth c s.heap [] 0 0 (vx_MQ below (fun _ st oc t => (∃ r, oc = .returned r ∧ QQ r t.heap) ∧ va_F A st t) (fun E st t => XX E t.heap ∧ va_F A st t) av.toArray s mc ms A) (F0 m 0 ls [])) : CM l D cI e0 A y bytes maxL ret fr lo mc ms av P QQ XX := by
  unfold CM
  refine MetFree.of_bodySF (code := bytes) (maxLocals := maxL) (ret := ret) hy ?_ ?_
  · intro args s m h hn
    obtain ⟨meth, c, h1, h2, h3, h4, h5, h6, -, -⟩ := Cond.code_spec hn (atoms_spec (ws := Cond.code y bytes maxL ret :: WU) h _ List.mem_cons_self)
    exact ⟨meth, c, h1, h2, h3, h4, h5, h6⟩
  · intro p e s m args below meth c s₁ B hml hv _
    have hh0 : s₁.heap = s.heap := by rw [B.state]; rfl
    have hts := atoms_spec (ws := Cond.code y bytes maxL ret :: WU) B.pre
    have hout : ∀ x ∈ c.exceptionTable.toList, False := by
      obtain ⟨meth9, c9, h1, h2, -, -, -, -, h7, -⟩ := Cond.code_spec B.named (hts _ List.mem_cons_self)
      cases Option.some.inj (h1.symm.trans B.method)
      cases Option.some.inj (h2.symm.trans (Stand.of_body B).code)
      intro x hx
      rw [Array.isEmpty_iff.mp h7] at hx
      cases hx
    obtain ⟨rfl, hg, hP⟩ := hv
    have hb := body p e s m below meth c _ ⟨⟨B.exec, B.bytes, hml, findClass_of_methodNamed B.named, fun w hw => hts w (List.mem_cons_of_mem _ hw)⟩, hg, B.returns, B.notSynchronized, (name_of_methodNamed B.named B.method).1, hout⟩ hP va_S.rf (lv_entry av hav)
    rw [← lg_entry_eq] at hb
    obtain ⟨t, a1, o, b1, b2, b3⟩ := hb s₁ hh0 (Stand.of_body B)
    exact ⟨t, o, a1, b1, b2, b3⟩
theorem mtF_isNaN {mc ms : Nat} {b : UInt32} (hn : Op.cmpValue (FP.fcmp b b) .l = 0) (P : Heap → Prop) : CM l D cI e0 A yJxf58ca_isNaN_12338 cJxf58ca_isNaN_12338 1 (some .boolean) 0 0 mc ms [.float b] P (qE (some (.int 0)) P) xN := by
  refine CM.ofF (by decide +kernel) (Nat.le_of_ble_eq_true rfl) (fun p e s m below meth c ls FX hw hS hl => ?_)
  obtain ⟨S, hg, hr, hlk, hnm, hout⟩ := FX
  have hl : lv_has ls 1 [(0, .float b)] := hl
  refine lv_fload_n S.1 S.2.1 dJxf58ca_isNaN_12338_0 rfl (lv_at hl 0 rfl) ?_
  refine lv_fload_n S.1 S.2.1 dJxf58ca_isNaN_12338_1 rfl (lv_at hl 0 rfl) ?_
  refine lv_fcmp S.1 S.2.1 dJxf58ca_isNaN_12338_2 ?_
  refine lv_if_eq (tgt := 10) S.1 S.2.1 dJxf58ca_isNaN_12338_3 (by decide) (fun c1 => ?_) (fun c1 => absurd hn c1)
  refine lv_iconst (v := 0) S.1 S.2.1 dJxf58ca_isNaN_12338_10 (by decide) ?_
  exact r_iret (y := yJxf58ca_isNaN_12338) S hr rfl hlk hS (by omega) (by omega) dJxf58ca_isNaN_12338_11 ⟨rfl, hw⟩
theorem mtF_bits {mc ms : Nat} {b : UInt32} (hn : Op.cmpValue (FP.fcmp b b) .l = 0) (P : Heap → Prop) : CM l D cI e0 A yJxf58ca_floatToIntBits_5c35a cJxf58ca_floatToIntBits_5c35a 1 (some .int) 1 40 mc ms [.float b] P (qE (some (.int b.toInt32)) P) xN := by
  refine CM.ofF (by decide +kernel) (Nat.le_of_ble_eq_true rfl) (fun p e s m below meth c ls FX hw hS hl => ?_)
  obtain ⟨S, hg, hr, hlk, hnm, hout⟩ := FX
  have hl : lv_has ls 1 [(0, .float b)] := hl
  refine lv_fload_n S.1 S.2.1 dJxf58ca_floatToIntBits_5c35a_0 rfl (lv_at hl 0 rfl) ?_
  refine r_callS (rest := []) S hg hS (mtF_isNaN (mc := 0) (ms := 0) hn P) u1358 u1359 u72 u1360 hdJxf58ca_isNaN_12338 hw ⟨Nat.le_of_ble_eq_true rfl, Nat.le_of_ble_eq_true rfl⟩ ⟨by show 0 + 0 ≤ mc; omega, by show 0 + 0 ≤ ms; omega⟩ hl.1 (Nat.le_of_ble_eq_true rfl) rfl dJxf58ca_floatToIntBits_5c35a_1 (fun E ce q H1 locs1 hx hS1 hc1 hc2 hc3 => hx.elim) (fun rv H locs hq hS => ?_)
  obtain ⟨rfl, hw⟩ := hq
  show W p l e _ s m _ below meth c H locs 0 0 _ (F0 m 4 ls [.int 0])
  refine lv_if_ne (tgt := 12) S.1 S.2.1 dJxf58ca_floatToIntBits_5c35a_4 (by decide) (fun c1 => absurd rfl c1) (fun c1 => ?_)
  refine lv_fload_n S.1 S.2.1 dJxf58ca_floatToIntBits_5c35a_7 rfl (lv_at hl 0 rfl) ?_
  refine vn_f2i S.1 S.2.1 (S.2.2.1.trans hl.1.symm) S.2.2.2.1 (S.2.2.2.2 _ u1361) (S.2.2.2.2 _ u1363) (S.2.2.2.2 _ u1362) (S.2.2.2.2 _ u72) (Nat.le_of_ble_eq_true rfl) (Nat.le_of_ble_eq_true rfl) dJxf58ca_floatToIntBits_5c35a_8 ?_
  exact r_iret (y := yJxf58ca_floatToIntBits_5c35a) S hr rfl hlk hS (by omega) (by omega) dJxf58ca_floatToIntBits_5c35a_11 ⟨rfl, hw⟩
theorem rF_bits {b : UInt32} (S : CallFix p m c cc nL s args WU own) (hg : GI D cI e0 A s s.heap) (hS : va_S A s.heap H locs) (hw : HT D cI e0 A ad K M ap o od H) (hn : Op.cmpValue (FP.fcmp b b) .l = 0) (k1 : Cond.methodLink own index yJxf58ca_floatToIntBits_5c35a ∈ WU) (hsz : ls.size = nL) (hrest : (rest.map fun v => v.category).sum ≤ 8) (hR : 2 ≤ R.frames ∧ 60 ≤ R.locals) (hcs : cells ≤ R.cells ∧ slots ≤ R.slots) (hd : decode cc pc = .ok (.invokestatic index, 3))
    (kk : ∀ (H1 : Heap) (locs1 : List Loc), HT D cI e0 A ad K M ap o od H1 → va_S A s.heap H1 locs1 → W p l e R s m args below meth c H1 locs1 cells slots Q (F0 m (pc + 3) ls (.int b.toInt32 :: rest))) : W p l e R s m args below meth c H locs cells slots Q (F0 m pc ls (.float b :: rest)) :=
  r_callS (rest := rest) S hg hS (mtF_bits (mc := 0) (ms := 0) hn (HT D cI e0 A ad K M ap o od)) k1 u1356 u72 u1357 hdJxf58ca_floatToIntBits_5c35a hw ⟨hR.1, hR.2⟩ hcs hsz hrest rfl hd (fun E ce q H1 locs1 hx hS1 hc1 hc2 hc3 => hx.elim) (fun rv H locs hq hS => by obtain ⟨rfl, hw⟩ := hq; exact kk H locs hw hS)
end MORE
end
section
-- wonBits
theorem dX7_wonBits_0 : decode cX7_wonBits 0 = .ok (.aload_n 0, 1) := by decide +kernel
theorem dX7_wonBits_1 : decode cX7_wonBits 1 = .ok (.aload_n 0, 1) := by decide +kernel
theorem dX7_wonBits_2 : decode cX7_wonBits 2 = .ok (.getfield 120, 3) := by decide +kernel
theorem dX7_wonBits_5 : decode cX7_wonBits 5 = .ok (.ifCond .ne 7, 3) := by decide +kernel
theorem dX7_wonBits_8 : decode cX7_wonBits 8 = .ok (.iconst 1, 1) := by decide +kernel
theorem dX7_wonBits_9 : decode cX7_wonBits 9 = .ok (.goto 4, 3) := by decide +kernel
theorem dX7_wonBits_12 : decode cX7_wonBits 12 = .ok (.iconst 0, 1) := by decide +kernel
theorem dX7_wonBits_13 : decode cX7_wonBits 13 = .ok (.putfield 98, 3) := by decide +kernel
theorem dX7_wonBits_16 : decode cX7_wonBits 16 = .ok (.iconst 0, 1) := by decide +kernel
theorem dX7_wonBits_17 : decode cX7_wonBits 17 = .ok (.istore_n 1, 1) := by decide +kernel
theorem dX7_wonBits_18 : decode cX7_wonBits 18 = .ok (.iconst 0, 1) := by decide +kernel
theorem dX7_wonBits_19 : decode cX7_wonBits 19 = .ok (.istore_n 2, 1) := by decide +kernel
theorem dX7_wonBits_20 : decode cX7_wonBits 20 = .ok (.iload_n 2, 1) := by decide +kernel
theorem dX7_wonBits_21 : decode cX7_wonBits 21 = .ok (.aload_n 0, 1) := by decide +kernel
theorem dX7_wonBits_22 : decode cX7_wonBits 22 = .ok (.getfield 120, 3) := by decide +kernel
theorem dX7_wonBits_25 : decode cX7_wonBits 25 = .ok (.if_icmp .ge 28, 3) := by decide +kernel
theorem dX7_wonBits_28 : decode cX7_wonBits 28 = .ok (.iload_n 1, 1) := by decide +kernel
theorem dX7_wonBits_29 : decode cX7_wonBits 29 = .ok (.aload_n 0, 1) := by decide +kernel
theorem dX7_wonBits_30 : decode cX7_wonBits 30 = .ok (.getfield 19, 3) := by decide +kernel
theorem dX7_wonBits_33 : decode cX7_wonBits 33 = .ok (.iload_n 2, 1) := by decide +kernel
theorem dX7_wonBits_34 : decode cX7_wonBits 34 = .ok (.caload, 1) := by decide +kernel
theorem dX7_wonBits_35 : decode cX7_wonBits 35 = .ok (.bipush 119, 2) := by decide +kernel
theorem dX7_wonBits_37 : decode cX7_wonBits 37 = .ok (.if_icmp .ne 7, 3) := by decide +kernel
theorem dX7_wonBits_40 : decode cX7_wonBits 40 = .ok (.iconst 1, 1) := by decide +kernel
theorem dX7_wonBits_41 : decode cX7_wonBits 41 = .ok (.goto 4, 3) := by decide +kernel
theorem dX7_wonBits_44 : decode cX7_wonBits 44 = .ok (.iconst 0, 1) := by decide +kernel
theorem dX7_wonBits_45 : decode cX7_wonBits 45 = .ok (.iadd, 1) := by decide +kernel
theorem dX7_wonBits_46 : decode cX7_wonBits 46 = .ok (.istore_n 1, 1) := by decide +kernel
theorem dX7_wonBits_47 : decode cX7_wonBits 47 = .ok (.iinc 2 1, 3) := by decide +kernel
theorem dX7_wonBits_50 : decode cX7_wonBits 50 = .ok (.goto (-30), 3) := by decide +kernel
theorem dX7_wonBits_53 : decode cX7_wonBits 53 = .ok (.aload_n 0, 1) := by decide +kernel
theorem dX7_wonBits_54 : decode cX7_wonBits 54 = .ok (.getfield 98, 3) := by decide +kernel
theorem dX7_wonBits_57 : decode cX7_wonBits 57 = .ok (.ifCond .le 7, 3) := by decide +kernel
theorem dX7_wonBits_60 : decode cX7_wonBits 60 = .ok (.iconst 0, 1) := by decide +kernel
theorem dX7_wonBits_61 : decode cX7_wonBits 61 = .ok (.goto 14, 3) := by decide +kernel
theorem dX7_wonBits_64 : decode cX7_wonBits 64 = .ok (.iload_n 1, 1) := by decide +kernel
theorem dX7_wonBits_65 : decode cX7_wonBits 65 = .ok (.i2f, 1) := by decide +kernel
theorem dX7_wonBits_66 : decode cX7_wonBits 66 = .ok (.aload_n 0, 1) := by decide +kernel
theorem dX7_wonBits_67 : decode cX7_wonBits 67 = .ok (.getfield 120, 3) := by decide +kernel
theorem dX7_wonBits_70 : decode cX7_wonBits 70 = .ok (.i2f, 1) := by decide +kernel
theorem dX7_wonBits_71 : decode cX7_wonBits 71 = .ok (.fdiv, 1) := by decide +kernel
theorem dX7_wonBits_72 : decode cX7_wonBits 72 = .ok (.invokestatic 185, 3) := by decide +kernel
theorem dX7_wonBits_75 : decode cX7_wonBits 75 = .ok (.ireturn, 1) := by decide +kernel
def wX7_wonBits_45 (post : Int32 → KS → Int64 → Prop) (bk20 : Int32 → Int32 → KS → Int64 → Prop) (l2 : Int32) (t0 : Int32) (t1 : Int32) (M : KS) (ap : Int64) : Prop := bk20 (t1 + t0) (l2 + 1) M ap
set_option maxHeartbeats 4000000 in
set_option maxRecDepth 100000 in
theorem bX7_wonBits_45 {p : Program} {l : Launch} {e : Env} {s : State} {m : MethodId} {args : Array Value} {below : List Frame} {meth : Method} {c : Code} {D : va_G} {cI : Nat → ClassId} {e0 : Nat} {A : Nat → Prop} {ad : Nat → Nat → Nat} {K : KS} {o : Int64} {od : UInt64} {mc ms : Nat} {post : Int32 → KS → Int64 → Prop} {bk20 : Int32 → Int32 → KS → Int64 → Prop} (S : CallFix p m c cX7_wonBits 3 s args WU RX7) (hg : GI D cI e0 A s s.heap) (hr : meth.sig.returnType = (some FieldType.int)) (hlk : meth.locks = false) (hout : ∀ x ∈ c.exceptionTable.toList, False) (hbk20 : ∀ {H : Heap} {locs : List Loc} {ls : Array Slot} {l1 : Int32} {l2 : Int32} {M : KS} {ap : Int64}, va_S A s.heap H locs → HT D cI e0 A ad K M ap o od H → lv_has ls 3 [(0, .ref (ad 3 0)), (1, .int l1), (2, .int l2)] → bk20 l1 l2 M ap → W p l e ({ frames := 2, cells := mc, slots := ms, locals := 60 } : Room) s m args below meth c H locs 0 0 (MQQ below (qM D cI e0 A ad K o od rI post) xN args s mc ms A) (F0 m 20 ls [])) {H : Heap} {locs : List Loc} {ls : Array Slot} {l2 : Int32} {t0 : Int32} {t1 : Int32} {M : KS} {ap : Int64} (hS : va_S A s.heap H locs) (hw : HT D cI e0 A ad K M ap o od H) (hl : lv_has ls 3 [(0, .ref (ad 3 0)), (2, .int l2)]) (h : wX7_wonBits_45 post bk20 l2 t0 t1 M ap) : W p l e ({ frames := 2, cells := mc, slots := ms, locals := 60 } : Room) s m args below meth c H locs 0 0 (MQQ below (qM D cI e0 A ad K o od rI post) xN args s mc ms A) (F0 m 45 ls [.int t0, .int t1]) := by
  unfold wX7_wonBits_45 at h
  refine lv_iadd S.1 S.2.1 dX7_wonBits_45 ?_
  refine lv_istore_n (lv' := [(1, .int (t1 + t0)), (0, .ref (ad 3 0)), (2, .int l2)]) S.1 S.2.1 dX7_wonBits_46 rfl hl (by decide) rfl (fun ls hl => ?_)
  refine lv_iinc (v := l2 + 1) (lv' := [(2, .int (l2 + 1)), (1, .int (t1 + t0)), (0, .ref (ad 3 0))]) S.1 S.2.1 dX7_wonBits_47 hl (k := 2) rfl rfl (by decide) rfl (fun ls hl => ?_)
  refine lv_goto (tgt := 20) S.1 S.2.1 dX7_wonBits_50 (by decide) ?_
  have hl := lv_sub hl (l' := [(0, .ref (ad 3 0)), (1, .int (t1 + t0)), (2, .int (l2 + 1))]) [2, 1, 0] rfl
  exact hbk20 hS hw hl h
def wX7_wonBits_20 (post : Int32 → KS → Int64 → Prop) : Nat → Int32 → Int32 → KS → Int64 → Prop
  | 0 => fun _ _ _ _ => False
  | n + 1 => fun l1 l2 M ap => (((M 3 5 0) ≤ l2 → ((((M 3 0 0) ≤ 0 → ((vf_n32 (FP.fdiv (FP.i2f l1) (FP.i2f (M 3 5 0)))) ∧ ((Op.cmpValue (FP.fcmp (FP.fdiv (FP.i2f l1) (FP.i2f (M 3 5 0))) (FP.fdiv (FP.i2f l1) (FP.i2f (M 3 5 0)))) .l = 0) ∧ (post ((FP.fdiv (FP.i2f l1) (FP.i2f (M 3 5 0))).toInt32) M ap)))) ∧ (¬ (M 3 0 0) ≤ 0 → (post 0 M ap))))) ∧ (¬ (M 3 5 0) ≤ l2 → ((vp_in l2 40) ∧ (((¬ (M 13 8 l2.toNatClampNeg) = 119 → (wX7_wonBits_45 post (wX7_wonBits_20 post n) l2 0 l1 M ap)) ∧ ((M 13 8 l2.toNatClampNeg) = 119 → (wX7_wonBits_45 post (wX7_wonBits_20 post n) l2 1 l1 M ap)))))))
set_option maxHeartbeats 4000000 in
set_option maxRecDepth 100000 in
theorem bX7_wonBits_20 {p : Program} {l : Launch} {e : Env} {s : State} {m : MethodId} {args : Array Value} {below : List Frame} {meth : Method} {c : Code} {D : va_G} {cI : Nat → ClassId} {e0 : Nat} {A : Nat → Prop} {ad : Nat → Nat → Nat} {K : KS} {o : Int64} {od : UInt64} {mc ms : Nat} {post : Int32 → KS → Int64 → Prop} (S : CallFix p m c cX7_wonBits 3 s args WU RX7) (hg : GI D cI e0 A s s.heap) (hr : meth.sig.returnType = (some FieldType.int)) (hlk : meth.locks = false) (hout : ∀ x ∈ c.exceptionTable.toList, False) : ∀ n : Nat, ∀ {H : Heap} {locs : List Loc} {ls : Array Slot} {l1 : Int32} {l2 : Int32} {M : KS} {ap : Int64}, va_S A s.heap H locs → HT D cI e0 A ad K M ap o od H → lv_has ls 3 [(0, .ref (ad 3 0)), (1, .int l1), (2, .int l2)] → wX7_wonBits_20 post n l1 l2 M ap → W p l e ({ frames := 2, cells := mc, slots := ms, locals := 60 } : Room) s m args below meth c H locs 0 0 (MQQ below (qM D cI e0 A ad K o od rI post) xN args s mc ms A) (F0 m 20 ls []) := by
  intro n
  induction n with
  | zero => intros; exact False.elim (by assumption)
  | succ n ih =>
    intro H locs ls l1 l2 M ap hS hw hl h
    unfold wX7_wonBits_20 at h
    refine lv_iload_n S.1 S.2.1 dX7_wonBits_20 rfl (lv_at hl 2 rfl) ?_
    refine lv_aload_n S.1 S.2.1 dX7_wonBits_21 rfl (lv_at hl 0 rfl) ?_
    refine g3_5 S hg hw u1049 dX7_wonBits_22 ?_
    refine lv_icmp_ge (tgt := 53) S.1 S.2.1 dX7_wonBits_25 (by decide) (fun c2 => ?_) (fun c2 => ?_)
    · have h := h.1 c2
      refine lv_aload_n S.1 S.2.1 dX7_wonBits_53 rfl (lv_at hl 0 rfl) ?_
      refine g3_0 S hg hw u1044 dX7_wonBits_54 ?_
      refine lv_if_le (tgt := 64) S.1 S.2.1 dX7_wonBits_57 (by decide) (fun c3 => ?_) (fun c3 => ?_)
      · have h := h.1 c3
        refine lv_iload_n S.1 S.2.1 dX7_wonBits_64 rfl (lv_at hl 1 rfl) ?_
        refine lv_i2f S.1 S.2.1 dX7_wonBits_65 ?_
        refine lv_aload_n S.1 S.2.1 dX7_wonBits_66 rfl (lv_at hl 0 rfl) ?_
        refine g3_5 S hg hw u1049 dX7_wonBits_67 ?_
        refine lv_i2f S.1 S.2.1 dX7_wonBits_70 ?_
        obtain ⟨g4, h⟩ := h
        refine lv_fdiv S.1 S.2.1 dX7_wonBits_71 g4 ?_
        obtain ⟨g5, h⟩ := h
        refine rF_bits S hg hS hw g5 u1355 hl.1 (Nat.le_of_ble_eq_true rfl) ⟨Nat.le_of_ble_eq_true rfl, Nat.le_of_ble_eq_true rfl⟩ ⟨by omega, by omega⟩ dX7_wonBits_72 (fun H locs hw hS => ?_)
        exact r_iret (y := yX7_wonBits) S hr rfl hlk hS (by omega) (by omega) dX7_wonBits_75 ⟨((FP.fdiv (FP.i2f l1) (FP.i2f (M 3 5 0))).toInt32), _, _, rfl, h, hw⟩
      · have h := h.2 c3
        refine lv_iconst (v := 0) S.1 S.2.1 dX7_wonBits_60 (by decide) ?_
        refine lv_goto (tgt := 75) S.1 S.2.1 dX7_wonBits_61 (by decide) ?_
        exact r_iret (y := yX7_wonBits) S hr rfl hlk hS (by omega) (by omega) dX7_wonBits_75 ⟨0, _, _, rfl, h, hw⟩
    · have h := h.2 c2
      refine lv_iload_n S.1 S.2.1 dX7_wonBits_28 rfl (lv_at hl 1 rfl) ?_
      refine lv_aload_n S.1 S.2.1 dX7_wonBits_29 rfl (lv_at hl 0 rfl) ?_
      refine g3_8 S hg hw u1052 dX7_wonBits_30 ?_
      refine lv_iload_n S.1 S.2.1 dX7_wonBits_33 rfl (lv_at hl 2 rfl) ?_
      obtain ⟨g6, h⟩ := h
      refine a13 S hg hw rfl g6 dX7_wonBits_34 ?_
      refine lv_bipush (v := 119) S.1 S.2.1 dX7_wonBits_35 (by decide) ?_
      refine lv_icmp_ne (tgt := 44) S.1 S.2.1 dX7_wonBits_37 (by decide) (fun c7 => ?_) (fun c7 => ?_)
      · have h := h.1 c7
        refine lv_iconst (v := 0) S.1 S.2.1 dX7_wonBits_44 (by decide) ?_
        have hl := lv_sub hl (l' := [(0, .ref (ad 3 0)), (2, .int l2)]) [0, 2] rfl
        exact bX7_wonBits_45 S hg hr hlk hout ih hS hw hl h
      · have h := h.2 c7
        refine lv_iconst (v := 1) S.1 S.2.1 dX7_wonBits_40 (by decide) ?_
        refine lv_goto (tgt := 45) S.1 S.2.1 dX7_wonBits_41 (by decide) ?_
        have hl := lv_sub hl (l' := [(0, .ref (ad 3 0)), (2, .int l2)]) [0, 2] rfl
        exact bX7_wonBits_45 S hg hr hlk hout ih hS hw hl h
def wX7_wonBits_13 (post : Int32 → KS → Int64 → Prop) (t0 : Int32) (M : KS) (ap : Int64) : Prop := ∃ n1 : Nat, wX7_wonBits_20 post n1 0 0 (k3 M 3 0 0 t0) ap
set_option maxHeartbeats 4000000 in
set_option maxRecDepth 100000 in
theorem bX7_wonBits_13 {p : Program} {l : Launch} {e : Env} {s : State} {m : MethodId} {args : Array Value} {below : List Frame} {meth : Method} {c : Code} {D : va_G} {cI : Nat → ClassId} {e0 : Nat} {A : Nat → Prop} {ad : Nat → Nat → Nat} {K : KS} {o : Int64} {od : UInt64} {mc ms : Nat} {post : Int32 → KS → Int64 → Prop} (S : CallFix p m c cX7_wonBits 3 s args WU RX7) (hg : GI D cI e0 A s s.heap) (hr : meth.sig.returnType = (some FieldType.int)) (hlk : meth.locks = false) (hout : ∀ x ∈ c.exceptionTable.toList, False) {H : Heap} {locs : List Loc} {ls : Array Slot} {t0 : Int32} {M : KS} {ap : Int64} (hS : va_S A s.heap H locs) (hw : HT D cI e0 A ad K M ap o od H) (hl : lv_has ls 3 [(0, .ref (ad 3 0))]) (h : wX7_wonBits_13 post t0 M ap) : W p l e ({ frames := 2, cells := mc, slots := ms, locals := 60 } : Room) s m args below meth c H locs 0 0 (MQQ below (qM D cI e0 A ad K o od rI post) xN args s mc ms A) (F0 m 13 ls [.int t0, .ref (ad 3 0)]) := by
  unfold wX7_wonBits_13 at h
  refine p3_0 S hg hS hw u1044 dX7_wonBits_13 (fun H locs hw hS => ?_)
  refine lv_iconst (v := 0) S.1 S.2.1 dX7_wonBits_16 (by decide) ?_
  refine lv_istore_n (lv' := [(1, .int 0), (0, .ref (ad 3 0))]) S.1 S.2.1 dX7_wonBits_17 rfl hl (by decide) rfl (fun ls hl => ?_)
  refine lv_iconst (v := 0) S.1 S.2.1 dX7_wonBits_18 (by decide) ?_
  refine lv_istore_n (lv' := [(2, .int 0), (1, .int 0), (0, .ref (ad 3 0))]) S.1 S.2.1 dX7_wonBits_19 rfl hl (by decide) rfl (fun ls hl => ?_)
  have hl := lv_sub hl (l' := [(0, .ref (ad 3 0)), (1, .int 0), (2, .int 0)]) [2, 1, 0] rfl
  obtain ⟨n1, h⟩ := h
  exact bX7_wonBits_20 S hg hr hlk hout n1 hS hw hl h
def wpX7_wonBits (post : Int32 → KS → Int64 → Prop) (M : KS) (ap : Int64) : Prop := ((¬ (M 3 5 0) = 0 → (wX7_wonBits_13 post 0 M ap)) ∧ ((M 3 5 0) = 0 → (wX7_wonBits_13 post 1 M ap)))
theorem hdX7_wonBits : yX7_wonBits.cls ≠ "java/lang/invoke/MethodHandle" ∧ yX7_wonBits.cls ≠ "java/lang/invoke/VarHandle" ∧ (parseMethodDescriptor yX7_wonBits.desc).map (fun d => d.parameters.length) = some 0 := by decide +kernel
set_option maxHeartbeats 4000000 in
set_option maxRecDepth 100000 in
theorem mtX7_wonBits {l : Launch} {D : va_G} {cI : Nat → ClassId} {e0 : Nat} {A : Nat → Prop} {ad : Nat → Nat → Nat} {K M : KS} {ap o : Int64} {od : UInt64} {mc ms : Nat} {post : Int32 → KS → Int64 → Prop} (h : wpX7_wonBits post M ap) : CM l D cI e0 A yX7_wonBits cX7_wonBits 3 (some FieldType.int) 2 60 mc ms [.ref (ad 3 0)] (HT D cI e0 A ad K M ap o od) (qM D cI e0 A ad K o od rI post) xN := by
  refine CM.of (by decide) (Nat.le_of_ble_eq_true rfl) (fun p e s m below meth c ls FX hw hS hl => ?_)
  obtain ⟨S, hg, hr, hlk, hnm, hout⟩ := FX
  have hl : lv_has ls 3 [(0, .ref (ad 3 0))] := hl
  unfold wpX7_wonBits at h
  refine lv_aload_n S.1 S.2.1 dX7_wonBits_0 rfl (lv_at hl 0 rfl) ?_
  refine lv_aload_n S.1 S.2.1 dX7_wonBits_1 rfl (lv_at hl 0 rfl) ?_
  refine g3_5 S hg hw u1049 dX7_wonBits_2 ?_
  refine lv_if_ne (tgt := 12) S.1 S.2.1 dX7_wonBits_5 (by decide) (fun c1 => ?_) (fun c1 => ?_)
  · have h := h.1 c1
    refine lv_iconst (v := 0) S.1 S.2.1 dX7_wonBits_12 (by decide) ?_
    have hl := lv_sub hl (l' := [(0, .ref (ad 3 0))]) [0] rfl
    exact bX7_wonBits_13 S hg hr hlk hout hS hw hl h
  · have h := h.2 c1
    refine lv_iconst (v := 1) S.1 S.2.1 dX7_wonBits_8 (by decide) ?_
    refine lv_goto (tgt := 13) S.1 S.2.1 dX7_wonBits_9 (by decide) ?_
    have hl := lv_sub hl (l' := [(0, .ref (ad 3 0))]) [0] rfl
    exact bX7_wonBits_13 S hg hr hlk hout hS hw hl h
end
