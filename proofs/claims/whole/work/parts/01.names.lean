-- ===== PART A: goes FIRST, ahead of the names: the tables' words, and 'selects' of the private methods out of them =====
/-- a private method of a class that the tables say can be made, by its rows of tables_1 -/
def lw_okq (q : MethodName × Nat) : Prop := (q.1.cls ≠ "java/lang/invoke/MethodHandle" ∧ q.1.cls ≠ "java/lang/invoke/VarHandle") ∧ Cond.instantiable q.1.cls q.2 ∈ tables_1 ∧ Cond.privateMethod q.1 ∈ tables_1 ∧ Cond.instanceMethod q.1 ∈ tables_1
theorem lw_p0 : lw_okq (⟨"java/lang/Throwable", "fillInStackTrace", "(I)Ljava/lang/Throwable;"⟩, 6) := ⟨⟨by decide +kernel, by decide +kernel⟩, List.mem_of_getElem? (i := 226) (by decide +kernel), List.mem_of_getElem? (i := 224) (by decide +kernel), List.mem_of_getElem? (i := 225) (by decide +kernel)⟩
theorem lw_p1 : lw_okq (⟨"MarketDesk", "begunChange", "()LMarketDesk$Market;"⟩, 6) := ⟨⟨by decide +kernel, by decide +kernel⟩, List.mem_of_getElem? (i := 18) (by decide +kernel), List.mem_of_getElem? (i := 272) (by decide +kernel), List.mem_of_getElem? (i := 273) (by decide +kernel)⟩
theorem lw_p2 : lw_okq (⟨"MarketDesk", "needBuyer", "(I)V"⟩, 6) := ⟨⟨by decide +kernel, by decide +kernel⟩, List.mem_of_getElem? (i := 18) (by decide +kernel), List.mem_of_getElem? (i := 302) (by decide +kernel), List.mem_of_getElem? (i := 303) (by decide +kernel)⟩
theorem lw_p3 : lw_okq (⟨"MarketDesk", "needGood", "(I)V"⟩, 6) := ⟨⟨by decide +kernel, by decide +kernel⟩, List.mem_of_getElem? (i := 18) (by decide +kernel), List.mem_of_getElem? (i := 329) (by decide +kernel), List.mem_of_getElem? (i := 330) (by decide +kernel)⟩
theorem lw_p4 : lw_okq (⟨"MarketDesk", "needReady", "()V"⟩, 6) := ⟨⟨by decide +kernel, by decide +kernel⟩, List.mem_of_getElem? (i := 18) (by decide +kernel), List.mem_of_getElem? (i := 398) (by decide +kernel), List.mem_of_getElem? (i := 399) (by decide +kernel)⟩
theorem lw_p5 : lw_okq (⟨"MarketDesk$Search", "linksAll", "(LMarketDesk$Market;I)Z"⟩, 2) := ⟨⟨by decide +kernel, by decide +kernel⟩, List.mem_of_getElem? (i := 76) (by decide +kernel), List.mem_of_getElem? (i := 418) (by decide +kernel), List.mem_of_getElem? (i := 419) (by decide +kernel)⟩
theorem lw_p6 : lw_okq (⟨"MarketDesk$Search", "links", "(LMarketDesk$Market;III)Z"⟩, 2) := ⟨⟨by decide +kernel, by decide +kernel⟩, List.mem_of_getElem? (i := 76) (by decide +kernel), List.mem_of_getElem? (i := 426) (by decide +kernel), List.mem_of_getElem? (i := 427) (by decide +kernel)⟩
theorem lw_p7 : lw_okq (⟨"MarketDesk$Search", "tellPrices", "(LMarketDesk$Market;I)V"⟩, 2) := ⟨⟨by decide +kernel, by decide +kernel⟩, List.mem_of_getElem? (i := 76) (by decide +kernel), List.mem_of_getElem? (i := 431) (by decide +kernel), List.mem_of_getElem? (i := 432) (by decide +kernel)⟩
theorem lw_p8 : lw_okq (⟨"MarketDesk$Search", "weightOf", "(LMarketDesk$Market;I)J"⟩, 2) := ⟨⟨by decide +kernel, by decide +kernel⟩, List.mem_of_getElem? (i := 76) (by decide +kernel), List.mem_of_getElem? (i := 438) (by decide +kernel), List.mem_of_getElem? (i := 439) (by decide +kernel)⟩
theorem lw_p9 : lw_okq (⟨"MarketDesk$Demand", "productButFor", "(LMarketDesk$Prices;I)J"⟩, 6) := ⟨⟨by decide +kernel, by decide +kernel⟩, List.mem_of_getElem? (i := 48) (by decide +kernel), List.mem_of_getElem? (i := 446) (by decide +kernel), List.mem_of_getElem? (i := 447) (by decide +kernel)⟩
theorem lw_p10 : lw_okq (⟨"MarketDesk$Demand", "likedBy", "(LMarketDesk$Market;I)I"⟩, 6) := ⟨⟨by decide +kernel, by decide +kernel⟩, List.mem_of_getElem? (i := 48) (by decide +kernel), List.mem_of_getElem? (i := 450) (by decide +kernel), List.mem_of_getElem? (i := 451) (by decide +kernel)⟩
theorem lw_p11 : lw_okq (⟨"MarketDesk$Demand", "compareGoods", "(LMarketDesk$Market;III)I"⟩, 6) := ⟨⟨by decide +kernel, by decide +kernel⟩, List.mem_of_getElem? (i := 48) (by decide +kernel), List.mem_of_getElem? (i := 454) (by decide +kernel), List.mem_of_getElem? (i := 455) (by decide +kernel)⟩
theorem lw_p12 : lw_okq (⟨"MarketDesk$Demand", "costOf", "(I)J"⟩, 6) := ⟨⟨by decide +kernel, by decide +kernel⟩, List.mem_of_getElem? (i := 48) (by decide +kernel), List.mem_of_getElem? (i := 466) (by decide +kernel), List.mem_of_getElem? (i := 467) (by decide +kernel)⟩
theorem lw_p13 : lw_okq (⟨"MarketDesk$Demand", "fundsFor", "(I)J"⟩, 6) := ⟨⟨by decide +kernel, by decide +kernel⟩, List.mem_of_getElem? (i := 48) (by decide +kernel), List.mem_of_getElem? (i := 471) (by decide +kernel), List.mem_of_getElem? (i := 472) (by decide +kernel)⟩
theorem lw_p14 : lw_okq (⟨"MarketDesk$Demand", "spendMost", "(II)J"⟩, 6) := ⟨⟨by decide +kernel, by decide +kernel⟩, List.mem_of_getElem? (i := 48) (by decide +kernel), List.mem_of_getElem? (i := 479) (by decide +kernel), List.mem_of_getElem? (i := 480) (by decide +kernel)⟩
theorem lw_p15 : lw_okq (⟨"MarketDesk", "needSolved", "()V"⟩, 6) := ⟨⟨by decide +kernel, by decide +kernel⟩, List.mem_of_getElem? (i := 18) (by decide +kernel), List.mem_of_getElem? (i := 493) (by decide +kernel), List.mem_of_getElem? (i := 494) (by decide +kernel)⟩
def lw_privs_1 : List (MethodName × Nat) := [(⟨"java/lang/Throwable", "fillInStackTrace", "(I)Ljava/lang/Throwable;"⟩, 6), (⟨"MarketDesk", "begunChange", "()LMarketDesk$Market;"⟩, 6), (⟨"MarketDesk", "needBuyer", "(I)V"⟩, 6), (⟨"MarketDesk", "needGood", "(I)V"⟩, 6), (⟨"MarketDesk", "needReady", "()V"⟩, 6), (⟨"MarketDesk$Search", "linksAll", "(LMarketDesk$Market;I)Z"⟩, 2), (⟨"MarketDesk$Search", "links", "(LMarketDesk$Market;III)Z"⟩, 2), (⟨"MarketDesk$Search", "tellPrices", "(LMarketDesk$Market;I)V"⟩, 2), (⟨"MarketDesk$Search", "weightOf", "(LMarketDesk$Market;I)J"⟩, 2), (⟨"MarketDesk$Demand", "productButFor", "(LMarketDesk$Prices;I)J"⟩, 6), (⟨"MarketDesk$Demand", "likedBy", "(LMarketDesk$Market;I)I"⟩, 6), (⟨"MarketDesk$Demand", "compareGoods", "(LMarketDesk$Market;III)I"⟩, 6), (⟨"MarketDesk$Demand", "costOf", "(I)J"⟩, 6), (⟨"MarketDesk$Demand", "fundsFor", "(I)J"⟩, 6), (⟨"MarketDesk$Demand", "spendMost", "(II)J"⟩, 6), (⟨"MarketDesk", "needSolved", "()V"⟩, 6)]
theorem lw_r1 : ∀ q ∈ lw_privs_1, lw_okq q := List.forall_mem_cons.mpr ⟨lw_p0, List.forall_mem_cons.mpr ⟨lw_p1, List.forall_mem_cons.mpr ⟨lw_p2, List.forall_mem_cons.mpr ⟨lw_p3, List.forall_mem_cons.mpr ⟨lw_p4, List.forall_mem_cons.mpr ⟨lw_p5, List.forall_mem_cons.mpr ⟨lw_p6, List.forall_mem_cons.mpr ⟨lw_p7, List.forall_mem_cons.mpr ⟨lw_p8, List.forall_mem_cons.mpr ⟨lw_p9, List.forall_mem_cons.mpr ⟨lw_p10, List.forall_mem_cons.mpr ⟨lw_p11, List.forall_mem_cons.mpr ⟨lw_p12, List.forall_mem_cons.mpr ⟨lw_p13, List.forall_mem_cons.mpr ⟨lw_p14, List.forall_mem_cons.mpr ⟨lw_p15, fun _ h => absurd h List.not_mem_nil⟩⟩⟩⟩⟩⟩⟩⟩⟩⟩⟩⟩⟩⟩⟩⟩
theorem lw_p16 : lw_okq (⟨"MarketDeskModel", "buyers", "()I"⟩, 15) := ⟨⟨by decide +kernel, by decide +kernel⟩, List.mem_of_getElem? (i := 555) (by decide +kernel), List.mem_of_getElem? (i := 619) (by decide +kernel), List.mem_of_getElem? (i := 620) (by decide +kernel)⟩
theorem lw_p17 : lw_okq (⟨"MarketDeskModel", "keep", "()V"⟩, 15) := ⟨⟨by decide +kernel, by decide +kernel⟩, List.mem_of_getElem? (i := 555) (by decide +kernel), List.mem_of_getElem? (i := 623) (by decide +kernel), List.mem_of_getElem? (i := 624) (by decide +kernel)⟩
theorem lw_p18 : lw_okq (⟨"MarketDeskModel", "goods", "()I"⟩, 15) := ⟨⟨by decide +kernel, by decide +kernel⟩, List.mem_of_getElem? (i := 555) (by decide +kernel), List.mem_of_getElem? (i := 631) (by decide +kernel), List.mem_of_getElem? (i := 632) (by decide +kernel)⟩
theorem lw_p19 : lw_okq (⟨"MarketDeskModel", "isBuyer", "(I)Z"⟩, 15) := ⟨⟨by decide +kernel, by decide +kernel⟩, List.mem_of_getElem? (i := 555) (by decide +kernel), List.mem_of_getElem? (i := 639) (by decide +kernel), List.mem_of_getElem? (i := 640) (by decide +kernel)⟩
theorem lw_p20 : lw_okq (⟨"MarketDeskModel", "isGood", "(I)Z"⟩, 15) := ⟨⟨by decide +kernel, by decide +kernel⟩, List.mem_of_getElem? (i := 555) (by decide +kernel), List.mem_of_getElem? (i := 647) (by decide +kernel), List.mem_of_getElem? (i := 648) (by decide +kernel)⟩
theorem lw_p21 : lw_okq (⟨"MarketDeskModel", "canJoin", "(II)Z"⟩, 15) := ⟨⟨by decide +kernel, by decide +kernel⟩, List.mem_of_getElem? (i := 555) (by decide +kernel), List.mem_of_getElem? (i := 655) (by decide +kernel), List.mem_of_getElem? (i := 656) (by decide +kernel)⟩
theorem lw_p22 : lw_okq (⟨"MarketDeskModel", "valueOf", "(II)I"⟩, 15) := ⟨⟨by decide +kernel, by decide +kernel⟩, List.mem_of_getElem? (i := 555) (by decide +kernel), List.mem_of_getElem? (i := 659) (by decide +kernel), List.mem_of_getElem? (i := 660) (by decide +kernel)⟩
theorem lw_p23 : lw_okq (⟨"MarketDeskModel", "isSolved", "()Z"⟩, 15) := ⟨⟨by decide +kernel, by decide +kernel⟩, List.mem_of_getElem? (i := 555) (by decide +kernel), List.mem_of_getElem? (i := 667) (by decide +kernel), List.mem_of_getElem? (i := 668) (by decide +kernel)⟩
theorem lw_p24 : lw_okq (⟨"MarketDeskModel", "find", "()V"⟩, 15) := ⟨⟨by decide +kernel, by decide +kernel⟩, List.mem_of_getElem? (i := 555) (by decide +kernel), List.mem_of_getElem? (i := 671) (by decide +kernel), List.mem_of_getElem? (i := 672) (by decide +kernel)⟩
theorem lw_p25 : lw_okq (⟨"MarketDeskModel", "proportion", "(I)Z"⟩, 15) := ⟨⟨by decide +kernel, by decide +kernel⟩, List.mem_of_getElem? (i := 555) (by decide +kernel), List.mem_of_getElem? (i := 675) (by decide +kernel), List.mem_of_getElem? (i := 676) (by decide +kernel)⟩
theorem lw_p26 : lw_okq (⟨"MarketDeskModel", "firstOf", "(II)I"⟩, 15) := ⟨⟨by decide +kernel, by decide +kernel⟩, List.mem_of_getElem? (i := 555) (by decide +kernel), List.mem_of_getElem? (i := 679) (by decide +kernel), List.mem_of_getElem? (i := 680) (by decide +kernel)⟩
theorem lw_p27 : lw_okq (⟨"MarketDeskModel", "tie", "(III)Z"⟩, 15) := ⟨⟨by decide +kernel, by decide +kernel⟩, List.mem_of_getElem? (i := 555) (by decide +kernel), List.mem_of_getElem? (i := 686) (by decide +kernel), List.mem_of_getElem? (i := 687) (by decide +kernel)⟩
theorem lw_p28 : lw_okq (⟨"MarketDeskModel", "scale", "(IJ)V"⟩, 15) := ⟨⟨by decide +kernel, by decide +kernel⟩, List.mem_of_getElem? (i := 555) (by decide +kernel), List.mem_of_getElem? (i := 693) (by decide +kernel), List.mem_of_getElem? (i := 694) (by decide +kernel)⟩
theorem lw_p29 : lw_okq (⟨"MarketDeskModel", "priceBy", "(I)Z"⟩, 15) := ⟨⟨by decide +kernel, by decide +kernel⟩, List.mem_of_getElem? (i := 555) (by decide +kernel), List.mem_of_getElem? (i := 697) (by decide +kernel), List.mem_of_getElem? (i := 698) (by decide +kernel)⟩
theorem lw_p30 : lw_okq (⟨"MarketDeskModel", "partsOf", "(I)J"⟩, 15) := ⟨⟨by decide +kernel, by decide +kernel⟩, List.mem_of_getElem? (i := 555) (by decide +kernel), List.mem_of_getElem? (i := 701) (by decide +kernel), List.mem_of_getElem? (i := 702) (by decide +kernel)⟩
theorem lw_p31 : lw_okq (⟨"MarketDeskModel", "moneyOf", "(II)I"⟩, 15) := ⟨⟨by decide +kernel, by decide +kernel⟩, List.mem_of_getElem? (i := 555) (by decide +kernel), List.mem_of_getElem? (i := 705) (by decide +kernel), List.mem_of_getElem? (i := 706) (by decide +kernel)⟩
def lw_privs_2 : List (MethodName × Nat) := [(⟨"MarketDeskModel", "buyers", "()I"⟩, 15), (⟨"MarketDeskModel", "keep", "()V"⟩, 15), (⟨"MarketDeskModel", "goods", "()I"⟩, 15), (⟨"MarketDeskModel", "isBuyer", "(I)Z"⟩, 15), (⟨"MarketDeskModel", "isGood", "(I)Z"⟩, 15), (⟨"MarketDeskModel", "canJoin", "(II)Z"⟩, 15), (⟨"MarketDeskModel", "valueOf", "(II)I"⟩, 15), (⟨"MarketDeskModel", "isSolved", "()Z"⟩, 15), (⟨"MarketDeskModel", "find", "()V"⟩, 15), (⟨"MarketDeskModel", "proportion", "(I)Z"⟩, 15), (⟨"MarketDeskModel", "firstOf", "(II)I"⟩, 15), (⟨"MarketDeskModel", "tie", "(III)Z"⟩, 15), (⟨"MarketDeskModel", "scale", "(IJ)V"⟩, 15), (⟨"MarketDeskModel", "priceBy", "(I)Z"⟩, 15), (⟨"MarketDeskModel", "partsOf", "(I)J"⟩, 15), (⟨"MarketDeskModel", "moneyOf", "(II)I"⟩, 15)]
theorem lw_r2 : ∀ q ∈ lw_privs_2, lw_okq q := List.forall_mem_cons.mpr ⟨lw_p16, List.forall_mem_cons.mpr ⟨lw_p17, List.forall_mem_cons.mpr ⟨lw_p18, List.forall_mem_cons.mpr ⟨lw_p19, List.forall_mem_cons.mpr ⟨lw_p20, List.forall_mem_cons.mpr ⟨lw_p21, List.forall_mem_cons.mpr ⟨lw_p22, List.forall_mem_cons.mpr ⟨lw_p23, List.forall_mem_cons.mpr ⟨lw_p24, List.forall_mem_cons.mpr ⟨lw_p25, List.forall_mem_cons.mpr ⟨lw_p26, List.forall_mem_cons.mpr ⟨lw_p27, List.forall_mem_cons.mpr ⟨lw_p28, List.forall_mem_cons.mpr ⟨lw_p29, List.forall_mem_cons.mpr ⟨lw_p30, List.forall_mem_cons.mpr ⟨lw_p31, fun _ h => absurd h List.not_mem_nil⟩⟩⟩⟩⟩⟩⟩⟩⟩⟩⟩⟩⟩⟩⟩⟩
theorem lw_p32 : lw_okq (⟨"MarketDeskModel", "purseOf", "(I)I"⟩, 15) := ⟨⟨by decide +kernel, by decide +kernel⟩, List.mem_of_getElem? (i := 555) (by decide +kernel), List.mem_of_getElem? (i := 709) (by decide +kernel), List.mem_of_getElem? (i := 710) (by decide +kernel)⟩
theorem lw_p33 : lw_okq (⟨"MarketDeskModel", "judge", "()I"⟩, 15) := ⟨⟨by decide +kernel, by decide +kernel⟩, List.mem_of_getElem? (i := 555) (by decide +kernel), List.mem_of_getElem? (i := 713) (by decide +kernel), List.mem_of_getElem? (i := 714) (by decide +kernel)⟩
theorem lw_p34 : lw_okq (⟨"MarketDeskModel", "findLikes", "()V"⟩, 15) := ⟨⟨by decide +kernel, by decide +kernel⟩, List.mem_of_getElem? (i := 555) (by decide +kernel), List.mem_of_getElem? (i := 717) (by decide +kernel), List.mem_of_getElem? (i := 718) (by decide +kernel)⟩
theorem lw_p35 : lw_okq (⟨"MarketDeskModel", "sumOfPrices", "(I)J"⟩, 15) := ⟨⟨by decide +kernel, by decide +kernel⟩, List.mem_of_getElem? (i := 555) (by decide +kernel), List.mem_of_getElem? (i := 721) (by decide +kernel), List.mem_of_getElem? (i := 722) (by decide +kernel)⟩
theorem lw_p36 : lw_okq (⟨"MarketDeskModel", "moneyFor", "(I)J"⟩, 15) := ⟨⟨by decide +kernel, by decide +kernel⟩, List.mem_of_getElem? (i := 555) (by decide +kernel), List.mem_of_getElem? (i := 725) (by decide +kernel), List.mem_of_getElem? (i := 726) (by decide +kernel)⟩
theorem lw_p37 : lw_okq (⟨"MarketDeskModel", "divide", "()V"⟩, 15) := ⟨⟨by decide +kernel, by decide +kernel⟩, List.mem_of_getElem? (i := 555) (by decide +kernel), List.mem_of_getElem? (i := 729) (by decide +kernel), List.mem_of_getElem? (i := 730) (by decide +kernel)⟩
theorem lw_p38 : lw_okq (⟨"MarketDeskModel", "mostOf", "(II)J"⟩, 15) := ⟨⟨by decide +kernel, by decide +kernel⟩, List.mem_of_getElem? (i := 555) (by decide +kernel), List.mem_of_getElem? (i := 733) (by decide +kernel), List.mem_of_getElem? (i := 734) (by decide +kernel)⟩
theorem lw_p39 : lw_okq (⟨"MarketDeskModel", "reaches", "(II)Z"⟩, 15) := ⟨⟨by decide +kernel, by decide +kernel⟩, List.mem_of_getElem? (i := 555) (by decide +kernel), List.mem_of_getElem? (i := 737) (by decide +kernel), List.mem_of_getElem? (i := 738) (by decide +kernel)⟩
theorem lw_p40 : lw_okq (⟨"MarketDeskModel", "leftFor", "(I)J"⟩, 15) := ⟨⟨by decide +kernel, by decide +kernel⟩, List.mem_of_getElem? (i := 555) (by decide +kernel), List.mem_of_getElem? (i := 741) (by decide +kernel), List.mem_of_getElem? (i := 742) (by decide +kernel)⟩
theorem lw_p41 : lw_okq (⟨"MarketDeskModel", "restOf", "(I)J"⟩, 15) := ⟨⟨by decide +kernel, by decide +kernel⟩, List.mem_of_getElem? (i := 555) (by decide +kernel), List.mem_of_getElem? (i := 745) (by decide +kernel), List.mem_of_getElem? (i := 746) (by decide +kernel)⟩
theorem lw_p42 : lw_okq (⟨"MarketDeskModel", "readiness", "()I"⟩, 15) := ⟨⟨by decide +kernel, by decide +kernel⟩, List.mem_of_getElem? (i := 555) (by decide +kernel), List.mem_of_getElem? (i := 761) (by decide +kernel), List.mem_of_getElem? (i := 762) (by decide +kernel)⟩
def lw_privs_3 : List (MethodName × Nat) := [(⟨"MarketDeskModel", "purseOf", "(I)I"⟩, 15), (⟨"MarketDeskModel", "judge", "()I"⟩, 15), (⟨"MarketDeskModel", "findLikes", "()V"⟩, 15), (⟨"MarketDeskModel", "sumOfPrices", "(I)J"⟩, 15), (⟨"MarketDeskModel", "moneyFor", "(I)J"⟩, 15), (⟨"MarketDeskModel", "divide", "()V"⟩, 15), (⟨"MarketDeskModel", "mostOf", "(II)J"⟩, 15), (⟨"MarketDeskModel", "reaches", "(II)Z"⟩, 15), (⟨"MarketDeskModel", "leftFor", "(I)J"⟩, 15), (⟨"MarketDeskModel", "restOf", "(I)J"⟩, 15), (⟨"MarketDeskModel", "readiness", "()I"⟩, 15)]
theorem lw_r3 : ∀ q ∈ lw_privs_3, lw_okq q := List.forall_mem_cons.mpr ⟨lw_p32, List.forall_mem_cons.mpr ⟨lw_p33, List.forall_mem_cons.mpr ⟨lw_p34, List.forall_mem_cons.mpr ⟨lw_p35, List.forall_mem_cons.mpr ⟨lw_p36, List.forall_mem_cons.mpr ⟨lw_p37, List.forall_mem_cons.mpr ⟨lw_p38, List.forall_mem_cons.mpr ⟨lw_p39, List.forall_mem_cons.mpr ⟨lw_p40, List.forall_mem_cons.mpr ⟨lw_p41, List.forall_mem_cons.mpr ⟨lw_p42, fun _ h => absurd h List.not_mem_nil⟩⟩⟩⟩⟩⟩⟩⟩⟩⟩⟩
def lw_privs : List (MethodName × Nat) := lw_privs_1 ++ (lw_privs_2 ++ (lw_privs_3))
def lw_tbl : List Cond := k2_sels lw_privs ++ tables_1
theorem lw_privs_ok : ∀ q ∈ lw_privs, lw_okq q := by
  show ∀ q ∈ lw_privs_1 ++ (lw_privs_2 ++ (lw_privs_3)), lw_okq q
  exact List.forall_mem_append.mpr ⟨lw_r1, List.forall_mem_append.mpr ⟨lw_r2, lw_r3⟩⟩
/-! ===== the words that stay, by their places ===== -/
def lw_big : List Cond := lw_tbl.filter (fun w => k2_isCode w || goodWord w)
theorem big_good : ∀ w ∈ lw_big, (w.onTables && w.keeps) = true ∨ ∃ ty, w = .arrayClass ty := by
  intro w hw
  have h := (List.mem_filter.mp hw).2
  cases hc : k2_isCode w with
  | true => cases w <;> first | (simp [k2_isCode] at hc; done) | exact Or.inl rfl
  | false => rw [hc, Bool.false_or] at h; exact good_of_word h
theorem gq_good {y : MethodName} {bytes : ByteArray} {maxL : Nat} {ret : Option FieldType} (h : Cond.code y bytes maxL ret ∈ lw_big) : GoodIn lw_big (.code y bytes maxL ret :: lw_big) := fun w hw => by
  rcases List.mem_cons.mp hw with rfl | hw
  · exact ⟨h, big_good _ h⟩
  · exact ⟨hw, big_good _ hw⟩
theorem big_of {args : Array Value} {s : State} (h : ∀ w ∈ lw_tbl, w.before args s = true) : ∀ w ∈ lw_big, w.before args s = true := fun w hw => h w (List.mem_filter.mp hw).1
theorem tt_1 {w : Cond} (i : Nat) (h : tables_1_1[i]? = some w) : w ∈ lw_tbl := List.mem_append_right _ (show w ∈ tables_1_1 ++ (tables_1_2 ++ (tables_1_3 ++ tables_1_4)) from List.mem_append_left _ (List.mem_of_getElem? h))
theorem tb_1 {w : Cond} (i : Nat) (h : tables_1_1[i]? = some w) (hg : (k2_isCode w || goodWord w) = true) : w ∈ lw_big := List.mem_filter.mpr ⟨tt_1 i h, hg⟩
theorem tt_2 {w : Cond} (i : Nat) (h : tables_1_2[i]? = some w) : w ∈ lw_tbl := List.mem_append_right _ (show w ∈ tables_1_1 ++ (tables_1_2 ++ (tables_1_3 ++ tables_1_4)) from List.mem_append_right _ (List.mem_append_left _ (List.mem_of_getElem? h)))
theorem tb_2 {w : Cond} (i : Nat) (h : tables_1_2[i]? = some w) (hg : (k2_isCode w || goodWord w) = true) : w ∈ lw_big := List.mem_filter.mpr ⟨tt_2 i h, hg⟩
theorem tt_3 {w : Cond} (i : Nat) (h : tables_1_3[i]? = some w) : w ∈ lw_tbl := List.mem_append_right _ (show w ∈ tables_1_1 ++ (tables_1_2 ++ (tables_1_3 ++ tables_1_4)) from List.mem_append_right _ (List.mem_append_right _ (List.mem_append_left _ (List.mem_of_getElem? h))))
theorem tb_3 {w : Cond} (i : Nat) (h : tables_1_3[i]? = some w) (hg : (k2_isCode w || goodWord w) = true) : w ∈ lw_big := List.mem_filter.mpr ⟨tt_3 i h, hg⟩
theorem tt_4 {w : Cond} (i : Nat) (h : tables_1_4[i]? = some w) : w ∈ lw_tbl := List.mem_append_right _ (show w ∈ tables_1_1 ++ (tables_1_2 ++ (tables_1_3 ++ tables_1_4)) from List.mem_append_right _ (List.mem_append_right _ (List.mem_append_right _ (List.mem_of_getElem? h))))
theorem tb_4 {w : Cond} (i : Nat) (h : tables_1_4[i]? = some w) (hg : (k2_isCode w || goodWord w) = true) : w ∈ lw_big := List.mem_filter.mpr ⟨tt_4 i h, hg⟩
theorem tb_S {w : Cond} (i : Nat) (h : (k2_sels lw_privs)[i]? = some w) (hg : (k2_isCode w || goodWord w) = true) : w ∈ lw_big := List.mem_filter.mpr ⟨List.mem_append_left _ (List.mem_of_getElem? h), hg⟩
theorem bm_0 : (Jvm.Cond.initialized "MarketDeskLaw") ∈ lw_big := tb_1 0 rfl rfl
theorem bm_1 : (Jvm.Cond.initialized "MarketDesk") ∈ lw_big := tb_1 1 rfl rfl
theorem bm_2 : (Jvm.Cond.initialized "MarketDesk$Prices") ∈ lw_big := tb_1 2 rfl rfl
theorem bm_3 : (Jvm.Cond.initialized "MarketDesk$Demand") ∈ lw_big := tb_1 3 rfl rfl
theorem bm_4 : (Jvm.Cond.initialized "MarketDesk$Search") ∈ lw_big := tb_1 4 rfl rfl
theorem bm_5 : (Jvm.Cond.initialized "MarketDesk$Market") ∈ lw_big := tb_1 5 rfl rfl
theorem bm_6 : (Jvm.Cond.initialized "MarketDeskModel") ∈ lw_big := tb_1 6 rfl rfl
theorem bm_7 : (Jvm.Cond.initialized "java/lang/Throwable") ∈ lw_big := tb_1 7 rfl rfl
theorem bm_8 : (Jvm.Cond.initialized "java/lang/Exception") ∈ lw_big := tb_1 8 rfl rfl
theorem bm_9 : (Jvm.Cond.initialized "java/lang/RuntimeException") ∈ lw_big := tb_1 9 rfl rfl
theorem bm_10 : (Jvm.Cond.initialized "java/lang/IllegalArgumentException") ∈ lw_big := tb_1 10 rfl rfl
theorem bm_11 : (Jvm.Cond.initialized "java/lang/UnsupportedOperationException") ∈ lw_big := tb_1 11 rfl rfl
theorem bm_12 : (Jvm.Cond.initialized "java/lang/Math") ∈ lw_big := tb_1 12 rfl rfl
theorem bm_13 : (Jvm.Cond.initialized "java/lang/System") ∈ lw_big := tb_1 13 rfl rfl
theorem bm_14 : (Jvm.Cond.initialized "java/lang/IndexOutOfBoundsException") ∈ lw_big := tb_1 14 rfl rfl
theorem bm_15 : (Jvm.Cond.initialized "java/lang/IllegalStateException") ∈ lw_big := tb_1 15 rfl rfl
theorem bm_16 : (Jvm.Cond.initialized "java/lang/Long") ∈ lw_big := tb_1 16 rfl rfl
theorem bm_17 : (Jvm.Cond.classLink "MarketDeskLaw" (8 : Nat) "MarketDesk") ∈ lw_big := tb_1 17 rfl rfl
theorem bm_18 : (Jvm.Cond.instantiable "MarketDesk" (6 : Nat)) ∈ lw_big := tb_1 18 rfl rfl
theorem bm_19 : (Jvm.Cond.methodLink "MarketDeskLaw" (68 : Nat) ({ cls := "MarketDesk", name := "<init>", desc := "()V" } : Jvm.MethodName)) ∈ lw_big := tb_1 19 rfl rfl
theorem bm_20 : (Jvm.Cond.instanceMethod ({ cls := "MarketDesk", name := "<init>", desc := "()V" } : Jvm.MethodName)) ∈ lw_big := tb_1 20 rfl rfl
theorem bm_21 : (Jvm.Cond.code ({ cls := "MarketDesk", name := "<init>", desc := "()V" } : Jvm.MethodName) prog_1_method_1_code (2 : Nat) (Option.none : Option Jvm.ClassFile.FieldType)) ∈ lw_big := tb_1 21 rfl rfl
theorem bm_22 : (Jvm.Cond.methodLink "MarketDesk" (1 : Nat) ({ cls := "java/lang/Object", name := "<init>", desc := "()V" } : Jvm.MethodName)) ∈ lw_big := tb_1 22 rfl rfl
theorem bm_23 : (Jvm.Cond.instanceMethod ({ cls := "java/lang/Object", name := "<init>", desc := "()V" } : Jvm.MethodName)) ∈ lw_big := tb_1 23 rfl rfl
theorem bm_24 : (Jvm.Cond.code ({ cls := "java/lang/Object", name := "<init>", desc := "()V" } : Jvm.MethodName) object_method_1_code (1 : Nat) (Option.none : Option Jvm.ClassFile.FieldType)) ∈ lw_big := tb_1 24 rfl rfl
theorem bm_25 : (Jvm.Cond.classLink "MarketDesk" (9 : Nat) "MarketDesk$Market") ∈ lw_big := tb_1 25 rfl rfl
theorem bm_27 : (Jvm.Cond.classLink "MarketDesk" (15 : Nat) "MarketDesk$Prices") ∈ lw_big := tb_1 27 rfl rfl
theorem bm_28 : (Jvm.Cond.instantiable "MarketDesk$Prices" (2 : Nat)) ∈ lw_big := tb_1 28 rfl rfl
theorem bm_30 : (Jvm.Cond.instanceMethod ({ cls := "MarketDesk$Prices", name := "<init>", desc := "()V" } : Jvm.MethodName)) ∈ lw_big := tb_1 30 rfl rfl
theorem bm_31 : (Jvm.Cond.code ({ cls := "MarketDesk$Prices", name := "<init>", desc := "()V" } : Jvm.MethodName) prog_4_method_1_code (1 : Nat) (Option.none : Option Jvm.ClassFile.FieldType)) ∈ lw_big := tb_1 31 rfl rfl
theorem bm_32 : (Jvm.Cond.methodLink "MarketDesk$Prices" (1 : Nat) ({ cls := "java/lang/Object", name := "<init>", desc := "()V" } : Jvm.MethodName)) ∈ lw_big := tb_1 32 rfl rfl
theorem bm_33 : (Jvm.Cond.fieldLink "MarketDesk$Prices" (7 : Nat) "MarketDesk$Prices" "above" "[J") ∈ lw_big := tb_1 33 rfl rfl
theorem bm_34 : (Jvm.Cond.fieldLink "MarketDesk$Demand" (41 : Nat) "MarketDesk$Prices" "above" "[J") ∈ lw_big := tb_1 34 rfl rfl
theorem bm_35 : (Jvm.Cond.fieldLink "MarketDesk$Search" (82 : Nat) "MarketDesk$Prices" "above" "[J") ∈ lw_big := tb_1 35 rfl rfl
theorem bm_36 : (Jvm.Cond.fieldLink "MarketDesk" (150 : Nat) "MarketDesk$Prices" "above" "[J") ∈ lw_big := tb_1 36 rfl rfl
theorem bm_37 : (Jvm.Cond.fieldLink "MarketDesk$Prices" (13 : Nat) "MarketDesk$Prices" "below" "[J") ∈ lw_big := tb_1 37 rfl rfl
theorem bm_38 : (Jvm.Cond.fieldLink "MarketDesk$Demand" (53 : Nat) "MarketDesk$Prices" "below" "[J") ∈ lw_big := tb_1 38 rfl rfl
theorem bm_39 : (Jvm.Cond.fieldLink "MarketDesk$Search" (91 : Nat) "MarketDesk$Prices" "below" "[J") ∈ lw_big := tb_1 39 rfl rfl
theorem bm_40 : (Jvm.Cond.fieldLink "MarketDesk" (153 : Nat) "MarketDesk$Prices" "below" "[J") ∈ lw_big := tb_1 40 rfl rfl
theorem bm_41 : (Jvm.Cond.laysFinal "MarketDesk$Prices" "MarketDesk$Prices" "above" "[J") ∈ lw_big := tb_1 41 rfl rfl
theorem bm_43 : (Jvm.Cond.laysFinal "MarketDesk$Prices" "MarketDesk$Prices" "below" "[J") ∈ lw_big := tb_1 43 rfl rfl
theorem bm_46 : (Jvm.Cond.arrayClass Jvm.ClassFile.FieldType.long) ∈ lw_big := tb_1 46 rfl rfl
theorem bm_47 : (Jvm.Cond.classLink "MarketDesk" (22 : Nat) "MarketDesk$Demand") ∈ lw_big := tb_1 47 rfl rfl
theorem bm_48 : (Jvm.Cond.instantiable "MarketDesk$Demand" (6 : Nat)) ∈ lw_big := tb_1 48 rfl rfl
theorem bm_50 : (Jvm.Cond.instanceMethod ({ cls := "MarketDesk$Demand", name := "<init>", desc := "()V" } : Jvm.MethodName)) ∈ lw_big := tb_1 50 rfl rfl
theorem bm_51 : (Jvm.Cond.code ({ cls := "MarketDesk$Demand", name := "<init>", desc := "()V" } : Jvm.MethodName) prog_2_method_1_code (1 : Nat) (Option.none : Option Jvm.ClassFile.FieldType)) ∈ lw_big := tb_1 51 rfl rfl
theorem bm_52 : (Jvm.Cond.methodLink "MarketDesk$Demand" (3 : Nat) ({ cls := "java/lang/Object", name := "<init>", desc := "()V" } : Jvm.MethodName)) ∈ lw_big := tb_1 52 rfl rfl
theorem bm_53 : (Jvm.Cond.fieldLink "MarketDesk$Demand" (9 : Nat) "MarketDesk$Demand" "buyers" "I") ∈ lw_big := tb_1 53 rfl rfl
theorem bm_54 : (Jvm.Cond.fieldLink "MarketDesk$Demand" (15 : Nat) "MarketDesk$Demand" "goods" "I") ∈ lw_big := tb_1 54 rfl rfl
theorem bm_55 : (Jvm.Cond.fieldLink "MarketDesk$Demand" (18 : Nat) "MarketDesk$Demand" "unit" "J") ∈ lw_big := tb_1 55 rfl rfl
theorem bm_56 : (Jvm.Cond.fieldLink "MarketDesk" (131 : Nat) "MarketDesk$Demand" "unit" "J") ∈ lw_big := tb_1 56 rfl rfl
theorem bm_57 : (Jvm.Cond.fieldLink "MarketDesk$Demand" (22 : Nat) "MarketDesk$Demand" "cost" "[J") ∈ lw_big := tb_1 57 rfl rfl
theorem bm_58 : (Jvm.Cond.fieldLink "MarketDesk$Demand" (26 : Nat) "MarketDesk$Demand" "funds" "[J") ∈ lw_big := tb_1 58 rfl rfl
theorem bm_59 : (Jvm.Cond.fieldLink "MarketDesk$Demand" (29 : Nat) "MarketDesk$Demand" "liked" "[I") ∈ lw_big := tb_1 59 rfl rfl
theorem bm_60 : (Jvm.Cond.fieldLink "MarketDesk" (167 : Nat) "MarketDesk$Demand" "liked" "[I") ∈ lw_big := tb_1 60 rfl rfl
theorem bm_61 : (Jvm.Cond.lays "MarketDesk$Demand" "MarketDesk$Demand" "buyers" "I") ∈ lw_big := tb_1 61 rfl rfl
theorem bm_63 : (Jvm.Cond.lays "MarketDesk$Demand" "MarketDesk$Demand" "goods" "I") ∈ lw_big := tb_1 63 rfl rfl
theorem bm_65 : (Jvm.Cond.lays "MarketDesk$Demand" "MarketDesk$Demand" "unit" "J") ∈ lw_big := tb_1 65 rfl rfl
theorem bm_67 : (Jvm.Cond.laysFinal "MarketDesk$Demand" "MarketDesk$Demand" "cost" "[J") ∈ lw_big := tb_1 67 rfl rfl
theorem bm_69 : (Jvm.Cond.laysFinal "MarketDesk$Demand" "MarketDesk$Demand" "funds" "[J") ∈ lw_big := tb_1 69 rfl rfl
theorem bm_71 : (Jvm.Cond.laysFinal "MarketDesk$Demand" "MarketDesk$Demand" "liked" "[I") ∈ lw_big := tb_1 71 rfl rfl
theorem bm_74 : (Jvm.Cond.arrayClass Jvm.ClassFile.FieldType.int) ∈ lw_big := tb_1 74 rfl rfl
theorem bm_75 : (Jvm.Cond.classLink "MarketDesk" (29 : Nat) "MarketDesk$Search") ∈ lw_big := tb_1 75 rfl rfl
theorem bm_76 : (Jvm.Cond.instantiable "MarketDesk$Search" (2 : Nat)) ∈ lw_big := tb_1 76 rfl rfl
theorem bm_78 : (Jvm.Cond.instanceMethod ({ cls := "MarketDesk$Search", name := "<init>", desc := "()V" } : Jvm.MethodName)) ∈ lw_big := tb_1 78 rfl rfl
theorem bm_79 : (Jvm.Cond.code ({ cls := "MarketDesk$Search", name := "<init>", desc := "()V" } : Jvm.MethodName) prog_5_method_1_code (1 : Nat) (Option.none : Option Jvm.ClassFile.FieldType)) ∈ lw_big := tb_1 79 rfl rfl
theorem bm_80 : (Jvm.Cond.methodLink "MarketDesk$Search" (3 : Nat) ({ cls := "java/lang/Object", name := "<init>", desc := "()V" } : Jvm.MethodName)) ∈ lw_big := tb_1 80 rfl rfl
theorem bm_81 : (Jvm.Cond.fieldLink "MarketDesk$Search" (9 : Nat) "MarketDesk$Search" "group" "[I") ∈ lw_big := tb_1 81 rfl rfl
theorem bm_82 : (Jvm.Cond.fieldLink "MarketDesk$Search" (15 : Nat) "MarketDesk$Search" "weight" "[J") ∈ lw_big := tb_1 82 rfl rfl
theorem bm_83 : (Jvm.Cond.laysFinal "MarketDesk$Search" "MarketDesk$Search" "group" "[I") ∈ lw_big := tb_1 83 rfl rfl
theorem bm_85 : (Jvm.Cond.laysFinal "MarketDesk$Search" "MarketDesk$Search" "weight" "[J") ∈ lw_big := tb_1 85 rfl rfl
theorem bm_88 : (Jvm.Cond.instantiable "MarketDesk$Market" (8 : Nat)) ∈ lw_big := tb_1 88 rfl rfl
theorem bm_90 : (Jvm.Cond.instanceMethod ({ cls := "MarketDesk$Market", name := "<init>", desc := "()V" } : Jvm.MethodName)) ∈ lw_big := tb_1 90 rfl rfl
theorem bm_91 : (Jvm.Cond.code ({ cls := "MarketDesk$Market", name := "<init>", desc := "()V" } : Jvm.MethodName) prog_3_method_1_code (1 : Nat) (Option.none : Option Jvm.ClassFile.FieldType)) ∈ lw_big := tb_1 91 rfl rfl
theorem bm_92 : (Jvm.Cond.methodLink "MarketDesk$Market" (3 : Nat) ({ cls := "java/lang/Object", name := "<init>", desc := "()V" } : Jvm.MethodName)) ∈ lw_big := tb_1 92 rfl rfl
theorem bm_93 : (Jvm.Cond.classLink "MarketDesk$Market" (29 : Nat) "MarketDesk$Prices") ∈ lw_big := tb_1 93 rfl rfl
theorem bm_95 : (Jvm.Cond.fieldLink "MarketDesk$Market" (9 : Nat) "MarketDesk$Market" "buyers" "I") ∈ lw_big := tb_1 95 rfl rfl
theorem bm_96 : (Jvm.Cond.fieldLink "MarketDesk$Demand" (33 : Nat) "MarketDesk$Market" "buyers" "I") ∈ lw_big := tb_1 96 rfl rfl
theorem bm_97 : (Jvm.Cond.fieldLink "MarketDesk$Search" (23 : Nat) "MarketDesk$Market" "buyers" "I") ∈ lw_big := tb_1 97 rfl rfl
theorem bm_98 : (Jvm.Cond.fieldLink "MarketDesk" (48 : Nat) "MarketDesk$Market" "buyers" "I") ∈ lw_big := tb_1 98 rfl rfl
theorem bm_99 : (Jvm.Cond.fieldLink "MarketDesk$Market" (15 : Nat) "MarketDesk$Market" "goods" "I") ∈ lw_big := tb_1 99 rfl rfl
theorem bm_100 : (Jvm.Cond.fieldLink "MarketDesk$Demand" (36 : Nat) "MarketDesk$Market" "goods" "I") ∈ lw_big := tb_1 100 rfl rfl
theorem bm_101 : (Jvm.Cond.fieldLink "MarketDesk" (66 : Nat) "MarketDesk$Market" "goods" "I") ∈ lw_big := tb_1 101 rfl rfl
theorem bm_102 : (Jvm.Cond.fieldLink "MarketDesk$Search" (62 : Nat) "MarketDesk$Market" "goods" "I") ∈ lw_big := tb_1 102 rfl rfl
theorem bm_103 : (Jvm.Cond.fieldLink "MarketDesk$Market" (18 : Nat) "MarketDesk$Market" "purse" "[I") ∈ lw_big := tb_1 103 rfl rfl
theorem bm_104 : (Jvm.Cond.fieldLink "MarketDesk" (62 : Nat) "MarketDesk$Market" "purse" "[I") ∈ lw_big := tb_1 104 rfl rfl
theorem bm_105 : (Jvm.Cond.fieldLink "MarketDesk$Demand" (46 : Nat) "MarketDesk$Market" "purse" "[I") ∈ lw_big := tb_1 105 rfl rfl
theorem bm_106 : (Jvm.Cond.fieldLink "MarketDesk$Search" (98 : Nat) "MarketDesk$Market" "purse" "[I") ∈ lw_big := tb_1 106 rfl rfl
theorem bm_107 : (Jvm.Cond.fieldLink "MarketDesk$Market" (22 : Nat) "MarketDesk$Market" "worth" "[I") ∈ lw_big := tb_1 107 rfl rfl
theorem bm_108 : (Jvm.Cond.fieldLink "MarketDesk$Demand" (60 : Nat) "MarketDesk$Market" "worth" "[I") ∈ lw_big := tb_1 108 rfl rfl
theorem bm_109 : (Jvm.Cond.fieldLink "MarketDesk" (78 : Nat) "MarketDesk$Market" "worth" "[I") ∈ lw_big := tb_1 109 rfl rfl
theorem bm_110 : (Jvm.Cond.fieldLink "MarketDesk$Search" (76 : Nat) "MarketDesk$Market" "worth" "[I") ∈ lw_big := tb_1 110 rfl rfl
theorem bm_111 : (Jvm.Cond.fieldLink "MarketDesk$Market" (25 : Nat) "MarketDesk$Market" "solved" "Z") ∈ lw_big := tb_1 111 rfl rfl
theorem bm_112 : (Jvm.Cond.fieldLink "MarketDesk" (123 : Nat) "MarketDesk$Market" "solved" "Z") ∈ lw_big := tb_1 112 rfl rfl
theorem bm_113 : (Jvm.Cond.fieldLink "MarketDesk$Market" (32 : Nat) "MarketDesk$Market" "prices" "LMarketDesk$Prices;") ∈ lw_big := tb_1 113 rfl rfl
theorem bm_114 : (Jvm.Cond.fieldLink "MarketDesk$Search" (40 : Nat) "MarketDesk$Market" "prices" "LMarketDesk$Prices;") ∈ lw_big := tb_1 114 rfl rfl
theorem bm_115 : (Jvm.Cond.fieldLink "MarketDesk" (147 : Nat) "MarketDesk$Market" "prices" "LMarketDesk$Prices;") ∈ lw_big := tb_1 115 rfl rfl
theorem bm_116 : (Jvm.Cond.fieldLink "MarketDesk$Market" (36 : Nat) "MarketDesk$Market" "share" "[J") ∈ lw_big := tb_1 116 rfl rfl
theorem bm_117 : (Jvm.Cond.fieldLink "MarketDesk" (136 : Nat) "MarketDesk$Market" "share" "[J") ∈ lw_big := tb_1 117 rfl rfl
theorem bm_118 : (Jvm.Cond.fieldLink "MarketDesk$Market" (40 : Nat) "MarketDesk$Market" "unit" "J") ∈ lw_big := tb_1 118 rfl rfl
theorem bm_119 : (Jvm.Cond.fieldLink "MarketDesk" (135 : Nat) "MarketDesk$Market" "unit" "J") ∈ lw_big := tb_1 119 rfl rfl
theorem bm_120 : (Jvm.Cond.lays "MarketDesk$Market" "MarketDesk$Market" "buyers" "I") ∈ lw_big := tb_1 120 rfl rfl
theorem bm_122 : (Jvm.Cond.lays "MarketDesk$Market" "MarketDesk$Market" "goods" "I") ∈ lw_big := tb_1 122 rfl rfl
theorem bm_124 : (Jvm.Cond.laysFinal "MarketDesk$Market" "MarketDesk$Market" "purse" "[I") ∈ lw_big := tb_1 124 rfl rfl
theorem bm_126 : (Jvm.Cond.laysFinal "MarketDesk$Market" "MarketDesk$Market" "worth" "[I") ∈ lw_big := tb_1 126 rfl rfl
theorem bm_128 : (Jvm.Cond.lays "MarketDesk$Market" "MarketDesk$Market" "solved" "Z") ∈ lw_big := tb_1 128 rfl rfl
theorem bm_130 : (Jvm.Cond.laysFinal "MarketDesk$Market" "MarketDesk$Market" "prices" "LMarketDesk$Prices;") ∈ lw_big := tb_1 130 rfl rfl
theorem bm_132 : (Jvm.Cond.laysFinal "MarketDesk$Market" "MarketDesk$Market" "share" "[J") ∈ lw_big := tb_1 132 rfl rfl
theorem bm_134 : (Jvm.Cond.lays "MarketDesk$Market" "MarketDesk$Market" "unit" "J") ∈ lw_big := tb_1 134 rfl rfl
theorem bm_137 : (Jvm.Cond.fieldLink "MarketDesk" (11 : Nat) "MarketDesk" "ring" "[LMarketDesk$Market;") ∈ lw_big := tb_1 137 rfl rfl
theorem bm_138 : (Jvm.Cond.fieldLink "MarketDesk" (18 : Nat) "MarketDesk" "tried" "LMarketDesk$Prices;") ∈ lw_big := tb_1 138 rfl rfl
theorem bm_139 : (Jvm.Cond.fieldLink "MarketDesk" (25 : Nat) "MarketDesk" "demand" "LMarketDesk$Demand;") ∈ lw_big := tb_1 139 rfl rfl
theorem bm_140 : (Jvm.Cond.fieldLink "MarketDesk" (32 : Nat) "MarketDesk" "search" "LMarketDesk$Search;") ∈ lw_big := tb_1 140 rfl rfl
theorem bm_141 : (Jvm.Cond.fieldLink "MarketDesk" (36 : Nat) "MarketDesk" "now" "I") ∈ lw_big := tb_1 141 rfl rfl
theorem bm_142 : (Jvm.Cond.fieldLink "MarketDesk" (40 : Nat) "MarketDesk" "undoable" "I") ∈ lw_big := tb_1 142 rfl rfl
theorem bm_143 : (Jvm.Cond.laysFinal "MarketDesk" "MarketDesk" "ring" "[LMarketDesk$Market;") ∈ lw_big := tb_1 143 rfl rfl
theorem bm_145 : (Jvm.Cond.laysFinal "MarketDesk" "MarketDesk" "tried" "LMarketDesk$Prices;") ∈ lw_big := tb_1 145 rfl rfl
theorem bm_147 : (Jvm.Cond.laysFinal "MarketDesk" "MarketDesk" "demand" "LMarketDesk$Demand;") ∈ lw_big := tb_1 147 rfl rfl
theorem bm_149 : (Jvm.Cond.laysFinal "MarketDesk" "MarketDesk" "search" "LMarketDesk$Search;") ∈ lw_big := tb_1 149 rfl rfl
theorem bm_151 : (Jvm.Cond.lays "MarketDesk" "MarketDesk" "now" "I") ∈ lw_big := tb_1 151 rfl rfl
theorem bm_153 : (Jvm.Cond.lays "MarketDesk" "MarketDesk" "undoable" "I") ∈ lw_big := tb_1 153 rfl rfl
theorem bm_156 : (Jvm.Cond.methodLink "MarketDeskLaw" (99 : Nat) ({ cls := "MarketDesk", name := "count", desc := "(Z)I" } : Jvm.MethodName)) ∈ lw_big := tb_1 156 rfl rfl
theorem bm_157 : (Jvm.Cond.instanceMethod ({ cls := "MarketDesk", name := "count", desc := "(Z)I" } : Jvm.MethodName)) ∈ lw_big := tb_1 157 rfl rfl
theorem bm_158 : (Jvm.Cond.selects "MarketDesk" ({ cls := "MarketDesk", name := "count", desc := "(Z)I" } : Jvm.MethodName) ({ cls := "MarketDesk", name := "count", desc := "(Z)I" } : Jvm.MethodName)) ∈ lw_big := tb_1 158 rfl rfl
theorem bm_159 : (Jvm.Cond.code ({ cls := "MarketDesk", name := "count", desc := "(Z)I" } : Jvm.MethodName) prog_1_method_8_code (2 : Nat) (Option.some Jvm.ClassFile.FieldType.int)) ∈ lw_big := tb_1 159 rfl rfl
theorem bm_160 : (Jvm.Cond.methodLink "MarketDeskLaw" (108 : Nat) ({ cls := "MarketDesk", name := "ready", desc := "()I" } : Jvm.MethodName)) ∈ lw_big := tb_1 160 rfl rfl
theorem bm_161 : (Jvm.Cond.instanceMethod ({ cls := "MarketDesk", name := "ready", desc := "()I" } : Jvm.MethodName)) ∈ lw_big := tb_1 161 rfl rfl
theorem bm_162 : (Jvm.Cond.selects "MarketDesk" ({ cls := "MarketDesk", name := "ready", desc := "()I" } : Jvm.MethodName) ({ cls := "MarketDesk", name := "ready", desc := "()I" } : Jvm.MethodName)) ∈ lw_big := tb_1 162 rfl rfl
theorem bm_163 : (Jvm.Cond.code ({ cls := "MarketDesk", name := "ready", desc := "()I" } : Jvm.MethodName) prog_1_method_10_code (5 : Nat) (Option.some Jvm.ClassFile.FieldType.int)) ∈ lw_big := tb_1 163 rfl rfl
theorem bm_164 : (Jvm.Cond.methodLink "MarketDesk" (113 : Nat) ({ cls := "MarketDesk$Market", name := "wantedBy", desc := "(I)I" } : Jvm.MethodName)) ∈ lw_big := tb_1 164 rfl rfl
theorem bm_165 : (Jvm.Cond.instanceMethod ({ cls := "MarketDesk$Market", name := "wantedBy", desc := "(I)I" } : Jvm.MethodName)) ∈ lw_big := tb_1 165 rfl rfl
theorem bm_166 : (Jvm.Cond.selects "MarketDesk$Market" ({ cls := "MarketDesk$Market", name := "wantedBy", desc := "(I)I" } : Jvm.MethodName) ({ cls := "MarketDesk$Market", name := "wantedBy", desc := "(I)I" } : Jvm.MethodName)) ∈ lw_big := tb_1 166 rfl rfl
theorem bm_167 : (Jvm.Cond.code ({ cls := "MarketDesk$Market", name := "wantedBy", desc := "(I)I" } : Jvm.MethodName) prog_3_method_3_code (4 : Nat) (Option.some Jvm.ClassFile.FieldType.int)) ∈ lw_big := tb_1 167 rfl rfl
theorem bm_169 : (Jvm.Cond.static ({ cls := "MarketDesk", name := "cell", desc := "(II)I" } : Jvm.MethodName)) ∈ lw_big := tb_1 169 rfl rfl
theorem bm_170 : (Jvm.Cond.code ({ cls := "MarketDesk", name := "cell", desc := "(II)I" } : Jvm.MethodName) prog_1_method_25_code (2 : Nat) (Option.some Jvm.ClassFile.FieldType.int)) ∈ lw_big := tb_1 170 rfl rfl
theorem bm_171 : (Jvm.Cond.methodLink "MarketDesk" (117 : Nat) ({ cls := "MarketDesk", name := "has", desc := "(II)Z" } : Jvm.MethodName)) ∈ lw_big := tb_1 171 rfl rfl
theorem bm_172 : (Jvm.Cond.static ({ cls := "MarketDesk", name := "has", desc := "(II)Z" } : Jvm.MethodName)) ∈ lw_big := tb_1 172 rfl rfl
theorem bm_173 : (Jvm.Cond.code ({ cls := "MarketDesk", name := "has", desc := "(II)Z" } : Jvm.MethodName) prog_1_method_26_code (2 : Nat) (Option.some Jvm.ClassFile.FieldType.boolean)) ∈ lw_big := tb_1 173 rfl rfl
theorem bm_174 : (Jvm.Cond.methodLink "MarketDeskLaw" (72 : Nat) ({ cls := "MarketDeskLaw", name := "buyer", desc := "(LMarketDesk;I[J)I" } : Jvm.MethodName)) ∈ lw_big := tb_1 174 rfl rfl
theorem bm_175 : (Jvm.Cond.static ({ cls := "MarketDeskLaw", name := "buyer", desc := "(LMarketDesk;I[J)I" } : Jvm.MethodName)) ∈ lw_big := tb_1 175 rfl rfl
theorem bm_177 : (Jvm.Cond.classLink "MarketDeskLaw" (13 : Nat) "java/lang/IllegalArgumentException") ∈ lw_big := tb_1 177 rfl rfl
theorem bm_178 : (Jvm.Cond.classLink "MarketDeskLaw" (15 : Nat) "java/lang/UnsupportedOperationException") ∈ lw_big := tb_1 178 rfl rfl
theorem bm_179 : (Jvm.Cond.methodLink "MarketDeskLaw" (7 : Nat) ({ cls := "MarketDesk", name := "buyer", desc := "(I)I" } : Jvm.MethodName)) ∈ lw_big := tb_1 179 rfl rfl
theorem bm_180 : (Jvm.Cond.instanceMethod ({ cls := "MarketDesk", name := "buyer", desc := "(I)I" } : Jvm.MethodName)) ∈ lw_big := tb_1 180 rfl rfl
theorem bm_181 : (Jvm.Cond.selects "MarketDesk" ({ cls := "MarketDesk", name := "buyer", desc := "(I)I" } : Jvm.MethodName) ({ cls := "MarketDesk", name := "buyer", desc := "(I)I" } : Jvm.MethodName)) ∈ lw_big := tb_1 181 rfl rfl
theorem bm_182 : (Jvm.Cond.code ({ cls := "MarketDesk", name := "buyer", desc := "(I)I" } : Jvm.MethodName) prog_1_method_2_code (4 : Nat) (Option.some Jvm.ClassFile.FieldType.int)) ∈ lw_big := tb_1 182 rfl rfl
theorem bm_183 : (Jvm.Cond.methodLink "MarketDesk" (44 : Nat) ({ cls := "MarketDesk", name := "needWithin", desc := "(III)V" } : Jvm.MethodName)) ∈ lw_big := tb_1 183 rfl rfl
theorem bm_184 : (Jvm.Cond.static ({ cls := "MarketDesk", name := "needWithin", desc := "(III)V" } : Jvm.MethodName)) ∈ lw_big := tb_1 184 rfl rfl
theorem bm_185 : (Jvm.Cond.code ({ cls := "MarketDesk", name := "needWithin", desc := "(III)V" } : Jvm.MethodName) prog_1_method_22_code (3 : Nat) (Option.none : Option Jvm.ClassFile.FieldType)) ∈ lw_big := tb_1 185 rfl rfl
theorem bm_186 : (Jvm.Cond.classLink "MarketDesk" (93 : Nat) "java/lang/IllegalArgumentException") ∈ lw_big := tb_1 186 rfl rfl
theorem bm_187 : (Jvm.Cond.instantiable "java/lang/IllegalArgumentException" (6 : Nat)) ∈ lw_big := tb_1 187 rfl rfl
theorem bm_195 : (Jvm.Cond.selects "java/lang/IllegalArgumentException" ({ cls := "java/lang/Throwable", name := "fillInStackTrace", desc := "(I)Ljava/lang/Throwable;" } : Jvm.MethodName) ({ cls := "java/lang/Throwable", name := "fillInStackTrace", desc := "(I)Ljava/lang/Throwable;" } : Jvm.MethodName)) ∈ lw_big := tb_1 195 rfl rfl
theorem bm_196 : (Jvm.Cond.selects "java/lang/IllegalArgumentException" ({ cls := "java/lang/Throwable", name := "fillInStackTrace", desc := "()Ljava/lang/Throwable;" } : Jvm.MethodName) ({ cls := "java/lang/Throwable", name := "fillInStackTrace", desc := "()Ljava/lang/Throwable;" } : Jvm.MethodName)) ∈ lw_big := tb_1 196 rfl rfl
theorem bm_197 : (Jvm.Cond.lays "java/lang/IllegalArgumentException" "java/lang/Throwable" "cause" "Ljava/lang/Throwable;") ∈ lw_big := tb_1 197 rfl rfl
theorem bm_198 : (Jvm.Cond.lays "java/lang/Throwable" "java/lang/Throwable" "cause" "Ljava/lang/Throwable;") ∈ lw_big := tb_1 198 rfl rfl
theorem bm_199 : (Jvm.Cond.lays "java/lang/IllegalArgumentException" "java/lang/Throwable" "stackTrace" "[Ljava/lang/StackTraceElement;") ∈ lw_big := tb_1 199 rfl rfl
theorem bm_200 : (Jvm.Cond.lays "java/lang/Throwable" "java/lang/Throwable" "stackTrace" "[Ljava/lang/StackTraceElement;") ∈ lw_big := tb_1 200 rfl rfl
theorem bm_201 : (Jvm.Cond.lays "java/lang/IllegalArgumentException" "java/lang/Throwable" "suppressedExceptions" "Ljava/util/List;") ∈ lw_big := tb_1 201 rfl rfl
theorem bm_202 : (Jvm.Cond.lays "java/lang/Throwable" "java/lang/Throwable" "suppressedExceptions" "Ljava/util/List;") ∈ lw_big := tb_1 202 rfl rfl
theorem bm_203 : (Jvm.Cond.lays "java/lang/IllegalArgumentException" "java/lang/Throwable" "detailMessage" "Ljava/lang/String;") ∈ lw_big := tb_1 203 rfl rfl
theorem bm_204 : (Jvm.Cond.lays "java/lang/Throwable" "java/lang/Throwable" "detailMessage" "Ljava/lang/String;") ∈ lw_big := tb_1 204 rfl rfl
theorem bm_205 : (Jvm.Cond.lays "java/lang/IllegalArgumentException" "java/lang/Throwable" "backtrace" "Ljava/lang/Object;") ∈ lw_big := tb_1 205 rfl rfl
theorem bm_206 : (Jvm.Cond.lays "java/lang/Throwable" "java/lang/Throwable" "backtrace" "Ljava/lang/Object;") ∈ lw_big := tb_1 206 rfl rfl
theorem bm_207 : (Jvm.Cond.fieldLink "java/lang/Throwable" (198 : Nat) "java/lang/Throwable" "backtrace" "Ljava/lang/Object;") ∈ lw_big := tb_1 207 rfl rfl
theorem bm_209 : (Jvm.Cond.instanceMethod ({ cls := "java/lang/Throwable", name := "<init>", desc := "()V" } : Jvm.MethodName)) ∈ lw_big := tb_1 209 rfl rfl
theorem bm_210 : (Jvm.Cond.code ({ cls := "java/lang/Throwable", name := "<init>", desc := "()V" } : Jvm.MethodName) prog_17_method_1_code (1 : Nat) (Option.none : Option Jvm.ClassFile.FieldType)) ∈ lw_big := tb_1 210 rfl rfl
theorem bm_211 : (Jvm.Cond.methodLink "java/lang/Throwable" (1 : Nat) ({ cls := "java/lang/Object", name := "<init>", desc := "()V" } : Jvm.MethodName)) ∈ lw_big := tb_1 211 rfl rfl
theorem bm_212 : (Jvm.Cond.fieldLink "java/lang/Throwable" (13 : Nat) "java/lang/Throwable" "UNASSIGNED_STACK" "[Ljava/lang/StackTraceElement;") ∈ lw_big := tb_1 212 rfl rfl
theorem bm_214 : (Jvm.Cond.fieldLink "java/lang/Throwable" (20 : Nat) "java/lang/Throwable" "SUPPRESSED_SENTINEL" "Ljava/util/List;") ∈ lw_big := tb_1 214 rfl rfl
theorem bm_216 : (Jvm.Cond.methodLink "java/lang/Throwable" (27 : Nat) ({ cls := "java/lang/Throwable", name := "fillInStackTrace", desc := "()Ljava/lang/Throwable;" } : Jvm.MethodName)) ∈ lw_big := tb_1 216 rfl rfl
theorem bm_217 : (Jvm.Cond.instanceMethod ({ cls := "java/lang/Throwable", name := "fillInStackTrace", desc := "()Ljava/lang/Throwable;" } : Jvm.MethodName)) ∈ lw_big := tb_1 217 rfl rfl
theorem bm_219 : (Jvm.Cond.selects "java/lang/IllegalStateException" ({ cls := "java/lang/Throwable", name := "fillInStackTrace", desc := "()Ljava/lang/Throwable;" } : Jvm.MethodName) ({ cls := "java/lang/Throwable", name := "fillInStackTrace", desc := "()Ljava/lang/Throwable;" } : Jvm.MethodName)) ∈ lw_big := tb_1 219 rfl rfl
theorem bm_220 : (Jvm.Cond.selects "java/lang/IndexOutOfBoundsException" ({ cls := "java/lang/Throwable", name := "fillInStackTrace", desc := "()Ljava/lang/Throwable;" } : Jvm.MethodName) ({ cls := "java/lang/Throwable", name := "fillInStackTrace", desc := "()Ljava/lang/Throwable;" } : Jvm.MethodName)) ∈ lw_big := tb_1 220 rfl rfl
theorem bm_221 : (Jvm.Cond.selects "java/lang/UnsupportedOperationException" ({ cls := "java/lang/Throwable", name := "fillInStackTrace", desc := "()Ljava/lang/Throwable;" } : Jvm.MethodName) ({ cls := "java/lang/Throwable", name := "fillInStackTrace", desc := "()Ljava/lang/Throwable;" } : Jvm.MethodName)) ∈ lw_big := tb_1 221 rfl rfl
theorem bm_223 : (Jvm.Cond.methodLink "java/lang/Throwable" (202 : Nat) ({ cls := "java/lang/Throwable", name := "fillInStackTrace", desc := "(I)Ljava/lang/Throwable;" } : Jvm.MethodName)) ∈ lw_big := tb_1 223 rfl rfl
theorem bm_225 : (Jvm.Cond.instanceMethod ({ cls := "java/lang/Throwable", name := "fillInStackTrace", desc := "(I)Ljava/lang/Throwable;" } : Jvm.MethodName)) ∈ lw_big := tb_1 225 rfl rfl
theorem bm_226 : (Jvm.Cond.instantiable "java/lang/Throwable" (6 : Nat)) ∈ lw_big := tb_1 226 rfl rfl
theorem bm_227 : (Jvm.Cond.native ({ cls := "java/lang/Throwable", name := "fillInStackTrace", desc := "(I)Ljava/lang/Throwable;" } : Jvm.MethodName)) ∈ lw_big := tb_1 227 rfl rfl
theorem bm_229 : (Jvm.Cond.methodLink "MarketDesk" (97 : Nat) ({ cls := "java/lang/IllegalArgumentException", name := "<init>", desc := "(Ljava/lang/String;)V" } : Jvm.MethodName)) ∈ lw_big := tb_1 229 rfl rfl
theorem bm_230 : (Jvm.Cond.instanceMethod ({ cls := "java/lang/IllegalArgumentException", name := "<init>", desc := "(Ljava/lang/String;)V" } : Jvm.MethodName)) ∈ lw_big := tb_1 230 rfl rfl
theorem bm_231 : (Jvm.Cond.code ({ cls := "java/lang/IllegalArgumentException", name := "<init>", desc := "(Ljava/lang/String;)V" } : Jvm.MethodName) prog_9_method_2_code (2 : Nat) (Option.none : Option Jvm.ClassFile.FieldType)) ∈ lw_big := tb_1 231 rfl rfl
theorem bm_232 : (Jvm.Cond.methodLink "java/lang/IllegalArgumentException" (7 : Nat) ({ cls := "java/lang/RuntimeException", name := "<init>", desc := "(Ljava/lang/String;)V" } : Jvm.MethodName)) ∈ lw_big := tb_1 232 rfl rfl
theorem bm_233 : (Jvm.Cond.instanceMethod ({ cls := "java/lang/RuntimeException", name := "<init>", desc := "(Ljava/lang/String;)V" } : Jvm.MethodName)) ∈ lw_big := tb_1 233 rfl rfl
theorem bm_234 : (Jvm.Cond.code ({ cls := "java/lang/RuntimeException", name := "<init>", desc := "(Ljava/lang/String;)V" } : Jvm.MethodName) prog_14_method_2_code (2 : Nat) (Option.none : Option Jvm.ClassFile.FieldType)) ∈ lw_big := tb_1 234 rfl rfl
theorem bm_235 : (Jvm.Cond.methodLink "java/lang/RuntimeException" (7 : Nat) ({ cls := "java/lang/Exception", name := "<init>", desc := "(Ljava/lang/String;)V" } : Jvm.MethodName)) ∈ lw_big := tb_1 235 rfl rfl
theorem bm_236 : (Jvm.Cond.instanceMethod ({ cls := "java/lang/Exception", name := "<init>", desc := "(Ljava/lang/String;)V" } : Jvm.MethodName)) ∈ lw_big := tb_1 236 rfl rfl
theorem bm_237 : (Jvm.Cond.code ({ cls := "java/lang/Exception", name := "<init>", desc := "(Ljava/lang/String;)V" } : Jvm.MethodName) prog_8_method_2_code (2 : Nat) (Option.none : Option Jvm.ClassFile.FieldType)) ∈ lw_big := tb_1 237 rfl rfl
theorem bm_238 : (Jvm.Cond.methodLink "java/lang/Exception" (7 : Nat) ({ cls := "java/lang/Throwable", name := "<init>", desc := "(Ljava/lang/String;)V" } : Jvm.MethodName)) ∈ lw_big := tb_1 238 rfl rfl
theorem bm_239 : (Jvm.Cond.instanceMethod ({ cls := "java/lang/Throwable", name := "<init>", desc := "(Ljava/lang/String;)V" } : Jvm.MethodName)) ∈ lw_big := tb_1 239 rfl rfl
theorem bm_240 : (Jvm.Cond.code ({ cls := "java/lang/Throwable", name := "<init>", desc := "(Ljava/lang/String;)V" } : Jvm.MethodName) prog_17_method_2_code (2 : Nat) (Option.none : Option Jvm.ClassFile.FieldType)) ∈ lw_big := tb_2 0 rfl rfl
theorem bm_241 : (Jvm.Cond.fieldLink "java/lang/Throwable" (198 : Nat) "java/lang/Throwable" "backtrace" "Ljava/lang/Object;") ∈ lw_big := tb_2 1 rfl rfl
theorem bm_242 : (Jvm.Cond.fieldLink "java/lang/Throwable" (31 : Nat) "java/lang/Throwable" "detailMessage" "Ljava/lang/String;") ∈ lw_big := tb_2 2 rfl rfl
theorem bm_243 : (Jvm.Cond.fieldLink "java/lang/Throwable" (7 : Nat) "java/lang/Throwable" "cause" "Ljava/lang/Throwable;") ∈ lw_big := tb_2 3 rfl rfl
theorem bm_244 : (Jvm.Cond.fieldLink "java/lang/Throwable" (17 : Nat) "java/lang/Throwable" "stackTrace" "[Ljava/lang/StackTraceElement;") ∈ lw_big := tb_2 4 rfl rfl
theorem bm_245 : (Jvm.Cond.fieldLink "java/lang/Throwable" (24 : Nat) "java/lang/Throwable" "suppressedExceptions" "Ljava/util/List;") ∈ lw_big := tb_2 5 rfl rfl
theorem bm_250 : (Jvm.Cond.lays "java/lang/IllegalArgumentException" "java/lang/Throwable" "depth" "I") ∈ lw_big := tb_2 10 rfl rfl
theorem bm_254 : (Jvm.Cond.arrayClass Jvm.ClassFile.FieldType.byte) ∈ lw_big := tb_2 14 rfl rfl
theorem bm_255 : (Jvm.Cond.classLink "MarketDesk" (51 : Nat) "java/lang/UnsupportedOperationException") ∈ lw_big := tb_2 15 rfl rfl
theorem bm_256 : (Jvm.Cond.instantiable "java/lang/UnsupportedOperationException" (6 : Nat)) ∈ lw_big := tb_2 16 rfl rfl
theorem bm_258 : (Jvm.Cond.selects "java/lang/UnsupportedOperationException" ({ cls := "java/lang/Throwable", name := "fillInStackTrace", desc := "(I)Ljava/lang/Throwable;" } : Jvm.MethodName) ({ cls := "java/lang/Throwable", name := "fillInStackTrace", desc := "(I)Ljava/lang/Throwable;" } : Jvm.MethodName)) ∈ lw_big := tb_2 18 rfl rfl
theorem bm_259 : (Jvm.Cond.lays "java/lang/UnsupportedOperationException" "java/lang/Throwable" "cause" "Ljava/lang/Throwable;") ∈ lw_big := tb_2 19 rfl rfl
theorem bm_260 : (Jvm.Cond.lays "java/lang/UnsupportedOperationException" "java/lang/Throwable" "stackTrace" "[Ljava/lang/StackTraceElement;") ∈ lw_big := tb_2 20 rfl rfl
theorem bm_261 : (Jvm.Cond.lays "java/lang/UnsupportedOperationException" "java/lang/Throwable" "suppressedExceptions" "Ljava/util/List;") ∈ lw_big := tb_2 21 rfl rfl
theorem bm_262 : (Jvm.Cond.lays "java/lang/UnsupportedOperationException" "java/lang/Throwable" "detailMessage" "Ljava/lang/String;") ∈ lw_big := tb_2 22 rfl rfl
theorem bm_263 : (Jvm.Cond.lays "java/lang/UnsupportedOperationException" "java/lang/Throwable" "backtrace" "Ljava/lang/Object;") ∈ lw_big := tb_2 23 rfl rfl
theorem bm_265 : (Jvm.Cond.methodLink "MarketDesk" (55 : Nat) ({ cls := "java/lang/UnsupportedOperationException", name := "<init>", desc := "(Ljava/lang/String;)V" } : Jvm.MethodName)) ∈ lw_big := tb_2 25 rfl rfl
theorem bm_266 : (Jvm.Cond.instanceMethod ({ cls := "java/lang/UnsupportedOperationException", name := "<init>", desc := "(Ljava/lang/String;)V" } : Jvm.MethodName)) ∈ lw_big := tb_2 26 rfl rfl
theorem bm_267 : (Jvm.Cond.code ({ cls := "java/lang/UnsupportedOperationException", name := "<init>", desc := "(Ljava/lang/String;)V" } : Jvm.MethodName) prog_18_method_2_code (2 : Nat) (Option.none : Option Jvm.ClassFile.FieldType)) ∈ lw_big := tb_2 27 rfl rfl
theorem bm_268 : (Jvm.Cond.methodLink "java/lang/UnsupportedOperationException" (7 : Nat) ({ cls := "java/lang/RuntimeException", name := "<init>", desc := "(Ljava/lang/String;)V" } : Jvm.MethodName)) ∈ lw_big := tb_2 28 rfl rfl
theorem bm_269 : (Jvm.Cond.lays "java/lang/UnsupportedOperationException" "java/lang/Throwable" "depth" "I") ∈ lw_big := tb_2 29 rfl rfl
theorem bm_271 : (Jvm.Cond.methodLink "MarketDesk" (58 : Nat) ({ cls := "MarketDesk", name := "begunChange", desc := "()LMarketDesk$Market;" } : Jvm.MethodName)) ∈ lw_big := tb_2 31 rfl rfl
theorem bm_273 : (Jvm.Cond.instanceMethod ({ cls := "MarketDesk", name := "begunChange", desc := "()LMarketDesk$Market;" } : Jvm.MethodName)) ∈ lw_big := tb_2 33 rfl rfl
theorem bm_274 : (Jvm.Cond.code ({ cls := "MarketDesk", name := "begunChange", desc := "()LMarketDesk$Market;" } : Jvm.MethodName) prog_1_method_18_code (2 : Nat) (Option.some (Jvm.ClassFile.FieldType.object "MarketDesk$Market"))) ∈ lw_big := tb_2 34 rfl rfl
theorem bm_275 : (Jvm.Cond.methodLink "MarketDesk" (184 : Nat) ({ cls := "java/lang/Math", name := "min", desc := "(II)I" } : Jvm.MethodName)) ∈ lw_big := tb_2 35 rfl rfl
theorem bm_276 : (Jvm.Cond.static ({ cls := "java/lang/Math", name := "min", desc := "(II)I" } : Jvm.MethodName)) ∈ lw_big := tb_2 36 rfl rfl
theorem bm_277 : (Jvm.Cond.code ({ cls := "java/lang/Math", name := "min", desc := "(II)I" } : Jvm.MethodName) prog_13_method_69_code (2 : Nat) (Option.some Jvm.ClassFile.FieldType.int)) ∈ lw_big := tb_2 37 rfl rfl
theorem bm_278 : (Jvm.Cond.methodLink "MarketDesk" (189 : Nat) ({ cls := "MarketDesk$Market", name := "takeOver", desc := "(LMarketDesk$Market;)V" } : Jvm.MethodName)) ∈ lw_big := tb_2 38 rfl rfl
theorem bm_279 : (Jvm.Cond.instanceMethod ({ cls := "MarketDesk$Market", name := "takeOver", desc := "(LMarketDesk$Market;)V" } : Jvm.MethodName)) ∈ lw_big := tb_2 39 rfl rfl
theorem bm_280 : (Jvm.Cond.selects "MarketDesk$Market" ({ cls := "MarketDesk$Market", name := "takeOver", desc := "(LMarketDesk$Market;)V" } : Jvm.MethodName) ({ cls := "MarketDesk$Market", name := "takeOver", desc := "(LMarketDesk$Market;)V" } : Jvm.MethodName)) ∈ lw_big := tb_2 40 rfl rfl
theorem bm_281 : (Jvm.Cond.code ({ cls := "MarketDesk$Market", name := "takeOver", desc := "(LMarketDesk$Market;)V" } : Jvm.MethodName) prog_3_method_2_code (2 : Nat) (Option.none : Option Jvm.ClassFile.FieldType)) ∈ lw_big := tb_2 41 rfl rfl
theorem bm_282 : (Jvm.Cond.methodLink "MarketDesk$Market" (44 : Nat) ({ cls := "java/lang/System", name := "arraycopy", desc := "(Ljava/lang/Object;ILjava/lang/Object;II)V" } : Jvm.MethodName)) ∈ lw_big := tb_2 42 rfl rfl
theorem bm_283 : (Jvm.Cond.static ({ cls := "java/lang/System", name := "arraycopy", desc := "(Ljava/lang/Object;ILjava/lang/Object;II)V" } : Jvm.MethodName)) ∈ lw_big := tb_2 43 rfl rfl
theorem bm_284 : (Jvm.Cond.native ({ cls := "java/lang/System", name := "arraycopy", desc := "(Ljava/lang/Object;ILjava/lang/Object;II)V" } : Jvm.MethodName)) ∈ lw_big := tb_2 44 rfl rfl
theorem bm_285 : (Jvm.Cond.methodLink "MarketDeskLaw" (81 : Nat) ({ cls := "MarketDeskLaw", name := "good", desc := "(LMarketDesk;[J)I" } : Jvm.MethodName)) ∈ lw_big := tb_2 45 rfl rfl
theorem bm_286 : (Jvm.Cond.static ({ cls := "MarketDeskLaw", name := "good", desc := "(LMarketDesk;[J)I" } : Jvm.MethodName)) ∈ lw_big := tb_2 46 rfl rfl
theorem bm_288 : (Jvm.Cond.methodLink "MarketDeskLaw" (17 : Nat) ({ cls := "MarketDesk", name := "good", desc := "()I" } : Jvm.MethodName)) ∈ lw_big := tb_2 48 rfl rfl
theorem bm_289 : (Jvm.Cond.instanceMethod ({ cls := "MarketDesk", name := "good", desc := "()I" } : Jvm.MethodName)) ∈ lw_big := tb_2 49 rfl rfl
theorem bm_290 : (Jvm.Cond.selects "MarketDesk" ({ cls := "MarketDesk", name := "good", desc := "()I" } : Jvm.MethodName) ({ cls := "MarketDesk", name := "good", desc := "()I" } : Jvm.MethodName)) ∈ lw_big := tb_2 50 rfl rfl
theorem bm_291 : (Jvm.Cond.code ({ cls := "MarketDesk", name := "good", desc := "()I" } : Jvm.MethodName) prog_1_method_3_code (3 : Nat) (Option.some Jvm.ClassFile.FieldType.int)) ∈ lw_big := tb_2 51 rfl rfl
theorem bm_293 : (Jvm.Cond.methodLink "MarketDeskLaw" (85 : Nat) ({ cls := "MarketDeskLaw", name := "money", desc := "(LMarketDesk;II)I" } : Jvm.MethodName)) ∈ lw_big := tb_2 53 rfl rfl
theorem bm_294 : (Jvm.Cond.static ({ cls := "MarketDeskLaw", name := "money", desc := "(LMarketDesk;II)I" } : Jvm.MethodName)) ∈ lw_big := tb_2 54 rfl rfl
theorem bm_296 : (Jvm.Cond.classLink "MarketDeskLaw" (25 : Nat) "java/lang/IndexOutOfBoundsException") ∈ lw_big := tb_2 56 rfl rfl
theorem bm_297 : (Jvm.Cond.methodLink "MarketDeskLaw" (21 : Nat) ({ cls := "MarketDesk", name := "money", desc := "(II)V" } : Jvm.MethodName)) ∈ lw_big := tb_2 57 rfl rfl
theorem bm_298 : (Jvm.Cond.instanceMethod ({ cls := "MarketDesk", name := "money", desc := "(II)V" } : Jvm.MethodName)) ∈ lw_big := tb_2 58 rfl rfl
theorem bm_299 : (Jvm.Cond.selects "MarketDesk" ({ cls := "MarketDesk", name := "money", desc := "(II)V" } : Jvm.MethodName) ({ cls := "MarketDesk", name := "money", desc := "(II)V" } : Jvm.MethodName)) ∈ lw_big := tb_2 59 rfl rfl
theorem bm_300 : (Jvm.Cond.code ({ cls := "MarketDesk", name := "money", desc := "(II)V" } : Jvm.MethodName) prog_1_method_4_code (3 : Nat) (Option.none : Option Jvm.ClassFile.FieldType)) ∈ lw_big := tb_2 60 rfl rfl
theorem bm_301 : (Jvm.Cond.methodLink "MarketDesk" (71 : Nat) ({ cls := "MarketDesk", name := "needBuyer", desc := "(I)V" } : Jvm.MethodName)) ∈ lw_big := tb_2 61 rfl rfl
theorem bm_303 : (Jvm.Cond.instanceMethod ({ cls := "MarketDesk", name := "needBuyer", desc := "(I)V" } : Jvm.MethodName)) ∈ lw_big := tb_2 63 rfl rfl
theorem bm_304 : (Jvm.Cond.code ({ cls := "MarketDesk", name := "needBuyer", desc := "(I)V" } : Jvm.MethodName) prog_1_method_19_code (2 : Nat) (Option.none : Option Jvm.ClassFile.FieldType)) ∈ lw_big := tb_2 64 rfl rfl
theorem bm_305 : (Jvm.Cond.classLink "MarketDesk" (85 : Nat) "java/lang/IndexOutOfBoundsException") ∈ lw_big := tb_2 65 rfl rfl
theorem bm_306 : (Jvm.Cond.instantiable "java/lang/IndexOutOfBoundsException" (6 : Nat)) ∈ lw_big := tb_2 66 rfl rfl
theorem bm_308 : (Jvm.Cond.selects "java/lang/IndexOutOfBoundsException" ({ cls := "java/lang/Throwable", name := "fillInStackTrace", desc := "(I)Ljava/lang/Throwable;" } : Jvm.MethodName) ({ cls := "java/lang/Throwable", name := "fillInStackTrace", desc := "(I)Ljava/lang/Throwable;" } : Jvm.MethodName)) ∈ lw_big := tb_2 68 rfl rfl
theorem bm_309 : (Jvm.Cond.lays "java/lang/IndexOutOfBoundsException" "java/lang/Throwable" "cause" "Ljava/lang/Throwable;") ∈ lw_big := tb_2 69 rfl rfl
theorem bm_310 : (Jvm.Cond.lays "java/lang/IndexOutOfBoundsException" "java/lang/Throwable" "stackTrace" "[Ljava/lang/StackTraceElement;") ∈ lw_big := tb_2 70 rfl rfl
theorem bm_311 : (Jvm.Cond.lays "java/lang/IndexOutOfBoundsException" "java/lang/Throwable" "suppressedExceptions" "Ljava/util/List;") ∈ lw_big := tb_2 71 rfl rfl
theorem bm_312 : (Jvm.Cond.lays "java/lang/IndexOutOfBoundsException" "java/lang/Throwable" "detailMessage" "Ljava/lang/String;") ∈ lw_big := tb_2 72 rfl rfl
theorem bm_313 : (Jvm.Cond.lays "java/lang/IndexOutOfBoundsException" "java/lang/Throwable" "backtrace" "Ljava/lang/Object;") ∈ lw_big := tb_2 73 rfl rfl
theorem bm_315 : (Jvm.Cond.methodLink "MarketDesk" (89 : Nat) ({ cls := "java/lang/IndexOutOfBoundsException", name := "<init>", desc := "(Ljava/lang/String;)V" } : Jvm.MethodName)) ∈ lw_big := tb_2 75 rfl rfl
theorem bm_316 : (Jvm.Cond.instanceMethod ({ cls := "java/lang/IndexOutOfBoundsException", name := "<init>", desc := "(Ljava/lang/String;)V" } : Jvm.MethodName)) ∈ lw_big := tb_2 76 rfl rfl
theorem bm_317 : (Jvm.Cond.code ({ cls := "java/lang/IndexOutOfBoundsException", name := "<init>", desc := "(Ljava/lang/String;)V" } : Jvm.MethodName) prog_11_method_2_code (2 : Nat) (Option.none : Option Jvm.ClassFile.FieldType)) ∈ lw_big := tb_2 77 rfl rfl
theorem bm_318 : (Jvm.Cond.methodLink "java/lang/IndexOutOfBoundsException" (7 : Nat) ({ cls := "java/lang/RuntimeException", name := "<init>", desc := "(Ljava/lang/String;)V" } : Jvm.MethodName)) ∈ lw_big := tb_2 78 rfl rfl
theorem bm_319 : (Jvm.Cond.lays "java/lang/IndexOutOfBoundsException" "java/lang/Throwable" "depth" "I") ∈ lw_big := tb_2 79 rfl rfl
theorem bm_321 : (Jvm.Cond.methodLink "MarketDeskLaw" (89 : Nat) ({ cls := "MarketDeskLaw", name := "value", desc := "(LMarketDesk;III)I" } : Jvm.MethodName)) ∈ lw_big := tb_2 81 rfl rfl
theorem bm_322 : (Jvm.Cond.static ({ cls := "MarketDeskLaw", name := "value", desc := "(LMarketDesk;III)I" } : Jvm.MethodName)) ∈ lw_big := tb_2 82 rfl rfl
theorem bm_324 : (Jvm.Cond.methodLink "MarketDeskLaw" (27 : Nat) ({ cls := "MarketDesk", name := "value", desc := "(III)V" } : Jvm.MethodName)) ∈ lw_big := tb_2 84 rfl rfl
theorem bm_325 : (Jvm.Cond.instanceMethod ({ cls := "MarketDesk", name := "value", desc := "(III)V" } : Jvm.MethodName)) ∈ lw_big := tb_2 85 rfl rfl
theorem bm_326 : (Jvm.Cond.selects "MarketDesk" ({ cls := "MarketDesk", name := "value", desc := "(III)V" } : Jvm.MethodName) ({ cls := "MarketDesk", name := "value", desc := "(III)V" } : Jvm.MethodName)) ∈ lw_big := tb_2 86 rfl rfl
theorem bm_327 : (Jvm.Cond.code ({ cls := "MarketDesk", name := "value", desc := "(III)V" } : Jvm.MethodName) prog_1_method_5_code (4 : Nat) (Option.none : Option Jvm.ClassFile.FieldType)) ∈ lw_big := tb_2 87 rfl rfl
theorem bm_328 : (Jvm.Cond.methodLink "MarketDesk" (75 : Nat) ({ cls := "MarketDesk", name := "needGood", desc := "(I)V" } : Jvm.MethodName)) ∈ lw_big := tb_2 88 rfl rfl
theorem bm_330 : (Jvm.Cond.instanceMethod ({ cls := "MarketDesk", name := "needGood", desc := "(I)V" } : Jvm.MethodName)) ∈ lw_big := tb_2 90 rfl rfl
theorem bm_331 : (Jvm.Cond.code ({ cls := "MarketDesk", name := "needGood", desc := "(I)V" } : Jvm.MethodName) prog_1_method_20_code (2 : Nat) (Option.none : Option Jvm.ClassFile.FieldType)) ∈ lw_big := tb_2 91 rfl rfl
theorem bm_333 : (Jvm.Cond.methodLink "MarketDesk" (81 : Nat) ({ cls := "MarketDesk", name := "cell", desc := "(II)I" } : Jvm.MethodName)) ∈ lw_big := tb_2 93 rfl rfl
theorem bm_334 : (Jvm.Cond.methodLink "MarketDeskLaw" (93 : Nat) ({ cls := "MarketDeskLaw", name := "join", desc := "(LMarketDesk;II)I" } : Jvm.MethodName)) ∈ lw_big := tb_2 94 rfl rfl
theorem bm_335 : (Jvm.Cond.static ({ cls := "MarketDeskLaw", name := "join", desc := "(LMarketDesk;II)I" } : Jvm.MethodName)) ∈ lw_big := tb_2 95 rfl rfl
theorem bm_337 : (Jvm.Cond.methodLink "MarketDeskLaw" (31 : Nat) ({ cls := "MarketDesk", name := "join", desc := "(II)V" } : Jvm.MethodName)) ∈ lw_big := tb_2 97 rfl rfl
theorem bm_338 : (Jvm.Cond.instanceMethod ({ cls := "MarketDesk", name := "join", desc := "(II)V" } : Jvm.MethodName)) ∈ lw_big := tb_2 98 rfl rfl
theorem bm_339 : (Jvm.Cond.selects "MarketDesk" ({ cls := "MarketDesk", name := "join", desc := "(II)V" } : Jvm.MethodName) ({ cls := "MarketDesk", name := "join", desc := "(II)V" } : Jvm.MethodName)) ∈ lw_big := tb_2 99 rfl rfl
theorem bm_340 : (Jvm.Cond.code ({ cls := "MarketDesk", name := "join", desc := "(II)V" } : Jvm.MethodName) prog_1_method_6_code (3 : Nat) (Option.none : Option Jvm.ClassFile.FieldType)) ∈ lw_big := tb_2 100 rfl rfl
theorem bm_342 : (Jvm.Cond.methodLink "MarketDesk" (90 : Nat) ({ cls := "MarketDesk$Market", name := "mostWorthTogether", desc := "(II)I" } : Jvm.MethodName)) ∈ lw_big := tb_2 102 rfl rfl
theorem bm_343 : (Jvm.Cond.instanceMethod ({ cls := "MarketDesk$Market", name := "mostWorthTogether", desc := "(II)I" } : Jvm.MethodName)) ∈ lw_big := tb_2 103 rfl rfl
theorem bm_344 : (Jvm.Cond.selects "MarketDesk$Market" ({ cls := "MarketDesk$Market", name := "mostWorthTogether", desc := "(II)I" } : Jvm.MethodName) ({ cls := "MarketDesk$Market", name := "mostWorthTogether", desc := "(II)I" } : Jvm.MethodName)) ∈ lw_big := tb_2 104 rfl rfl
theorem bm_345 : (Jvm.Cond.code ({ cls := "MarketDesk$Market", name := "mostWorthTogether", desc := "(II)I" } : Jvm.MethodName) prog_3_method_4_code (5 : Nat) (Option.some Jvm.ClassFile.FieldType.int)) ∈ lw_big := tb_2 105 rfl rfl
theorem bm_346 : (Jvm.Cond.methodLink "MarketDesk$Market" (54 : Nat) ({ cls := "java/lang/Math", name := "max", desc := "(II)I" } : Jvm.MethodName)) ∈ lw_big := tb_2 106 rfl rfl
theorem bm_347 : (Jvm.Cond.static ({ cls := "java/lang/Math", name := "max", desc := "(II)I" } : Jvm.MethodName)) ∈ lw_big := tb_2 107 rfl rfl
theorem bm_348 : (Jvm.Cond.code ({ cls := "java/lang/Math", name := "max", desc := "(II)I" } : Jvm.MethodName) prog_13_method_65_code (2 : Nat) (Option.some Jvm.ClassFile.FieldType.int)) ∈ lw_big := tb_2 108 rfl rfl
theorem bm_350 : (Jvm.Cond.methodLink "MarketDesk" (98 : Nat) ({ cls := "MarketDesk$Market", name := "inProportion", desc := "(II)Z" } : Jvm.MethodName)) ∈ lw_big := tb_2 110 rfl rfl
theorem bm_351 : (Jvm.Cond.instanceMethod ({ cls := "MarketDesk$Market", name := "inProportion", desc := "(II)Z" } : Jvm.MethodName)) ∈ lw_big := tb_2 111 rfl rfl
theorem bm_352 : (Jvm.Cond.selects "MarketDesk$Market" ({ cls := "MarketDesk$Market", name := "inProportion", desc := "(II)Z" } : Jvm.MethodName) ({ cls := "MarketDesk$Market", name := "inProportion", desc := "(II)Z" } : Jvm.MethodName)) ∈ lw_big := tb_2 112 rfl rfl
theorem bm_353 : (Jvm.Cond.code ({ cls := "MarketDesk$Market", name := "inProportion", desc := "(II)Z" } : Jvm.MethodName) prog_3_method_5_code (5 : Nat) (Option.some Jvm.ClassFile.FieldType.boolean)) ∈ lw_big := tb_2 113 rfl rfl
theorem bm_355 : (Jvm.Cond.methodLink "MarketDesk" (104 : Nat) ({ cls := "MarketDesk$Market", name := "merge", desc := "(II)V" } : Jvm.MethodName)) ∈ lw_big := tb_2 115 rfl rfl
theorem bm_356 : (Jvm.Cond.instanceMethod ({ cls := "MarketDesk$Market", name := "merge", desc := "(II)V" } : Jvm.MethodName)) ∈ lw_big := tb_2 116 rfl rfl
theorem bm_357 : (Jvm.Cond.selects "MarketDesk$Market" ({ cls := "MarketDesk$Market", name := "merge", desc := "(II)V" } : Jvm.MethodName) ({ cls := "MarketDesk$Market", name := "merge", desc := "(II)V" } : Jvm.MethodName)) ∈ lw_big := tb_2 117 rfl rfl
theorem bm_358 : (Jvm.Cond.code ({ cls := "MarketDesk$Market", name := "merge", desc := "(II)V" } : Jvm.MethodName) prog_3_method_6_code (5 : Nat) (Option.none : Option Jvm.ClassFile.FieldType)) ∈ lw_big := tb_2 118 rfl rfl
theorem bm_359 : (Jvm.Cond.methodLink "MarketDeskLaw" (96 : Nat) ({ cls := "MarketDeskLaw", name := "undo", desc := "(LMarketDesk;[J)I" } : Jvm.MethodName)) ∈ lw_big := tb_2 119 rfl rfl
theorem bm_360 : (Jvm.Cond.static ({ cls := "MarketDeskLaw", name := "undo", desc := "(LMarketDesk;[J)I" } : Jvm.MethodName)) ∈ lw_big := tb_2 120 rfl rfl
theorem bm_362 : (Jvm.Cond.classLink "MarketDeskLaw" (37 : Nat) "java/lang/IllegalStateException") ∈ lw_big := tb_2 122 rfl rfl
theorem bm_363 : (Jvm.Cond.methodLink "MarketDeskLaw" (34 : Nat) ({ cls := "MarketDesk", name := "undo", desc := "()I" } : Jvm.MethodName)) ∈ lw_big := tb_2 123 rfl rfl
theorem bm_364 : (Jvm.Cond.instanceMethod ({ cls := "MarketDesk", name := "undo", desc := "()I" } : Jvm.MethodName)) ∈ lw_big := tb_2 124 rfl rfl
theorem bm_365 : (Jvm.Cond.selects "MarketDesk" ({ cls := "MarketDesk", name := "undo", desc := "()I" } : Jvm.MethodName) ({ cls := "MarketDesk", name := "undo", desc := "()I" } : Jvm.MethodName)) ∈ lw_big := tb_2 125 rfl rfl
theorem bm_366 : (Jvm.Cond.code ({ cls := "MarketDesk", name := "undo", desc := "()I" } : Jvm.MethodName) prog_1_method_7_code (1 : Nat) (Option.some Jvm.ClassFile.FieldType.int)) ∈ lw_big := tb_2 126 rfl rfl
theorem bm_367 : (Jvm.Cond.classLink "MarketDesk" (108 : Nat) "java/lang/IllegalStateException") ∈ lw_big := tb_2 127 rfl rfl
theorem bm_368 : (Jvm.Cond.instantiable "java/lang/IllegalStateException" (6 : Nat)) ∈ lw_big := tb_2 128 rfl rfl
theorem bm_370 : (Jvm.Cond.selects "java/lang/IllegalStateException" ({ cls := "java/lang/Throwable", name := "fillInStackTrace", desc := "(I)Ljava/lang/Throwable;" } : Jvm.MethodName) ({ cls := "java/lang/Throwable", name := "fillInStackTrace", desc := "(I)Ljava/lang/Throwable;" } : Jvm.MethodName)) ∈ lw_big := tb_2 130 rfl rfl
theorem bm_371 : (Jvm.Cond.lays "java/lang/IllegalStateException" "java/lang/Throwable" "cause" "Ljava/lang/Throwable;") ∈ lw_big := tb_2 131 rfl rfl
theorem bm_372 : (Jvm.Cond.lays "java/lang/IllegalStateException" "java/lang/Throwable" "stackTrace" "[Ljava/lang/StackTraceElement;") ∈ lw_big := tb_2 132 rfl rfl
theorem bm_373 : (Jvm.Cond.lays "java/lang/IllegalStateException" "java/lang/Throwable" "suppressedExceptions" "Ljava/util/List;") ∈ lw_big := tb_2 133 rfl rfl
theorem bm_374 : (Jvm.Cond.lays "java/lang/IllegalStateException" "java/lang/Throwable" "detailMessage" "Ljava/lang/String;") ∈ lw_big := tb_2 134 rfl rfl
theorem bm_375 : (Jvm.Cond.lays "java/lang/IllegalStateException" "java/lang/Throwable" "backtrace" "Ljava/lang/Object;") ∈ lw_big := tb_2 135 rfl rfl
theorem bm_377 : (Jvm.Cond.methodLink "MarketDesk" (112 : Nat) ({ cls := "java/lang/IllegalStateException", name := "<init>", desc := "(Ljava/lang/String;)V" } : Jvm.MethodName)) ∈ lw_big := tb_2 137 rfl rfl
theorem bm_378 : (Jvm.Cond.instanceMethod ({ cls := "java/lang/IllegalStateException", name := "<init>", desc := "(Ljava/lang/String;)V" } : Jvm.MethodName)) ∈ lw_big := tb_2 138 rfl rfl
theorem bm_379 : (Jvm.Cond.code ({ cls := "java/lang/IllegalStateException", name := "<init>", desc := "(Ljava/lang/String;)V" } : Jvm.MethodName) prog_10_method_2_code (2 : Nat) (Option.none : Option Jvm.ClassFile.FieldType)) ∈ lw_big := tb_2 139 rfl rfl
theorem bm_380 : (Jvm.Cond.methodLink "java/lang/IllegalStateException" (7 : Nat) ({ cls := "java/lang/RuntimeException", name := "<init>", desc := "(Ljava/lang/String;)V" } : Jvm.MethodName)) ∈ lw_big := tb_2 140 rfl rfl
theorem bm_381 : (Jvm.Cond.lays "java/lang/IllegalStateException" "java/lang/Throwable" "depth" "I") ∈ lw_big := tb_2 141 rfl rfl
theorem bm_383 : (Jvm.Cond.methodLink "MarketDeskLaw" (104 : Nat) ({ cls := "MarketDeskLaw", name := "told", desc := "(LMarketDesk;II[J)I" } : Jvm.MethodName)) ∈ lw_big := tb_2 143 rfl rfl
theorem bm_384 : (Jvm.Cond.static ({ cls := "MarketDeskLaw", name := "told", desc := "(LMarketDesk;II[J)I" } : Jvm.MethodName)) ∈ lw_big := tb_2 144 rfl rfl
theorem bm_386 : (Jvm.Cond.methodLink "MarketDeskLaw" (39 : Nat) ({ cls := "MarketDesk", name := "told", desc := "(II)I" } : Jvm.MethodName)) ∈ lw_big := tb_2 146 rfl rfl
theorem bm_387 : (Jvm.Cond.instanceMethod ({ cls := "MarketDesk", name := "told", desc := "(II)I" } : Jvm.MethodName)) ∈ lw_big := tb_2 147 rfl rfl
theorem bm_388 : (Jvm.Cond.selects "MarketDesk" ({ cls := "MarketDesk", name := "told", desc := "(II)I" } : Jvm.MethodName) ({ cls := "MarketDesk", name := "told", desc := "(II)I" } : Jvm.MethodName)) ∈ lw_big := tb_2 148 rfl rfl
theorem bm_389 : (Jvm.Cond.code ({ cls := "MarketDesk", name := "told", desc := "(II)I" } : Jvm.MethodName) prog_1_method_9_code (3 : Nat) (Option.some Jvm.ClassFile.FieldType.int)) ∈ lw_big := tb_2 149 rfl rfl
theorem bm_390 : (Jvm.Cond.methodLink "MarketDeskLaw" (112 : Nat) ({ cls := "MarketDeskLaw", name := "solve", desc := "(LMarketDesk;)I" } : Jvm.MethodName)) ∈ lw_big := tb_2 150 rfl rfl
theorem bm_391 : (Jvm.Cond.static ({ cls := "MarketDeskLaw", name := "solve", desc := "(LMarketDesk;)I" } : Jvm.MethodName)) ∈ lw_big := tb_2 151 rfl rfl
theorem bm_393 : (Jvm.Cond.methodLink "MarketDeskLaw" (43 : Nat) ({ cls := "MarketDesk", name := "solve", desc := "()V" } : Jvm.MethodName)) ∈ lw_big := tb_2 153 rfl rfl
theorem bm_394 : (Jvm.Cond.instanceMethod ({ cls := "MarketDesk", name := "solve", desc := "()V" } : Jvm.MethodName)) ∈ lw_big := tb_2 154 rfl rfl
theorem bm_395 : (Jvm.Cond.selects "MarketDesk" ({ cls := "MarketDesk", name := "solve", desc := "()V" } : Jvm.MethodName) ({ cls := "MarketDesk", name := "solve", desc := "()V" } : Jvm.MethodName)) ∈ lw_big := tb_2 155 rfl rfl
theorem bm_396 : (Jvm.Cond.code ({ cls := "MarketDesk", name := "solve", desc := "()V" } : Jvm.MethodName) prog_1_method_11_code (2 : Nat) (Option.none : Option Jvm.ClassFile.FieldType)) ∈ lw_big := tb_2 156 rfl rfl
theorem bm_397 : (Jvm.Cond.methodLink "MarketDesk" (120 : Nat) ({ cls := "MarketDesk", name := "needReady", desc := "()V" } : Jvm.MethodName)) ∈ lw_big := tb_2 157 rfl rfl
theorem bm_399 : (Jvm.Cond.instanceMethod ({ cls := "MarketDesk", name := "needReady", desc := "()V" } : Jvm.MethodName)) ∈ lw_big := tb_2 159 rfl rfl
theorem bm_400 : (Jvm.Cond.code ({ cls := "MarketDesk", name := "needReady", desc := "()V" } : Jvm.MethodName) prog_1_method_23_code (1 : Nat) (Option.none : Option Jvm.ClassFile.FieldType)) ∈ lw_big := tb_2 160 rfl rfl
theorem bm_401 : (Jvm.Cond.methodLink "MarketDesk" (201 : Nat) ({ cls := "MarketDesk", name := "ready", desc := "()I" } : Jvm.MethodName)) ∈ lw_big := tb_2 161 rfl rfl
theorem bm_403 : (Jvm.Cond.methodLink "MarketDesk" (127 : Nat) ({ cls := "MarketDesk$Search", name := "finds", desc := "(LMarketDesk$Market;LMarketDesk$Demand;)Z" } : Jvm.MethodName)) ∈ lw_big := tb_2 163 rfl rfl
theorem bm_404 : (Jvm.Cond.instanceMethod ({ cls := "MarketDesk$Search", name := "finds", desc := "(LMarketDesk$Market;LMarketDesk$Demand;)Z" } : Jvm.MethodName)) ∈ lw_big := tb_2 164 rfl rfl
theorem bm_405 : (Jvm.Cond.selects "MarketDesk$Search" ({ cls := "MarketDesk$Search", name := "finds", desc := "(LMarketDesk$Market;LMarketDesk$Demand;)Z" } : Jvm.MethodName) ({ cls := "MarketDesk$Search", name := "finds", desc := "(LMarketDesk$Market;LMarketDesk$Demand;)Z" } : Jvm.MethodName)) ∈ lw_big := tb_2 165 rfl rfl
theorem bm_406 : (Jvm.Cond.code ({ cls := "MarketDesk$Search", name := "finds", desc := "(LMarketDesk$Market;LMarketDesk$Demand;)Z" } : Jvm.MethodName) prog_5_method_2_code (6 : Nat) (Option.some Jvm.ClassFile.FieldType.boolean)) ∈ lw_big := tb_2 166 rfl rfl
theorem bm_407 : (Jvm.Cond.methodLink "MarketDesk$Search" (19 : Nat) ({ cls := "MarketDesk$Search", name := "wantedByAll", desc := "(LMarketDesk$Market;)I" } : Jvm.MethodName)) ∈ lw_big := tb_2 167 rfl rfl
theorem bm_408 : (Jvm.Cond.static ({ cls := "MarketDesk$Search", name := "wantedByAll", desc := "(LMarketDesk$Market;)I" } : Jvm.MethodName)) ∈ lw_big := tb_2 168 rfl rfl
theorem bm_409 : (Jvm.Cond.code ({ cls := "MarketDesk$Search", name := "wantedByAll", desc := "(LMarketDesk$Market;)I" } : Jvm.MethodName) prog_5_method_4_code (3 : Nat) (Option.some Jvm.ClassFile.FieldType.int)) ∈ lw_big := tb_2 169 rfl rfl
theorem bm_410 : (Jvm.Cond.methodLink "MarketDesk$Search" (54 : Nat) ({ cls := "MarketDesk$Market", name := "wantedBy", desc := "(I)I" } : Jvm.MethodName)) ∈ lw_big := tb_2 170 rfl rfl
theorem bm_411 : (Jvm.Cond.methodLink "MarketDesk$Search" (29 : Nat) ({ cls := "MarketDesk$Search", name := "coversAll", desc := "(LMarketDesk$Market;I)Z" } : Jvm.MethodName)) ∈ lw_big := tb_2 171 rfl rfl
theorem bm_412 : (Jvm.Cond.static ({ cls := "MarketDesk$Search", name := "coversAll", desc := "(LMarketDesk$Market;I)Z" } : Jvm.MethodName)) ∈ lw_big := tb_2 172 rfl rfl
theorem bm_413 : (Jvm.Cond.code ({ cls := "MarketDesk$Search", name := "coversAll", desc := "(LMarketDesk$Market;I)Z" } : Jvm.MethodName) prog_5_method_5_code (5 : Nat) (Option.some Jvm.ClassFile.FieldType.boolean)) ∈ lw_big := tb_2 173 rfl rfl
theorem bm_414 : (Jvm.Cond.methodLink "MarketDesk$Search" (58 : Nat) ({ cls := "MarketDesk$Search", name := "boughtBy", desc := "(II)I" } : Jvm.MethodName)) ∈ lw_big := tb_2 174 rfl rfl
theorem bm_415 : (Jvm.Cond.static ({ cls := "MarketDesk$Search", name := "boughtBy", desc := "(II)I" } : Jvm.MethodName)) ∈ lw_big := tb_2 175 rfl rfl
theorem bm_416 : (Jvm.Cond.code ({ cls := "MarketDesk$Search", name := "boughtBy", desc := "(II)I" } : Jvm.MethodName) prog_5_method_3_code (2 : Nat) (Option.some Jvm.ClassFile.FieldType.int)) ∈ lw_big := tb_2 176 rfl rfl
theorem bm_417 : (Jvm.Cond.methodLink "MarketDesk$Search" (33 : Nat) ({ cls := "MarketDesk$Search", name := "linksAll", desc := "(LMarketDesk$Market;I)Z" } : Jvm.MethodName)) ∈ lw_big := tb_2 177 rfl rfl
theorem bm_419 : (Jvm.Cond.instanceMethod ({ cls := "MarketDesk$Search", name := "linksAll", desc := "(LMarketDesk$Market;I)Z" } : Jvm.MethodName)) ∈ lw_big := tb_2 179 rfl rfl
theorem bm_420 : (Jvm.Cond.code ({ cls := "MarketDesk$Search", name := "linksAll", desc := "(LMarketDesk$Market;I)Z" } : Jvm.MethodName) prog_5_method_6_code (7 : Nat) (Option.some Jvm.ClassFile.FieldType.boolean)) ∈ lw_big := tb_2 180 rfl rfl
theorem bm_422 : (Jvm.Cond.static ({ cls := "MarketDesk", name := "firstOf", desc := "(I)I" } : Jvm.MethodName)) ∈ lw_big := tb_2 182 rfl rfl
theorem bm_423 : (Jvm.Cond.code ({ cls := "MarketDesk", name := "firstOf", desc := "(I)I" } : Jvm.MethodName) prog_1_method_27_code (2 : Nat) (Option.some Jvm.ClassFile.FieldType.int)) ∈ lw_big := tb_2 183 rfl rfl
theorem bm_425 : (Jvm.Cond.methodLink "MarketDesk$Search" (72 : Nat) ({ cls := "MarketDesk$Search", name := "links", desc := "(LMarketDesk$Market;III)Z" } : Jvm.MethodName)) ∈ lw_big := tb_2 185 rfl rfl
theorem bm_427 : (Jvm.Cond.instanceMethod ({ cls := "MarketDesk$Search", name := "links", desc := "(LMarketDesk$Market;III)Z" } : Jvm.MethodName)) ∈ lw_big := tb_2 187 rfl rfl
theorem bm_428 : (Jvm.Cond.code ({ cls := "MarketDesk$Search", name := "links", desc := "(LMarketDesk$Market;III)Z" } : Jvm.MethodName) prog_5_method_7_code (12 : Nat) (Option.some Jvm.ClassFile.FieldType.boolean)) ∈ lw_big := tb_2 188 rfl rfl
theorem bm_430 : (Jvm.Cond.methodLink "MarketDesk$Search" (36 : Nat) ({ cls := "MarketDesk$Search", name := "tellPrices", desc := "(LMarketDesk$Market;I)V" } : Jvm.MethodName)) ∈ lw_big := tb_2 190 rfl rfl
theorem bm_432 : (Jvm.Cond.instanceMethod ({ cls := "MarketDesk$Search", name := "tellPrices", desc := "(LMarketDesk$Market;I)V" } : Jvm.MethodName)) ∈ lw_big := tb_2 192 rfl rfl
theorem bm_433 : (Jvm.Cond.code ({ cls := "MarketDesk$Search", name := "tellPrices", desc := "(LMarketDesk$Market;I)V" } : Jvm.MethodName) prog_5_method_8_code (4 : Nat) (Option.none : Option Jvm.ClassFile.FieldType)) ∈ lw_big := tb_2 193 rfl rfl
theorem bm_434 : (Jvm.Cond.methodLink "MarketDesk$Search" (87 : Nat) ({ cls := "MarketDesk$Search", name := "moneyFor", desc := "(LMarketDesk$Market;II)J" } : Jvm.MethodName)) ∈ lw_big := tb_2 194 rfl rfl
theorem bm_435 : (Jvm.Cond.static ({ cls := "MarketDesk$Search", name := "moneyFor", desc := "(LMarketDesk$Market;II)J" } : Jvm.MethodName)) ∈ lw_big := tb_2 195 rfl rfl
theorem bm_436 : (Jvm.Cond.code ({ cls := "MarketDesk$Search", name := "moneyFor", desc := "(LMarketDesk$Market;II)J" } : Jvm.MethodName) prog_5_method_9_code (6 : Nat) (Option.some Jvm.ClassFile.FieldType.long)) ∈ lw_big := tb_2 196 rfl rfl
theorem bm_437 : (Jvm.Cond.methodLink "MarketDesk$Search" (94 : Nat) ({ cls := "MarketDesk$Search", name := "weightOf", desc := "(LMarketDesk$Market;I)J" } : Jvm.MethodName)) ∈ lw_big := tb_2 197 rfl rfl
theorem bm_439 : (Jvm.Cond.instanceMethod ({ cls := "MarketDesk$Search", name := "weightOf", desc := "(LMarketDesk$Market;I)J" } : Jvm.MethodName)) ∈ lw_big := tb_2 199 rfl rfl
theorem bm_440 : (Jvm.Cond.code ({ cls := "MarketDesk$Search", name := "weightOf", desc := "(LMarketDesk$Market;I)J" } : Jvm.MethodName) prog_5_method_10_code (6 : Nat) (Option.some Jvm.ClassFile.FieldType.long)) ∈ lw_big := tb_2 200 rfl rfl
theorem bm_441 : (Jvm.Cond.methodLink "MarketDesk$Search" (44 : Nat) ({ cls := "MarketDesk$Demand", name := "look", desc := "(LMarketDesk$Market;LMarketDesk$Prices;)V" } : Jvm.MethodName)) ∈ lw_big := tb_2 201 rfl rfl
theorem bm_442 : (Jvm.Cond.instanceMethod ({ cls := "MarketDesk$Demand", name := "look", desc := "(LMarketDesk$Market;LMarketDesk$Prices;)V" } : Jvm.MethodName)) ∈ lw_big := tb_2 202 rfl rfl
theorem bm_443 : (Jvm.Cond.selects "MarketDesk$Demand" ({ cls := "MarketDesk$Demand", name := "look", desc := "(LMarketDesk$Market;LMarketDesk$Prices;)V" } : Jvm.MethodName) ({ cls := "MarketDesk$Demand", name := "look", desc := "(LMarketDesk$Market;LMarketDesk$Prices;)V" } : Jvm.MethodName)) ∈ lw_big := tb_2 203 rfl rfl
theorem bm_444 : (Jvm.Cond.code ({ cls := "MarketDesk$Demand", name := "look", desc := "(LMarketDesk$Market;LMarketDesk$Prices;)V" } : Jvm.MethodName) prog_2_method_2_code (4 : Nat) (Option.none : Option Jvm.ClassFile.FieldType)) ∈ lw_big := tb_2 204 rfl rfl
theorem bm_445 : (Jvm.Cond.methodLink "MarketDesk$Demand" (37 : Nat) ({ cls := "MarketDesk$Demand", name := "productButFor", desc := "(LMarketDesk$Prices;I)J" } : Jvm.MethodName)) ∈ lw_big := tb_2 205 rfl rfl
theorem bm_447 : (Jvm.Cond.instanceMethod ({ cls := "MarketDesk$Demand", name := "productButFor", desc := "(LMarketDesk$Prices;I)J" } : Jvm.MethodName)) ∈ lw_big := tb_2 207 rfl rfl
theorem bm_448 : (Jvm.Cond.code ({ cls := "MarketDesk$Demand", name := "productButFor", desc := "(LMarketDesk$Prices;I)J" } : Jvm.MethodName) prog_2_method_3_code (6 : Nat) (Option.some Jvm.ClassFile.FieldType.long)) ∈ lw_big := tb_2 208 rfl rfl
theorem bm_449 : (Jvm.Cond.methodLink "MarketDesk$Demand" (49 : Nat) ({ cls := "MarketDesk$Demand", name := "likedBy", desc := "(LMarketDesk$Market;I)I" } : Jvm.MethodName)) ∈ lw_big := tb_2 209 rfl rfl
theorem bm_451 : (Jvm.Cond.instanceMethod ({ cls := "MarketDesk$Demand", name := "likedBy", desc := "(LMarketDesk$Market;I)I" } : Jvm.MethodName)) ∈ lw_big := tb_2 211 rfl rfl
theorem bm_452 : (Jvm.Cond.code ({ cls := "MarketDesk$Demand", name := "likedBy", desc := "(LMarketDesk$Market;I)I" } : Jvm.MethodName) prog_2_method_4_code (6 : Nat) (Option.some Jvm.ClassFile.FieldType.int)) ∈ lw_big := tb_2 212 rfl rfl
theorem bm_453 : (Jvm.Cond.methodLink "MarketDesk$Demand" (56 : Nat) ({ cls := "MarketDesk$Demand", name := "compareGoods", desc := "(LMarketDesk$Market;III)I" } : Jvm.MethodName)) ∈ lw_big := tb_2 213 rfl rfl
theorem bm_455 : (Jvm.Cond.instanceMethod ({ cls := "MarketDesk$Demand", name := "compareGoods", desc := "(LMarketDesk$Market;III)I" } : Jvm.MethodName)) ∈ lw_big := tb_2 215 rfl rfl
theorem bm_456 : (Jvm.Cond.code ({ cls := "MarketDesk$Demand", name := "compareGoods", desc := "(LMarketDesk$Market;III)I" } : Jvm.MethodName) prog_2_method_5_code (5 : Nat) (Option.some Jvm.ClassFile.FieldType.int)) ∈ lw_big := tb_2 216 rfl rfl
theorem bm_458 : (Jvm.Cond.methodLink "MarketDesk$Demand" (67 : Nat) ({ cls := "java/lang/Long", name := "compare", desc := "(JJ)I" } : Jvm.MethodName)) ∈ lw_big := tb_2 218 rfl rfl
theorem bm_459 : (Jvm.Cond.static ({ cls := "java/lang/Long", name := "compare", desc := "(JJ)I" } : Jvm.MethodName)) ∈ lw_big := tb_2 219 rfl rfl
theorem bm_460 : (Jvm.Cond.code ({ cls := "java/lang/Long", name := "compare", desc := "(JJ)I" } : Jvm.MethodName) prog_12_method_42_code (4 : Nat) (Option.some Jvm.ClassFile.FieldType.int)) ∈ lw_big := tb_2 220 rfl rfl
theorem bm_461 : (Jvm.Cond.methodLink "MarketDesk$Search" (50 : Nat) ({ cls := "MarketDesk$Demand", name := "firstTooDear", desc := "()I" } : Jvm.MethodName)) ∈ lw_big := tb_2 221 rfl rfl
theorem bm_462 : (Jvm.Cond.instanceMethod ({ cls := "MarketDesk$Demand", name := "firstTooDear", desc := "()I" } : Jvm.MethodName)) ∈ lw_big := tb_2 222 rfl rfl
theorem bm_463 : (Jvm.Cond.selects "MarketDesk$Demand" ({ cls := "MarketDesk$Demand", name := "firstTooDear", desc := "()I" } : Jvm.MethodName) ({ cls := "MarketDesk$Demand", name := "firstTooDear", desc := "()I" } : Jvm.MethodName)) ∈ lw_big := tb_2 223 rfl rfl
theorem bm_464 : (Jvm.Cond.code ({ cls := "MarketDesk$Demand", name := "firstTooDear", desc := "()I" } : Jvm.MethodName) prog_2_method_7_code (2 : Nat) (Option.some Jvm.ClassFile.FieldType.int)) ∈ lw_big := tb_2 224 rfl rfl
theorem bm_465 : (Jvm.Cond.methodLink "MarketDesk$Demand" (73 : Nat) ({ cls := "MarketDesk$Demand", name := "costOf", desc := "(I)J" } : Jvm.MethodName)) ∈ lw_big := tb_2 225 rfl rfl
theorem bm_467 : (Jvm.Cond.instanceMethod ({ cls := "MarketDesk$Demand", name := "costOf", desc := "(I)J" } : Jvm.MethodName)) ∈ lw_big := tb_2 227 rfl rfl
theorem bm_468 : (Jvm.Cond.code ({ cls := "MarketDesk$Demand", name := "costOf", desc := "(I)J" } : Jvm.MethodName) prog_2_method_8_code (5 : Nat) (Option.some Jvm.ClassFile.FieldType.long)) ∈ lw_big := tb_2 228 rfl rfl
theorem bm_470 : (Jvm.Cond.methodLink "MarketDesk$Demand" (77 : Nat) ({ cls := "MarketDesk$Demand", name := "fundsFor", desc := "(I)J" } : Jvm.MethodName)) ∈ lw_big := tb_2 230 rfl rfl
theorem bm_472 : (Jvm.Cond.instanceMethod ({ cls := "MarketDesk$Demand", name := "fundsFor", desc := "(I)J" } : Jvm.MethodName)) ∈ lw_big := tb_2 232 rfl rfl
theorem bm_473 : (Jvm.Cond.code ({ cls := "MarketDesk$Demand", name := "fundsFor", desc := "(I)J" } : Jvm.MethodName) prog_2_method_9_code (5 : Nat) (Option.some Jvm.ClassFile.FieldType.long)) ∈ lw_big := tb_2 233 rfl rfl
theorem bm_474 : (Jvm.Cond.methodLink "MarketDesk" (140 : Nat) ({ cls := "MarketDesk$Demand", name := "divideInto", desc := "([J)V" } : Jvm.MethodName)) ∈ lw_big := tb_2 234 rfl rfl
theorem bm_475 : (Jvm.Cond.instanceMethod ({ cls := "MarketDesk$Demand", name := "divideInto", desc := "([J)V" } : Jvm.MethodName)) ∈ lw_big := tb_2 235 rfl rfl
theorem bm_476 : (Jvm.Cond.selects "MarketDesk$Demand" ({ cls := "MarketDesk$Demand", name := "divideInto", desc := "([J)V" } : Jvm.MethodName) ({ cls := "MarketDesk$Demand", name := "divideInto", desc := "([J)V" } : Jvm.MethodName)) ∈ lw_big := tb_2 236 rfl rfl
theorem bm_477 : (Jvm.Cond.code ({ cls := "MarketDesk$Demand", name := "divideInto", desc := "([J)V" } : Jvm.MethodName) prog_2_method_10_code (4 : Nat) (Option.none : Option Jvm.ClassFile.FieldType)) ∈ lw_big := tb_2 237 rfl rfl
theorem bm_478 : (Jvm.Cond.methodLink "MarketDesk$Demand" (84 : Nat) ({ cls := "MarketDesk$Demand", name := "spendMost", desc := "(II)J" } : Jvm.MethodName)) ∈ lw_big := tb_2 238 rfl rfl
theorem bm_480 : (Jvm.Cond.instanceMethod ({ cls := "MarketDesk$Demand", name := "spendMost", desc := "(II)J" } : Jvm.MethodName)) ∈ lw_big := tb_3 0 rfl rfl
theorem bm_481 : (Jvm.Cond.code ({ cls := "MarketDesk$Demand", name := "spendMost", desc := "(II)J" } : Jvm.MethodName) prog_2_method_11_code (6 : Nat) (Option.some Jvm.ClassFile.FieldType.long)) ∈ lw_big := tb_3 1 rfl rfl
theorem bm_482 : (Jvm.Cond.methodLink "MarketDesk$Demand" (88 : Nat) ({ cls := "java/lang/Math", name := "min", desc := "(JJ)J" } : Jvm.MethodName)) ∈ lw_big := tb_3 2 rfl rfl
theorem bm_483 : (Jvm.Cond.static ({ cls := "java/lang/Math", name := "min", desc := "(JJ)J" } : Jvm.MethodName)) ∈ lw_big := tb_3 3 rfl rfl
theorem bm_484 : (Jvm.Cond.code ({ cls := "java/lang/Math", name := "min", desc := "(JJ)J" } : Jvm.MethodName) prog_13_method_70_code (4 : Nat) (Option.some Jvm.ClassFile.FieldType.long)) ∈ lw_big := tb_3 4 rfl rfl
theorem bm_485 : (Jvm.Cond.methodLink "MarketDeskLaw" (116 : Nat) ({ cls := "MarketDeskLaw", name := "price", desc := "(LMarketDesk;IZ[J)I" } : Jvm.MethodName)) ∈ lw_big := tb_3 5 rfl rfl
theorem bm_486 : (Jvm.Cond.static ({ cls := "MarketDeskLaw", name := "price", desc := "(LMarketDesk;IZ[J)I" } : Jvm.MethodName)) ∈ lw_big := tb_3 6 rfl rfl
theorem bm_488 : (Jvm.Cond.methodLink "MarketDeskLaw" (46 : Nat) ({ cls := "MarketDesk", name := "price", desc := "(IZ)J" } : Jvm.MethodName)) ∈ lw_big := tb_3 8 rfl rfl
theorem bm_489 : (Jvm.Cond.instanceMethod ({ cls := "MarketDesk", name := "price", desc := "(IZ)J" } : Jvm.MethodName)) ∈ lw_big := tb_3 9 rfl rfl
theorem bm_490 : (Jvm.Cond.selects "MarketDesk" ({ cls := "MarketDesk", name := "price", desc := "(IZ)J" } : Jvm.MethodName) ({ cls := "MarketDesk", name := "price", desc := "(IZ)J" } : Jvm.MethodName)) ∈ lw_big := tb_3 10 rfl rfl
theorem bm_491 : (Jvm.Cond.code ({ cls := "MarketDesk", name := "price", desc := "(IZ)J" } : Jvm.MethodName) prog_1_method_12_code (4 : Nat) (Option.some Jvm.ClassFile.FieldType.long)) ∈ lw_big := tb_3 11 rfl rfl
theorem bm_492 : (Jvm.Cond.methodLink "MarketDesk" (144 : Nat) ({ cls := "MarketDesk", name := "needSolved", desc := "()V" } : Jvm.MethodName)) ∈ lw_big := tb_3 12 rfl rfl
theorem bm_494 : (Jvm.Cond.instanceMethod ({ cls := "MarketDesk", name := "needSolved", desc := "()V" } : Jvm.MethodName)) ∈ lw_big := tb_3 14 rfl rfl
theorem bm_495 : (Jvm.Cond.code ({ cls := "MarketDesk", name := "needSolved", desc := "()V" } : Jvm.MethodName) prog_1_method_24_code (1 : Nat) (Option.none : Option Jvm.ClassFile.FieldType)) ∈ lw_big := tb_3 15 rfl rfl
theorem bm_497 : (Jvm.Cond.methodLink "MarketDesk" (156 : Nat) ({ cls := "MarketDesk", name := "lowest", desc := "(JJZ)J" } : Jvm.MethodName)) ∈ lw_big := tb_3 17 rfl rfl
theorem bm_498 : (Jvm.Cond.static ({ cls := "MarketDesk", name := "lowest", desc := "(JJZ)J" } : Jvm.MethodName)) ∈ lw_big := tb_3 18 rfl rfl
theorem bm_499 : (Jvm.Cond.code ({ cls := "MarketDesk", name := "lowest", desc := "(JJZ)J" } : Jvm.MethodName) prog_1_method_28_code (7 : Nat) (Option.some Jvm.ClassFile.FieldType.long)) ∈ lw_big := tb_3 19 rfl rfl
theorem bm_500 : (Jvm.Cond.methodLink "MarketDesk" (208 : Nat) ({ cls := "MarketDesk", name := "commonDivisor", desc := "(JJ)J" } : Jvm.MethodName)) ∈ lw_big := tb_3 20 rfl rfl
theorem bm_501 : (Jvm.Cond.static ({ cls := "MarketDesk", name := "commonDivisor", desc := "(JJ)J" } : Jvm.MethodName)) ∈ lw_big := tb_3 21 rfl rfl
theorem bm_502 : (Jvm.Cond.code ({ cls := "MarketDesk", name := "commonDivisor", desc := "(JJ)J" } : Jvm.MethodName) prog_1_method_29_code (11 : Nat) (Option.some Jvm.ClassFile.FieldType.long)) ∈ lw_big := tb_3 22 rfl rfl
theorem bm_503 : (Jvm.Cond.methodLink "MarketDesk" (212 : Nat) ({ cls := "java/lang/Math", name := "max", desc := "(JJ)J" } : Jvm.MethodName)) ∈ lw_big := tb_3 23 rfl rfl
theorem bm_504 : (Jvm.Cond.static ({ cls := "java/lang/Math", name := "max", desc := "(JJ)J" } : Jvm.MethodName)) ∈ lw_big := tb_3 24 rfl rfl
theorem bm_505 : (Jvm.Cond.code ({ cls := "java/lang/Math", name := "max", desc := "(JJ)J" } : Jvm.MethodName) prog_13_method_66_code (4 : Nat) (Option.some Jvm.ClassFile.FieldType.long)) ∈ lw_big := tb_3 25 rfl rfl
theorem bm_506 : (Jvm.Cond.methodLink "MarketDeskLaw" (120 : Nat) ({ cls := "MarketDeskLaw", name := "best", desc := "(LMarketDesk;IIZ[J)I" } : Jvm.MethodName)) ∈ lw_big := tb_3 26 rfl rfl
theorem bm_507 : (Jvm.Cond.static ({ cls := "MarketDeskLaw", name := "best", desc := "(LMarketDesk;IIZ[J)I" } : Jvm.MethodName)) ∈ lw_big := tb_3 27 rfl rfl
theorem bm_509 : (Jvm.Cond.methodLink "MarketDeskLaw" (50 : Nat) ({ cls := "MarketDesk", name := "best", desc := "(IIZ)J" } : Jvm.MethodName)) ∈ lw_big := tb_3 29 rfl rfl
theorem bm_510 : (Jvm.Cond.instanceMethod ({ cls := "MarketDesk", name := "best", desc := "(IIZ)J" } : Jvm.MethodName)) ∈ lw_big := tb_3 30 rfl rfl
theorem bm_511 : (Jvm.Cond.selects "MarketDesk" ({ cls := "MarketDesk", name := "best", desc := "(IIZ)J" } : Jvm.MethodName) ({ cls := "MarketDesk", name := "best", desc := "(IIZ)J" } : Jvm.MethodName)) ∈ lw_big := tb_3 31 rfl rfl
theorem bm_512 : (Jvm.Cond.code ({ cls := "MarketDesk", name := "best", desc := "(IIZ)J" } : Jvm.MethodName) prog_1_method_13_code (10 : Nat) (Option.some Jvm.ClassFile.FieldType.long)) ∈ lw_big := tb_3 32 rfl rfl
theorem bm_513 : (Jvm.Cond.methodLink "MarketDesk" (160 : Nat) ({ cls := "MarketDesk", name := "needWhat", desc := "(I)V" } : Jvm.MethodName)) ∈ lw_big := tb_3 33 rfl rfl
theorem bm_514 : (Jvm.Cond.static ({ cls := "MarketDesk", name := "needWhat", desc := "(I)V" } : Jvm.MethodName)) ∈ lw_big := tb_3 34 rfl rfl
theorem bm_515 : (Jvm.Cond.code ({ cls := "MarketDesk", name := "needWhat", desc := "(I)V" } : Jvm.MethodName) prog_1_method_21_code (1 : Nat) (Option.none : Option Jvm.ClassFile.FieldType)) ∈ lw_big := tb_3 35 rfl rfl
theorem bm_517 : (Jvm.Cond.methodLink "MarketDesk" (163 : Nat) ({ cls := "MarketDesk$Demand", name := "look", desc := "(LMarketDesk$Market;LMarketDesk$Prices;)V" } : Jvm.MethodName)) ∈ lw_big := tb_3 37 rfl rfl
theorem bm_518 : (Jvm.Cond.methodLink "MarketDesk" (170 : Nat) ({ cls := "MarketDesk", name := "firstOf", desc := "(I)I" } : Jvm.MethodName)) ∈ lw_big := tb_3 38 rfl rfl
theorem bm_519 : (Jvm.Cond.methodLink "MarketDeskLaw" (124 : Nat) ({ cls := "MarketDeskLaw", name := "likes", desc := "(LMarketDesk;II[J)I" } : Jvm.MethodName)) ∈ lw_big := tb_3 39 rfl rfl
theorem bm_520 : (Jvm.Cond.static ({ cls := "MarketDeskLaw", name := "likes", desc := "(LMarketDesk;II[J)I" } : Jvm.MethodName)) ∈ lw_big := tb_3 40 rfl rfl
theorem bm_522 : (Jvm.Cond.methodLink "MarketDeskLaw" (54 : Nat) ({ cls := "MarketDesk", name := "likes", desc := "(II)Z" } : Jvm.MethodName)) ∈ lw_big := tb_3 42 rfl rfl
theorem bm_523 : (Jvm.Cond.instanceMethod ({ cls := "MarketDesk", name := "likes", desc := "(II)Z" } : Jvm.MethodName)) ∈ lw_big := tb_3 43 rfl rfl
theorem bm_524 : (Jvm.Cond.selects "MarketDesk" ({ cls := "MarketDesk", name := "likes", desc := "(II)Z" } : Jvm.MethodName) ({ cls := "MarketDesk", name := "likes", desc := "(II)Z" } : Jvm.MethodName)) ∈ lw_big := tb_3 44 rfl rfl
theorem bm_525 : (Jvm.Cond.code ({ cls := "MarketDesk", name := "likes", desc := "(II)Z" } : Jvm.MethodName) prog_1_method_14_code (3 : Nat) (Option.some Jvm.ClassFile.FieldType.boolean)) ∈ lw_big := tb_3 45 rfl rfl
theorem bm_526 : (Jvm.Cond.methodLink "MarketDeskLaw" (127 : Nat) ({ cls := "MarketDeskLaw", name := "spent", desc := "(LMarketDesk;IIIZ[J)I" } : Jvm.MethodName)) ∈ lw_big := tb_3 46 rfl rfl
theorem bm_527 : (Jvm.Cond.static ({ cls := "MarketDeskLaw", name := "spent", desc := "(LMarketDesk;IIIZ[J)I" } : Jvm.MethodName)) ∈ lw_big := tb_3 47 rfl rfl
theorem bm_529 : (Jvm.Cond.methodLink "MarketDeskLaw" (58 : Nat) ({ cls := "MarketDesk", name := "spent", desc := "(IIIZ)J" } : Jvm.MethodName)) ∈ lw_big := tb_3 49 rfl rfl
theorem bm_530 : (Jvm.Cond.instanceMethod ({ cls := "MarketDesk", name := "spent", desc := "(IIIZ)J" } : Jvm.MethodName)) ∈ lw_big := tb_3 50 rfl rfl
theorem bm_531 : (Jvm.Cond.selects "MarketDesk" ({ cls := "MarketDesk", name := "spent", desc := "(IIIZ)J" } : Jvm.MethodName) ({ cls := "MarketDesk", name := "spent", desc := "(IIIZ)J" } : Jvm.MethodName)) ∈ lw_big := tb_3 51 rfl rfl
theorem bm_532 : (Jvm.Cond.code ({ cls := "MarketDesk", name := "spent", desc := "(IIIZ)J" } : Jvm.MethodName) prog_1_method_15_code (8 : Nat) (Option.some Jvm.ClassFile.FieldType.long)) ∈ lw_big := tb_3 52 rfl rfl
theorem bm_533 : (Jvm.Cond.methodLink "MarketDeskLaw" (131 : Nat) ({ cls := "MarketDeskLaw", name := "tryPrice", desc := "(LMarketDesk;III)I" } : Jvm.MethodName)) ∈ lw_big := tb_3 53 rfl rfl
theorem bm_534 : (Jvm.Cond.static ({ cls := "MarketDeskLaw", name := "tryPrice", desc := "(LMarketDesk;III)I" } : Jvm.MethodName)) ∈ lw_big := tb_3 54 rfl rfl
theorem bm_536 : (Jvm.Cond.methodLink "MarketDeskLaw" (62 : Nat) ({ cls := "MarketDesk", name := "tryPrice", desc := "(III)V" } : Jvm.MethodName)) ∈ lw_big := tb_3 56 rfl rfl
theorem bm_537 : (Jvm.Cond.instanceMethod ({ cls := "MarketDesk", name := "tryPrice", desc := "(III)V" } : Jvm.MethodName)) ∈ lw_big := tb_3 57 rfl rfl
theorem bm_538 : (Jvm.Cond.selects "MarketDesk" ({ cls := "MarketDesk", name := "tryPrice", desc := "(III)V" } : Jvm.MethodName) ({ cls := "MarketDesk", name := "tryPrice", desc := "(III)V" } : Jvm.MethodName)) ∈ lw_big := tb_3 58 rfl rfl
theorem bm_539 : (Jvm.Cond.code ({ cls := "MarketDesk", name := "tryPrice", desc := "(III)V" } : Jvm.MethodName) prog_1_method_16_code (4 : Nat) (Option.none : Option Jvm.ClassFile.FieldType)) ∈ lw_big := tb_3 59 rfl rfl
theorem bm_541 : (Jvm.Cond.constant "MarketDesk" (175 : Nat) (100000 : Int32)) ∈ lw_big := tb_3 61 rfl rfl
theorem bm_542 : (Jvm.Cond.methodLink "MarketDeskLaw" (134 : Nat) ({ cls := "MarketDeskLaw", name := "test", desc := "(LMarketDesk;[J)I" } : Jvm.MethodName)) ∈ lw_big := tb_3 62 rfl rfl
theorem bm_543 : (Jvm.Cond.static ({ cls := "MarketDeskLaw", name := "test", desc := "(LMarketDesk;[J)I" } : Jvm.MethodName)) ∈ lw_big := tb_3 63 rfl rfl
theorem bm_545 : (Jvm.Cond.methodLink "MarketDeskLaw" (65 : Nat) ({ cls := "MarketDesk", name := "test", desc := "()I" } : Jvm.MethodName)) ∈ lw_big := tb_3 65 rfl rfl
theorem bm_546 : (Jvm.Cond.instanceMethod ({ cls := "MarketDesk", name := "test", desc := "()I" } : Jvm.MethodName)) ∈ lw_big := tb_3 66 rfl rfl
theorem bm_547 : (Jvm.Cond.selects "MarketDesk" ({ cls := "MarketDesk", name := "test", desc := "()I" } : Jvm.MethodName) ({ cls := "MarketDesk", name := "test", desc := "()I" } : Jvm.MethodName)) ∈ lw_big := tb_3 67 rfl rfl
theorem bm_548 : (Jvm.Cond.code ({ cls := "MarketDesk", name := "test", desc := "()I" } : Jvm.MethodName) prog_1_method_17_code (1 : Nat) (Option.some Jvm.ClassFile.FieldType.int)) ∈ lw_big := tb_3 68 rfl rfl
theorem bm_549 : (Jvm.Cond.methodLink "MarketDesk" (176 : Nat) ({ cls := "MarketDesk$Demand", name := "sumsAgree", desc := "()Z" } : Jvm.MethodName)) ∈ lw_big := tb_3 69 rfl rfl
theorem bm_550 : (Jvm.Cond.instanceMethod ({ cls := "MarketDesk$Demand", name := "sumsAgree", desc := "()Z" } : Jvm.MethodName)) ∈ lw_big := tb_3 70 rfl rfl
theorem bm_551 : (Jvm.Cond.selects "MarketDesk$Demand" ({ cls := "MarketDesk$Demand", name := "sumsAgree", desc := "()Z" } : Jvm.MethodName) ({ cls := "MarketDesk$Demand", name := "sumsAgree", desc := "()Z" } : Jvm.MethodName)) ∈ lw_big := tb_3 71 rfl rfl
theorem bm_552 : (Jvm.Cond.code ({ cls := "MarketDesk$Demand", name := "sumsAgree", desc := "()Z" } : Jvm.MethodName) prog_2_method_6_code (4 : Nat) (Option.some Jvm.ClassFile.FieldType.boolean)) ∈ lw_big := tb_3 72 rfl rfl
theorem bm_553 : (Jvm.Cond.methodLink "MarketDesk" (180 : Nat) ({ cls := "MarketDesk$Demand", name := "firstTooDear", desc := "()I" } : Jvm.MethodName)) ∈ lw_big := tb_3 73 rfl rfl
theorem bm_554 : (Jvm.Cond.classLink "MarketDeskLaw" (69 : Nat) "MarketDeskModel") ∈ lw_big := tb_3 74 rfl rfl
theorem bm_555 : (Jvm.Cond.instantiable "MarketDeskModel" (15 : Nat)) ∈ lw_big := tb_3 75 rfl rfl
theorem bm_556 : (Jvm.Cond.methodLink "MarketDeskLaw" (71 : Nat) ({ cls := "MarketDeskModel", name := "<init>", desc := "()V" } : Jvm.MethodName)) ∈ lw_big := tb_3 76 rfl rfl
theorem bm_557 : (Jvm.Cond.instanceMethod ({ cls := "MarketDeskModel", name := "<init>", desc := "()V" } : Jvm.MethodName)) ∈ lw_big := tb_3 77 rfl rfl
theorem bm_558 : (Jvm.Cond.code ({ cls := "MarketDeskModel", name := "<init>", desc := "()V" } : Jvm.MethodName) prog_7_method_1_code (1 : Nat) (Option.none : Option Jvm.ClassFile.FieldType)) ∈ lw_big := tb_3 78 rfl rfl
theorem bm_559 : (Jvm.Cond.methodLink "MarketDeskModel" (1 : Nat) ({ cls := "java/lang/Object", name := "<init>", desc := "()V" } : Jvm.MethodName)) ∈ lw_big := tb_3 79 rfl rfl
theorem bm_560 : (Jvm.Cond.fieldLink "MarketDeskModel" (48 : Nat) "MarketDeskModel" "thrown" "I") ∈ lw_big := tb_3 80 rfl rfl
theorem bm_561 : (Jvm.Cond.fieldLink "MarketDeskModel" (7 : Nat) "MarketDeskModel" "now" "[I") ∈ lw_big := tb_3 81 rfl rfl
theorem bm_562 : (Jvm.Cond.fieldLink "MarketDeskModel" (13 : Nat) "MarketDeskModel" "past" "[I") ∈ lw_big := tb_3 82 rfl rfl
theorem bm_563 : (Jvm.Cond.fieldLink "MarketDeskModel" (59 : Nat) "MarketDeskModel" "pasts" "I") ∈ lw_big := tb_3 83 rfl rfl
theorem bm_564 : (Jvm.Cond.fieldLink "MarketDeskModel" (16 : Nat) "MarketDeskModel" "prices" "[J") ∈ lw_big := tb_3 84 rfl rfl
theorem bm_565 : (Jvm.Cond.fieldLink "MarketDeskModel" (100 : Nat) "MarketDeskModel" "line" "J") ∈ lw_big := tb_3 85 rfl rfl
theorem bm_566 : (Jvm.Cond.fieldLink "MarketDeskModel" (20 : Nat) "MarketDeskModel" "spent" "[J") ∈ lw_big := tb_3 86 rfl rfl
theorem bm_567 : (Jvm.Cond.fieldLink "MarketDeskModel" (23 : Nat) "MarketDeskModel" "likes" "[Z") ∈ lw_big := tb_3 87 rfl rfl
theorem bm_568 : (Jvm.Cond.fieldLink "MarketDeskModel" (27 : Nat) "MarketDeskModel" "open" "[Z") ∈ lw_big := tb_3 88 rfl rfl
theorem bm_569 : (Jvm.Cond.fieldLink "MarketDeskModel" (30 : Nat) "MarketDeskModel" "purse" "[J") ∈ lw_big := tb_3 89 rfl rfl
theorem bm_570 : (Jvm.Cond.fieldLink "MarketDeskModel" (33 : Nat) "MarketDeskModel" "rest" "[J") ∈ lw_big := tb_3 90 rfl rfl
theorem bm_571 : (Jvm.Cond.fieldLink "MarketDeskModel" (36 : Nat) "MarketDeskModel" "part" "[J") ∈ lw_big := tb_3 91 rfl rfl
theorem bm_572 : (Jvm.Cond.fieldLink "MarketDeskModel" (39 : Nat) "MarketDeskModel" "group" "[I") ∈ lw_big := tb_3 92 rfl rfl
theorem bm_573 : (Jvm.Cond.fieldLink "MarketDeskModel" (42 : Nat) "MarketDeskModel" "above" "[I") ∈ lw_big := tb_3 93 rfl rfl
theorem bm_574 : (Jvm.Cond.fieldLink "MarketDeskModel" (45 : Nat) "MarketDeskModel" "below" "[I") ∈ lw_big := tb_3 94 rfl rfl
theorem bm_575 : (Jvm.Cond.lays "MarketDeskModel" "MarketDeskModel" "thrown" "I") ∈ lw_big := tb_3 95 rfl rfl
theorem bm_577 : (Jvm.Cond.laysFinal "MarketDeskModel" "MarketDeskModel" "now" "[I") ∈ lw_big := tb_3 97 rfl rfl
theorem bm_579 : (Jvm.Cond.laysFinal "MarketDeskModel" "MarketDeskModel" "past" "[I") ∈ lw_big := tb_3 99 rfl rfl
theorem bm_581 : (Jvm.Cond.lays "MarketDeskModel" "MarketDeskModel" "pasts" "I") ∈ lw_big := tb_3 101 rfl rfl
theorem bm_583 : (Jvm.Cond.laysFinal "MarketDeskModel" "MarketDeskModel" "prices" "[J") ∈ lw_big := tb_3 103 rfl rfl
theorem bm_585 : (Jvm.Cond.lays "MarketDeskModel" "MarketDeskModel" "line" "J") ∈ lw_big := tb_3 105 rfl rfl
theorem bm_587 : (Jvm.Cond.laysFinal "MarketDeskModel" "MarketDeskModel" "spent" "[J") ∈ lw_big := tb_3 107 rfl rfl
theorem bm_589 : (Jvm.Cond.laysFinal "MarketDeskModel" "MarketDeskModel" "likes" "[Z") ∈ lw_big := tb_3 109 rfl rfl
theorem bm_591 : (Jvm.Cond.laysFinal "MarketDeskModel" "MarketDeskModel" "open" "[Z") ∈ lw_big := tb_3 111 rfl rfl
theorem bm_593 : (Jvm.Cond.laysFinal "MarketDeskModel" "MarketDeskModel" "purse" "[J") ∈ lw_big := tb_3 113 rfl rfl
theorem bm_595 : (Jvm.Cond.laysFinal "MarketDeskModel" "MarketDeskModel" "rest" "[J") ∈ lw_big := tb_3 115 rfl rfl
theorem bm_597 : (Jvm.Cond.laysFinal "MarketDeskModel" "MarketDeskModel" "part" "[J") ∈ lw_big := tb_3 117 rfl rfl
theorem bm_599 : (Jvm.Cond.laysFinal "MarketDeskModel" "MarketDeskModel" "group" "[I") ∈ lw_big := tb_3 119 rfl rfl
theorem bm_601 : (Jvm.Cond.laysFinal "MarketDeskModel" "MarketDeskModel" "above" "[I") ∈ lw_big := tb_3 121 rfl rfl
theorem bm_603 : (Jvm.Cond.laysFinal "MarketDeskModel" "MarketDeskModel" "below" "[I") ∈ lw_big := tb_3 123 rfl rfl
theorem bm_606 : (Jvm.Cond.arrayClass Jvm.ClassFile.FieldType.boolean) ∈ lw_big := tb_3 126 rfl rfl
theorem bm_607 : (Jvm.Cond.methodLink "MarketDeskLaw" (78 : Nat) ({ cls := "MarketDeskModel", name := "thrown", desc := "()I" } : Jvm.MethodName)) ∈ lw_big := tb_3 127 rfl rfl
theorem bm_608 : (Jvm.Cond.instanceMethod ({ cls := "MarketDeskModel", name := "thrown", desc := "()I" } : Jvm.MethodName)) ∈ lw_big := tb_3 128 rfl rfl
theorem bm_609 : (Jvm.Cond.selects "MarketDeskModel" ({ cls := "MarketDeskModel", name := "thrown", desc := "()I" } : Jvm.MethodName) ({ cls := "MarketDeskModel", name := "thrown", desc := "()I" } : Jvm.MethodName)) ∈ lw_big := tb_3 129 rfl rfl
theorem bm_610 : (Jvm.Cond.code ({ cls := "MarketDeskModel", name := "thrown", desc := "()I" } : Jvm.MethodName) prog_7_method_2_code (1 : Nat) (Option.some Jvm.ClassFile.FieldType.int)) ∈ lw_big := tb_3 130 rfl rfl
theorem bm_611 : (Jvm.Cond.methodLink "MarketDeskLaw" (77 : Nat) ({ cls := "MarketDeskModel", name := "buyer", desc := "(I)I" } : Jvm.MethodName)) ∈ lw_big := tb_3 131 rfl rfl
theorem bm_612 : (Jvm.Cond.instanceMethod ({ cls := "MarketDeskModel", name := "buyer", desc := "(I)I" } : Jvm.MethodName)) ∈ lw_big := tb_3 132 rfl rfl
theorem bm_613 : (Jvm.Cond.selects "MarketDeskModel" ({ cls := "MarketDeskModel", name := "buyer", desc := "(I)I" } : Jvm.MethodName) ({ cls := "MarketDeskModel", name := "buyer", desc := "(I)I" } : Jvm.MethodName)) ∈ lw_big := tb_3 133 rfl rfl
theorem bm_614 : (Jvm.Cond.code ({ cls := "MarketDeskModel", name := "buyer", desc := "(I)I" } : Jvm.MethodName) prog_7_method_12_code (4 : Nat) (Option.some Jvm.ClassFile.FieldType.int)) ∈ lw_big := tb_3 134 rfl rfl
theorem bm_615 : (Jvm.Cond.methodLink "MarketDeskModel" (62 : Nat) ({ cls := "MarketDeskModel", name := "isMoney", desc := "(I)Z" } : Jvm.MethodName)) ∈ lw_big := tb_3 135 rfl rfl
theorem bm_616 : (Jvm.Cond.static ({ cls := "MarketDeskModel", name := "isMoney", desc := "(I)Z" } : Jvm.MethodName)) ∈ lw_big := tb_3 136 rfl rfl
theorem bm_617 : (Jvm.Cond.code ({ cls := "MarketDeskModel", name := "isMoney", desc := "(I)Z" } : Jvm.MethodName) prog_7_method_11_code (1 : Nat) (Option.some Jvm.ClassFile.FieldType.boolean)) ∈ lw_big := tb_3 137 rfl rfl
theorem bm_618 : (Jvm.Cond.methodLink "MarketDeskModel" (52 : Nat) ({ cls := "MarketDeskModel", name := "buyers", desc := "()I" } : Jvm.MethodName)) ∈ lw_big := tb_3 138 rfl rfl
theorem bm_620 : (Jvm.Cond.instanceMethod ({ cls := "MarketDeskModel", name := "buyers", desc := "()I" } : Jvm.MethodName)) ∈ lw_big := tb_3 140 rfl rfl
theorem bm_621 : (Jvm.Cond.code ({ cls := "MarketDeskModel", name := "buyers", desc := "()I" } : Jvm.MethodName) prog_7_method_3_code (1 : Nat) (Option.some Jvm.ClassFile.FieldType.int)) ∈ lw_big := tb_3 141 rfl rfl
theorem bm_622 : (Jvm.Cond.methodLink "MarketDeskModel" (66 : Nat) ({ cls := "MarketDeskModel", name := "keep", desc := "()V" } : Jvm.MethodName)) ∈ lw_big := tb_3 142 rfl rfl
theorem bm_624 : (Jvm.Cond.instanceMethod ({ cls := "MarketDeskModel", name := "keep", desc := "()V" } : Jvm.MethodName)) ∈ lw_big := tb_3 144 rfl rfl
theorem bm_625 : (Jvm.Cond.code ({ cls := "MarketDeskModel", name := "keep", desc := "()V" } : Jvm.MethodName) prog_7_method_10_code (2 : Nat) (Option.none : Option Jvm.ClassFile.FieldType)) ∈ lw_big := tb_3 145 rfl rfl
theorem bm_626 : (Jvm.Cond.methodLink "MarketDeskLaw" (84 : Nat) ({ cls := "MarketDeskModel", name := "good", desc := "()I" } : Jvm.MethodName)) ∈ lw_big := tb_3 146 rfl rfl
theorem bm_627 : (Jvm.Cond.instanceMethod ({ cls := "MarketDeskModel", name := "good", desc := "()I" } : Jvm.MethodName)) ∈ lw_big := tb_3 147 rfl rfl
theorem bm_628 : (Jvm.Cond.selects "MarketDeskModel" ({ cls := "MarketDeskModel", name := "good", desc := "()I" } : Jvm.MethodName) ({ cls := "MarketDeskModel", name := "good", desc := "()I" } : Jvm.MethodName)) ∈ lw_big := tb_3 148 rfl rfl
theorem bm_629 : (Jvm.Cond.code ({ cls := "MarketDeskModel", name := "good", desc := "()I" } : Jvm.MethodName) prog_7_method_13_code (3 : Nat) (Option.some Jvm.ClassFile.FieldType.int)) ∈ lw_big := tb_3 149 rfl rfl
theorem bm_630 : (Jvm.Cond.methodLink "MarketDeskModel" (56 : Nat) ({ cls := "MarketDeskModel", name := "goods", desc := "()I" } : Jvm.MethodName)) ∈ lw_big := tb_3 150 rfl rfl
theorem bm_632 : (Jvm.Cond.instanceMethod ({ cls := "MarketDeskModel", name := "goods", desc := "()I" } : Jvm.MethodName)) ∈ lw_big := tb_3 152 rfl rfl
theorem bm_633 : (Jvm.Cond.code ({ cls := "MarketDeskModel", name := "goods", desc := "()I" } : Jvm.MethodName) prog_7_method_4_code (1 : Nat) (Option.some Jvm.ClassFile.FieldType.int)) ∈ lw_big := tb_3 153 rfl rfl
theorem bm_634 : (Jvm.Cond.methodLink "MarketDeskLaw" (88 : Nat) ({ cls := "MarketDeskModel", name := "money", desc := "(II)V" } : Jvm.MethodName)) ∈ lw_big := tb_3 154 rfl rfl
theorem bm_635 : (Jvm.Cond.instanceMethod ({ cls := "MarketDeskModel", name := "money", desc := "(II)V" } : Jvm.MethodName)) ∈ lw_big := tb_3 155 rfl rfl
theorem bm_636 : (Jvm.Cond.selects "MarketDeskModel" ({ cls := "MarketDeskModel", name := "money", desc := "(II)V" } : Jvm.MethodName) ({ cls := "MarketDeskModel", name := "money", desc := "(II)V" } : Jvm.MethodName)) ∈ lw_big := tb_3 156 rfl rfl
theorem bm_637 : (Jvm.Cond.code ({ cls := "MarketDeskModel", name := "money", desc := "(II)V" } : Jvm.MethodName) prog_7_method_14_code (3 : Nat) (Option.none : Option Jvm.ClassFile.FieldType)) ∈ lw_big := tb_3 157 rfl rfl
theorem bm_638 : (Jvm.Cond.methodLink "MarketDeskModel" (69 : Nat) ({ cls := "MarketDeskModel", name := "isBuyer", desc := "(I)Z" } : Jvm.MethodName)) ∈ lw_big := tb_3 158 rfl rfl
theorem bm_640 : (Jvm.Cond.instanceMethod ({ cls := "MarketDeskModel", name := "isBuyer", desc := "(I)Z" } : Jvm.MethodName)) ∈ lw_big := tb_3 160 rfl rfl
theorem bm_641 : (Jvm.Cond.code ({ cls := "MarketDeskModel", name := "isBuyer", desc := "(I)Z" } : Jvm.MethodName) prog_7_method_8_code (2 : Nat) (Option.some Jvm.ClassFile.FieldType.boolean)) ∈ lw_big := tb_3 161 rfl rfl
theorem bm_642 : (Jvm.Cond.methodLink "MarketDeskLaw" (92 : Nat) ({ cls := "MarketDeskModel", name := "value", desc := "(III)V" } : Jvm.MethodName)) ∈ lw_big := tb_3 162 rfl rfl
theorem bm_643 : (Jvm.Cond.instanceMethod ({ cls := "MarketDeskModel", name := "value", desc := "(III)V" } : Jvm.MethodName)) ∈ lw_big := tb_3 163 rfl rfl
theorem bm_644 : (Jvm.Cond.selects "MarketDeskModel" ({ cls := "MarketDeskModel", name := "value", desc := "(III)V" } : Jvm.MethodName) ({ cls := "MarketDeskModel", name := "value", desc := "(III)V" } : Jvm.MethodName)) ∈ lw_big := tb_3 164 rfl rfl
theorem bm_645 : (Jvm.Cond.code ({ cls := "MarketDeskModel", name := "value", desc := "(III)V" } : Jvm.MethodName) prog_7_method_15_code (4 : Nat) (Option.none : Option Jvm.ClassFile.FieldType)) ∈ lw_big := tb_3 165 rfl rfl
theorem bm_646 : (Jvm.Cond.methodLink "MarketDeskModel" (72 : Nat) ({ cls := "MarketDeskModel", name := "isGood", desc := "(I)Z" } : Jvm.MethodName)) ∈ lw_big := tb_3 166 rfl rfl
theorem bm_648 : (Jvm.Cond.instanceMethod ({ cls := "MarketDeskModel", name := "isGood", desc := "(I)Z" } : Jvm.MethodName)) ∈ lw_big := tb_3 168 rfl rfl
theorem bm_649 : (Jvm.Cond.code ({ cls := "MarketDeskModel", name := "isGood", desc := "(I)Z" } : Jvm.MethodName) prog_7_method_9_code (2 : Nat) (Option.some Jvm.ClassFile.FieldType.boolean)) ∈ lw_big := tb_3 169 rfl rfl
theorem bm_650 : (Jvm.Cond.methodLink "MarketDeskLaw" (95 : Nat) ({ cls := "MarketDeskModel", name := "join", desc := "(II)V" } : Jvm.MethodName)) ∈ lw_big := tb_3 170 rfl rfl
theorem bm_651 : (Jvm.Cond.instanceMethod ({ cls := "MarketDeskModel", name := "join", desc := "(II)V" } : Jvm.MethodName)) ∈ lw_big := tb_3 171 rfl rfl
theorem bm_652 : (Jvm.Cond.selects "MarketDeskModel" ({ cls := "MarketDeskModel", name := "join", desc := "(II)V" } : Jvm.MethodName) ({ cls := "MarketDeskModel", name := "join", desc := "(II)V" } : Jvm.MethodName)) ∈ lw_big := tb_3 172 rfl rfl
theorem bm_653 : (Jvm.Cond.code ({ cls := "MarketDeskModel", name := "join", desc := "(II)V" } : Jvm.MethodName) prog_7_method_17_code (5 : Nat) (Option.none : Option Jvm.ClassFile.FieldType)) ∈ lw_big := tb_3 173 rfl rfl
theorem bm_654 : (Jvm.Cond.methodLink "MarketDeskModel" (79 : Nat) ({ cls := "MarketDeskModel", name := "canJoin", desc := "(II)Z" } : Jvm.MethodName)) ∈ lw_big := tb_3 174 rfl rfl
theorem bm_656 : (Jvm.Cond.instanceMethod ({ cls := "MarketDeskModel", name := "canJoin", desc := "(II)Z" } : Jvm.MethodName)) ∈ lw_big := tb_3 176 rfl rfl
theorem bm_657 : (Jvm.Cond.code ({ cls := "MarketDeskModel", name := "canJoin", desc := "(II)Z" } : Jvm.MethodName) prog_7_method_16_code (6 : Nat) (Option.some Jvm.ClassFile.FieldType.boolean)) ∈ lw_big := tb_3 177 rfl rfl
theorem bm_658 : (Jvm.Cond.methodLink "MarketDeskModel" (75 : Nat) ({ cls := "MarketDeskModel", name := "valueOf", desc := "(II)I" } : Jvm.MethodName)) ∈ lw_big := tb_3 178 rfl rfl
theorem bm_660 : (Jvm.Cond.instanceMethod ({ cls := "MarketDeskModel", name := "valueOf", desc := "(II)I" } : Jvm.MethodName)) ∈ lw_big := tb_3 180 rfl rfl
theorem bm_661 : (Jvm.Cond.code ({ cls := "MarketDeskModel", name := "valueOf", desc := "(II)I" } : Jvm.MethodName) prog_7_method_7_code (3 : Nat) (Option.some Jvm.ClassFile.FieldType.int)) ∈ lw_big := tb_3 181 rfl rfl
theorem bm_662 : (Jvm.Cond.methodLink "MarketDeskLaw" (98 : Nat) ({ cls := "MarketDeskModel", name := "undo", desc := "()I" } : Jvm.MethodName)) ∈ lw_big := tb_3 182 rfl rfl
theorem bm_663 : (Jvm.Cond.instanceMethod ({ cls := "MarketDeskModel", name := "undo", desc := "()I" } : Jvm.MethodName)) ∈ lw_big := tb_3 183 rfl rfl
theorem bm_664 : (Jvm.Cond.selects "MarketDeskModel" ({ cls := "MarketDeskModel", name := "undo", desc := "()I" } : Jvm.MethodName) ({ cls := "MarketDeskModel", name := "undo", desc := "()I" } : Jvm.MethodName)) ∈ lw_big := tb_3 184 rfl rfl
theorem bm_665 : (Jvm.Cond.code ({ cls := "MarketDeskModel", name := "undo", desc := "()I" } : Jvm.MethodName) prog_7_method_18_code (2 : Nat) (Option.some Jvm.ClassFile.FieldType.int)) ∈ lw_big := tb_3 185 rfl rfl
theorem bm_666 : (Jvm.Cond.methodLink "MarketDeskModel" (83 : Nat) ({ cls := "MarketDeskModel", name := "isSolved", desc := "()Z" } : Jvm.MethodName)) ∈ lw_big := tb_3 186 rfl rfl
theorem bm_668 : (Jvm.Cond.instanceMethod ({ cls := "MarketDeskModel", name := "isSolved", desc := "()Z" } : Jvm.MethodName)) ∈ lw_big := tb_3 188 rfl rfl
theorem bm_669 : (Jvm.Cond.code ({ cls := "MarketDeskModel", name := "isSolved", desc := "()Z" } : Jvm.MethodName) prog_7_method_5_code (1 : Nat) (Option.some Jvm.ClassFile.FieldType.boolean)) ∈ lw_big := tb_3 189 rfl rfl
theorem bm_670 : (Jvm.Cond.methodLink "MarketDeskModel" (87 : Nat) ({ cls := "MarketDeskModel", name := "find", desc := "()V" } : Jvm.MethodName)) ∈ lw_big := tb_3 190 rfl rfl
theorem bm_672 : (Jvm.Cond.instanceMethod ({ cls := "MarketDeskModel", name := "find", desc := "()V" } : Jvm.MethodName)) ∈ lw_big := tb_3 192 rfl rfl
theorem bm_673 : (Jvm.Cond.code ({ cls := "MarketDeskModel", name := "find", desc := "()V" } : Jvm.MethodName) prog_7_method_41_code (3 : Nat) (Option.none : Option Jvm.ClassFile.FieldType)) ∈ lw_big := tb_3 193 rfl rfl
theorem bm_674 : (Jvm.Cond.methodLink "MarketDeskModel" (148 : Nat) ({ cls := "MarketDeskModel", name := "proportion", desc := "(I)Z" } : Jvm.MethodName)) ∈ lw_big := tb_3 194 rfl rfl
theorem bm_676 : (Jvm.Cond.instanceMethod ({ cls := "MarketDeskModel", name := "proportion", desc := "(I)Z" } : Jvm.MethodName)) ∈ lw_big := tb_3 196 rfl rfl
theorem bm_677 : (Jvm.Cond.code ({ cls := "MarketDeskModel", name := "proportion", desc := "(I)Z" } : Jvm.MethodName) prog_7_method_32_code (6 : Nat) (Option.some Jvm.ClassFile.FieldType.boolean)) ∈ lw_big := tb_3 197 rfl rfl
theorem bm_678 : (Jvm.Cond.methodLink "MarketDeskModel" (122 : Nat) ({ cls := "MarketDeskModel", name := "firstOf", desc := "(II)I" } : Jvm.MethodName)) ∈ lw_big := tb_3 198 rfl rfl
theorem bm_680 : (Jvm.Cond.instanceMethod ({ cls := "MarketDeskModel", name := "firstOf", desc := "(II)I" } : Jvm.MethodName)) ∈ lw_big := tb_3 200 rfl rfl
theorem bm_681 : (Jvm.Cond.code ({ cls := "MarketDeskModel", name := "firstOf", desc := "(II)I" } : Jvm.MethodName) prog_7_method_31_code (5 : Nat) (Option.some Jvm.ClassFile.FieldType.int)) ∈ lw_big := tb_3 201 rfl rfl
theorem bm_682 : (Jvm.Cond.methodLink "MarketDeskModel" (97 : Nat) ({ cls := "MarketDeskModel", name := "has", desc := "(II)Z" } : Jvm.MethodName)) ∈ lw_big := tb_3 202 rfl rfl
theorem bm_683 : (Jvm.Cond.static ({ cls := "MarketDeskModel", name := "has", desc := "(II)Z" } : Jvm.MethodName)) ∈ lw_big := tb_3 203 rfl rfl
theorem bm_684 : (Jvm.Cond.code ({ cls := "MarketDeskModel", name := "has", desc := "(II)Z" } : Jvm.MethodName) prog_7_method_24_code (2 : Nat) (Option.some Jvm.ClassFile.FieldType.boolean)) ∈ lw_big := tb_3 204 rfl rfl
theorem bm_685 : (Jvm.Cond.methodLink "MarketDeskModel" (125 : Nat) ({ cls := "MarketDeskModel", name := "tie", desc := "(III)Z" } : Jvm.MethodName)) ∈ lw_big := tb_3 205 rfl rfl
theorem bm_687 : (Jvm.Cond.instanceMethod ({ cls := "MarketDeskModel", name := "tie", desc := "(III)Z" } : Jvm.MethodName)) ∈ lw_big := tb_3 207 rfl rfl
theorem bm_688 : (Jvm.Cond.code ({ cls := "MarketDeskModel", name := "tie", desc := "(III)Z" } : Jvm.MethodName) prog_7_method_30_code (17 : Nat) (Option.some Jvm.ClassFile.FieldType.boolean)) ∈ lw_big := tb_3 208 rfl rfl
theorem bm_689 : (Jvm.Cond.methodLink "MarketDeskModel" (114 : Nat) ({ cls := "MarketDeskModel", name := "divisor", desc := "(JJ)J" } : Jvm.MethodName)) ∈ lw_big := tb_3 209 rfl rfl
theorem bm_690 : (Jvm.Cond.static ({ cls := "MarketDeskModel", name := "divisor", desc := "(JJ)J" } : Jvm.MethodName)) ∈ lw_big := tb_3 210 rfl rfl
theorem bm_691 : (Jvm.Cond.code ({ cls := "MarketDeskModel", name := "divisor", desc := "(JJ)J" } : Jvm.MethodName) prog_7_method_28_code (10 : Nat) (Option.some Jvm.ClassFile.FieldType.long)) ∈ lw_big := tb_3 211 rfl rfl
theorem bm_692 : (Jvm.Cond.methodLink "MarketDeskModel" (118 : Nat) ({ cls := "MarketDeskModel", name := "scale", desc := "(IJ)V" } : Jvm.MethodName)) ∈ lw_big := tb_3 212 rfl rfl
theorem bm_694 : (Jvm.Cond.instanceMethod ({ cls := "MarketDeskModel", name := "scale", desc := "(IJ)V" } : Jvm.MethodName)) ∈ lw_big := tb_3 214 rfl rfl
theorem bm_695 : (Jvm.Cond.code ({ cls := "MarketDeskModel", name := "scale", desc := "(IJ)V" } : Jvm.MethodName) prog_7_method_29_code (5 : Nat) (Option.none : Option Jvm.ClassFile.FieldType)) ∈ lw_big := tb_3 215 rfl rfl
theorem bm_696 : (Jvm.Cond.methodLink "MarketDeskModel" (151 : Nat) ({ cls := "MarketDeskModel", name := "priceBy", desc := "(I)Z" } : Jvm.MethodName)) ∈ lw_big := tb_3 216 rfl rfl
theorem bm_698 : (Jvm.Cond.instanceMethod ({ cls := "MarketDeskModel", name := "priceBy", desc := "(I)Z" } : Jvm.MethodName)) ∈ lw_big := tb_3 218 rfl rfl
theorem bm_699 : (Jvm.Cond.code ({ cls := "MarketDeskModel", name := "priceBy", desc := "(I)Z" } : Jvm.MethodName) prog_7_method_35_code (5 : Nat) (Option.some Jvm.ClassFile.FieldType.boolean)) ∈ lw_big := tb_3 219 rfl rfl
theorem bm_700 : (Jvm.Cond.methodLink "MarketDeskModel" (129 : Nat) ({ cls := "MarketDeskModel", name := "partsOf", desc := "(I)J" } : Jvm.MethodName)) ∈ lw_big := tb_3 220 rfl rfl
theorem bm_702 : (Jvm.Cond.instanceMethod ({ cls := "MarketDeskModel", name := "partsOf", desc := "(I)J" } : Jvm.MethodName)) ∈ lw_big := tb_3 222 rfl rfl
theorem bm_703 : (Jvm.Cond.code ({ cls := "MarketDeskModel", name := "partsOf", desc := "(I)J" } : Jvm.MethodName) prog_7_method_33_code (5 : Nat) (Option.some Jvm.ClassFile.FieldType.long)) ∈ lw_big := tb_3 223 rfl rfl
theorem bm_704 : (Jvm.Cond.methodLink "MarketDeskModel" (132 : Nat) ({ cls := "MarketDeskModel", name := "moneyOf", desc := "(II)I" } : Jvm.MethodName)) ∈ lw_big := tb_3 224 rfl rfl
theorem bm_706 : (Jvm.Cond.instanceMethod ({ cls := "MarketDeskModel", name := "moneyOf", desc := "(II)I" } : Jvm.MethodName)) ∈ lw_big := tb_3 226 rfl rfl
theorem bm_707 : (Jvm.Cond.code ({ cls := "MarketDeskModel", name := "moneyOf", desc := "(II)I" } : Jvm.MethodName) prog_7_method_34_code (5 : Nat) (Option.some Jvm.ClassFile.FieldType.int)) ∈ lw_big := tb_3 227 rfl rfl
theorem bm_708 : (Jvm.Cond.methodLink "MarketDeskModel" (90 : Nat) ({ cls := "MarketDeskModel", name := "purseOf", desc := "(I)I" } : Jvm.MethodName)) ∈ lw_big := tb_3 228 rfl rfl
theorem bm_710 : (Jvm.Cond.instanceMethod ({ cls := "MarketDeskModel", name := "purseOf", desc := "(I)I" } : Jvm.MethodName)) ∈ lw_big := tb_3 230 rfl rfl
theorem bm_711 : (Jvm.Cond.code ({ cls := "MarketDeskModel", name := "purseOf", desc := "(I)I" } : Jvm.MethodName) prog_7_method_6_code (2 : Nat) (Option.some Jvm.ClassFile.FieldType.int)) ∈ lw_big := tb_3 231 rfl rfl
theorem bm_712 : (Jvm.Cond.methodLink "MarketDeskModel" (154 : Nat) ({ cls := "MarketDeskModel", name := "judge", desc := "()I" } : Jvm.MethodName)) ∈ lw_big := tb_3 232 rfl rfl
theorem bm_714 : (Jvm.Cond.instanceMethod ({ cls := "MarketDeskModel", name := "judge", desc := "()I" } : Jvm.MethodName)) ∈ lw_big := tb_3 234 rfl rfl
theorem bm_715 : (Jvm.Cond.code ({ cls := "MarketDeskModel", name := "judge", desc := "()I" } : Jvm.MethodName) prog_7_method_27_code (3 : Nat) (Option.some Jvm.ClassFile.FieldType.int)) ∈ lw_big := tb_3 235 rfl rfl
theorem bm_716 : (Jvm.Cond.methodLink "MarketDeskModel" (104 : Nat) ({ cls := "MarketDeskModel", name := "findLikes", desc := "()V" } : Jvm.MethodName)) ∈ lw_big := tb_3 236 rfl rfl
theorem bm_718 : (Jvm.Cond.instanceMethod ({ cls := "MarketDeskModel", name := "findLikes", desc := "()V" } : Jvm.MethodName)) ∈ lw_big := tb_3 238 rfl rfl
theorem bm_719 : (Jvm.Cond.code ({ cls := "MarketDeskModel", name := "findLikes", desc := "()V" } : Jvm.MethodName) prog_7_method_23_code (5 : Nat) (Option.none : Option Jvm.ClassFile.FieldType)) ∈ lw_big := tb_3 239 rfl rfl
theorem bm_720 : (Jvm.Cond.methodLink "MarketDeskModel" (107 : Nat) ({ cls := "MarketDeskModel", name := "sumOfPrices", desc := "(I)J" } : Jvm.MethodName)) ∈ lw_big := tb_4 0 rfl rfl
theorem bm_722 : (Jvm.Cond.instanceMethod ({ cls := "MarketDeskModel", name := "sumOfPrices", desc := "(I)J" } : Jvm.MethodName)) ∈ lw_big := tb_4 2 rfl rfl
theorem bm_723 : (Jvm.Cond.code ({ cls := "MarketDeskModel", name := "sumOfPrices", desc := "(I)J" } : Jvm.MethodName) prog_7_method_25_code (5 : Nat) (Option.some Jvm.ClassFile.FieldType.long)) ∈ lw_big := tb_4 3 rfl rfl
theorem bm_724 : (Jvm.Cond.methodLink "MarketDeskModel" (111 : Nat) ({ cls := "MarketDeskModel", name := "moneyFor", desc := "(I)J" } : Jvm.MethodName)) ∈ lw_big := tb_4 4 rfl rfl
theorem bm_726 : (Jvm.Cond.instanceMethod ({ cls := "MarketDeskModel", name := "moneyFor", desc := "(I)J" } : Jvm.MethodName)) ∈ lw_big := tb_4 6 rfl rfl
theorem bm_727 : (Jvm.Cond.code ({ cls := "MarketDeskModel", name := "moneyFor", desc := "(I)J" } : Jvm.MethodName) prog_7_method_26_code (7 : Nat) (Option.some Jvm.ClassFile.FieldType.long)) ∈ lw_big := tb_4 7 rfl rfl
theorem bm_728 : (Jvm.Cond.methodLink "MarketDeskModel" (157 : Nat) ({ cls := "MarketDeskModel", name := "divide", desc := "()V" } : Jvm.MethodName)) ∈ lw_big := tb_4 8 rfl rfl
theorem bm_730 : (Jvm.Cond.instanceMethod ({ cls := "MarketDeskModel", name := "divide", desc := "()V" } : Jvm.MethodName)) ∈ lw_big := tb_4 10 rfl rfl
theorem bm_731 : (Jvm.Cond.code ({ cls := "MarketDeskModel", name := "divide", desc := "()V" } : Jvm.MethodName) prog_7_method_40_code (4 : Nat) (Option.none : Option Jvm.ClassFile.FieldType)) ∈ lw_big := tb_4 11 rfl rfl
theorem bm_732 : (Jvm.Cond.methodLink "MarketDeskModel" (144 : Nat) ({ cls := "MarketDeskModel", name := "mostOf", desc := "(II)J" } : Jvm.MethodName)) ∈ lw_big := tb_4 12 rfl rfl
theorem bm_734 : (Jvm.Cond.instanceMethod ({ cls := "MarketDeskModel", name := "mostOf", desc := "(II)J" } : Jvm.MethodName)) ∈ lw_big := tb_4 14 rfl rfl
theorem bm_735 : (Jvm.Cond.code ({ cls := "MarketDeskModel", name := "mostOf", desc := "(II)J" } : Jvm.MethodName) prog_7_method_39_code (8 : Nat) (Option.some Jvm.ClassFile.FieldType.long)) ∈ lw_big := tb_4 15 rfl rfl
theorem bm_736 : (Jvm.Cond.methodLink "MarketDeskModel" (135 : Nat) ({ cls := "MarketDeskModel", name := "reaches", desc := "(II)Z" } : Jvm.MethodName)) ∈ lw_big := tb_4 16 rfl rfl
theorem bm_738 : (Jvm.Cond.instanceMethod ({ cls := "MarketDeskModel", name := "reaches", desc := "(II)Z" } : Jvm.MethodName)) ∈ lw_big := tb_4 18 rfl rfl
theorem bm_739 : (Jvm.Cond.code ({ cls := "MarketDeskModel", name := "reaches", desc := "(II)Z" } : Jvm.MethodName) prog_7_method_37_code (5 : Nat) (Option.some Jvm.ClassFile.FieldType.boolean)) ∈ lw_big := tb_4 19 rfl rfl
theorem bm_740 : (Jvm.Cond.methodLink "MarketDeskModel" (138 : Nat) ({ cls := "MarketDeskModel", name := "leftFor", desc := "(I)J" } : Jvm.MethodName)) ∈ lw_big := tb_4 20 rfl rfl
theorem bm_742 : (Jvm.Cond.instanceMethod ({ cls := "MarketDeskModel", name := "leftFor", desc := "(I)J" } : Jvm.MethodName)) ∈ lw_big := tb_4 22 rfl rfl
theorem bm_743 : (Jvm.Cond.code ({ cls := "MarketDeskModel", name := "leftFor", desc := "(I)J" } : Jvm.MethodName) prog_7_method_36_code (5 : Nat) (Option.some Jvm.ClassFile.FieldType.long)) ∈ lw_big := tb_4 23 rfl rfl
theorem bm_744 : (Jvm.Cond.methodLink "MarketDeskModel" (141 : Nat) ({ cls := "MarketDeskModel", name := "restOf", desc := "(I)J" } : Jvm.MethodName)) ∈ lw_big := tb_4 24 rfl rfl
theorem bm_746 : (Jvm.Cond.instanceMethod ({ cls := "MarketDeskModel", name := "restOf", desc := "(I)J" } : Jvm.MethodName)) ∈ lw_big := tb_4 26 rfl rfl
theorem bm_747 : (Jvm.Cond.code ({ cls := "MarketDeskModel", name := "restOf", desc := "(I)J" } : Jvm.MethodName) prog_7_method_38_code (5 : Nat) (Option.some Jvm.ClassFile.FieldType.long)) ∈ lw_big := tb_4 27 rfl rfl
theorem bm_748 : (Jvm.Cond.methodLink "MarketDeskLaw" (103 : Nat) ({ cls := "MarketDeskModel", name := "count", desc := "(Z)I" } : Jvm.MethodName)) ∈ lw_big := tb_4 28 rfl rfl
theorem bm_749 : (Jvm.Cond.instanceMethod ({ cls := "MarketDeskModel", name := "count", desc := "(Z)I" } : Jvm.MethodName)) ∈ lw_big := tb_4 29 rfl rfl
theorem bm_750 : (Jvm.Cond.selects "MarketDeskModel" ({ cls := "MarketDeskModel", name := "count", desc := "(Z)I" } : Jvm.MethodName) ({ cls := "MarketDeskModel", name := "count", desc := "(Z)I" } : Jvm.MethodName)) ∈ lw_big := tb_4 30 rfl rfl
theorem bm_751 : (Jvm.Cond.code ({ cls := "MarketDeskModel", name := "count", desc := "(Z)I" } : Jvm.MethodName) prog_7_method_19_code (2 : Nat) (Option.some Jvm.ClassFile.FieldType.int)) ∈ lw_big := tb_4 31 rfl rfl
theorem bm_752 : (Jvm.Cond.methodLink "MarketDeskLaw" (107 : Nat) ({ cls := "MarketDeskModel", name := "told", desc := "(II)I" } : Jvm.MethodName)) ∈ lw_big := tb_4 32 rfl rfl
theorem bm_753 : (Jvm.Cond.instanceMethod ({ cls := "MarketDeskModel", name := "told", desc := "(II)I" } : Jvm.MethodName)) ∈ lw_big := tb_4 33 rfl rfl
theorem bm_754 : (Jvm.Cond.selects "MarketDeskModel" ({ cls := "MarketDeskModel", name := "told", desc := "(II)I" } : Jvm.MethodName) ({ cls := "MarketDeskModel", name := "told", desc := "(II)I" } : Jvm.MethodName)) ∈ lw_big := tb_4 34 rfl rfl
theorem bm_755 : (Jvm.Cond.code ({ cls := "MarketDeskModel", name := "told", desc := "(II)I" } : Jvm.MethodName) prog_7_method_20_code (3 : Nat) (Option.some Jvm.ClassFile.FieldType.int)) ∈ lw_big := tb_4 35 rfl rfl
theorem bm_756 : (Jvm.Cond.methodLink "MarketDeskLaw" (111 : Nat) ({ cls := "MarketDeskModel", name := "ready", desc := "()I" } : Jvm.MethodName)) ∈ lw_big := tb_4 36 rfl rfl
theorem bm_757 : (Jvm.Cond.instanceMethod ({ cls := "MarketDeskModel", name := "ready", desc := "()I" } : Jvm.MethodName)) ∈ lw_big := tb_4 37 rfl rfl
theorem bm_758 : (Jvm.Cond.selects "MarketDeskModel" ({ cls := "MarketDeskModel", name := "ready", desc := "()I" } : Jvm.MethodName) ({ cls := "MarketDeskModel", name := "ready", desc := "()I" } : Jvm.MethodName)) ∈ lw_big := tb_4 38 rfl rfl
theorem bm_759 : (Jvm.Cond.code ({ cls := "MarketDeskModel", name := "ready", desc := "()I" } : Jvm.MethodName) prog_7_method_22_code (1 : Nat) (Option.some Jvm.ClassFile.FieldType.int)) ∈ lw_big := tb_4 39 rfl rfl
theorem bm_760 : (Jvm.Cond.methodLink "MarketDeskModel" (94 : Nat) ({ cls := "MarketDeskModel", name := "readiness", desc := "()I" } : Jvm.MethodName)) ∈ lw_big := tb_4 40 rfl rfl
theorem bm_762 : (Jvm.Cond.instanceMethod ({ cls := "MarketDeskModel", name := "readiness", desc := "()I" } : Jvm.MethodName)) ∈ lw_big := tb_4 42 rfl rfl
theorem bm_763 : (Jvm.Cond.code ({ cls := "MarketDeskModel", name := "readiness", desc := "()I" } : Jvm.MethodName) prog_7_method_21_code (4 : Nat) (Option.some Jvm.ClassFile.FieldType.int)) ∈ lw_big := tb_4 43 rfl rfl
theorem bm_764 : (Jvm.Cond.methodLink "MarketDeskLaw" (115 : Nat) ({ cls := "MarketDeskModel", name := "solve", desc := "()V" } : Jvm.MethodName)) ∈ lw_big := tb_4 44 rfl rfl
theorem bm_765 : (Jvm.Cond.instanceMethod ({ cls := "MarketDeskModel", name := "solve", desc := "()V" } : Jvm.MethodName)) ∈ lw_big := tb_4 45 rfl rfl
theorem bm_766 : (Jvm.Cond.selects "MarketDeskModel" ({ cls := "MarketDeskModel", name := "solve", desc := "()V" } : Jvm.MethodName) ({ cls := "MarketDeskModel", name := "solve", desc := "()V" } : Jvm.MethodName)) ∈ lw_big := tb_4 46 rfl rfl
theorem bm_767 : (Jvm.Cond.code ({ cls := "MarketDeskModel", name := "solve", desc := "()V" } : Jvm.MethodName) prog_7_method_42_code (1 : Nat) (Option.none : Option Jvm.ClassFile.FieldType)) ∈ lw_big := tb_4 47 rfl rfl
theorem bm_768 : (Jvm.Cond.methodLink "MarketDeskLaw" (119 : Nat) ({ cls := "MarketDeskModel", name := "price", desc := "(IZ)J" } : Jvm.MethodName)) ∈ lw_big := tb_4 48 rfl rfl
theorem bm_769 : (Jvm.Cond.instanceMethod ({ cls := "MarketDeskModel", name := "price", desc := "(IZ)J" } : Jvm.MethodName)) ∈ lw_big := tb_4 49 rfl rfl
theorem bm_770 : (Jvm.Cond.selects "MarketDeskModel" ({ cls := "MarketDeskModel", name := "price", desc := "(IZ)J" } : Jvm.MethodName) ({ cls := "MarketDeskModel", name := "price", desc := "(IZ)J" } : Jvm.MethodName)) ∈ lw_big := tb_4 50 rfl rfl
theorem bm_771 : (Jvm.Cond.code ({ cls := "MarketDeskModel", name := "price", desc := "(IZ)J" } : Jvm.MethodName) prog_7_method_44_code (3 : Nat) (Option.some Jvm.ClassFile.FieldType.long)) ∈ lw_big := tb_4 51 rfl rfl
theorem bm_772 : (Jvm.Cond.methodLink "MarketDeskModel" (160 : Nat) ({ cls := "MarketDeskModel", name := "lowest", desc := "(JJZ)J" } : Jvm.MethodName)) ∈ lw_big := tb_4 52 rfl rfl
theorem bm_773 : (Jvm.Cond.static ({ cls := "MarketDeskModel", name := "lowest", desc := "(JJZ)J" } : Jvm.MethodName)) ∈ lw_big := tb_4 53 rfl rfl
theorem bm_774 : (Jvm.Cond.code ({ cls := "MarketDeskModel", name := "lowest", desc := "(JJZ)J" } : Jvm.MethodName) prog_7_method_43_code (7 : Nat) (Option.some Jvm.ClassFile.FieldType.long)) ∈ lw_big := tb_4 54 rfl rfl
theorem bm_775 : (Jvm.Cond.methodLink "MarketDeskLaw" (123 : Nat) ({ cls := "MarketDeskModel", name := "best", desc := "(IIZ)J" } : Jvm.MethodName)) ∈ lw_big := tb_4 55 rfl rfl
theorem bm_776 : (Jvm.Cond.instanceMethod ({ cls := "MarketDeskModel", name := "best", desc := "(IIZ)J" } : Jvm.MethodName)) ∈ lw_big := tb_4 56 rfl rfl
theorem bm_777 : (Jvm.Cond.selects "MarketDeskModel" ({ cls := "MarketDeskModel", name := "best", desc := "(IIZ)J" } : Jvm.MethodName) ({ cls := "MarketDeskModel", name := "best", desc := "(IIZ)J" } : Jvm.MethodName)) ∈ lw_big := tb_4 57 rfl rfl
theorem bm_778 : (Jvm.Cond.code ({ cls := "MarketDeskModel", name := "best", desc := "(IIZ)J" } : Jvm.MethodName) prog_7_method_45_code (5 : Nat) (Option.some Jvm.ClassFile.FieldType.long)) ∈ lw_big := tb_4 58 rfl rfl
theorem bm_779 : (Jvm.Cond.methodLink "MarketDeskLaw" (126 : Nat) ({ cls := "MarketDeskModel", name := "likes", desc := "(II)Z" } : Jvm.MethodName)) ∈ lw_big := tb_4 59 rfl rfl
theorem bm_780 : (Jvm.Cond.instanceMethod ({ cls := "MarketDeskModel", name := "likes", desc := "(II)Z" } : Jvm.MethodName)) ∈ lw_big := tb_4 60 rfl rfl
theorem bm_781 : (Jvm.Cond.selects "MarketDeskModel" ({ cls := "MarketDeskModel", name := "likes", desc := "(II)Z" } : Jvm.MethodName) ({ cls := "MarketDeskModel", name := "likes", desc := "(II)Z" } : Jvm.MethodName)) ∈ lw_big := tb_4 61 rfl rfl
theorem bm_782 : (Jvm.Cond.code ({ cls := "MarketDeskModel", name := "likes", desc := "(II)Z" } : Jvm.MethodName) prog_7_method_46_code (3 : Nat) (Option.some Jvm.ClassFile.FieldType.boolean)) ∈ lw_big := tb_4 62 rfl rfl
theorem bm_783 : (Jvm.Cond.methodLink "MarketDeskLaw" (130 : Nat) ({ cls := "MarketDeskModel", name := "spent", desc := "(IIIZ)J" } : Jvm.MethodName)) ∈ lw_big := tb_4 63 rfl rfl
theorem bm_784 : (Jvm.Cond.instanceMethod ({ cls := "MarketDeskModel", name := "spent", desc := "(IIIZ)J" } : Jvm.MethodName)) ∈ lw_big := tb_4 64 rfl rfl
theorem bm_785 : (Jvm.Cond.selects "MarketDeskModel" ({ cls := "MarketDeskModel", name := "spent", desc := "(IIIZ)J" } : Jvm.MethodName) ({ cls := "MarketDeskModel", name := "spent", desc := "(IIIZ)J" } : Jvm.MethodName)) ∈ lw_big := tb_4 65 rfl rfl
theorem bm_786 : (Jvm.Cond.code ({ cls := "MarketDeskModel", name := "spent", desc := "(IIIZ)J" } : Jvm.MethodName) prog_7_method_47_code (5 : Nat) (Option.some Jvm.ClassFile.FieldType.long)) ∈ lw_big := tb_4 66 rfl rfl
theorem bm_787 : (Jvm.Cond.methodLink "MarketDeskLaw" (133 : Nat) ({ cls := "MarketDeskModel", name := "tryPrice", desc := "(III)V" } : Jvm.MethodName)) ∈ lw_big := tb_4 67 rfl rfl
theorem bm_788 : (Jvm.Cond.instanceMethod ({ cls := "MarketDeskModel", name := "tryPrice", desc := "(III)V" } : Jvm.MethodName)) ∈ lw_big := tb_4 68 rfl rfl
theorem bm_789 : (Jvm.Cond.selects "MarketDeskModel" ({ cls := "MarketDeskModel", name := "tryPrice", desc := "(III)V" } : Jvm.MethodName) ({ cls := "MarketDeskModel", name := "tryPrice", desc := "(III)V" } : Jvm.MethodName)) ∈ lw_big := tb_4 69 rfl rfl
theorem bm_790 : (Jvm.Cond.code ({ cls := "MarketDeskModel", name := "tryPrice", desc := "(III)V" } : Jvm.MethodName) prog_7_method_48_code (4 : Nat) (Option.none : Option Jvm.ClassFile.FieldType)) ∈ lw_big := tb_4 70 rfl rfl
theorem bm_791 : (Jvm.Cond.constant "MarketDeskModel" (164 : Nat) (100000 : Int32)) ∈ lw_big := tb_4 71 rfl rfl
theorem bm_792 : (Jvm.Cond.methodLink "MarketDeskLaw" (136 : Nat) ({ cls := "MarketDeskModel", name := "test", desc := "()I" } : Jvm.MethodName)) ∈ lw_big := tb_4 72 rfl rfl
theorem bm_793 : (Jvm.Cond.instanceMethod ({ cls := "MarketDeskModel", name := "test", desc := "()I" } : Jvm.MethodName)) ∈ lw_big := tb_4 73 rfl rfl
theorem bm_794 : (Jvm.Cond.selects "MarketDeskModel" ({ cls := "MarketDeskModel", name := "test", desc := "()I" } : Jvm.MethodName) ({ cls := "MarketDeskModel", name := "test", desc := "()I" } : Jvm.MethodName)) ∈ lw_big := tb_4 74 rfl rfl
theorem bm_795 : (Jvm.Cond.code ({ cls := "MarketDeskModel", name := "test", desc := "()I" } : Jvm.MethodName) prog_7_method_49_code (10 : Nat) (Option.some Jvm.ClassFile.FieldType.int)) ∈ lw_big := tb_4 75 rfl rfl
theorem bmS_0 : Cond.selects "java/lang/Throwable" ⟨"java/lang/Throwable", "fillInStackTrace", "(I)Ljava/lang/Throwable;"⟩ ⟨"java/lang/Throwable", "fillInStackTrace", "(I)Ljava/lang/Throwable;"⟩ ∈ lw_big := tb_S 0 rfl rfl
theorem bmS_1 : Cond.selects "MarketDesk" ⟨"MarketDesk", "begunChange", "()LMarketDesk$Market;"⟩ ⟨"MarketDesk", "begunChange", "()LMarketDesk$Market;"⟩ ∈ lw_big := tb_S 1 rfl rfl
theorem bmS_2 : Cond.selects "MarketDesk" ⟨"MarketDesk", "needBuyer", "(I)V"⟩ ⟨"MarketDesk", "needBuyer", "(I)V"⟩ ∈ lw_big := tb_S 2 rfl rfl
theorem bmS_3 : Cond.selects "MarketDesk" ⟨"MarketDesk", "needGood", "(I)V"⟩ ⟨"MarketDesk", "needGood", "(I)V"⟩ ∈ lw_big := tb_S 3 rfl rfl
theorem bmS_4 : Cond.selects "MarketDesk" ⟨"MarketDesk", "needReady", "()V"⟩ ⟨"MarketDesk", "needReady", "()V"⟩ ∈ lw_big := tb_S 4 rfl rfl
theorem bmS_5 : Cond.selects "MarketDesk$Search" ⟨"MarketDesk$Search", "linksAll", "(LMarketDesk$Market;I)Z"⟩ ⟨"MarketDesk$Search", "linksAll", "(LMarketDesk$Market;I)Z"⟩ ∈ lw_big := tb_S 5 rfl rfl
theorem bmS_6 : Cond.selects "MarketDesk$Search" ⟨"MarketDesk$Search", "links", "(LMarketDesk$Market;III)Z"⟩ ⟨"MarketDesk$Search", "links", "(LMarketDesk$Market;III)Z"⟩ ∈ lw_big := tb_S 6 rfl rfl
theorem bmS_7 : Cond.selects "MarketDesk$Search" ⟨"MarketDesk$Search", "tellPrices", "(LMarketDesk$Market;I)V"⟩ ⟨"MarketDesk$Search", "tellPrices", "(LMarketDesk$Market;I)V"⟩ ∈ lw_big := tb_S 7 rfl rfl
theorem bmS_8 : Cond.selects "MarketDesk$Search" ⟨"MarketDesk$Search", "weightOf", "(LMarketDesk$Market;I)J"⟩ ⟨"MarketDesk$Search", "weightOf", "(LMarketDesk$Market;I)J"⟩ ∈ lw_big := tb_S 8 rfl rfl
theorem bmS_9 : Cond.selects "MarketDesk$Demand" ⟨"MarketDesk$Demand", "productButFor", "(LMarketDesk$Prices;I)J"⟩ ⟨"MarketDesk$Demand", "productButFor", "(LMarketDesk$Prices;I)J"⟩ ∈ lw_big := tb_S 9 rfl rfl
theorem bmS_10 : Cond.selects "MarketDesk$Demand" ⟨"MarketDesk$Demand", "likedBy", "(LMarketDesk$Market;I)I"⟩ ⟨"MarketDesk$Demand", "likedBy", "(LMarketDesk$Market;I)I"⟩ ∈ lw_big := tb_S 10 rfl rfl
theorem bmS_11 : Cond.selects "MarketDesk$Demand" ⟨"MarketDesk$Demand", "compareGoods", "(LMarketDesk$Market;III)I"⟩ ⟨"MarketDesk$Demand", "compareGoods", "(LMarketDesk$Market;III)I"⟩ ∈ lw_big := tb_S 11 rfl rfl
theorem bmS_12 : Cond.selects "MarketDesk$Demand" ⟨"MarketDesk$Demand", "costOf", "(I)J"⟩ ⟨"MarketDesk$Demand", "costOf", "(I)J"⟩ ∈ lw_big := tb_S 12 rfl rfl
theorem bmS_13 : Cond.selects "MarketDesk$Demand" ⟨"MarketDesk$Demand", "fundsFor", "(I)J"⟩ ⟨"MarketDesk$Demand", "fundsFor", "(I)J"⟩ ∈ lw_big := tb_S 13 rfl rfl
theorem bmS_14 : Cond.selects "MarketDesk$Demand" ⟨"MarketDesk$Demand", "spendMost", "(II)J"⟩ ⟨"MarketDesk$Demand", "spendMost", "(II)J"⟩ ∈ lw_big := tb_S 14 rfl rfl
theorem bmS_15 : Cond.selects "MarketDesk" ⟨"MarketDesk", "needSolved", "()V"⟩ ⟨"MarketDesk", "needSolved", "()V"⟩ ∈ lw_big := tb_S 15 rfl rfl
theorem bmS_16 : Cond.selects "MarketDeskModel" ⟨"MarketDeskModel", "buyers", "()I"⟩ ⟨"MarketDeskModel", "buyers", "()I"⟩ ∈ lw_big := tb_S 16 rfl rfl
theorem bmS_17 : Cond.selects "MarketDeskModel" ⟨"MarketDeskModel", "keep", "()V"⟩ ⟨"MarketDeskModel", "keep", "()V"⟩ ∈ lw_big := tb_S 17 rfl rfl
theorem bmS_18 : Cond.selects "MarketDeskModel" ⟨"MarketDeskModel", "goods", "()I"⟩ ⟨"MarketDeskModel", "goods", "()I"⟩ ∈ lw_big := tb_S 18 rfl rfl
theorem bmS_19 : Cond.selects "MarketDeskModel" ⟨"MarketDeskModel", "isBuyer", "(I)Z"⟩ ⟨"MarketDeskModel", "isBuyer", "(I)Z"⟩ ∈ lw_big := tb_S 19 rfl rfl
theorem bmS_20 : Cond.selects "MarketDeskModel" ⟨"MarketDeskModel", "isGood", "(I)Z"⟩ ⟨"MarketDeskModel", "isGood", "(I)Z"⟩ ∈ lw_big := tb_S 20 rfl rfl
theorem bmS_21 : Cond.selects "MarketDeskModel" ⟨"MarketDeskModel", "canJoin", "(II)Z"⟩ ⟨"MarketDeskModel", "canJoin", "(II)Z"⟩ ∈ lw_big := tb_S 21 rfl rfl
theorem bmS_22 : Cond.selects "MarketDeskModel" ⟨"MarketDeskModel", "valueOf", "(II)I"⟩ ⟨"MarketDeskModel", "valueOf", "(II)I"⟩ ∈ lw_big := tb_S 22 rfl rfl
theorem bmS_23 : Cond.selects "MarketDeskModel" ⟨"MarketDeskModel", "isSolved", "()Z"⟩ ⟨"MarketDeskModel", "isSolved", "()Z"⟩ ∈ lw_big := tb_S 23 rfl rfl
theorem bmS_24 : Cond.selects "MarketDeskModel" ⟨"MarketDeskModel", "find", "()V"⟩ ⟨"MarketDeskModel", "find", "()V"⟩ ∈ lw_big := tb_S 24 rfl rfl
theorem bmS_25 : Cond.selects "MarketDeskModel" ⟨"MarketDeskModel", "proportion", "(I)Z"⟩ ⟨"MarketDeskModel", "proportion", "(I)Z"⟩ ∈ lw_big := tb_S 25 rfl rfl
theorem bmS_26 : Cond.selects "MarketDeskModel" ⟨"MarketDeskModel", "firstOf", "(II)I"⟩ ⟨"MarketDeskModel", "firstOf", "(II)I"⟩ ∈ lw_big := tb_S 26 rfl rfl
theorem bmS_27 : Cond.selects "MarketDeskModel" ⟨"MarketDeskModel", "tie", "(III)Z"⟩ ⟨"MarketDeskModel", "tie", "(III)Z"⟩ ∈ lw_big := tb_S 27 rfl rfl
theorem bmS_28 : Cond.selects "MarketDeskModel" ⟨"MarketDeskModel", "scale", "(IJ)V"⟩ ⟨"MarketDeskModel", "scale", "(IJ)V"⟩ ∈ lw_big := tb_S 28 rfl rfl
theorem bmS_29 : Cond.selects "MarketDeskModel" ⟨"MarketDeskModel", "priceBy", "(I)Z"⟩ ⟨"MarketDeskModel", "priceBy", "(I)Z"⟩ ∈ lw_big := tb_S 29 rfl rfl
theorem bmS_30 : Cond.selects "MarketDeskModel" ⟨"MarketDeskModel", "partsOf", "(I)J"⟩ ⟨"MarketDeskModel", "partsOf", "(I)J"⟩ ∈ lw_big := tb_S 30 rfl rfl
theorem bmS_31 : Cond.selects "MarketDeskModel" ⟨"MarketDeskModel", "moneyOf", "(II)I"⟩ ⟨"MarketDeskModel", "moneyOf", "(II)I"⟩ ∈ lw_big := tb_S 31 rfl rfl
theorem bmS_32 : Cond.selects "MarketDeskModel" ⟨"MarketDeskModel", "purseOf", "(I)I"⟩ ⟨"MarketDeskModel", "purseOf", "(I)I"⟩ ∈ lw_big := tb_S 32 rfl rfl
theorem bmS_33 : Cond.selects "MarketDeskModel" ⟨"MarketDeskModel", "judge", "()I"⟩ ⟨"MarketDeskModel", "judge", "()I"⟩ ∈ lw_big := tb_S 33 rfl rfl
theorem bmS_34 : Cond.selects "MarketDeskModel" ⟨"MarketDeskModel", "findLikes", "()V"⟩ ⟨"MarketDeskModel", "findLikes", "()V"⟩ ∈ lw_big := tb_S 34 rfl rfl
theorem bmS_35 : Cond.selects "MarketDeskModel" ⟨"MarketDeskModel", "sumOfPrices", "(I)J"⟩ ⟨"MarketDeskModel", "sumOfPrices", "(I)J"⟩ ∈ lw_big := tb_S 35 rfl rfl
theorem bmS_36 : Cond.selects "MarketDeskModel" ⟨"MarketDeskModel", "moneyFor", "(I)J"⟩ ⟨"MarketDeskModel", "moneyFor", "(I)J"⟩ ∈ lw_big := tb_S 36 rfl rfl
theorem bmS_37 : Cond.selects "MarketDeskModel" ⟨"MarketDeskModel", "divide", "()V"⟩ ⟨"MarketDeskModel", "divide", "()V"⟩ ∈ lw_big := tb_S 37 rfl rfl
theorem bmS_38 : Cond.selects "MarketDeskModel" ⟨"MarketDeskModel", "mostOf", "(II)J"⟩ ⟨"MarketDeskModel", "mostOf", "(II)J"⟩ ∈ lw_big := tb_S 38 rfl rfl
theorem bmS_39 : Cond.selects "MarketDeskModel" ⟨"MarketDeskModel", "reaches", "(II)Z"⟩ ⟨"MarketDeskModel", "reaches", "(II)Z"⟩ ∈ lw_big := tb_S 39 rfl rfl
theorem bmS_40 : Cond.selects "MarketDeskModel" ⟨"MarketDeskModel", "leftFor", "(I)J"⟩ ⟨"MarketDeskModel", "leftFor", "(I)J"⟩ ∈ lw_big := tb_S 40 rfl rfl
theorem bmS_41 : Cond.selects "MarketDeskModel" ⟨"MarketDeskModel", "restOf", "(I)J"⟩ ⟨"MarketDeskModel", "restOf", "(I)J"⟩ ∈ lw_big := tb_S 41 rfl rfl
theorem bmS_42 : Cond.selects "MarketDeskModel" ⟨"MarketDeskModel", "readiness", "()I"⟩ ⟨"MarketDeskModel", "readiness", "()I"⟩ ∈ lw_big := tb_S 42 rfl rfl
/-! ===== private members of nest mates ===== -/
def lw_nest : List (String × Nat × MethodName × String) := [("MarketDesk", 17, ⟨"MarketDesk$Prices", "<init>", "()V"⟩, "MarketDesk"), ("MarketDesk", 24, ⟨"MarketDesk$Demand", "<init>", "()V"⟩, "MarketDesk"), ("MarketDesk", 31, ⟨"MarketDesk$Search", "<init>", "()V"⟩, "MarketDesk"), ("MarketDesk", 43, ⟨"MarketDesk$Market", "<init>", "()V"⟩, "MarketDesk"), ("MarketDesk$Market", 31, ⟨"MarketDesk$Prices", "<init>", "()V"⟩, "MarketDesk"), ("MarketDesk$Market", 50, ⟨"MarketDesk", "cell", "(II)I"⟩, "MarketDesk"), ("MarketDesk$Search", 65, ⟨"MarketDesk", "firstOf", "(I)I"⟩, "MarketDesk"), ("MarketDesk$Search", 68, ⟨"MarketDesk", "has", "(II)Z"⟩, "MarketDesk"), ("MarketDesk$Search", 79, ⟨"MarketDesk", "cell", "(II)I"⟩, "MarketDesk"), ("MarketDesk$Demand", 63, ⟨"MarketDesk", "cell", "(II)I"⟩, "MarketDesk"), ("MarketDesk$Demand", 80, ⟨"MarketDesk", "has", "(II)Z"⟩, "MarketDesk")]
def gq_N (U : State) : Prop := ∀ q ∈ lw_nest, va_Nw (.methodLinkNest q.1 q.2.1 q.2.2.1 q.2.2.2) U
theorem nm_0 : (("MarketDesk", 17, ⟨"MarketDesk$Prices", "<init>", "()V"⟩, "MarketDesk") : String × Nat × MethodName × String) ∈ lw_nest := List.mem_of_getElem? (i := 0) rfl
theorem nm_1 : (("MarketDesk", 24, ⟨"MarketDesk$Demand", "<init>", "()V"⟩, "MarketDesk") : String × Nat × MethodName × String) ∈ lw_nest := List.mem_of_getElem? (i := 1) rfl
theorem nm_2 : (("MarketDesk", 31, ⟨"MarketDesk$Search", "<init>", "()V"⟩, "MarketDesk") : String × Nat × MethodName × String) ∈ lw_nest := List.mem_of_getElem? (i := 2) rfl
theorem nm_3 : (("MarketDesk", 43, ⟨"MarketDesk$Market", "<init>", "()V"⟩, "MarketDesk") : String × Nat × MethodName × String) ∈ lw_nest := List.mem_of_getElem? (i := 3) rfl
theorem nm_4 : (("MarketDesk$Market", 31, ⟨"MarketDesk$Prices", "<init>", "()V"⟩, "MarketDesk") : String × Nat × MethodName × String) ∈ lw_nest := List.mem_of_getElem? (i := 4) rfl
theorem nm_5 : (("MarketDesk$Market", 50, ⟨"MarketDesk", "cell", "(II)I"⟩, "MarketDesk") : String × Nat × MethodName × String) ∈ lw_nest := List.mem_of_getElem? (i := 5) rfl
theorem nm_6 : (("MarketDesk$Search", 65, ⟨"MarketDesk", "firstOf", "(I)I"⟩, "MarketDesk") : String × Nat × MethodName × String) ∈ lw_nest := List.mem_of_getElem? (i := 6) rfl
theorem nm_7 : (("MarketDesk$Search", 68, ⟨"MarketDesk", "has", "(II)Z"⟩, "MarketDesk") : String × Nat × MethodName × String) ∈ lw_nest := List.mem_of_getElem? (i := 7) rfl
theorem nm_8 : (("MarketDesk$Search", 79, ⟨"MarketDesk", "cell", "(II)I"⟩, "MarketDesk") : String × Nat × MethodName × String) ∈ lw_nest := List.mem_of_getElem? (i := 8) rfl
theorem nm_9 : (("MarketDesk$Demand", 63, ⟨"MarketDesk", "cell", "(II)I"⟩, "MarketDesk") : String × Nat × MethodName × String) ∈ lw_nest := List.mem_of_getElem? (i := 9) rfl
theorem nm_10 : (("MarketDesk$Demand", 80, ⟨"MarketDesk", "has", "(II)Z"⟩, "MarketDesk") : String × Nat × MethodName × String) ∈ lw_nest := List.mem_of_getElem? (i := 10) rfl
theorem nw_0 {s : State} (h : gq_N s) : va_Nw (.methodLinkNest "MarketDesk" 17 ⟨"MarketDesk$Prices", "<init>", "()V"⟩ "MarketDesk") s := h ("MarketDesk", 17, ⟨"MarketDesk$Prices", "<init>", "()V"⟩, "MarketDesk") nm_0
theorem nw_1 {s : State} (h : gq_N s) : va_Nw (.methodLinkNest "MarketDesk" 24 ⟨"MarketDesk$Demand", "<init>", "()V"⟩ "MarketDesk") s := h ("MarketDesk", 24, ⟨"MarketDesk$Demand", "<init>", "()V"⟩, "MarketDesk") nm_1
theorem nw_2 {s : State} (h : gq_N s) : va_Nw (.methodLinkNest "MarketDesk" 31 ⟨"MarketDesk$Search", "<init>", "()V"⟩ "MarketDesk") s := h ("MarketDesk", 31, ⟨"MarketDesk$Search", "<init>", "()V"⟩, "MarketDesk") nm_2
theorem nw_3 {s : State} (h : gq_N s) : va_Nw (.methodLinkNest "MarketDesk" 43 ⟨"MarketDesk$Market", "<init>", "()V"⟩ "MarketDesk") s := h ("MarketDesk", 43, ⟨"MarketDesk$Market", "<init>", "()V"⟩, "MarketDesk") nm_3
theorem nw_4 {s : State} (h : gq_N s) : va_Nw (.methodLinkNest "MarketDesk$Market" 31 ⟨"MarketDesk$Prices", "<init>", "()V"⟩ "MarketDesk") s := h ("MarketDesk$Market", 31, ⟨"MarketDesk$Prices", "<init>", "()V"⟩, "MarketDesk") nm_4
theorem nw_5 {s : State} (h : gq_N s) : va_Nw (.methodLinkNest "MarketDesk$Market" 50 ⟨"MarketDesk", "cell", "(II)I"⟩ "MarketDesk") s := h ("MarketDesk$Market", 50, ⟨"MarketDesk", "cell", "(II)I"⟩, "MarketDesk") nm_5
theorem nw_6 {s : State} (h : gq_N s) : va_Nw (.methodLinkNest "MarketDesk$Search" 65 ⟨"MarketDesk", "firstOf", "(I)I"⟩ "MarketDesk") s := h ("MarketDesk$Search", 65, ⟨"MarketDesk", "firstOf", "(I)I"⟩, "MarketDesk") nm_6
theorem nw_7 {s : State} (h : gq_N s) : va_Nw (.methodLinkNest "MarketDesk$Search" 68 ⟨"MarketDesk", "has", "(II)Z"⟩ "MarketDesk") s := h ("MarketDesk$Search", 68, ⟨"MarketDesk", "has", "(II)Z"⟩, "MarketDesk") nm_7
theorem nw_8 {s : State} (h : gq_N s) : va_Nw (.methodLinkNest "MarketDesk$Search" 79 ⟨"MarketDesk", "cell", "(II)I"⟩ "MarketDesk") s := h ("MarketDesk$Search", 79, ⟨"MarketDesk", "cell", "(II)I"⟩, "MarketDesk") nm_8
theorem nw_9 {s : State} (h : gq_N s) : va_Nw (.methodLinkNest "MarketDesk$Demand" 63 ⟨"MarketDesk", "cell", "(II)I"⟩ "MarketDesk") s := h ("MarketDesk$Demand", 63, ⟨"MarketDesk", "cell", "(II)I"⟩, "MarketDesk") nm_9
theorem nw_10 {s : State} (h : gq_N s) : va_Nw (.methodLinkNest "MarketDesk$Demand" 80 ⟨"MarketDesk", "has", "(II)Z"⟩ "MarketDesk") s := h ("MarketDesk$Demand", 80, ⟨"MarketDesk", "has", "(II)Z"⟩, "MarketDesk") nm_10
theorem gq_N.warm {s U : State} (hW : s.WarmedH U.vm) (h : gq_N s) : gq_N U := fun q hq => va_Nw.warmM hW (h q hq)
theorem gq_N.same {s U : State} (hW : s.vm = U.vm) (h : gq_N s) : gq_N U := fun q hq => va_Nw.same rfl hW (h q hq)
def RX0 : String := "MarketDesk$Demand"
def TX0 : u_T := fun k => match k with
  | 0 => ("MarketDesk$Demand", "buyers", "I", false)
  | 1 => ("MarketDesk$Demand", "goods", "I", false)
  | 2 => ("MarketDesk$Demand", "unit", "J", false)
  | 3 => ("MarketDesk$Demand", "cost", "[J", true)
  | 4 => ("MarketDesk$Demand", "funds", "[J", true)
  | _ => ("MarketDesk$Demand", "liked", "[I", true)
def tyX0 : Nat → FieldType := fun k => match k with
  | 0 => .int
  | 1 => .int
  | 2 => .long
  | 3 => .array .long
  | 4 => .array .long
  | _ => .array .int
theorem nmX0 : ∀ a, a < 6 → ∀ b, b < 6 → a ≠ b → (TX0 a).2.1 ≠ (TX0 b).2.1 := by decide +kernel
theorem tyX0_ok : ∀ k, k < 6 → parseFieldDescriptor (TX0 k).2.2.1 = some (tyX0 k) := by decide +kernel
theorem inX0 : ∀ w ∈ u_ws RX0 TX0 6, w ∈ lw_big := by
  intro w hw
  obtain ⟨k, hk, rfl⟩ := List.mem_map.mp hw
  have hk := List.mem_range.mp hk
  rcases (show k = 0 ∨ k = 1 ∨ k = 2 ∨ k = 3 ∨ k = 4 ∨ k = 5 by omega) with rfl | rfl | rfl | rfl | rfl | rfl
  · exact bm_61
  · exact bm_63
  · exact bm_65
  · exact bm_67
  · exact bm_69
  · exact bm_71
def RX1 : String := "MarketDesk$Market"
def TX1 : u_T := fun k => match k with
  | 0 => ("MarketDesk$Market", "buyers", "I", false)
  | 1 => ("MarketDesk$Market", "goods", "I", false)
  | 2 => ("MarketDesk$Market", "purse", "[I", true)
  | 3 => ("MarketDesk$Market", "worth", "[I", true)
  | 4 => ("MarketDesk$Market", "solved", "Z", false)
  | 5 => ("MarketDesk$Market", "prices", "LMarketDesk$Prices;", true)
  | 6 => ("MarketDesk$Market", "share", "[J", true)
  | _ => ("MarketDesk$Market", "unit", "J", false)
def tyX1 : Nat → FieldType := fun k => match k with
  | 0 => .int
  | 1 => .int
  | 2 => .array .int
  | 3 => .array .int
  | 4 => .boolean
  | 5 => .object "MarketDesk$Prices"
  | 6 => .array .long
  | _ => .long
theorem nmX1 : ∀ a, a < 8 → ∀ b, b < 8 → a ≠ b → (TX1 a).2.1 ≠ (TX1 b).2.1 := by decide +kernel
theorem tyX1_ok : ∀ k, k < 8 → parseFieldDescriptor (TX1 k).2.2.1 = some (tyX1 k) := by decide +kernel
theorem inX1 : ∀ w ∈ u_ws RX1 TX1 8, w ∈ lw_big := by
  intro w hw
  obtain ⟨k, hk, rfl⟩ := List.mem_map.mp hw
  have hk := List.mem_range.mp hk
  rcases (show k = 0 ∨ k = 1 ∨ k = 2 ∨ k = 3 ∨ k = 4 ∨ k = 5 ∨ k = 6 ∨ k = 7 by omega) with rfl | rfl | rfl | rfl | rfl | rfl | rfl | rfl
  · exact bm_120
  · exact bm_122
  · exact bm_124
  · exact bm_126
  · exact bm_128
  · exact bm_130
  · exact bm_132
  · exact bm_134
def RX2 : String := "MarketDesk$Prices"
def TX2 : u_T := fun k => match k with
  | 0 => ("MarketDesk$Prices", "above", "[J", true)
  | _ => ("MarketDesk$Prices", "below", "[J", true)
def tyX2 : Nat → FieldType := fun k => match k with
  | 0 => .array .long
  | _ => .array .long
theorem nmX2 : ∀ a, a < 2 → ∀ b, b < 2 → a ≠ b → (TX2 a).2.1 ≠ (TX2 b).2.1 := by decide +kernel
theorem tyX2_ok : ∀ k, k < 2 → parseFieldDescriptor (TX2 k).2.2.1 = some (tyX2 k) := by decide +kernel
theorem inX2 : ∀ w ∈ u_ws RX2 TX2 2, w ∈ lw_big := by
  intro w hw
  obtain ⟨k, hk, rfl⟩ := List.mem_map.mp hw
  have hk := List.mem_range.mp hk
  rcases (show k = 0 ∨ k = 1 by omega) with rfl | rfl
  · exact bm_41
  · exact bm_43
def RX3 : String := "MarketDesk$Search"
def TX3 : u_T := fun k => match k with
  | 0 => ("MarketDesk$Search", "group", "[I", true)
  | _ => ("MarketDesk$Search", "weight", "[J", true)
def tyX3 : Nat → FieldType := fun k => match k with
  | 0 => .array .int
  | _ => .array .long
theorem nmX3 : ∀ a, a < 2 → ∀ b, b < 2 → a ≠ b → (TX3 a).2.1 ≠ (TX3 b).2.1 := by decide +kernel
theorem tyX3_ok : ∀ k, k < 2 → parseFieldDescriptor (TX3 k).2.2.1 = some (tyX3 k) := by decide +kernel
theorem inX3 : ∀ w ∈ u_ws RX3 TX3 2, w ∈ lw_big := by
  intro w hw
  obtain ⟨k, hk, rfl⟩ := List.mem_map.mp hw
  have hk := List.mem_range.mp hk
  rcases (show k = 0 ∨ k = 1 by omega) with rfl | rfl
  · exact bm_83
  · exact bm_85
def RX4 : String := "MarketDesk"
def TX4 : u_T := fun k => match k with
  | 0 => ("MarketDesk", "ring", "[LMarketDesk$Market;", true)
  | 1 => ("MarketDesk", "tried", "LMarketDesk$Prices;", true)
  | 2 => ("MarketDesk", "demand", "LMarketDesk$Demand;", true)
  | 3 => ("MarketDesk", "search", "LMarketDesk$Search;", true)
  | 4 => ("MarketDesk", "now", "I", false)
  | _ => ("MarketDesk", "undoable", "I", false)
def tyX4 : Nat → FieldType := fun k => match k with
  | 0 => .array (.object "MarketDesk$Market")
  | 1 => .object "MarketDesk$Prices"
  | 2 => .object "MarketDesk$Demand"
  | 3 => .object "MarketDesk$Search"
  | 4 => .int
  | _ => .int
theorem nmX4 : ∀ a, a < 6 → ∀ b, b < 6 → a ≠ b → (TX4 a).2.1 ≠ (TX4 b).2.1 := by decide +kernel
theorem tyX4_ok : ∀ k, k < 6 → parseFieldDescriptor (TX4 k).2.2.1 = some (tyX4 k) := by decide +kernel
theorem inX4 : ∀ w ∈ u_ws RX4 TX4 6, w ∈ lw_big := by
  intro w hw
  obtain ⟨k, hk, rfl⟩ := List.mem_map.mp hw
  have hk := List.mem_range.mp hk
  rcases (show k = 0 ∨ k = 1 ∨ k = 2 ∨ k = 3 ∨ k = 4 ∨ k = 5 by omega) with rfl | rfl | rfl | rfl | rfl | rfl
  · exact bm_143
  · exact bm_145
  · exact bm_147
  · exact bm_149
  · exact bm_151
  · exact bm_153
def RX5 : String := "MarketDeskModel"
def TX5 : u_T := fun k => match k with
  | 0 => ("MarketDeskModel", "thrown", "I", false)
  | 1 => ("MarketDeskModel", "now", "[I", true)
  | 2 => ("MarketDeskModel", "past", "[I", true)
  | 3 => ("MarketDeskModel", "pasts", "I", false)
  | 4 => ("MarketDeskModel", "prices", "[J", true)
  | 5 => ("MarketDeskModel", "line", "J", false)
  | 6 => ("MarketDeskModel", "spent", "[J", true)
  | 7 => ("MarketDeskModel", "likes", "[Z", true)
  | 8 => ("MarketDeskModel", "open", "[Z", true)
  | 9 => ("MarketDeskModel", "purse", "[J", true)
  | 10 => ("MarketDeskModel", "rest", "[J", true)
  | 11 => ("MarketDeskModel", "part", "[J", true)
  | 12 => ("MarketDeskModel", "group", "[I", true)
  | 13 => ("MarketDeskModel", "above", "[I", true)
  | _ => ("MarketDeskModel", "below", "[I", true)
def tyX5 : Nat → FieldType := fun k => match k with
  | 0 => .int
  | 1 => .array .int
  | 2 => .array .int
  | 3 => .int
  | 4 => .array .long
  | 5 => .long
  | 6 => .array .long
  | 7 => .array .boolean
  | 8 => .array .boolean
  | 9 => .array .long
  | 10 => .array .long
  | 11 => .array .long
  | 12 => .array .int
  | 13 => .array .int
  | _ => .array .int
theorem nmX5 : ∀ a, a < 15 → ∀ b, b < 15 → a ≠ b → (TX5 a).2.1 ≠ (TX5 b).2.1 := by decide +kernel
theorem tyX5_ok : ∀ k, k < 15 → parseFieldDescriptor (TX5 k).2.2.1 = some (tyX5 k) := by decide +kernel
theorem inX5 : ∀ w ∈ u_ws RX5 TX5 15, w ∈ lw_big := by
  intro w hw
  obtain ⟨k, hk, rfl⟩ := List.mem_map.mp hw
  have hk := List.mem_range.mp hk
  rcases (show k = 0 ∨ k = 1 ∨ k = 2 ∨ k = 3 ∨ k = 4 ∨ k = 5 ∨ k = 6 ∨ k = 7 ∨ k = 8 ∨ k = 9 ∨ k = 10 ∨ k = 11 ∨ k = 12 ∨ k = 13 ∨ k = 14 by omega) with rfl | rfl | rfl | rfl | rfl | rfl | rfl | rfl | rfl | rfl | rfl | rfl | rfl | rfl | rfl
  · exact bm_575
  · exact bm_577
  · exact bm_579
  · exact bm_581
  · exact bm_583
  · exact bm_585
  · exact bm_587
  · exact bm_589
  · exact bm_591
  · exact bm_593
  · exact bm_595
  · exact bm_597
  · exact bm_599
  · exact bm_601
  · exact bm_603
abbrev vwCl : List vw_C := [(RX0, TX0, 6), (RX1, TX1, 8), (RX2, TX2, 2), (RX3, TX3, 2), (RX4, TX4, 6), (RX5, TX5, 15)]
