section
-- ===== PART A: goes FIRST, ahead of the names: the tables' words, and 'selects' of the private methods out of them =====
/-- a private method of a class that the tables say can be made, by its rows of tables_1 -/
def lw_okq (q : MethodName × Nat) : Prop := (q.1.cls ≠ "java/lang/invoke/MethodHandle" ∧ q.1.cls ≠ "java/lang/invoke/VarHandle") ∧ Cond.instantiable q.1.cls q.2 ∈ tables_1 ∧ Cond.privateMethod q.1 ∈ tables_1 ∧ Cond.instanceMethod q.1 ∈ tables_1
theorem lw_p0 : lw_okq (⟨"OwingSwings", "found", "(I)I"⟩, 7) := ⟨⟨by decide +kernel, by decide +kernel⟩, List.mem_of_getElem? (i := 14) (by decide +kernel), List.mem_of_getElem? (i := 139) (by decide +kernel), List.mem_of_getElem? (i := 140) (by decide +kernel)⟩
theorem lw_p1 : lw_okq (⟨"OwingSwings", "sumOf", "([I)I"⟩, 7) := ⟨⟨by decide +kernel, by decide +kernel⟩, List.mem_of_getElem? (i := 14) (by decide +kernel), List.mem_of_getElem? (i := 164) (by decide +kernel), List.mem_of_getElem? (i := 165) (by decide +kernel)⟩
theorem lw_p2 : lw_okq (⟨"OwingSwings$Ground", "lowest", "()I"⟩, 7) := ⟨⟨by decide +kernel, by decide +kernel⟩, List.mem_of_getElem? (i := 22) (by decide +kernel), List.mem_of_getElem? (i := 184) (by decide +kernel), List.mem_of_getElem? (i := 185) (by decide +kernel)⟩
theorem lw_p3 : lw_okq (⟨"OwingSwings", "isChild", "(I)Z"⟩, 7) := ⟨⟨by decide +kernel, by decide +kernel⟩, List.mem_of_getElem? (i := 14) (by decide +kernel), List.mem_of_getElem? (i := 212) (by decide +kernel), List.mem_of_getElem? (i := 213) (by decide +kernel)⟩
theorem lw_p4 : lw_okq (⟨"OwingSwings$Ground", "nextOf", "(I)I"⟩, 7) := ⟨⟨by decide +kernel, by decide +kernel⟩, List.mem_of_getElem? (i := 22) (by decide +kernel), List.mem_of_getElem? (i := 221) (by decide +kernel), List.mem_of_getElem? (i := 222) (by decide +kernel)⟩
theorem lw_p5 : lw_okq (⟨"OwingSwings", "put", "([IIIII)I"⟩, 7) := ⟨⟨by decide +kernel, by decide +kernel⟩, List.mem_of_getElem? (i := 14) (by decide +kernel), List.mem_of_getElem? (i := 238) (by decide +kernel), List.mem_of_getElem? (i := 239) (by decide +kernel)⟩
theorem lw_p6 : lw_okq (⟨"OwingSwings", "areTwo", "(II)Z"⟩, 7) := ⟨⟨by decide +kernel, by decide +kernel⟩, List.mem_of_getElem? (i := 14) (by decide +kernel), List.mem_of_getElem? (i := 270) (by decide +kernel), List.mem_of_getElem? (i := 271) (by decide +kernel)⟩
theorem lw_p7 : lw_okq (⟨"OwingSwings$Ground", "getMoreLevel", "()V"⟩, 7) := ⟨⟨by decide +kernel, by decide +kernel⟩, List.mem_of_getElem? (i := 22) (by decide +kernel), List.mem_of_getElem? (i := 295) (by decide +kernel), List.mem_of_getElem? (i := 296) (by decide +kernel)⟩
theorem lw_p8 : lw_okq (⟨"OwingSwings$Ground", "carry", "(III)I"⟩, 7) := ⟨⟨by decide +kernel, by decide +kernel⟩, List.mem_of_getElem? (i := 22) (by decide +kernel), List.mem_of_getElem? (i := 299) (by decide +kernel), List.mem_of_getElem? (i := 300) (by decide +kernel)⟩
theorem lw_p9 : lw_okq (⟨"OwingSwings$Ground", "deal", "(I)V"⟩, 7) := ⟨⟨by decide +kernel, by decide +kernel⟩, List.mem_of_getElem? (i := 22) (by decide +kernel), List.mem_of_getElem? (i := 306) (by decide +kernel), List.mem_of_getElem? (i := 307) (by decide +kernel)⟩
theorem lw_p10 : lw_okq (⟨"OwingSwings$Ground", "payFor", "(II)V"⟩, 7) := ⟨⟨by decide +kernel, by decide +kernel⟩, List.mem_of_getElem? (i := 22) (by decide +kernel), List.mem_of_getElem? (i := 313) (by decide +kernel), List.mem_of_getElem? (i := 314) (by decide +kernel)⟩
theorem lw_p11 : lw_okq (⟨"OwingSwings", "tryAsItIs", "()V"⟩, 7) := ⟨⟨by decide +kernel, by decide +kernel⟩, List.mem_of_getElem? (i := 14) (by decide +kernel), List.mem_of_getElem? (i := 321) (by decide +kernel), List.mem_of_getElem? (i := 322) (by decide +kernel)⟩
theorem lw_p12 : lw_okq (⟨"OwingSwings", "firstMinuteWithin", "(III)I"⟩, 7) := ⟨⟨by decide +kernel, by decide +kernel⟩, List.mem_of_getElem? (i := 14) (by decide +kernel), List.mem_of_getElem? (i := 345) (by decide +kernel), List.mem_of_getElem? (i := 346) (by decide +kernel)⟩
theorem lw_p13 : lw_okq (⟨"OwingSwings", "heightLater", "(II)I"⟩, 7) := ⟨⟨by decide +kernel, by decide +kernel⟩, List.mem_of_getElem? (i := 14) (by decide +kernel), List.mem_of_getElem? (i := 357) (by decide +kernel), List.mem_of_getElem? (i := 358) (by decide +kernel)⟩
theorem lw_p14 : lw_okq (⟨"OwingSwings$Tape", "advance", "()V"⟩, 6) := ⟨⟨by decide +kernel, by decide +kernel⟩, List.mem_of_getElem? (i := 62) (by decide +kernel), List.mem_of_getElem? (i := 411) (by decide +kernel), List.mem_of_getElem? (i := 412) (by decide +kernel)⟩
theorem lw_p15 : lw_okq (⟨"OwingSwings$Tape", "isLetter", "(I)Z"⟩, 6) := ⟨⟨by decide +kernel, by decide +kernel⟩, List.mem_of_getElem? (i := 62) (by decide +kernel), List.mem_of_getElem? (i := 415) (by decide +kernel), List.mem_of_getElem? (i := 416) (by decide +kernel)⟩
def lw_privs_1 : List (MethodName × Nat) := [(⟨"OwingSwings", "found", "(I)I"⟩, 7), (⟨"OwingSwings", "sumOf", "([I)I"⟩, 7), (⟨"OwingSwings$Ground", "lowest", "()I"⟩, 7), (⟨"OwingSwings", "isChild", "(I)Z"⟩, 7), (⟨"OwingSwings$Ground", "nextOf", "(I)I"⟩, 7), (⟨"OwingSwings", "put", "([IIIII)I"⟩, 7), (⟨"OwingSwings", "areTwo", "(II)Z"⟩, 7), (⟨"OwingSwings$Ground", "getMoreLevel", "()V"⟩, 7), (⟨"OwingSwings$Ground", "carry", "(III)I"⟩, 7), (⟨"OwingSwings$Ground", "deal", "(I)V"⟩, 7), (⟨"OwingSwings$Ground", "payFor", "(II)V"⟩, 7), (⟨"OwingSwings", "tryAsItIs", "()V"⟩, 7), (⟨"OwingSwings", "firstMinuteWithin", "(III)I"⟩, 7), (⟨"OwingSwings", "heightLater", "(II)I"⟩, 7), (⟨"OwingSwings$Tape", "advance", "()V"⟩, 6), (⟨"OwingSwings$Tape", "isLetter", "(I)Z"⟩, 6)]
theorem lw_r1 : ∀ q ∈ lw_privs_1, lw_okq q := List.forall_mem_cons.mpr ⟨lw_p0, List.forall_mem_cons.mpr ⟨lw_p1, List.forall_mem_cons.mpr ⟨lw_p2, List.forall_mem_cons.mpr ⟨lw_p3, List.forall_mem_cons.mpr ⟨lw_p4, List.forall_mem_cons.mpr ⟨lw_p5, List.forall_mem_cons.mpr ⟨lw_p6, List.forall_mem_cons.mpr ⟨lw_p7, List.forall_mem_cons.mpr ⟨lw_p8, List.forall_mem_cons.mpr ⟨lw_p9, List.forall_mem_cons.mpr ⟨lw_p10, List.forall_mem_cons.mpr ⟨lw_p11, List.forall_mem_cons.mpr ⟨lw_p12, List.forall_mem_cons.mpr ⟨lw_p13, List.forall_mem_cons.mpr ⟨lw_p14, List.forall_mem_cons.mpr ⟨lw_p15, fun _ h => absurd h List.not_mem_nil⟩⟩⟩⟩⟩⟩⟩⟩⟩⟩⟩⟩⟩⟩⟩⟩
theorem lw_p16 : lw_okq (⟨"OwingSwings$Tape", "isDigit", "(I)Z"⟩, 6) := ⟨⟨by decide +kernel, by decide +kernel⟩, List.mem_of_getElem? (i := 62) (by decide +kernel), List.mem_of_getElem? (i := 419) (by decide +kernel), List.mem_of_getElem? (i := 420) (by decide +kernel)⟩
theorem lw_p17 : lw_okq (⟨"OwingSwings$Tape", "isItemTold", "(LOwingSwings$Ground;)Z"⟩, 6) := ⟨⟨by decide +kernel, by decide +kernel⟩, List.mem_of_getElem? (i := 62) (by decide +kernel), List.mem_of_getElem? (i := 424) (by decide +kernel), List.mem_of_getElem? (i := 425) (by decide +kernel)⟩
theorem lw_p18 : lw_okq (⟨"OwingSwings$Tape", "isWord", "(Ljava/lang/String;)Z"⟩, 6) := ⟨⟨by decide +kernel, by decide +kernel⟩, List.mem_of_getElem? (i := 62) (by decide +kernel), List.mem_of_getElem? (i := 429) (by decide +kernel), List.mem_of_getElem? (i := 430) (by decide +kernel)⟩
theorem lw_p19 : lw_okq (⟨"OwingSwings$Tape", "isPushTold", "(LOwingSwings$Ground;)Z"⟩, 6) := ⟨⟨by decide +kernel, by decide +kernel⟩, List.mem_of_getElem? (i := 62) (by decide +kernel), List.mem_of_getElem? (i := 481) (by decide +kernel), List.mem_of_getElem? (i := 482) (by decide +kernel)⟩
theorem lw_p20 : lw_okq (⟨"OwingSwings$Tape", "isNumberWithin", "(II)Z"⟩, 6) := ⟨⟨by decide +kernel, by decide +kernel⟩, List.mem_of_getElem? (i := 62) (by decide +kernel), List.mem_of_getElem? (i := 485) (by decide +kernel), List.mem_of_getElem? (i := 486) (by decide +kernel)⟩
theorem lw_p21 : lw_okq (⟨"OwingSwings$Tape", "isDarkTold", "(LOwingSwings$Ground;)Z"⟩, 6) := ⟨⟨by decide +kernel, by decide +kernel⟩, List.mem_of_getElem? (i := 62) (by decide +kernel), List.mem_of_getElem? (i := 491) (by decide +kernel), List.mem_of_getElem? (i := 492) (by decide +kernel)⟩
theorem lw_p22 : lw_okq (⟨"OwingSwings$Tape", "kindNamed", "()I"⟩, 6) := ⟨⟨by decide +kernel, by decide +kernel⟩, List.mem_of_getElem? (i := 62) (by decide +kernel), List.mem_of_getElem? (i := 495) (by decide +kernel), List.mem_of_getElem? (i := 496) (by decide +kernel)⟩
theorem lw_p23 : lw_okq (⟨"OwingSwings$Tape", "isChildTold", "(LOwingSwings$Ground;I)Z"⟩, 6) := ⟨⟨by decide +kernel, by decide +kernel⟩, List.mem_of_getElem? (i := 62) (by decide +kernel), List.mem_of_getElem? (i := 509) (by decide +kernel), List.mem_of_getElem? (i := 510) (by decide +kernel)⟩
theorem lw_p24 : lw_okq (⟨"OwingSwings$Tape", "isPartTold", "(Ljava/lang/String;I[II)Z"⟩, 6) := ⟨⟨by decide +kernel, by decide +kernel⟩, List.mem_of_getElem? (i := 62) (by decide +kernel), List.mem_of_getElem? (i := 515) (by decide +kernel), List.mem_of_getElem? (i := 516) (by decide +kernel)⟩
theorem lw_p25 : lw_okq (⟨"OwingSwings", "wentAsBooked", "(LOwingSwings$Sheet;I)Z"⟩, 7) := ⟨⟨by decide +kernel, by decide +kernel⟩, List.mem_of_getElem? (i := 14) (by decide +kernel), List.mem_of_getElem? (i := 572) (by decide +kernel), List.mem_of_getElem? (i := 573) (by decide +kernel)⟩
theorem lw_p26 : lw_okq (⟨"OwingSwingsModel", "becomes", "(II)I"⟩, 19) := ⟨⟨by decide +kernel, by decide +kernel⟩, List.mem_of_getElem? (i := 596) (by decide +kernel), List.mem_of_getElem? (i := 667) (by decide +kernel), List.mem_of_getElem? (i := 668) (by decide +kernel)⟩
theorem lw_p27 : lw_okq (⟨"OwingSwingsModel", "finds", "(I)I"⟩, 19) := ⟨⟨by decide +kernel, by decide +kernel⟩, List.mem_of_getElem? (i := 596) (by decide +kernel), List.mem_of_getElem? (i := 672) (by decide +kernel), List.mem_of_getElem? (i := 673) (by decide +kernel)⟩
theorem lw_p28 : lw_okq (⟨"OwingSwingsModel", "isDusk", "()Z"⟩, 19) := ⟨⟨by decide +kernel, by decide +kernel⟩, List.mem_of_getElem? (i := 596) (by decide +kernel), List.mem_of_getElem? (i := 680) (by decide +kernel), List.mem_of_getElem? (i := 681) (by decide +kernel)⟩
theorem lw_p29 : lw_okq (⟨"OwingSwingsModel", "isSaturday", "()Z"⟩, 19) := ⟨⟨by decide +kernel, by decide +kernel⟩, List.mem_of_getElem? (i := 596) (by decide +kernel), List.mem_of_getElem? (i := 684) (by decide +kernel), List.mem_of_getElem? (i := 685) (by decide +kernel)⟩
theorem lw_p30 : lw_okq (⟨"OwingSwingsModel", "sumOf", "(I)I"⟩, 19) := ⟨⟨by decide +kernel, by decide +kernel⟩, List.mem_of_getElem? (i := 596) (by decide +kernel), List.mem_of_getElem? (i := 688) (by decide +kernel), List.mem_of_getElem? (i := 689) (by decide +kernel)⟩
theorem lw_p31 : lw_okq (⟨"OwingSwingsModel", "its", "(II)I"⟩, 19) := ⟨⟨by decide +kernel, by decide +kernel⟩, List.mem_of_getElem? (i := 596) (by decide +kernel), List.mem_of_getElem? (i := 692) (by decide +kernel), List.mem_of_getElem? (i := 693) (by decide +kernel)⟩
def lw_privs_2 : List (MethodName × Nat) := [(⟨"OwingSwings$Tape", "isDigit", "(I)Z"⟩, 6), (⟨"OwingSwings$Tape", "isItemTold", "(LOwingSwings$Ground;)Z"⟩, 6), (⟨"OwingSwings$Tape", "isWord", "(Ljava/lang/String;)Z"⟩, 6), (⟨"OwingSwings$Tape", "isPushTold", "(LOwingSwings$Ground;)Z"⟩, 6), (⟨"OwingSwings$Tape", "isNumberWithin", "(II)Z"⟩, 6), (⟨"OwingSwings$Tape", "isDarkTold", "(LOwingSwings$Ground;)Z"⟩, 6), (⟨"OwingSwings$Tape", "kindNamed", "()I"⟩, 6), (⟨"OwingSwings$Tape", "isChildTold", "(LOwingSwings$Ground;I)Z"⟩, 6), (⟨"OwingSwings$Tape", "isPartTold", "(Ljava/lang/String;I[II)Z"⟩, 6), (⟨"OwingSwings", "wentAsBooked", "(LOwingSwings$Sheet;I)Z"⟩, 7), (⟨"OwingSwingsModel", "becomes", "(II)I"⟩, 19), (⟨"OwingSwingsModel", "finds", "(I)I"⟩, 19), (⟨"OwingSwingsModel", "isDusk", "()Z"⟩, 19), (⟨"OwingSwingsModel", "isSaturday", "()Z"⟩, 19), (⟨"OwingSwingsModel", "sumOf", "(I)I"⟩, 19), (⟨"OwingSwingsModel", "its", "(II)I"⟩, 19)]
theorem lw_r2 : ∀ q ∈ lw_privs_2, lw_okq q := List.forall_mem_cons.mpr ⟨lw_p16, List.forall_mem_cons.mpr ⟨lw_p17, List.forall_mem_cons.mpr ⟨lw_p18, List.forall_mem_cons.mpr ⟨lw_p19, List.forall_mem_cons.mpr ⟨lw_p20, List.forall_mem_cons.mpr ⟨lw_p21, List.forall_mem_cons.mpr ⟨lw_p22, List.forall_mem_cons.mpr ⟨lw_p23, List.forall_mem_cons.mpr ⟨lw_p24, List.forall_mem_cons.mpr ⟨lw_p25, List.forall_mem_cons.mpr ⟨lw_p26, List.forall_mem_cons.mpr ⟨lw_p27, List.forall_mem_cons.mpr ⟨lw_p28, List.forall_mem_cons.mpr ⟨lw_p29, List.forall_mem_cons.mpr ⟨lw_p30, List.forall_mem_cons.mpr ⟨lw_p31, fun _ h => absurd h List.not_mem_nil⟩⟩⟩⟩⟩⟩⟩⟩⟩⟩⟩⟩⟩⟩⟩⟩
theorem lw_p32 : lw_okq (⟨"OwingSwingsModel", "difference", "()I"⟩, 19) := ⟨⟨by decide +kernel, by decide +kernel⟩, List.mem_of_getElem? (i := 596) (by decide +kernel), List.mem_of_getElem? (i := 696) (by decide +kernel), List.mem_of_getElem? (i := 697) (by decide +kernel)⟩
theorem lw_p33 : lw_okq (⟨"OwingSwingsModel", "mostOf", "(I)I"⟩, 19) := ⟨⟨by decide +kernel, by decide +kernel⟩, List.mem_of_getElem? (i := 596) (by decide +kernel), List.mem_of_getElem? (i := 700) (by decide +kernel), List.mem_of_getElem? (i := 701) (by decide +kernel)⟩
theorem lw_p34 : lw_okq (⟨"OwingSwingsModel", "lowest", "()I"⟩, 19) := ⟨⟨by decide +kernel, by decide +kernel⟩, List.mem_of_getElem? (i := 596) (by decide +kernel), List.mem_of_getElem? (i := 704) (by decide +kernel), List.mem_of_getElem? (i := 705) (by decide +kernel)⟩
theorem lw_p35 : lw_okq (⟨"OwingSwingsModel", "dustSet", "()I"⟩, 19) := ⟨⟨by decide +kernel, by decide +kernel⟩, List.mem_of_getElem? (i := 596) (by decide +kernel), List.mem_of_getElem? (i := 708) (by decide +kernel), List.mem_of_getElem? (i := 709) (by decide +kernel)⟩
theorem lw_p36 : lw_okq (⟨"OwingSwingsModel", "adds", "(III)V"⟩, 19) := ⟨⟨by decide +kernel, by decide +kernel⟩, List.mem_of_getElem? (i := 596) (by decide +kernel), List.mem_of_getElem? (i := 720) (by decide +kernel), List.mem_of_getElem? (i := 721) (by decide +kernel)⟩
theorem lw_p37 : lw_okq (⟨"OwingSwingsModel", "puts", "(III)V"⟩, 19) := ⟨⟨by decide +kernel, by decide +kernel⟩, List.mem_of_getElem? (i := 596) (by decide +kernel), List.mem_of_getElem? (i := 724) (by decide +kernel), List.mem_of_getElem? (i := 725) (by decide +kernel)⟩
theorem lw_p38 : lw_okq (⟨"OwingSwingsModel", "isOne", "(I)Z"⟩, 19) := ⟨⟨by decide +kernel, by decide +kernel⟩, List.mem_of_getElem? (i := 596) (by decide +kernel), List.mem_of_getElem? (i := 732) (by decide +kernel), List.mem_of_getElem? (i := 733) (by decide +kernel)⟩
theorem lw_p39 : lw_okq (⟨"OwingSwingsModel", "wants", "(I)I"⟩, 19) := ⟨⟨by decide +kernel, by decide +kernel⟩, List.mem_of_getElem? (i := 596) (by decide +kernel), List.mem_of_getElem? (i := 737) (by decide +kernel), List.mem_of_getElem? (i := 738) (by decide +kernel)⟩
theorem lw_p40 : lw_okq (⟨"OwingSwingsModel", "next", "(I)I"⟩, 19) := ⟨⟨by decide +kernel, by decide +kernel⟩, List.mem_of_getElem? (i := 596) (by decide +kernel), List.mem_of_getElem? (i := 741) (by decide +kernel), List.mem_of_getElem? (i := 742) (by decide +kernel)⟩
theorem lw_p41 : lw_okq (⟨"OwingSwingsModel", "pays", "(I)I"⟩, 19) := ⟨⟨by decide +kernel, by decide +kernel⟩, List.mem_of_getElem? (i := 596) (by decide +kernel), List.mem_of_getElem? (i := 745) (by decide +kernel), List.mem_of_getElem? (i := 746) (by decide +kernel)⟩
theorem lw_p42 : lw_okq (⟨"OwingSwingsModel", "yields", "(I)I"⟩, 19) := ⟨⟨by decide +kernel, by decide +kernel⟩, List.mem_of_getElem? (i := 596) (by decide +kernel), List.mem_of_getElem? (i := 749) (by decide +kernel), List.mem_of_getElem? (i := 750) (by decide +kernel)⟩
theorem lw_p43 : lw_okq (⟨"OwingSwingsModel", "pushes", "(II)V"⟩, 19) := ⟨⟨by decide +kernel, by decide +kernel⟩, List.mem_of_getElem? (i := 596) (by decide +kernel), List.mem_of_getElem? (i := 773) (by decide +kernel), List.mem_of_getElem? (i := 774) (by decide +kernel)⟩
theorem lw_p44 : lw_okq (⟨"OwingSwingsModel", "swaps", "(II)V"⟩, 19) := ⟨⟨by decide +kernel, by decide +kernel⟩, List.mem_of_getElem? (i := 596) (by decide +kernel), List.mem_of_getElem? (i := 784) (by decide +kernel), List.mem_of_getElem? (i := 785) (by decide +kernel)⟩
theorem lw_p45 : lw_okq (⟨"OwingSwingsModel", "passes", "(I)V"⟩, 19) := ⟨⟨by decide +kernel, by decide +kernel⟩, List.mem_of_getElem? (i := 596) (by decide +kernel), List.mem_of_getElem? (i := 794) (by decide +kernel), List.mem_of_getElem? (i := 795) (by decide +kernel)⟩
theorem lw_p46 : lw_okq (⟨"OwingSwingsModel", "oneMinute", "()V"⟩, 19) := ⟨⟨by decide +kernel, by decide +kernel⟩, List.mem_of_getElem? (i := 596) (by decide +kernel), List.mem_of_getElem? (i := 798) (by decide +kernel), List.mem_of_getElem? (i := 799) (by decide +kernel)⟩
theorem lw_p47 : lw_okq (⟨"OwingSwingsModel", "levels", "()V"⟩, 19) := ⟨⟨by decide +kernel, by decide +kernel⟩, List.mem_of_getElem? (i := 596) (by decide +kernel), List.mem_of_getElem? (i := 802) (by decide +kernel), List.mem_of_getElem? (i := 803) (by decide +kernel)⟩
def lw_privs_3 : List (MethodName × Nat) := [(⟨"OwingSwingsModel", "difference", "()I"⟩, 19), (⟨"OwingSwingsModel", "mostOf", "(I)I"⟩, 19), (⟨"OwingSwingsModel", "lowest", "()I"⟩, 19), (⟨"OwingSwingsModel", "dustSet", "()I"⟩, 19), (⟨"OwingSwingsModel", "adds", "(III)V"⟩, 19), (⟨"OwingSwingsModel", "puts", "(III)V"⟩, 19), (⟨"OwingSwingsModel", "isOne", "(I)Z"⟩, 19), (⟨"OwingSwingsModel", "wants", "(I)I"⟩, 19), (⟨"OwingSwingsModel", "next", "(I)I"⟩, 19), (⟨"OwingSwingsModel", "pays", "(I)I"⟩, 19), (⟨"OwingSwingsModel", "yields", "(I)I"⟩, 19), (⟨"OwingSwingsModel", "pushes", "(II)V"⟩, 19), (⟨"OwingSwingsModel", "swaps", "(II)V"⟩, 19), (⟨"OwingSwingsModel", "passes", "(I)V"⟩, 19), (⟨"OwingSwingsModel", "oneMinute", "()V"⟩, 19), (⟨"OwingSwingsModel", "levels", "()V"⟩, 19)]
theorem lw_r3 : ∀ q ∈ lw_privs_3, lw_okq q := List.forall_mem_cons.mpr ⟨lw_p32, List.forall_mem_cons.mpr ⟨lw_p33, List.forall_mem_cons.mpr ⟨lw_p34, List.forall_mem_cons.mpr ⟨lw_p35, List.forall_mem_cons.mpr ⟨lw_p36, List.forall_mem_cons.mpr ⟨lw_p37, List.forall_mem_cons.mpr ⟨lw_p38, List.forall_mem_cons.mpr ⟨lw_p39, List.forall_mem_cons.mpr ⟨lw_p40, List.forall_mem_cons.mpr ⟨lw_p41, List.forall_mem_cons.mpr ⟨lw_p42, List.forall_mem_cons.mpr ⟨lw_p43, List.forall_mem_cons.mpr ⟨lw_p44, List.forall_mem_cons.mpr ⟨lw_p45, List.forall_mem_cons.mpr ⟨lw_p46, List.forall_mem_cons.mpr ⟨lw_p47, fun _ h => absurd h List.not_mem_nil⟩⟩⟩⟩⟩⟩⟩⟩⟩⟩⟩⟩⟩⟩⟩⟩
theorem lw_p48 : lw_okq (⟨"OwingSwingsModel", "goes", "(III)V"⟩, 19) := ⟨⟨by decide +kernel, by decide +kernel⟩, List.mem_of_getElem? (i := 596) (by decide +kernel), List.mem_of_getElem? (i := 806) (by decide +kernel), List.mem_of_getElem? (i := 807) (by decide +kernel)⟩
theorem lw_p49 : lw_okq (⟨"OwingSwingsModel", "swings", "(I)V"⟩, 19) := ⟨⟨by decide +kernel, by decide +kernel⟩, List.mem_of_getElem? (i := 596) (by decide +kernel), List.mem_of_getElem? (i := 813) (by decide +kernel), List.mem_of_getElem? (i := 814) (by decide +kernel)⟩
theorem lw_p50 : lw_okq (⟨"OwingSwingsModel", "mayGo", "(III)I"⟩, 19) := ⟨⟨by decide +kernel, by decide +kernel⟩, List.mem_of_getElem? (i := 596) (by decide +kernel), List.mem_of_getElem? (i := 817) (by decide +kernel), List.mem_of_getElem? (i := 818) (by decide +kernel)⟩
theorem lw_p51 : lw_okq (⟨"OwingSwingsModel", "moveAll", "(Z[I)V"⟩, 19) := ⟨⟨by decide +kernel, by decide +kernel⟩, List.mem_of_getElem? (i := 596) (by decide +kernel), List.mem_of_getElem? (i := 825) (by decide +kernel), List.mem_of_getElem? (i := 826) (by decide +kernel)⟩
theorem lw_p52 : lw_okq (⟨"OwingSwingsModel", "behind", "(II)I"⟩, 19) := ⟨⟨by decide +kernel, by decide +kernel⟩, List.mem_of_getElem? (i := 596) (by decide +kernel), List.mem_of_getElem? (i := 829) (by decide +kernel), List.mem_of_getElem? (i := 830) (by decide +kernel)⟩
theorem lw_p53 : lw_okq (⟨"OwingSwingsModel", "advance", "()V"⟩, 19) := ⟨⟨by decide +kernel, by decide +kernel⟩, List.mem_of_getElem? (i := 596) (by decide +kernel), List.mem_of_getElem? (i := 893) (by decide +kernel), List.mem_of_getElem? (i := 894) (by decide +kernel)⟩
theorem lw_p54 : lw_okq (⟨"OwingSwingsModel", "byteAt", "(I)I"⟩, 19) := ⟨⟨by decide +kernel, by decide +kernel⟩, List.mem_of_getElem? (i := 596) (by decide +kernel), List.mem_of_getElem? (i := 897) (by decide +kernel), List.mem_of_getElem? (i := 898) (by decide +kernel)⟩
theorem lw_p55 : lw_okq (⟨"OwingSwingsModel", "wantItem", "()V"⟩, 19) := ⟨⟨by decide +kernel, by decide +kernel⟩, List.mem_of_getElem? (i := 596) (by decide +kernel), List.mem_of_getElem? (i := 910) (by decide +kernel), List.mem_of_getElem? (i := 911) (by decide +kernel)⟩
theorem lw_p56 : lw_okq (⟨"OwingSwingsModel", "kindHere", "()I"⟩, 19) := ⟨⟨by decide +kernel, by decide +kernel⟩, List.mem_of_getElem? (i := 596) (by decide +kernel), List.mem_of_getElem? (i := 914) (by decide +kernel), List.mem_of_getElem? (i := 915) (by decide +kernel)⟩
theorem lw_p57 : lw_okq (⟨"OwingSwingsModel", "isWord", "(J)Z"⟩, 19) := ⟨⟨by decide +kernel, by decide +kernel⟩, List.mem_of_getElem? (i := 596) (by decide +kernel), List.mem_of_getElem? (i := 919) (by decide +kernel), List.mem_of_getElem? (i := 920) (by decide +kernel)⟩
theorem lw_p58 : lw_okq (⟨"OwingSwingsModel", "wantOne", "(I)V"⟩, 19) := ⟨⟨by decide +kernel, by decide +kernel⟩, List.mem_of_getElem? (i := 596) (by decide +kernel), List.mem_of_getElem? (i := 928) (by decide +kernel), List.mem_of_getElem? (i := 929) (by decide +kernel)⟩
theorem lw_p59 : lw_okq (⟨"OwingSwingsModel", "mayWant", "(JIII)I"⟩, 19) := ⟨⟨by decide +kernel, by decide +kernel⟩, List.mem_of_getElem? (i := 596) (by decide +kernel), List.mem_of_getElem? (i := 933) (by decide +kernel), List.mem_of_getElem? (i := 934) (by decide +kernel)⟩
theorem lw_p60 : lw_okq (⟨"OwingSwingsModel", "wantNumber", "(II)I"⟩, 19) := ⟨⟨by decide +kernel, by decide +kernel⟩, List.mem_of_getElem? (i := 596) (by decide +kernel), List.mem_of_getElem? (i := 937) (by decide +kernel), List.mem_of_getElem? (i := 938) (by decide +kernel)⟩
theorem lw_p61 : lw_okq (⟨"OwingSwingsModel", "wantPush", "()V"⟩, 19) := ⟨⟨by decide +kernel, by decide +kernel⟩, List.mem_of_getElem? (i := 596) (by decide +kernel), List.mem_of_getElem? (i := 943) (by decide +kernel), List.mem_of_getElem? (i := 944) (by decide +kernel)⟩
theorem lw_p62 : lw_okq (⟨"OwingSwingsModel", "isPart", "(III)Z"⟩, 19) := ⟨⟨by decide +kernel, by decide +kernel⟩, List.mem_of_getElem? (i := 596) (by decide +kernel), List.mem_of_getElem? (i := 968) (by decide +kernel), List.mem_of_getElem? (i := 969) (by decide +kernel)⟩
theorem lw_p63 : lw_okq (⟨"OwingSwingsModel", "badSheet", "(I)I"⟩, 19) := ⟨⟨by decide +kernel, by decide +kernel⟩, List.mem_of_getElem? (i := 596) (by decide +kernel), List.mem_of_getElem? (i := 976) (by decide +kernel), List.mem_of_getElem? (i := 977) (by decide +kernel)⟩
def lw_privs_4 : List (MethodName × Nat) := [(⟨"OwingSwingsModel", "goes", "(III)V"⟩, 19), (⟨"OwingSwingsModel", "swings", "(I)V"⟩, 19), (⟨"OwingSwingsModel", "mayGo", "(III)I"⟩, 19), (⟨"OwingSwingsModel", "moveAll", "(Z[I)V"⟩, 19), (⟨"OwingSwingsModel", "behind", "(II)I"⟩, 19), (⟨"OwingSwingsModel", "advance", "()V"⟩, 19), (⟨"OwingSwingsModel", "byteAt", "(I)I"⟩, 19), (⟨"OwingSwingsModel", "wantItem", "()V"⟩, 19), (⟨"OwingSwingsModel", "kindHere", "()I"⟩, 19), (⟨"OwingSwingsModel", "isWord", "(J)Z"⟩, 19), (⟨"OwingSwingsModel", "wantOne", "(I)V"⟩, 19), (⟨"OwingSwingsModel", "mayWant", "(JIII)I"⟩, 19), (⟨"OwingSwingsModel", "wantNumber", "(II)I"⟩, 19), (⟨"OwingSwingsModel", "wantPush", "()V"⟩, 19), (⟨"OwingSwingsModel", "isPart", "(III)Z"⟩, 19), (⟨"OwingSwingsModel", "badSheet", "(I)I"⟩, 19)]
theorem lw_r4 : ∀ q ∈ lw_privs_4, lw_okq q := List.forall_mem_cons.mpr ⟨lw_p48, List.forall_mem_cons.mpr ⟨lw_p49, List.forall_mem_cons.mpr ⟨lw_p50, List.forall_mem_cons.mpr ⟨lw_p51, List.forall_mem_cons.mpr ⟨lw_p52, List.forall_mem_cons.mpr ⟨lw_p53, List.forall_mem_cons.mpr ⟨lw_p54, List.forall_mem_cons.mpr ⟨lw_p55, List.forall_mem_cons.mpr ⟨lw_p56, List.forall_mem_cons.mpr ⟨lw_p57, List.forall_mem_cons.mpr ⟨lw_p58, List.forall_mem_cons.mpr ⟨lw_p59, List.forall_mem_cons.mpr ⟨lw_p60, List.forall_mem_cons.mpr ⟨lw_p61, List.forall_mem_cons.mpr ⟨lw_p62, List.forall_mem_cons.mpr ⟨lw_p63, fun _ h => absurd h List.not_mem_nil⟩⟩⟩⟩⟩⟩⟩⟩⟩⟩⟩⟩⟩⟩⟩⟩
theorem lw_p64 : lw_okq (⟨"OwingSwingsModel", "isSo", "(II)Z"⟩, 19) := ⟨⟨by decide +kernel, by decide +kernel⟩, List.mem_of_getElem? (i := 596) (by decide +kernel), List.mem_of_getElem? (i := 989) (by decide +kernel), List.mem_of_getElem? (i := 990) (by decide +kernel)⟩
def lw_privs_5 : List (MethodName × Nat) := [(⟨"OwingSwingsModel", "isSo", "(II)Z"⟩, 19)]
theorem lw_r5 : ∀ q ∈ lw_privs_5, lw_okq q := List.forall_mem_cons.mpr ⟨lw_p64, fun _ h => absurd h List.not_mem_nil⟩
def lw_privs : List (MethodName × Nat) := lw_privs_1 ++ (lw_privs_2 ++ (lw_privs_3 ++ (lw_privs_4 ++ (lw_privs_5))))
def lw_tbl : List Cond := k2_sels lw_privs ++ tables_1
theorem lw_privs_ok : ∀ q ∈ lw_privs, lw_okq q := by
  show ∀ q ∈ lw_privs_1 ++ (lw_privs_2 ++ (lw_privs_3 ++ (lw_privs_4 ++ (lw_privs_5)))), lw_okq q
  exact List.forall_mem_append.mpr ⟨lw_r1, List.forall_mem_append.mpr ⟨lw_r2, List.forall_mem_append.mpr ⟨lw_r3, List.forall_mem_append.mpr ⟨lw_r4, lw_r5⟩⟩⟩⟩
end
section
def RX0 : String := "OwingSwings$Ground"
def TX0 : u_T := fun k => match k with
  | 0 => ("OwingSwings$Ground", "minute", "I", false)
  | 1 => ("OwingSwings$Ground", "darkFrom", "I", false)
  | 2 => ("OwingSwings$Ground", "children", "I", false)
  | 3 => ("OwingSwings$Ground", "kinds", "[I", true)
  | 4 => ("OwingSwings$Ground", "heights", "[I", true)
  | 5 => ("OwingSwings$Ground", "purses", "[I", true)
  | _ => ("OwingSwings$Ground", "debts", "[I", true)
def tyX0 : Nat → FieldType := fun k => match k with
  | 0 => .int
  | 1 => .int
  | 2 => .int
  | 3 => .array .int
  | 4 => .array .int
  | 5 => .array .int
  | _ => .array .int
abbrev wsX00 : List Cond := u_ws RX0 TX0 7
theorem nmX0 : ∀ a, a < 7 → ∀ b, b < 7 → a ≠ b → (TX0 a).2.1 ≠ (TX0 b).2.1 := by decide +kernel
theorem tyX0_ok : ∀ k, k < 7 → parseFieldDescriptor (TX0 k).2.2.1 = some (tyX0 k) := by decide +kernel
abbrev cX0_init : ByteArray := prog_2_method_1_code
def yX0_init : MethodName := ⟨RX0, "<init>", "()V"⟩
abbrev cX0_becomeLike : ByteArray := prog_2_method_2_code
def yX0_becomeLike : MethodName := ⟨RX0, "becomeLike", "(LOwingSwings$Ground;)V"⟩
abbrev cX0_isOfKind : ByteArray := prog_2_method_3_code
def yX0_isOfKind : MethodName := ⟨RX0, "isOfKind", "(II)Z"⟩
abbrev cX0_hasRoom : ByteArray := prog_2_method_4_code
def yX0_hasRoom : MethodName := ⟨RX0, "hasRoom", "()Z"⟩
abbrev cX0_addOne : ByteArray := prog_2_method_5_code
def yX0_addOne : MethodName := ⟨RX0, "addOne", "(I)I"⟩
abbrev cX0_shove : ByteArray := prog_2_method_6_code
def yX0_shove : MethodName := ⟨RX0, "shove", "(II)V"⟩
abbrev cX0_exchange : ByteArray := prog_2_method_7_code
def yX0_exchange : MethodName := ⟨RX0, "exchange", "(II)V"⟩
abbrev cX0_exchangeIn : ByteArray := prog_2_method_8_code
def yX0_exchangeIn : MethodName := ⟨RX0, "exchangeIn", "([III)V"⟩
abbrev cX0_minuteOfDay : ByteArray := prog_2_method_9_code
def yX0_minuteOfDay : MethodName := ⟨RX0, "minuteOfDay", "()I"⟩
abbrev cX0_isDusk : ByteArray := prog_2_method_10_code
def yX0_isDusk : MethodName := ⟨RX0, "isDusk", "()Z"⟩
abbrev cX0_isSaturday : ByteArray := prog_2_method_11_code
def yX0_isSaturday : MethodName := ⟨RX0, "isSaturday", "()Z"⟩
abbrev cX0_firstOfMost : ByteArray := prog_2_method_12_code
def yX0_firstOfMost : MethodName := ⟨RX0, "firstOfMost", "([I)I"⟩
abbrev cX0_highest : ByteArray := prog_2_method_13_code
def yX0_highest : MethodName := ⟨RX0, "highest", "()I"⟩
abbrev cX0_lowest : ByteArray := prog_2_method_14_code
def yX0_lowest : MethodName := ⟨RX0, "lowest", "()I"⟩
abbrev cX0_apart : ByteArray := prog_2_method_15_code
def yX0_apart : MethodName := ⟨RX0, "apart", "()I"⟩
abbrev cX0_isLevel : ByteArray := prog_2_method_16_code
def yX0_isLevel : MethodName := ⟨RX0, "isLevel", "()Z"⟩
abbrev cX0_inTheDust : ByteArray := prog_2_method_17_code
def yX0_inTheDust : MethodName := ⟨RX0, "inTheDust", "()I"⟩
abbrev cX0_nextOf : ByteArray := prog_2_method_18_code
def yX0_nextOf : MethodName := ⟨RX0, "nextOf", "(I)I"⟩
abbrev cX0_wantsOf : ByteArray := prog_2_method_19_code
def yX0_wantsOf : MethodName := ⟨RX0, "wantsOf", "(I)I"⟩
abbrev cX0_paysOf : ByteArray := prog_2_method_20_code
def yX0_paysOf : MethodName := ⟨RX0, "paysOf", "(I)I"⟩
abbrev cX0_yieldsOf : ByteArray := prog_2_method_21_code
def yX0_yieldsOf : MethodName := ⟨RX0, "yieldsOf", "(I)I"⟩
abbrev cX0_goOn : ByteArray := prog_2_method_22_code
def yX0_goOn : MethodName := ⟨RX0, "goOn", "(I)V"⟩
abbrev cX0_goMinute : ByteArray := prog_2_method_23_code
def yX0_goMinute : MethodName := ⟨RX0, "goMinute", "()V"⟩
abbrev cX0_getMoreLevel : ByteArray := prog_2_method_24_code
def yX0_getMoreLevel : MethodName := ⟨RX0, "getMoreLevel", "()V"⟩
abbrev cX0_deal : ByteArray := prog_2_method_25_code
def yX0_deal : MethodName := ⟨RX0, "deal", "(I)V"⟩
abbrev cX0_carry : ByteArray := prog_2_method_26_code
def yX0_carry : MethodName := ⟨RX0, "carry", "(III)I"⟩
abbrev cX0_payFor : ByteArray := prog_2_method_27_code
def yX0_payFor : MethodName := ⟨RX0, "payFor", "(II)V"⟩
def RX1 : String := "OwingSwings$Sheet"
def TX1 : u_T := fun k => match k with
  | 0 => ("OwingSwings$Sheet", "numbers", "[J", true)
  | 1 => ("OwingSwings$Sheet", "bits", "I", false)
  | _ => ("OwingSwings$Sheet", "length", "I", false)
def tyX1 : Nat → FieldType := fun k => match k with
  | 0 => .array .long
  | 1 => .int
  | _ => .int
abbrev wsX10 : List Cond := u_ws RX1 TX1 3
theorem nmX1 : ∀ a, a < 3 → ∀ b, b < 3 → a ≠ b → (TX1 a).2.1 ≠ (TX1 b).2.1 := by decide +kernel
theorem tyX1_ok : ∀ k, k < 3 → parseFieldDescriptor (TX1 k).2.2.1 = some (tyX1 k) := by decide +kernel
abbrev cX1_init : ByteArray := prog_3_method_1_code
def yX1_init : MethodName := ⟨RX1, "<init>", "()V"⟩
abbrev cX1_areBits : ByteArray := prog_3_method_2_code
def yX1_areBits : MethodName := ⟨RX1, "areBits", "(I)Z"⟩
abbrev cX1_isMissing : ByteArray := prog_3_method_3_code
def yX1_isMissing : MethodName := ⟨RX1, "isMissing", "()Z"⟩
abbrev cX1_renew : ByteArray := prog_3_method_4_code
def yX1_renew : MethodName := ⟨RX1, "renew", "(II)V"⟩
abbrev cX1_has : ByteArray := prog_3_method_5_code
def yX1_has : MethodName := ⟨RX1, "has", "(II)Z"⟩
abbrev cX1_store : ByteArray := prog_3_method_6_code
def yX1_store : MethodName := ⟨RX1, "store", "(IJ)V"⟩
def RX2 : String := "OwingSwings$Tape"
def TX2 : u_T := fun k => match k with
  | 0 => ("OwingSwings$Tape", "bytes", "[B", true)
  | 1 => ("OwingSwings$Tape", "length", "I", false)
  | 2 => ("OwingSwings$Tape", "token", "I", false)
  | 3 => ("OwingSwings$Tape", "start", "I", false)
  | 4 => ("OwingSwings$Tape", "end", "I", false)
  | _ => ("OwingSwings$Tape", "number", "I", false)
def tyX2 : Nat → FieldType := fun k => match k with
  | 0 => .array .byte
  | 1 => .int
  | 2 => .int
  | 3 => .int
  | 4 => .int
  | _ => .int
abbrev wsX20 : List Cond := u_ws RX2 TX2 6
theorem nmX2 : ∀ a, a < 6 → ∀ b, b < 6 → a ≠ b → (TX2 a).2.1 ≠ (TX2 b).2.1 := by decide +kernel
theorem tyX2_ok : ∀ k, k < 6 → parseFieldDescriptor (TX2 k).2.2.1 = some (tyX2 k) := by decide +kernel
abbrev cX2_init : ByteArray := prog_4_method_1_code
def yX2_init : MethodName := ⟨RX2, "<init>", "()V"⟩
abbrev cX2_hasRoomFor : ByteArray := prog_4_method_2_code
def yX2_hasRoomFor : MethodName := ⟨RX2, "hasRoomFor", "(I)Z"⟩
abbrev cX2_append : ByteArray := prog_4_method_3_code
def yX2_append : MethodName := ⟨RX2, "append", "(B)V"⟩
abbrev cX2_tellTo : ByteArray := prog_4_method_4_code
def yX2_tellTo : MethodName := ⟨RX2, "tellTo", "(LOwingSwings$Ground;)I"⟩
abbrev cX2_isItemTold : ByteArray := prog_4_method_5_code
def yX2_isItemTold : MethodName := ⟨RX2, "isItemTold", "(LOwingSwings$Ground;)Z"⟩
abbrev cX2_isPushTold : ByteArray := prog_4_method_6_code
def yX2_isPushTold : MethodName := ⟨RX2, "isPushTold", "(LOwingSwings$Ground;)Z"⟩
abbrev cX2_isDarkTold : ByteArray := prog_4_method_7_code
def yX2_isDarkTold : MethodName := ⟨RX2, "isDarkTold", "(LOwingSwings$Ground;)Z"⟩
abbrev cX2_isChildTold : ByteArray := prog_4_method_8_code
def yX2_isChildTold : MethodName := ⟨RX2, "isChildTold", "(LOwingSwings$Ground;I)Z"⟩
abbrev cX2_isPartTold : ByteArray := prog_4_method_9_code
def yX2_isPartTold : MethodName := ⟨RX2, "isPartTold", "(Ljava/lang/String;I[II)Z"⟩
abbrev cX2_isNumberWithin : ByteArray := prog_4_method_10_code
def yX2_isNumberWithin : MethodName := ⟨RX2, "isNumberWithin", "(II)Z"⟩
abbrev cX2_kindNamed : ByteArray := prog_4_method_11_code
def yX2_kindNamed : MethodName := ⟨RX2, "kindNamed", "()I"⟩
abbrev cX2_nameOf : ByteArray := prog_4_method_12_code
def yX2_nameOf : MethodName := ⟨RX2, "nameOf", "(I)Ljava/lang/String;"⟩
abbrev cX2_isWord : ByteArray := prog_4_method_13_code
def yX2_isWord : MethodName := ⟨RX2, "isWord", "(Ljava/lang/String;)Z"⟩
abbrev cX2_advance : ByteArray := prog_4_method_14_code
def yX2_advance : MethodName := ⟨RX2, "advance", "()V"⟩
abbrev cX2_isLetter : ByteArray := prog_4_method_15_code
def yX2_isLetter : MethodName := ⟨RX2, "isLetter", "(I)Z"⟩
abbrev cX2_isDigit : ByteArray := prog_4_method_16_code
def yX2_isDigit : MethodName := ⟨RX2, "isDigit", "(I)Z"⟩
def RX3 : String := "OwingSwings"
def TX3 : u_T := fun k => match k with
  | 0 => ("OwingSwings", "here", "LOwingSwings$Ground;", true)
  | 1 => ("OwingSwings", "trial", "LOwingSwings$Ground;", true)
  | 2 => ("OwingSwings", "kept", "LOwingSwings$Ground;", true)
  | 3 => ("OwingSwings", "isKept", "Z", false)
  | 4 => ("OwingSwings", "tape", "LOwingSwings$Tape;", true)
  | 5 => ("OwingSwings", "sheets", "[LOwingSwings$Sheet;", true)
  | _ => ("OwingSwings", "findings", "[I", true)
def tyX3 : Nat → FieldType := fun k => match k with
  | 0 => .object "OwingSwings$Ground"
  | 1 => .object "OwingSwings$Ground"
  | 2 => .object "OwingSwings$Ground"
  | 3 => .boolean
  | 4 => .object "OwingSwings$Tape"
  | 5 => .array (.object "OwingSwings$Sheet")
  | _ => .array .int
abbrev wsX30 : List Cond := u_ws RX3 TX3 7
theorem nmX3 : ∀ a, a < 7 → ∀ b, b < 7 → a ≠ b → (TX3 a).2.1 ≠ (TX3 b).2.1 := by decide +kernel
theorem tyX3_ok : ∀ k, k < 7 → parseFieldDescriptor (TX3 k).2.2.1 = some (tyX3 k) := by decide +kernel
abbrev cX3_init : ByteArray := prog_1_method_1_code
def yX3_init : MethodName := ⟨RX3, "<init>", "()V"⟩
abbrev cX3_dark : ByteArray := prog_1_method_2_code
def yX3_dark : MethodName := ⟨RX3, "dark", "(I)I"⟩
abbrev cX3_now : ByteArray := prog_1_method_3_code
def yX3_now : MethodName := ⟨RX3, "now", "(I)I"⟩
abbrev cX3_child : ByteArray := prog_1_method_4_code
def yX3_child : MethodName := ⟨RX3, "child", "(I)I"⟩
abbrev cX3_of : ByteArray := prog_1_method_5_code
def yX3_of : MethodName := ⟨RX3, "of", "(II)I"⟩
abbrev cX3_set : ByteArray := prog_1_method_6_code
def yX3_set : MethodName := ⟨RX3, "set", "(III)I"⟩
abbrev cX3_turn : ByteArray := prog_1_method_7_code
def yX3_turn : MethodName := ⟨RX3, "turn", "(II)I"⟩
abbrev cX3_as : ByteArray := prog_1_method_8_code
def yX3_as : MethodName := ⟨RX3, "as", "(II)I"⟩
abbrev cX3_push : ByteArray := prog_1_method_9_code
def yX3_push : MethodName := ⟨RX3, "push", "(II)I"⟩
abbrev cX3_swap : ByteArray := prog_1_method_10_code
def yX3_swap : MethodName := ⟨RX3, "swap", "(II)I"⟩
abbrev cX3_minutes : ByteArray := prog_1_method_11_code
def yX3_minutes : MethodName := ⟨RX3, "minutes", "(I)I"⟩
abbrev cX3_on : ByteArray := prog_1_method_12_code
def yX3_on : MethodName := ⟨RX3, "on", "(III)I"⟩
abbrev cX3_owes : ByteArray := prog_1_method_13_code
def yX3_owes : MethodName := ⟨RX3, "owes", "(II)I"⟩
abbrev cX3_level : ByteArray := prog_1_method_14_code
def yX3_level : MethodName := ⟨RX3, "level", "()I"⟩
abbrev cX3_comes : ByteArray := prog_1_method_15_code
def yX3_comes : MethodName := ⟨RX3, "comes", "(II)I"⟩
abbrev cX3_dust : ByteArray := prog_1_method_16_code
def yX3_dust : MethodName := ⟨RX3, "dust", "(I)I"⟩
abbrev cX3_place : ByteArray := prog_1_method_17_code
def yX3_place : MethodName := ⟨RX3, "place", "(II)I"⟩
abbrev cX3_kind : ByteArray := prog_1_method_18_code
def yX3_kind : MethodName := ⟨RX3, "kind", "(II)I"⟩
abbrev cX3_marbles : ByteArray := prog_1_method_19_code
def yX3_marbles : MethodName := ⟨RX3, "marbles", "(III)I"⟩
abbrev cX3_night : ByteArray := prog_1_method_20_code
def yX3_night : MethodName := ⟨RX3, "night", "(I)I"⟩
abbrev cX3_enough : ByteArray := prog_1_method_21_code
def yX3_enough : MethodName := ⟨RX3, "enough", "(III)I"⟩
abbrev cX3_whom : ByteArray := prog_1_method_22_code
def yX3_whom : MethodName := ⟨RX3, "whom", "(II)I"⟩
abbrev cX3_debtor : ByteArray := prog_1_method_23_code
def yX3_debtor : MethodName := ⟨RX3, "debtor", "(I)I"⟩
abbrev cX3_feed : ByteArray := prog_1_method_24_code
def yX3_feed : MethodName := ⟨RX3, "feed", "(II)I"⟩
abbrev cX3_wipe : ByteArray := prog_1_method_25_code
def yX3_wipe : MethodName := ⟨RX3, "wipe", "()I"⟩
abbrev cX3_ground : ByteArray := prog_1_method_26_code
def yX3_ground : MethodName := ⟨RX3, "ground", "()I"⟩
abbrev cX3_sheet : ByteArray := prog_1_method_27_code
def yX3_sheet : MethodName := ⟨RX3, "sheet", "(III)I"⟩
abbrev cX3_write : ByteArray := prog_1_method_28_code
def yX3_write : MethodName := ⟨RX3, "write", "(IIJ)J"⟩
abbrev cX3_copy : ByteArray := prog_1_method_29_code
def yX3_copy : MethodName := ⟨RX3, "copy", "(IIIII)I"⟩
abbrev cX3_lays : ByteArray := prog_1_method_30_code
def yX3_lays : MethodName := ⟨RX3, "lays", "(I)I"⟩
abbrev cX3_book : ByteArray := prog_1_method_31_code
def yX3_book : MethodName := ⟨RX3, "book", "(II)I"⟩
abbrev cX3_read : ByteArray := prog_1_method_32_code
def yX3_read : MethodName := ⟨RX3, "read", "(III)I"⟩
abbrev cX3_image : ByteArray := prog_1_method_33_code
def yX3_image : MethodName := ⟨RX3, "image", "()I"⟩
abbrev cX3_undo : ByteArray := prog_1_method_34_code
def yX3_undo : MethodName := ⟨RX3, "undo", "()I"⟩
abbrev cX3_tear : ByteArray := prog_1_method_35_code
def yX3_tear : MethodName := ⟨RX3, "tear", "()I"⟩
abbrev cX3_count : ByteArray := prog_1_method_36_code
def yX3_count : MethodName := ⟨RX3, "count", "(I)I"⟩
abbrev cX3_status : ByteArray := prog_1_method_37_code
def yX3_status : MethodName := ⟨RX3, "status", "(I)I"⟩
abbrev cX3_found : ByteArray := prog_1_method_38_code
def yX3_found : MethodName := ⟨RX3, "found", "(I)I"⟩
abbrev cX3_within : ByteArray := prog_1_method_39_code
def yX3_within : MethodName := ⟨RX3, "within", "(III)Z"⟩
abbrev cX3_asNumber : ByteArray := prog_1_method_40_code
def yX3_asNumber : MethodName := ⟨RX3, "asNumber", "(Z)I"⟩
abbrev cX3_isKind : ByteArray := prog_1_method_41_code
def yX3_isKind : MethodName := ⟨RX3, "isKind", "(I)Z"⟩
abbrev cX3_isSheet : ByteArray := prog_1_method_42_code
def yX3_isSheet : MethodName := ⟨RX3, "isSheet", "(I)Z"⟩
abbrev cX3_isChild : ByteArray := prog_1_method_43_code
def yX3_isChild : MethodName := ⟨RX3, "isChild", "(I)Z"⟩
abbrev cX3_areTwo : ByteArray := prog_1_method_44_code
def yX3_areTwo : MethodName := ⟨RX3, "areTwo", "(II)Z"⟩
abbrev cX3_sumOf : ByteArray := prog_1_method_45_code
def yX3_sumOf : MethodName := ⟨RX3, "sumOf", "([I)I"⟩
abbrev cX3_put : ByteArray := prog_1_method_46_code
def yX3_put : MethodName := ⟨RX3, "put", "([IIIII)I"⟩
abbrev cX3_tryAsItIs : ByteArray := prog_1_method_47_code
def yX3_tryAsItIs : MethodName := ⟨RX3, "tryAsItIs", "()V"⟩
abbrev cX3_heightLater : ByteArray := prog_1_method_48_code
def yX3_heightLater : MethodName := ⟨RX3, "heightLater", "(II)I"⟩
abbrev cX3_firstMinuteWithin : ByteArray := prog_1_method_49_code
def yX3_firstMinuteWithin : MethodName := ⟨RX3, "firstMinuteWithin", "(III)I"⟩
abbrev cX3_wentAsBooked : ByteArray := prog_1_method_50_code
def yX3_wentAsBooked : MethodName := ⟨RX3, "wentAsBooked", "(LOwingSwings$Sheet;I)Z"⟩
def RX4 : String := "OwingSwingsModel"
def TX4 : u_T := fun k => match k with
  | 0 => ("OwingSwingsModel", "row", "[I", true)
  | 1 => ("OwingSwingsModel", "found", "[I", true)
  | 2 => ("OwingSwingsModel", "tried", "[I", true)
  | 3 => ("OwingSwingsModel", "before1", "[I", true)
  | 4 => ("OwingSwingsModel", "tape", "[I", true)
  | 5 => ("OwingSwingsModel", "tapeMany", "I", false)
  | 6 => ("OwingSwingsModel", "sort", "I", false)
  | 7 => ("OwingSwingsModel", "begins", "I", false)
  | 8 => ("OwingSwingsModel", "tokenEnds", "I", false)
  | 9 => ("OwingSwingsModel", "word", "J", false)
  | 10 => ("OwingSwingsModel", "value", "I", false)
  | 11 => ("OwingSwingsModel", "good", "Z", false)
  | 12 => ("OwingSwingsModel", "bitsOf", "[I", true)
  | 13 => ("OwingSwingsModel", "sizeOf", "[I", true)
  | 14 => ("OwingSwingsModel", "sheets", "[J", true)
  | 15 => ("OwingSwingsModel", "lent", "[J", true)
  | 16 => ("OwingSwingsModel", "image", "[I", true)
  | 17 => ("OwingSwingsModel", "before", "[I", true)
  | _ => ("OwingSwingsModel", "isKept", "Z", false)
def tyX4 : Nat → FieldType := fun k => match k with
  | 0 => .array .int
  | 1 => .array .int
  | 2 => .array .int
  | 3 => .array .int
  | 4 => .array .int
  | 5 => .int
  | 6 => .int
  | 7 => .int
  | 8 => .int
  | 9 => .long
  | 10 => .int
  | 11 => .boolean
  | 12 => .array .int
  | 13 => .array .int
  | 14 => .array .long
  | 15 => .array .long
  | 16 => .array .int
  | 17 => .array .int
  | _ => .boolean
abbrev wsX40 : List Cond := u_ws RX4 TX4 19
theorem nmX4 : ∀ a, a < 19 → ∀ b, b < 19 → a ≠ b → (TX4 a).2.1 ≠ (TX4 b).2.1 := by decide +kernel
theorem tyX4_ok : ∀ k, k < 19 → parseFieldDescriptor (TX4 k).2.2.1 = some (tyX4 k) := by decide +kernel
abbrev cX4_init : ByteArray := prog_6_method_1_code
def yX4_init : MethodName := ⟨RX4, "<init>", "()V"⟩
abbrev cX4_in : ByteArray := prog_6_method_2_code
def yX4_in : MethodName := ⟨RX4, "in", "(III)Z"⟩
abbrev cX4_finds : ByteArray := prog_6_method_3_code
def yX4_finds : MethodName := ⟨RX4, "finds", "(I)I"⟩
abbrev cX4_held : ByteArray := prog_6_method_4_code
def yX4_held : MethodName := ⟨RX4, "held", "(III)I"⟩
abbrev cX4_lesser : ByteArray := prog_6_method_5_code
def yX4_lesser : MethodName := ⟨RX4, "lesser", "(II)I"⟩
abbrev cX4_its : ByteArray := prog_6_method_6_code
def yX4_its : MethodName := ⟨RX4, "its", "(II)I"⟩
abbrev cX4_puts : ByteArray := prog_6_method_7_code
def yX4_puts : MethodName := ⟨RX4, "puts", "(III)V"⟩
abbrev cX4_becomes : ByteArray := prog_6_method_8_code
def yX4_becomes : MethodName := ⟨RX4, "becomes", "(II)I"⟩
abbrev cX4_isOne : ByteArray := prog_6_method_9_code
def yX4_isOne : MethodName := ⟨RX4, "isOne", "(I)Z"⟩
abbrev cX4_isKind : ByteArray := prog_6_method_10_code
def yX4_isKind : MethodName := ⟨RX4, "isKind", "(I)Z"⟩
abbrev cX4_next : ByteArray := prog_6_method_11_code
def yX4_next : MethodName := ⟨RX4, "next", "(I)I"⟩
abbrev cX4_isDusk : ByteArray := prog_6_method_12_code
def yX4_isDusk : MethodName := ⟨RX4, "isDusk", "()Z"⟩
abbrev cX4_isSaturday : ByteArray := prog_6_method_13_code
def yX4_isSaturday : MethodName := ⟨RX4, "isSaturday", "()Z"⟩
abbrev cX4_dark : ByteArray := prog_6_method_14_code
def yX4_dark : MethodName := ⟨RX4, "dark", "(I)I"⟩
abbrev cX4_sumOf : ByteArray := prog_6_method_15_code
def yX4_sumOf : MethodName := ⟨RX4, "sumOf", "(I)I"⟩
abbrev cX4_mostOf : ByteArray := prog_6_method_16_code
def yX4_mostOf : MethodName := ⟨RX4, "mostOf", "(I)I"⟩
abbrev cX4_lowest : ByteArray := prog_6_method_17_code
def yX4_lowest : MethodName := ⟨RX4, "lowest", "()I"⟩
abbrev cX4_difference : ByteArray := prog_6_method_18_code
def yX4_difference : MethodName := ⟨RX4, "difference", "()I"⟩
abbrev cX4_dustSet : ByteArray := prog_6_method_19_code
def yX4_dustSet : MethodName := ⟨RX4, "dustSet", "()I"⟩
abbrev cX4_now : ByteArray := prog_6_method_20_code
def yX4_now : MethodName := ⟨RX4, "now", "(I)I"⟩
abbrev cX4_wants : ByteArray := prog_6_method_21_code
def yX4_wants : MethodName := ⟨RX4, "wants", "(I)I"⟩
abbrev cX4_pays : ByteArray := prog_6_method_22_code
def yX4_pays : MethodName := ⟨RX4, "pays", "(I)I"⟩
abbrev cX4_yields : ByteArray := prog_6_method_23_code
def yX4_yields : MethodName := ⟨RX4, "yields", "(I)I"⟩
abbrev cX4_adds : ByteArray := prog_6_method_24_code
def yX4_adds : MethodName := ⟨RX4, "adds", "(III)V"⟩
abbrev cX4_child : ByteArray := prog_6_method_25_code
def yX4_child : MethodName := ⟨RX4, "child", "(I)I"⟩
abbrev cX4_of : ByteArray := prog_6_method_26_code
def yX4_of : MethodName := ⟨RX4, "of", "(II)I"⟩
abbrev cX4_isPart : ByteArray := prog_6_method_27_code
def yX4_isPart : MethodName := ⟨RX4, "isPart", "(II)Z"⟩
abbrev cX4_set : ByteArray := prog_6_method_28_code
def yX4_set : MethodName := ⟨RX4, "set", "(III)I"⟩
abbrev cX4_turn : ByteArray := prog_6_method_29_code
def yX4_turn : MethodName := ⟨RX4, "turn", "(II)I"⟩
abbrev cX4_as : ByteArray := prog_6_method_30_code
def yX4_as : MethodName := ⟨RX4, "as", "(II)I"⟩
abbrev cX4_pushes : ByteArray := prog_6_method_31_code
def yX4_pushes : MethodName := ⟨RX4, "pushes", "(II)V"⟩
abbrev cX4_push : ByteArray := prog_6_method_32_code
def yX4_push : MethodName := ⟨RX4, "push", "(II)I"⟩
abbrev cX4_swaps : ByteArray := prog_6_method_33_code
def yX4_swaps : MethodName := ⟨RX4, "swaps", "(II)V"⟩
abbrev cX4_swap : ByteArray := prog_6_method_34_code
def yX4_swap : MethodName := ⟨RX4, "swap", "(II)I"⟩
abbrev cX4_goes : ByteArray := prog_6_method_35_code
def yX4_goes : MethodName := ⟨RX4, "goes", "(III)V"⟩
abbrev cX4_mayGo : ByteArray := prog_6_method_36_code
def yX4_mayGo : MethodName := ⟨RX4, "mayGo", "(III)I"⟩
abbrev cX4_swings : ByteArray := prog_6_method_37_code
def yX4_swings : MethodName := ⟨RX4, "swings", "(I)V"⟩
abbrev cX4_levels : ByteArray := prog_6_method_38_code
def yX4_levels : MethodName := ⟨RX4, "levels", "()V"⟩
abbrev cX4_oneMinute : ByteArray := prog_6_method_39_code
def yX4_oneMinute : MethodName := ⟨RX4, "oneMinute", "()V"⟩
abbrev cX4_passes : ByteArray := prog_6_method_40_code
def yX4_passes : MethodName := ⟨RX4, "passes", "(I)V"⟩
abbrev cX4_minutes : ByteArray := prog_6_method_41_code
def yX4_minutes : MethodName := ⟨RX4, "minutes", "(I)I"⟩
abbrev cX4_behind : ByteArray := prog_6_method_42_code
def yX4_behind : MethodName := ⟨RX4, "behind", "(II)I"⟩
abbrev cX4_on : ByteArray := prog_6_method_43_code
def yX4_on : MethodName := ⟨RX4, "on", "(III)I"⟩
abbrev cX4_owes : ByteArray := prog_6_method_44_code
def yX4_owes : MethodName := ⟨RX4, "owes", "(II)I"⟩
abbrev cX4_level : ByteArray := prog_6_method_45_code
def yX4_level : MethodName := ⟨RX4, "level", "()I"⟩
abbrev cX4_comes : ByteArray := prog_6_method_46_code
def yX4_comes : MethodName := ⟨RX4, "comes", "(II)I"⟩
abbrev cX4_dust : ByteArray := prog_6_method_47_code
def yX4_dust : MethodName := ⟨RX4, "dust", "(I)I"⟩
abbrev cX4_heightAt : ByteArray := prog_6_method_48_code
def yX4_heightAt : MethodName := ⟨RX4, "heightAt", "(I)I"⟩
abbrev cX4_place : ByteArray := prog_6_method_49_code
def yX4_place : MethodName := ⟨RX4, "place", "(II)I"⟩
abbrev cX4_kind : ByteArray := prog_6_method_50_code
def yX4_kind : MethodName := ⟨RX4, "kind", "(II)I"⟩
abbrev cX4_marbles : ByteArray := prog_6_method_51_code
def yX4_marbles : MethodName := ⟨RX4, "marbles", "(III)I"⟩
abbrev cX4_night : ByteArray := prog_6_method_52_code
def yX4_night : MethodName := ⟨RX4, "night", "(I)I"⟩
abbrev cX4_enough : ByteArray := prog_6_method_53_code
def yX4_enough : MethodName := ⟨RX4, "enough", "(III)I"⟩
abbrev cX4_whom : ByteArray := prog_6_method_54_code
def yX4_whom : MethodName := ⟨RX4, "whom", "(II)I"⟩
abbrev cX4_debtor : ByteArray := prog_6_method_55_code
def yX4_debtor : MethodName := ⟨RX4, "debtor", "(I)I"⟩
abbrev cX4_feed : ByteArray := prog_6_method_56_code
def yX4_feed : MethodName := ⟨RX4, "feed", "(II)I"⟩
abbrev cX4_wipe : ByteArray := prog_6_method_57_code
def yX4_wipe : MethodName := ⟨RX4, "wipe", "()I"⟩
abbrev cX4_byteAt : ByteArray := prog_6_method_58_code
def yX4_byteAt : MethodName := ⟨RX4, "byteAt", "(I)I"⟩
abbrev cX4_isLetter : ByteArray := prog_6_method_59_code
def yX4_isLetter : MethodName := ⟨RX4, "isLetter", "(I)Z"⟩
abbrev cX4_isDigit : ByteArray := prog_6_method_60_code
def yX4_isDigit : MethodName := ⟨RX4, "isDigit", "(I)Z"⟩
abbrev cX4_advance : ByteArray := prog_6_method_61_code
def yX4_advance : MethodName := ⟨RX4, "advance", "()V"⟩
abbrev cX4_isWord : ByteArray := prog_6_method_62_code
def yX4_isWord : MethodName := ⟨RX4, "isWord", "(J)Z"⟩
abbrev cX4_kindHere : ByteArray := prog_6_method_63_code
def yX4_kindHere : MethodName := ⟨RX4, "kindHere", "()I"⟩
abbrev cX4_wantNumber : ByteArray := prog_6_method_64_code
def yX4_wantNumber : MethodName := ⟨RX4, "wantNumber", "(II)I"⟩
abbrev cX4_mayWant : ByteArray := prog_6_method_65_code
def yX4_mayWant : MethodName := ⟨RX4, "mayWant", "(JIII)I"⟩
abbrev cX4_wantOne : ByteArray := prog_6_method_66_code
def yX4_wantOne : MethodName := ⟨RX4, "wantOne", "(I)V"⟩
abbrev cX4_wantPush : ByteArray := prog_6_method_67_code
def yX4_wantPush : MethodName := ⟨RX4, "wantPush", "()V"⟩
abbrev cX4_wantItem : ByteArray := prog_6_method_68_code
def yX4_wantItem : MethodName := ⟨RX4, "wantItem", "()V"⟩
abbrev cX4_ground : ByteArray := prog_6_method_69_code
def yX4_ground : MethodName := ⟨RX4, "ground", "()I"⟩
abbrev cX4_isSheet : ByteArray := prog_6_method_70_code
def yX4_isSheet : MethodName := ⟨RX4, "isSheet", "(I)Z"⟩
abbrev cX4_narrow : ByteArray := prog_6_method_71_code
def yX4_narrow : MethodName := ⟨RX4, "narrow", "(IJ)J"⟩
abbrev cX4_sheet : ByteArray := prog_6_method_72_code
def yX4_sheet : MethodName := ⟨RX4, "sheet", "(III)I"⟩
abbrev cX4_write : ByteArray := prog_6_method_73_code
def yX4_write : MethodName := ⟨RX4, "write", "(IIJ)J"⟩
abbrev cX4_isPart_ : ByteArray := prog_6_method_74_code
def yX4_isPart_ : MethodName := ⟨RX4, "isPart", "(III)Z"⟩
abbrev cX4_copy : ByteArray := prog_6_method_75_code
def yX4_copy : MethodName := ⟨RX4, "copy", "(IIIII)I"⟩
abbrev cX4_badSheet : ByteArray := prog_6_method_76_code
def yX4_badSheet : MethodName := ⟨RX4, "badSheet", "(I)I"⟩
abbrev cX4_lays : ByteArray := prog_6_method_77_code
def yX4_lays : MethodName := ⟨RX4, "lays", "(I)I"⟩
abbrev cX4_book : ByteArray := prog_6_method_78_code
def yX4_book : MethodName := ⟨RX4, "book", "(II)I"⟩
abbrev cX4_isSo : ByteArray := prog_6_method_79_code
def yX4_isSo : MethodName := ⟨RX4, "isSo", "(II)Z"⟩
abbrev cX4_read : ByteArray := prog_6_method_80_code
def yX4_read : MethodName := ⟨RX4, "read", "(III)I"⟩
abbrev cX4_moveAll : ByteArray := prog_6_method_81_code
def yX4_moveAll : MethodName := ⟨RX4, "moveAll", "(Z[I)V"⟩
abbrev cX4_image : ByteArray := prog_6_method_82_code
def yX4_image : MethodName := ⟨RX4, "image", "()I"⟩
abbrev cX4_undo : ByteArray := prog_6_method_83_code
def yX4_undo : MethodName := ⟨RX4, "undo", "()I"⟩
abbrev cX4_tear : ByteArray := prog_6_method_84_code
def yX4_tear : MethodName := ⟨RX4, "tear", "()I"⟩
abbrev cX4_count : ByteArray := prog_6_method_85_code
def yX4_count : MethodName := ⟨RX4, "count", "(I)I"⟩
abbrev cX4_status : ByteArray := prog_6_method_86_code
def yX4_status : MethodName := ⟨RX4, "status", "(I)I"⟩
def RJx145de : String := "java/io/Serializable"
def TJx145de : u_T := fun k => match k with
  | _ => ("", "", "", false)
def tyJx145de : Nat → FieldType := fun k => match k with
  | _ => .int
theorem tyJx145de_ok : ∀ k, k < 0 → parseFieldDescriptor (TJx145de k).2.2.1 = some (tyJx145de k) := by decide +kernel
def RJx9f9b0 : String := "java/lang/CharSequence"
def TJx9f9b0 : u_T := fun k => match k with
  | _ => ("", "", "", false)
def tyJx9f9b0 : Nat → FieldType := fun k => match k with
  | _ => .int
theorem tyJx9f9b0_ok : ∀ k, k < 0 → parseFieldDescriptor (TJx9f9b0 k).2.2.1 = some (tyJx9f9b0 k) := by decide +kernel
def RJxb160c : String := "java/lang/Comparable"
def TJxb160c : u_T := fun k => match k with
  | _ => ("", "", "", false)
def tyJxb160c : Nat → FieldType := fun k => match k with
  | _ => .int
theorem tyJxb160c_ok : ∀ k, k < 0 → parseFieldDescriptor (TJxb160c k).2.2.1 = some (tyJxb160c k) := by decide +kernel
def RJ9 : String := "java/lang/Math"
def TJ9 : u_T := fun k => match k with
  | _ => ("", "", "", false)
def tyJ9 : Nat → FieldType := fun k => match k with
  | _ => .int
theorem tyJ9_ok : ∀ k, k < 0 → parseFieldDescriptor (TJ9 k).2.2.1 = some (tyJ9 k) := by decide +kernel
abbrev cJ9_max_7cf53 : ByteArray := prog_7_method_65_code
def yJ9_max_7cf53 : MethodName := ⟨RJ9, "max", "(II)I"⟩
abbrev cJ9_min_7cf53 : ByteArray := prog_7_method_69_code
def yJ9_min_7cf53 : MethodName := ⟨RJ9, "min", "(II)I"⟩
def RJ0 : String := "java/lang/String"
def TJ0 : u_T := fun k => match k with
  | _ => ("", "", "", false)
def tyJ0 : Nat → FieldType := fun k => match k with
  | _ => .int
theorem tyJ0_ok : ∀ k, k < 0 → parseFieldDescriptor (TJ0 k).2.2.1 = some (tyJ0 k) := by decide +kernel
abbrev cJ0_length_8abf5 : ByteArray := prog_8_method_54_code
def yJ0_length_8abf5 : MethodName := ⟨RJ0, "length", "()I"⟩
abbrev cJ0_charAt_5068e : ByteArray := prog_8_method_56_code
def yJ0_charAt_5068e : MethodName := ⟨RJ0, "charAt", "(I)C"⟩
abbrev cJ0_coder_7d493 : ByteArray := prog_8_method_152_code
def yJ0_coder_7d493 : MethodName := ⟨RJ0, "coder", "()B"⟩
abbrev cJ0_isLatin1_aae02 : ByteArray := prog_8_method_154_code
def yJ0_isLatin1_aae02 : MethodName := ⟨RJ0, "isLatin1", "()Z"⟩
abbrev cJ0_checkIndex_df160 : ByteArray := prog_8_method_155_code
def yJ0_checkIndex_df160 : MethodName := ⟨RJ0, "checkIndex", "(II)V"⟩
def RJ1 : String := "java/lang/StringLatin1"
def TJ1 : u_T := fun k => match k with
  | _ => ("", "", "", false)
def tyJ1 : Nat → FieldType := fun k => match k with
  | _ => .int
theorem tyJ1_ok : ∀ k, k < 0 → parseFieldDescriptor (TJ1 k).2.2.1 = some (tyJ1 k) := by decide +kernel
abbrev cJ1_charAt_3b067 : ByteArray := prog_9_method_2_code
def yJ1_charAt_3b067 : MethodName := ⟨RJ1, "charAt", "([BI)C"⟩
def RJ2 : String := "java/lang/StringUTF16"
def TJ2 : u_T := fun k => match k with
  | _ => ("", "", "", false)
def tyJ2 : Nat → FieldType := fun k => match k with
  | _ => .int
theorem tyJ2_ok : ∀ k, k < 0 → parseFieldDescriptor (TJ2 k).2.2.1 = some (tyJ2 k) := by decide +kernel
abbrev cJ2_getChar_3b067 : ByteArray := prog_10_method_5_code
def yJ2_getChar_3b067 : MethodName := ⟨RJ2, "getChar", "([BI)C"⟩
abbrev cJ2_length_9d52b : ByteArray := prog_10_method_6_code
def yJ2_length_9d52b : MethodName := ⟨RJ2, "length", "([B)I"⟩
abbrev cJ2_charAt_3b067 : ByteArray := prog_10_method_83_code
def yJ2_charAt_3b067 : MethodName := ⟨RJ2, "charAt", "([BI)C"⟩
abbrev cJ2_checkIndex_2214a : ByteArray := prog_10_method_91_code
def yJ2_checkIndex_2214a : MethodName := ⟨RJ2, "checkIndex", "(I[B)V"⟩
def RJ10 : String := "java/lang/System"
def TJ10 : u_T := fun k => match k with
  | _ => ("", "", "", false)
def tyJ10 : Nat → FieldType := fun k => match k with
  | _ => .int
theorem tyJ10_ok : ∀ k, k < 0 → parseFieldDescriptor (TJ10 k).2.2.1 = some (tyJ10 k) := by decide +kernel
def RJxfd54e : String := "java/lang/constant/Constable"
def TJxfd54e : u_T := fun k => match k with
  | _ => ("", "", "", false)
def tyJxfd54e : Nat → FieldType := fun k => match k with
  | _ => .int
theorem tyJxfd54e_ok : ∀ k, k < 0 → parseFieldDescriptor (TJxfd54e k).2.2.1 = some (tyJxfd54e k) := by decide +kernel
def RJx3cf43 : String := "java/lang/constant/ConstantDesc"
def TJx3cf43 : u_T := fun k => match k with
  | _ => ("", "", "", false)
def tyJx3cf43 : Nat → FieldType := fun k => match k with
  | _ => .int
theorem tyJx3cf43_ok : ∀ k, k < 0 → parseFieldDescriptor (TJx3cf43 k).2.2.1 = some (tyJx3cf43 k) := by decide +kernel
def RJ7 : String := "java/util/Arrays"
def TJ7 : u_T := fun k => match k with
  | _ => ("", "", "", false)
def tyJ7 : Nat → FieldType := fun k => match k with
  | _ => .int
theorem tyJ7_ok : ∀ k, k < 0 → parseFieldDescriptor (TJ7 k).2.2.1 = some (tyJ7 k) := by decide +kernel
abbrev cJ7_fill_d0a16 : ByteArray := prog_12_method_101_code
def yJ7_fill_d0a16 : MethodName := ⟨RJ7, "fill", "([JJ)V"⟩
def RJ3 : String := "jdk/internal/util/Preconditions"
def TJ3 : u_T := fun k => match k with
  | _ => ("", "", "", false)
def tyJ3 : Nat → FieldType := fun k => match k with
  | _ => .int
theorem tyJ3_ok : ∀ k, k < 0 → parseFieldDescriptor (TJ3 k).2.2.1 = some (tyJ3 k) := by decide +kernel
abbrev cJ3_checkIndex_8e157 : ByteArray := prog_13_method_11_code
def yJ3_checkIndex_8e157 : MethodName := ⟨RJ3, "checkIndex", "(IILjava/util/function/BiFunction;)I"⟩
def RL : String := "OwingSwingsLaw"
abbrev cL_law : ByteArray := code
abbrev vwCl : List vw_C := [(RX0, TX0, 7), (RX1, TX1, 3), (RX2, TX2, 6), (RX3, TX3, 7), (RX4, TX4, 19)]
end
section
theorem dX0_init_0 : decode cX0_init 0 = .ok (.aload_n 0, 1) := by decide +kernel
theorem dX0_init_1 : decode cX0_init 1 = .ok (.invokespecial 1, 3) := by decide +kernel
theorem dX0_init_4 : decode cX0_init 4 = .ok (.aload_n 0, 1) := by decide +kernel
theorem dX0_init_5 : decode cX0_init 5 = .ok (.iconst 0, 1) := by decide +kernel
theorem dX0_init_6 : decode cX0_init 6 = .ok (.putfield 7, 3) := by decide +kernel
theorem dX0_init_9 : decode cX0_init 9 = .ok (.aload_n 0, 1) := by decide +kernel
theorem dX0_init_10 : decode cX0_init 10 = .ok (.bipush 50, 2) := by decide +kernel
theorem dX0_init_12 : decode cX0_init 12 = .ok (.putfield 13, 3) := by decide +kernel
theorem dX0_init_15 : decode cX0_init 15 = .ok (.aload_n 0, 1) := by decide +kernel
theorem dX0_init_16 : decode cX0_init 16 = .ok (.iconst 0, 1) := by decide +kernel
theorem dX0_init_17 : decode cX0_init 17 = .ok (.putfield 16, 3) := by decide +kernel
theorem dX0_init_20 : decode cX0_init 20 = .ok (.aload_n 0, 1) := by decide +kernel
theorem dX0_init_21 : decode cX0_init 21 = .ok (.bipush 8, 2) := by decide +kernel
theorem dX0_init_23 : decode cX0_init 23 = .ok (.newarray .int, 2) := by decide +kernel
theorem dX0_init_25 : decode cX0_init 25 = .ok (.putfield 19, 3) := by decide +kernel
theorem dX0_init_28 : decode cX0_init 28 = .ok (.aload_n 0, 1) := by decide +kernel
theorem dX0_init_29 : decode cX0_init 29 = .ok (.bipush 8, 2) := by decide +kernel
theorem dX0_init_31 : decode cX0_init 31 = .ok (.newarray .int, 2) := by decide +kernel
theorem dX0_init_33 : decode cX0_init 33 = .ok (.putfield 23, 3) := by decide +kernel
theorem dX0_init_36 : decode cX0_init 36 = .ok (.aload_n 0, 1) := by decide +kernel
theorem dX0_init_37 : decode cX0_init 37 = .ok (.bipush 8, 2) := by decide +kernel
theorem dX0_init_39 : decode cX0_init 39 = .ok (.newarray .int, 2) := by decide +kernel
theorem dX0_init_41 : decode cX0_init 41 = .ok (.putfield 26, 3) := by decide +kernel
theorem dX0_init_44 : decode cX0_init 44 = .ok (.aload_n 0, 1) := by decide +kernel
theorem dX0_init_45 : decode cX0_init 45 = .ok (.bipush 8, 2) := by decide +kernel
theorem dX0_init_47 : decode cX0_init 47 = .ok (.newarray .int, 2) := by decide +kernel
theorem dX0_init_49 : decode cX0_init 49 = .ok (.putfield 29, 3) := by decide +kernel
theorem dX0_init_52 : decode cX0_init 52 = .ok (.return_, 1) := by decide +kernel
theorem dX0_becomeLike_0 : decode cX0_becomeLike 0 = .ok (.aload_n 0, 1) := by decide +kernel
theorem dX0_becomeLike_1 : decode cX0_becomeLike 1 = .ok (.aload_n 1, 1) := by decide +kernel
theorem dX0_becomeLike_2 : decode cX0_becomeLike 2 = .ok (.getfield 7, 3) := by decide +kernel
theorem dX0_becomeLike_5 : decode cX0_becomeLike 5 = .ok (.putfield 7, 3) := by decide +kernel
theorem dX0_becomeLike_8 : decode cX0_becomeLike 8 = .ok (.aload_n 0, 1) := by decide +kernel
theorem dX0_becomeLike_9 : decode cX0_becomeLike 9 = .ok (.aload_n 1, 1) := by decide +kernel
theorem dX0_becomeLike_10 : decode cX0_becomeLike 10 = .ok (.getfield 13, 3) := by decide +kernel
theorem dX0_becomeLike_13 : decode cX0_becomeLike 13 = .ok (.putfield 13, 3) := by decide +kernel
theorem dX0_becomeLike_16 : decode cX0_becomeLike 16 = .ok (.aload_n 0, 1) := by decide +kernel
theorem dX0_becomeLike_17 : decode cX0_becomeLike 17 = .ok (.aload_n 1, 1) := by decide +kernel
theorem dX0_becomeLike_18 : decode cX0_becomeLike 18 = .ok (.getfield 16, 3) := by decide +kernel
theorem dX0_becomeLike_21 : decode cX0_becomeLike 21 = .ok (.putfield 16, 3) := by decide +kernel
theorem dX0_becomeLike_24 : decode cX0_becomeLike 24 = .ok (.aload_n 1, 1) := by decide +kernel
theorem dX0_becomeLike_25 : decode cX0_becomeLike 25 = .ok (.getfield 19, 3) := by decide +kernel
theorem dX0_becomeLike_28 : decode cX0_becomeLike 28 = .ok (.iconst 0, 1) := by decide +kernel
theorem dX0_becomeLike_29 : decode cX0_becomeLike 29 = .ok (.aload_n 0, 1) := by decide +kernel
theorem dX0_becomeLike_30 : decode cX0_becomeLike 30 = .ok (.getfield 19, 3) := by decide +kernel
theorem dX0_becomeLike_33 : decode cX0_becomeLike 33 = .ok (.iconst 0, 1) := by decide +kernel
theorem dX0_becomeLike_34 : decode cX0_becomeLike 34 = .ok (.aload_n 0, 1) := by decide +kernel
theorem dX0_becomeLike_35 : decode cX0_becomeLike 35 = .ok (.getfield 16, 3) := by decide +kernel
theorem dX0_becomeLike_38 : decode cX0_becomeLike 38 = .ok (.invokestatic 32, 3) := by decide +kernel
theorem dX0_becomeLike_41 : decode cX0_becomeLike 41 = .ok (.aload_n 1, 1) := by decide +kernel
theorem dX0_becomeLike_42 : decode cX0_becomeLike 42 = .ok (.getfield 23, 3) := by decide +kernel
theorem dX0_becomeLike_45 : decode cX0_becomeLike 45 = .ok (.iconst 0, 1) := by decide +kernel
theorem dX0_becomeLike_46 : decode cX0_becomeLike 46 = .ok (.aload_n 0, 1) := by decide +kernel
theorem dX0_becomeLike_47 : decode cX0_becomeLike 47 = .ok (.getfield 23, 3) := by decide +kernel
theorem dX0_becomeLike_50 : decode cX0_becomeLike 50 = .ok (.iconst 0, 1) := by decide +kernel
theorem dX0_becomeLike_51 : decode cX0_becomeLike 51 = .ok (.aload_n 0, 1) := by decide +kernel
theorem dX0_becomeLike_52 : decode cX0_becomeLike 52 = .ok (.getfield 16, 3) := by decide +kernel
theorem dX0_becomeLike_55 : decode cX0_becomeLike 55 = .ok (.invokestatic 32, 3) := by decide +kernel
theorem dX0_becomeLike_58 : decode cX0_becomeLike 58 = .ok (.aload_n 1, 1) := by decide +kernel
theorem dX0_becomeLike_59 : decode cX0_becomeLike 59 = .ok (.getfield 26, 3) := by decide +kernel
theorem dX0_becomeLike_62 : decode cX0_becomeLike 62 = .ok (.iconst 0, 1) := by decide +kernel
theorem dX0_becomeLike_63 : decode cX0_becomeLike 63 = .ok (.aload_n 0, 1) := by decide +kernel
theorem dX0_becomeLike_64 : decode cX0_becomeLike 64 = .ok (.getfield 26, 3) := by decide +kernel
theorem dX0_becomeLike_67 : decode cX0_becomeLike 67 = .ok (.iconst 0, 1) := by decide +kernel
theorem dX0_becomeLike_68 : decode cX0_becomeLike 68 = .ok (.aload_n 0, 1) := by decide +kernel
theorem dX0_becomeLike_69 : decode cX0_becomeLike 69 = .ok (.getfield 16, 3) := by decide +kernel
theorem dX0_becomeLike_72 : decode cX0_becomeLike 72 = .ok (.invokestatic 32, 3) := by decide +kernel
theorem dX0_becomeLike_75 : decode cX0_becomeLike 75 = .ok (.aload_n 1, 1) := by decide +kernel
theorem dX0_becomeLike_76 : decode cX0_becomeLike 76 = .ok (.getfield 29, 3) := by decide +kernel
theorem dX0_becomeLike_79 : decode cX0_becomeLike 79 = .ok (.iconst 0, 1) := by decide +kernel
theorem dX0_becomeLike_80 : decode cX0_becomeLike 80 = .ok (.aload_n 0, 1) := by decide +kernel
theorem dX0_becomeLike_81 : decode cX0_becomeLike 81 = .ok (.getfield 29, 3) := by decide +kernel
theorem dX0_becomeLike_84 : decode cX0_becomeLike 84 = .ok (.iconst 0, 1) := by decide +kernel
theorem dX0_becomeLike_85 : decode cX0_becomeLike 85 = .ok (.aload_n 0, 1) := by decide +kernel
theorem dX0_becomeLike_86 : decode cX0_becomeLike 86 = .ok (.getfield 16, 3) := by decide +kernel
theorem dX0_becomeLike_89 : decode cX0_becomeLike 89 = .ok (.invokestatic 32, 3) := by decide +kernel
theorem dX0_becomeLike_92 : decode cX0_becomeLike 92 = .ok (.return_, 1) := by decide +kernel
theorem dX0_isOfKind_0 : decode cX0_isOfKind 0 = .ok (.iload_n 0, 1) := by decide +kernel
theorem dX0_isOfKind_1 : decode cX0_isOfKind 1 = .ok (.istore_n 2, 1) := by decide +kernel
theorem dX0_isOfKind_2 : decode cX0_isOfKind 2 = .ok (.iconst 0, 1) := by decide +kernel
theorem dX0_isOfKind_3 : decode cX0_isOfKind 3 = .ok (.istore_n 3, 1) := by decide +kernel
theorem dX0_isOfKind_4 : decode cX0_isOfKind 4 = .ok (.iload_n 3, 1) := by decide +kernel
theorem dX0_isOfKind_5 : decode cX0_isOfKind 5 = .ok (.bipush 6, 2) := by decide +kernel
theorem dX0_isOfKind_7 : decode cX0_isOfKind 7 = .ok (.if_icmp .ge 32, 3) := by decide +kernel
theorem dX0_isOfKind_10 : decode cX0_isOfKind 10 = .ok (.iload_n 2, 1) := by decide +kernel
theorem dX0_isOfKind_11 : decode cX0_isOfKind 11 = .ok (.ifCond .lt 28, 3) := by decide +kernel
theorem dX0_isOfKind_14 : decode cX0_isOfKind 14 = .ok (.iload_n 2, 1) := by decide +kernel
theorem dX0_isOfKind_15 : decode cX0_isOfKind 15 = .ok (.bipush 6, 2) := by decide +kernel
theorem dX0_isOfKind_17 : decode cX0_isOfKind 17 = .ok (.if_icmp .ge 22, 3) := by decide +kernel
theorem dX0_isOfKind_20 : decode cX0_isOfKind 20 = .ok (.iload_n 2, 1) := by decide +kernel
theorem dX0_isOfKind_21 : decode cX0_isOfKind 21 = .ok (.iload_n 1, 1) := by decide +kernel
theorem dX0_isOfKind_22 : decode cX0_isOfKind 22 = .ok (.if_icmp .ne 5, 3) := by decide +kernel
theorem dX0_isOfKind_25 : decode cX0_isOfKind 25 = .ok (.iconst 1, 1) := by decide +kernel
theorem dX0_isOfKind_26 : decode cX0_isOfKind 26 = .ok (.ireturn, 1) := by decide +kernel
theorem dX0_isOfKind_27 : decode cX0_isOfKind 27 = .ok (.getstatic 38, 3) := by decide +kernel
theorem dX0_isOfKind_30 : decode cX0_isOfKind 30 = .ok (.iload_n 2, 1) := by decide +kernel
theorem dX0_isOfKind_31 : decode cX0_isOfKind 31 = .ok (.iaload, 1) := by decide +kernel
theorem dX0_isOfKind_32 : decode cX0_isOfKind 32 = .ok (.istore_n 2, 1) := by decide +kernel
theorem dX0_isOfKind_33 : decode cX0_isOfKind 33 = .ok (.iinc 3 1, 3) := by decide +kernel
theorem dX0_isOfKind_36 : decode cX0_isOfKind 36 = .ok (.goto (-32), 3) := by decide +kernel
theorem dX0_isOfKind_39 : decode cX0_isOfKind 39 = .ok (.iconst 0, 1) := by decide +kernel
theorem dX0_isOfKind_40 : decode cX0_isOfKind 40 = .ok (.ireturn, 1) := by decide +kernel
theorem dX0_hasRoom_0 : decode cX0_hasRoom 0 = .ok (.aload_n 0, 1) := by decide +kernel
theorem dX0_hasRoom_1 : decode cX0_hasRoom 1 = .ok (.getfield 16, 3) := by decide +kernel
theorem dX0_hasRoom_4 : decode cX0_hasRoom 4 = .ok (.bipush 8, 2) := by decide +kernel
theorem dX0_hasRoom_6 : decode cX0_hasRoom 6 = .ok (.if_icmp .ge 7, 3) := by decide +kernel
theorem dX0_hasRoom_9 : decode cX0_hasRoom 9 = .ok (.iconst 1, 1) := by decide +kernel
theorem dX0_hasRoom_10 : decode cX0_hasRoom 10 = .ok (.goto 4, 3) := by decide +kernel
theorem dX0_hasRoom_13 : decode cX0_hasRoom 13 = .ok (.iconst 0, 1) := by decide +kernel
theorem dX0_hasRoom_14 : decode cX0_hasRoom 14 = .ok (.ireturn, 1) := by decide +kernel
theorem dX0_addOne_0 : decode cX0_addOne 0 = .ok (.aload_n 0, 1) := by decide +kernel
theorem dX0_addOne_1 : decode cX0_addOne 1 = .ok (.getfield 16, 3) := by decide +kernel
theorem dX0_addOne_4 : decode cX0_addOne 4 = .ok (.istore_n 2, 1) := by decide +kernel
theorem dX0_addOne_5 : decode cX0_addOne 5 = .ok (.aload_n 0, 1) := by decide +kernel
theorem dX0_addOne_6 : decode cX0_addOne 6 = .ok (.getfield 19, 3) := by decide +kernel
theorem dX0_addOne_9 : decode cX0_addOne 9 = .ok (.iload_n 2, 1) := by decide +kernel
theorem dX0_addOne_10 : decode cX0_addOne 10 = .ok (.iload_n 1, 1) := by decide +kernel
theorem dX0_addOne_11 : decode cX0_addOne 11 = .ok (.iastore, 1) := by decide +kernel
theorem dX0_addOne_12 : decode cX0_addOne 12 = .ok (.aload_n 0, 1) := by decide +kernel
theorem dX0_addOne_13 : decode cX0_addOne 13 = .ok (.getfield 23, 3) := by decide +kernel
theorem dX0_addOne_16 : decode cX0_addOne 16 = .ok (.iload_n 2, 1) := by decide +kernel
theorem dX0_addOne_17 : decode cX0_addOne 17 = .ok (.bipush 50, 2) := by decide +kernel
theorem dX0_addOne_19 : decode cX0_addOne 19 = .ok (.iastore, 1) := by decide +kernel
theorem dX0_addOne_20 : decode cX0_addOne 20 = .ok (.aload_n 0, 1) := by decide +kernel
theorem dX0_addOne_21 : decode cX0_addOne 21 = .ok (.getfield 26, 3) := by decide +kernel
theorem dX0_addOne_24 : decode cX0_addOne 24 = .ok (.iload_n 2, 1) := by decide +kernel
theorem dX0_addOne_25 : decode cX0_addOne 25 = .ok (.iconst 5, 1) := by decide +kernel
theorem dX0_addOne_26 : decode cX0_addOne 26 = .ok (.iastore, 1) := by decide +kernel
theorem dX0_addOne_27 : decode cX0_addOne 27 = .ok (.aload_n 0, 1) := by decide +kernel
theorem dX0_addOne_28 : decode cX0_addOne 28 = .ok (.getfield 29, 3) := by decide +kernel
theorem dX0_addOne_31 : decode cX0_addOne 31 = .ok (.iload_n 2, 1) := by decide +kernel
theorem dX0_addOne_32 : decode cX0_addOne 32 = .ok (.iconst 0, 1) := by decide +kernel
theorem dX0_addOne_33 : decode cX0_addOne 33 = .ok (.iastore, 1) := by decide +kernel
theorem dX0_addOne_34 : decode cX0_addOne 34 = .ok (.aload_n 0, 1) := by decide +kernel
theorem dX0_addOne_35 : decode cX0_addOne 35 = .ok (.dup, 1) := by decide +kernel
theorem dX0_addOne_36 : decode cX0_addOne 36 = .ok (.getfield 16, 3) := by decide +kernel
theorem dX0_addOne_39 : decode cX0_addOne 39 = .ok (.iconst 1, 1) := by decide +kernel
theorem dX0_addOne_40 : decode cX0_addOne 40 = .ok (.iadd, 1) := by decide +kernel
theorem dX0_addOne_41 : decode cX0_addOne 41 = .ok (.putfield 16, 3) := by decide +kernel
theorem dX0_addOne_44 : decode cX0_addOne 44 = .ok (.iload_n 2, 1) := by decide +kernel
theorem dX0_addOne_45 : decode cX0_addOne 45 = .ok (.ireturn, 1) := by decide +kernel
theorem dX0_shove_0 : decode cX0_shove 0 = .ok (.aload_n 0, 1) := by decide +kernel
theorem dX0_shove_1 : decode cX0_shove 1 = .ok (.getfield 23, 3) := by decide +kernel
theorem dX0_shove_4 : decode cX0_shove 4 = .ok (.iload_n 1, 1) := by decide +kernel
theorem dX0_shove_5 : decode cX0_shove 5 = .ok (.aload_n 0, 1) := by decide +kernel
theorem dX0_shove_6 : decode cX0_shove 6 = .ok (.getfield 23, 3) := by decide +kernel
theorem dX0_shove_9 : decode cX0_shove 9 = .ok (.iload_n 1, 1) := by decide +kernel
theorem dX0_shove_10 : decode cX0_shove 10 = .ok (.iaload, 1) := by decide +kernel
theorem dX0_shove_11 : decode cX0_shove 11 = .ok (.iload_n 2, 1) := by decide +kernel
theorem dX0_shove_12 : decode cX0_shove 12 = .ok (.iadd, 1) := by decide +kernel
theorem dX0_shove_13 : decode cX0_shove 13 = .ok (.sipush 200, 3) := by decide +kernel
theorem dX0_shove_16 : decode cX0_shove 16 = .ok (.invokestatic 41, 3) := by decide +kernel
theorem dX0_shove_19 : decode cX0_shove 19 = .ok (.iastore, 1) := by decide +kernel
theorem dX0_shove_20 : decode cX0_shove 20 = .ok (.return_, 1) := by decide +kernel
theorem dX0_exchange_0 : decode cX0_exchange 0 = .ok (.aload_n 0, 1) := by decide +kernel
theorem dX0_exchange_1 : decode cX0_exchange 1 = .ok (.getfield 19, 3) := by decide +kernel
theorem dX0_exchange_4 : decode cX0_exchange 4 = .ok (.iload_n 1, 1) := by decide +kernel
theorem dX0_exchange_5 : decode cX0_exchange 5 = .ok (.iload_n 2, 1) := by decide +kernel
theorem dX0_exchange_6 : decode cX0_exchange 6 = .ok (.invokestatic 47, 3) := by decide +kernel
theorem dX0_exchange_9 : decode cX0_exchange 9 = .ok (.aload_n 0, 1) := by decide +kernel
theorem dX0_exchange_10 : decode cX0_exchange 10 = .ok (.getfield 23, 3) := by decide +kernel
theorem dX0_exchange_13 : decode cX0_exchange 13 = .ok (.iload_n 1, 1) := by decide +kernel
theorem dX0_exchange_14 : decode cX0_exchange 14 = .ok (.iload_n 2, 1) := by decide +kernel
theorem dX0_exchange_15 : decode cX0_exchange 15 = .ok (.invokestatic 47, 3) := by decide +kernel
theorem dX0_exchange_18 : decode cX0_exchange 18 = .ok (.aload_n 0, 1) := by decide +kernel
theorem dX0_exchange_19 : decode cX0_exchange 19 = .ok (.getfield 26, 3) := by decide +kernel
theorem dX0_exchange_22 : decode cX0_exchange 22 = .ok (.iload_n 1, 1) := by decide +kernel
theorem dX0_exchange_23 : decode cX0_exchange 23 = .ok (.iload_n 2, 1) := by decide +kernel
theorem dX0_exchange_24 : decode cX0_exchange 24 = .ok (.invokestatic 47, 3) := by decide +kernel
theorem dX0_exchange_27 : decode cX0_exchange 27 = .ok (.aload_n 0, 1) := by decide +kernel
theorem dX0_exchange_28 : decode cX0_exchange 28 = .ok (.getfield 29, 3) := by decide +kernel
theorem dX0_exchange_31 : decode cX0_exchange 31 = .ok (.iload_n 1, 1) := by decide +kernel
theorem dX0_exchange_32 : decode cX0_exchange 32 = .ok (.iload_n 2, 1) := by decide +kernel
theorem dX0_exchange_33 : decode cX0_exchange 33 = .ok (.invokestatic 47, 3) := by decide +kernel
theorem dX0_exchange_36 : decode cX0_exchange 36 = .ok (.return_, 1) := by decide +kernel
theorem dX0_exchangeIn_0 : decode cX0_exchangeIn 0 = .ok (.aload_n 0, 1) := by decide +kernel
theorem dX0_exchangeIn_1 : decode cX0_exchangeIn 1 = .ok (.iload_n 1, 1) := by decide +kernel
theorem dX0_exchangeIn_2 : decode cX0_exchangeIn 2 = .ok (.iaload, 1) := by decide +kernel
theorem dX0_exchangeIn_3 : decode cX0_exchangeIn 3 = .ok (.istore_n 3, 1) := by decide +kernel
theorem dX0_exchangeIn_4 : decode cX0_exchangeIn 4 = .ok (.aload_n 0, 1) := by decide +kernel
theorem dX0_exchangeIn_5 : decode cX0_exchangeIn 5 = .ok (.iload_n 1, 1) := by decide +kernel
theorem dX0_exchangeIn_6 : decode cX0_exchangeIn 6 = .ok (.aload_n 0, 1) := by decide +kernel
theorem dX0_exchangeIn_7 : decode cX0_exchangeIn 7 = .ok (.iload_n 2, 1) := by decide +kernel
theorem dX0_exchangeIn_8 : decode cX0_exchangeIn 8 = .ok (.iaload, 1) := by decide +kernel
theorem dX0_exchangeIn_9 : decode cX0_exchangeIn 9 = .ok (.iastore, 1) := by decide +kernel
theorem dX0_exchangeIn_10 : decode cX0_exchangeIn 10 = .ok (.aload_n 0, 1) := by decide +kernel
theorem dX0_exchangeIn_11 : decode cX0_exchangeIn 11 = .ok (.iload_n 2, 1) := by decide +kernel
theorem dX0_exchangeIn_12 : decode cX0_exchangeIn 12 = .ok (.iload_n 3, 1) := by decide +kernel
theorem dX0_exchangeIn_13 : decode cX0_exchangeIn 13 = .ok (.iastore, 1) := by decide +kernel
theorem dX0_exchangeIn_14 : decode cX0_exchangeIn 14 = .ok (.return_, 1) := by decide +kernel
theorem dX0_minuteOfDay_0 : decode cX0_minuteOfDay 0 = .ok (.aload_n 0, 1) := by decide +kernel
theorem dX0_minuteOfDay_1 : decode cX0_minuteOfDay 1 = .ok (.getfield 7, 3) := by decide +kernel
theorem dX0_minuteOfDay_4 : decode cX0_minuteOfDay 4 = .ok (.bipush 60, 2) := by decide +kernel
theorem dX0_minuteOfDay_6 : decode cX0_minuteOfDay 6 = .ok (.irem, 1) := by decide +kernel
theorem dX0_minuteOfDay_7 : decode cX0_minuteOfDay 7 = .ok (.ireturn, 1) := by decide +kernel
theorem dX0_isDusk_0 : decode cX0_isDusk 0 = .ok (.aload_n 0, 1) := by decide +kernel
theorem dX0_isDusk_1 : decode cX0_isDusk 1 = .ok (.invokevirtual 51, 3) := by decide +kernel
theorem dX0_isDusk_4 : decode cX0_isDusk 4 = .ok (.aload_n 0, 1) := by decide +kernel
theorem dX0_isDusk_5 : decode cX0_isDusk 5 = .ok (.getfield 13, 3) := by decide +kernel
theorem dX0_isDusk_8 : decode cX0_isDusk 8 = .ok (.if_icmp .lt 7, 3) := by decide +kernel
theorem dX0_isDusk_11 : decode cX0_isDusk 11 = .ok (.iconst 1, 1) := by decide +kernel
theorem dX0_isDusk_12 : decode cX0_isDusk 12 = .ok (.goto 4, 3) := by decide +kernel
theorem dX0_isDusk_15 : decode cX0_isDusk 15 = .ok (.iconst 0, 1) := by decide +kernel
theorem dX0_isDusk_16 : decode cX0_isDusk 16 = .ok (.ireturn, 1) := by decide +kernel
theorem dX0_isSaturday_0 : decode cX0_isSaturday 0 = .ok (.aload_n 0, 1) := by decide +kernel
theorem dX0_isSaturday_1 : decode cX0_isSaturday 1 = .ok (.getfield 7, 3) := by decide +kernel
theorem dX0_isSaturday_4 : decode cX0_isSaturday 4 = .ok (.bipush 60, 2) := by decide +kernel
theorem dX0_isSaturday_6 : decode cX0_isSaturday 6 = .ok (.idiv, 1) := by decide +kernel
theorem dX0_isSaturday_7 : decode cX0_isSaturday 7 = .ok (.bipush 7, 2) := by decide +kernel
theorem dX0_isSaturday_9 : decode cX0_isSaturday 9 = .ok (.irem, 1) := by decide +kernel
theorem dX0_isSaturday_10 : decode cX0_isSaturday 10 = .ok (.iconst 5, 1) := by decide +kernel
theorem dX0_isSaturday_11 : decode cX0_isSaturday 11 = .ok (.if_icmp .ne 7, 3) := by decide +kernel
theorem dX0_isSaturday_14 : decode cX0_isSaturday 14 = .ok (.iconst 1, 1) := by decide +kernel
theorem dX0_isSaturday_15 : decode cX0_isSaturday 15 = .ok (.goto 4, 3) := by decide +kernel
theorem dX0_isSaturday_18 : decode cX0_isSaturday 18 = .ok (.iconst 0, 1) := by decide +kernel
theorem dX0_isSaturday_19 : decode cX0_isSaturday 19 = .ok (.ireturn, 1) := by decide +kernel
theorem dX0_firstOfMost_0 : decode cX0_firstOfMost 0 = .ok (.iconst (-1), 1) := by decide +kernel
theorem dX0_firstOfMost_1 : decode cX0_firstOfMost 1 = .ok (.istore_n 2, 1) := by decide +kernel
theorem dX0_firstOfMost_2 : decode cX0_firstOfMost 2 = .ok (.iconst 0, 1) := by decide +kernel
theorem dX0_firstOfMost_3 : decode cX0_firstOfMost 3 = .ok (.istore_n 3, 1) := by decide +kernel
theorem dX0_firstOfMost_4 : decode cX0_firstOfMost 4 = .ok (.iload_n 3, 1) := by decide +kernel
theorem dX0_firstOfMost_5 : decode cX0_firstOfMost 5 = .ok (.aload_n 0, 1) := by decide +kernel
theorem dX0_firstOfMost_6 : decode cX0_firstOfMost 6 = .ok (.getfield 16, 3) := by decide +kernel
theorem dX0_firstOfMost_9 : decode cX0_firstOfMost 9 = .ok (.if_icmp .ge 24, 3) := by decide +kernel
theorem dX0_firstOfMost_12 : decode cX0_firstOfMost 12 = .ok (.iload_n 2, 1) := by decide +kernel
theorem dX0_firstOfMost_13 : decode cX0_firstOfMost 13 = .ok (.ifCond .lt 12, 3) := by decide +kernel
theorem dX0_firstOfMost_16 : decode cX0_firstOfMost 16 = .ok (.aload_n 1, 1) := by decide +kernel
theorem dX0_firstOfMost_17 : decode cX0_firstOfMost 17 = .ok (.iload_n 3, 1) := by decide +kernel
theorem dX0_firstOfMost_18 : decode cX0_firstOfMost 18 = .ok (.iaload, 1) := by decide +kernel
theorem dX0_firstOfMost_19 : decode cX0_firstOfMost 19 = .ok (.aload_n 1, 1) := by decide +kernel
theorem dX0_firstOfMost_20 : decode cX0_firstOfMost 20 = .ok (.iload_n 2, 1) := by decide +kernel
theorem dX0_firstOfMost_21 : decode cX0_firstOfMost 21 = .ok (.iaload, 1) := by decide +kernel
theorem dX0_firstOfMost_22 : decode cX0_firstOfMost 22 = .ok (.if_icmp .le 5, 3) := by decide +kernel
theorem dX0_firstOfMost_25 : decode cX0_firstOfMost 25 = .ok (.iload_n 3, 1) := by decide +kernel
theorem dX0_firstOfMost_26 : decode cX0_firstOfMost 26 = .ok (.istore_n 2, 1) := by decide +kernel
theorem dX0_firstOfMost_27 : decode cX0_firstOfMost 27 = .ok (.iinc 3 1, 3) := by decide +kernel
theorem dX0_firstOfMost_30 : decode cX0_firstOfMost 30 = .ok (.goto (-26), 3) := by decide +kernel
theorem dX0_firstOfMost_33 : decode cX0_firstOfMost 33 = .ok (.iload_n 2, 1) := by decide +kernel
theorem dX0_firstOfMost_34 : decode cX0_firstOfMost 34 = .ok (.ireturn, 1) := by decide +kernel
theorem dX0_highest_0 : decode cX0_highest 0 = .ok (.aload_n 0, 1) := by decide +kernel
theorem dX0_highest_1 : decode cX0_highest 1 = .ok (.aload_n 0, 1) := by decide +kernel
theorem dX0_highest_2 : decode cX0_highest 2 = .ok (.getfield 23, 3) := by decide +kernel
theorem dX0_highest_5 : decode cX0_highest 5 = .ok (.invokevirtual 55, 3) := by decide +kernel
theorem dX0_highest_8 : decode cX0_highest 8 = .ok (.ireturn, 1) := by decide +kernel
theorem dX0_lowest_0 : decode cX0_lowest 0 = .ok (.iconst (-1), 1) := by decide +kernel
theorem dX0_lowest_1 : decode cX0_lowest 1 = .ok (.istore_n 1, 1) := by decide +kernel
theorem dX0_lowest_2 : decode cX0_lowest 2 = .ok (.iconst 0, 1) := by decide +kernel
theorem dX0_lowest_3 : decode cX0_lowest 3 = .ok (.istore_n 2, 1) := by decide +kernel
theorem dX0_lowest_4 : decode cX0_lowest 4 = .ok (.iload_n 2, 1) := by decide +kernel
theorem dX0_lowest_5 : decode cX0_lowest 5 = .ok (.aload_n 0, 1) := by decide +kernel
theorem dX0_lowest_6 : decode cX0_lowest 6 = .ok (.getfield 16, 3) := by decide +kernel
theorem dX0_lowest_9 : decode cX0_lowest 9 = .ok (.if_icmp .ge 30, 3) := by decide +kernel
theorem dX0_lowest_12 : decode cX0_lowest 12 = .ok (.iload_n 1, 1) := by decide +kernel
theorem dX0_lowest_13 : decode cX0_lowest 13 = .ok (.ifCond .lt 18, 3) := by decide +kernel
theorem dX0_lowest_16 : decode cX0_lowest 16 = .ok (.aload_n 0, 1) := by decide +kernel
theorem dX0_lowest_17 : decode cX0_lowest 17 = .ok (.getfield 23, 3) := by decide +kernel
theorem dX0_lowest_20 : decode cX0_lowest 20 = .ok (.iload_n 2, 1) := by decide +kernel
theorem dX0_lowest_21 : decode cX0_lowest 21 = .ok (.iaload, 1) := by decide +kernel
theorem dX0_lowest_22 : decode cX0_lowest 22 = .ok (.aload_n 0, 1) := by decide +kernel
theorem dX0_lowest_23 : decode cX0_lowest 23 = .ok (.getfield 23, 3) := by decide +kernel
theorem dX0_lowest_26 : decode cX0_lowest 26 = .ok (.iload_n 1, 1) := by decide +kernel
theorem dX0_lowest_27 : decode cX0_lowest 27 = .ok (.iaload, 1) := by decide +kernel
theorem dX0_lowest_28 : decode cX0_lowest 28 = .ok (.if_icmp .ge 5, 3) := by decide +kernel
theorem dX0_lowest_31 : decode cX0_lowest 31 = .ok (.iload_n 2, 1) := by decide +kernel
theorem dX0_lowest_32 : decode cX0_lowest 32 = .ok (.istore_n 1, 1) := by decide +kernel
theorem dX0_lowest_33 : decode cX0_lowest 33 = .ok (.iinc 2 1, 3) := by decide +kernel
theorem dX0_lowest_36 : decode cX0_lowest 36 = .ok (.goto (-32), 3) := by decide +kernel
theorem dX0_lowest_39 : decode cX0_lowest 39 = .ok (.iload_n 1, 1) := by decide +kernel
theorem dX0_lowest_40 : decode cX0_lowest 40 = .ok (.ireturn, 1) := by decide +kernel
theorem dX0_apart_0 : decode cX0_apart 0 = .ok (.aload_n 0, 1) := by decide +kernel
theorem dX0_apart_1 : decode cX0_apart 1 = .ok (.invokevirtual 59, 3) := by decide +kernel
theorem dX0_apart_4 : decode cX0_apart 4 = .ok (.istore_n 1, 1) := by decide +kernel
theorem dX0_apart_5 : decode cX0_apart 5 = .ok (.aload_n 0, 1) := by decide +kernel
theorem dX0_apart_6 : decode cX0_apart 6 = .ok (.invokevirtual 62, 3) := by decide +kernel
theorem dX0_apart_9 : decode cX0_apart 9 = .ok (.istore_n 2, 1) := by decide +kernel
theorem dX0_apart_10 : decode cX0_apart 10 = .ok (.iload_n 1, 1) := by decide +kernel
theorem dX0_apart_11 : decode cX0_apart 11 = .ok (.ifCond .lt 7, 3) := by decide +kernel
theorem dX0_apart_14 : decode cX0_apart 14 = .ok (.iload_n 2, 1) := by decide +kernel
theorem dX0_apart_15 : decode cX0_apart 15 = .ok (.ifCond .ge 7, 3) := by decide +kernel
theorem dX0_apart_18 : decode cX0_apart 18 = .ok (.iconst 0, 1) := by decide +kernel
theorem dX0_apart_19 : decode cX0_apart 19 = .ok (.goto 16, 3) := by decide +kernel
theorem dX0_apart_22 : decode cX0_apart 22 = .ok (.aload_n 0, 1) := by decide +kernel
theorem dX0_apart_23 : decode cX0_apart 23 = .ok (.getfield 23, 3) := by decide +kernel
theorem dX0_apart_26 : decode cX0_apart 26 = .ok (.iload_n 1, 1) := by decide +kernel
theorem dX0_apart_27 : decode cX0_apart 27 = .ok (.iaload, 1) := by decide +kernel
theorem dX0_apart_28 : decode cX0_apart 28 = .ok (.aload_n 0, 1) := by decide +kernel
theorem dX0_apart_29 : decode cX0_apart 29 = .ok (.getfield 23, 3) := by decide +kernel
theorem dX0_apart_32 : decode cX0_apart 32 = .ok (.iload_n 2, 1) := by decide +kernel
theorem dX0_apart_33 : decode cX0_apart 33 = .ok (.iaload, 1) := by decide +kernel
theorem dX0_apart_34 : decode cX0_apart 34 = .ok (.isub, 1) := by decide +kernel
theorem dX0_apart_35 : decode cX0_apart 35 = .ok (.ireturn, 1) := by decide +kernel
theorem dX0_isLevel_0 : decode cX0_isLevel 0 = .ok (.aload_n 0, 1) := by decide +kernel
theorem dX0_isLevel_1 : decode cX0_isLevel 1 = .ok (.invokevirtual 65, 3) := by decide +kernel
theorem dX0_isLevel_4 : decode cX0_isLevel 4 = .ok (.iconst 2, 1) := by decide +kernel
theorem dX0_isLevel_5 : decode cX0_isLevel 5 = .ok (.if_icmp .ge 7, 3) := by decide +kernel
theorem dX0_isLevel_8 : decode cX0_isLevel 8 = .ok (.iconst 1, 1) := by decide +kernel
theorem dX0_isLevel_9 : decode cX0_isLevel 9 = .ok (.goto 4, 3) := by decide +kernel
theorem dX0_isLevel_12 : decode cX0_isLevel 12 = .ok (.iconst 0, 1) := by decide +kernel
theorem dX0_isLevel_13 : decode cX0_isLevel 13 = .ok (.ireturn, 1) := by decide +kernel
theorem dX0_inTheDust_0 : decode cX0_inTheDust 0 = .ok (.iconst 0, 1) := by decide +kernel
theorem dX0_inTheDust_1 : decode cX0_inTheDust 1 = .ok (.istore_n 1, 1) := by decide +kernel
theorem dX0_inTheDust_2 : decode cX0_inTheDust 2 = .ok (.iconst 0, 1) := by decide +kernel
theorem dX0_inTheDust_3 : decode cX0_inTheDust 3 = .ok (.istore_n 2, 1) := by decide +kernel
theorem dX0_inTheDust_4 : decode cX0_inTheDust 4 = .ok (.iload_n 2, 1) := by decide +kernel
theorem dX0_inTheDust_5 : decode cX0_inTheDust 5 = .ok (.aload_n 0, 1) := by decide +kernel
theorem dX0_inTheDust_6 : decode cX0_inTheDust 6 = .ok (.getfield 16, 3) := by decide +kernel
theorem dX0_inTheDust_9 : decode cX0_inTheDust 9 = .ok (.if_icmp .ge 24, 3) := by decide +kernel
theorem dX0_inTheDust_12 : decode cX0_inTheDust 12 = .ok (.aload_n 0, 1) := by decide +kernel
theorem dX0_inTheDust_13 : decode cX0_inTheDust 13 = .ok (.getfield 23, 3) := by decide +kernel
theorem dX0_inTheDust_16 : decode cX0_inTheDust 16 = .ok (.iload_n 2, 1) := by decide +kernel
theorem dX0_inTheDust_17 : decode cX0_inTheDust 17 = .ok (.iaload, 1) := by decide +kernel
theorem dX0_inTheDust_18 : decode cX0_inTheDust 18 = .ok (.ifCond .ne 9, 3) := by decide +kernel
theorem dX0_inTheDust_21 : decode cX0_inTheDust 21 = .ok (.iload_n 1, 1) := by decide +kernel
theorem dX0_inTheDust_22 : decode cX0_inTheDust 22 = .ok (.iconst 1, 1) := by decide +kernel
theorem dX0_inTheDust_23 : decode cX0_inTheDust 23 = .ok (.iload_n 2, 1) := by decide +kernel
theorem dX0_inTheDust_24 : decode cX0_inTheDust 24 = .ok (.ishl, 1) := by decide +kernel
theorem dX0_inTheDust_25 : decode cX0_inTheDust 25 = .ok (.ior, 1) := by decide +kernel
theorem dX0_inTheDust_26 : decode cX0_inTheDust 26 = .ok (.istore_n 1, 1) := by decide +kernel
theorem dX0_inTheDust_27 : decode cX0_inTheDust 27 = .ok (.iinc 2 1, 3) := by decide +kernel
theorem dX0_inTheDust_30 : decode cX0_inTheDust 30 = .ok (.goto (-26), 3) := by decide +kernel
theorem dX0_inTheDust_33 : decode cX0_inTheDust 33 = .ok (.iload_n 1, 1) := by decide +kernel
theorem dX0_inTheDust_34 : decode cX0_inTheDust 34 = .ok (.ireturn, 1) := by decide +kernel
theorem dX0_nextOf_0 : decode cX0_nextOf 0 = .ok (.iload_n 1, 1) := by decide +kernel
theorem dX0_nextOf_1 : decode cX0_nextOf 1 = .ok (.iconst 1, 1) := by decide +kernel
theorem dX0_nextOf_2 : decode cX0_nextOf 2 = .ok (.iadd, 1) := by decide +kernel
theorem dX0_nextOf_3 : decode cX0_nextOf 3 = .ok (.aload_n 0, 1) := by decide +kernel
theorem dX0_nextOf_4 : decode cX0_nextOf 4 = .ok (.getfield 16, 3) := by decide +kernel
theorem dX0_nextOf_7 : decode cX0_nextOf 7 = .ok (.if_icmp .ge 9, 3) := by decide +kernel
theorem dX0_nextOf_10 : decode cX0_nextOf 10 = .ok (.iload_n 1, 1) := by decide +kernel
theorem dX0_nextOf_11 : decode cX0_nextOf 11 = .ok (.iconst 1, 1) := by decide +kernel
theorem dX0_nextOf_12 : decode cX0_nextOf 12 = .ok (.iadd, 1) := by decide +kernel
theorem dX0_nextOf_13 : decode cX0_nextOf 13 = .ok (.goto 4, 3) := by decide +kernel
theorem dX0_nextOf_16 : decode cX0_nextOf 16 = .ok (.iconst 0, 1) := by decide +kernel
theorem dX0_nextOf_17 : decode cX0_nextOf 17 = .ok (.ireturn, 1) := by decide +kernel
theorem dX0_wantsOf_0 : decode cX0_wantsOf 0 = .ok (.aload_n 0, 1) := by decide +kernel
theorem dX0_wantsOf_1 : decode cX0_wantsOf 1 = .ok (.getfield 16, 3) := by decide +kernel
theorem dX0_wantsOf_4 : decode cX0_wantsOf 4 = .ok (.iconst 2, 1) := by decide +kernel
theorem dX0_wantsOf_5 : decode cX0_wantsOf 5 = .ok (.if_icmp .ge 5, 3) := by decide +kernel
theorem dX0_wantsOf_8 : decode cX0_wantsOf 8 = .ok (.iconst 0, 1) := by decide +kernel
theorem dX0_wantsOf_9 : decode cX0_wantsOf 9 = .ok (.ireturn, 1) := by decide +kernel
theorem dX0_wantsOf_10 : decode cX0_wantsOf 10 = .ok (.iconst 2, 1) := by decide +kernel
theorem dX0_wantsOf_11 : decode cX0_wantsOf 11 = .ok (.istore_n 2, 1) := by decide +kernel
theorem dX0_wantsOf_12 : decode cX0_wantsOf 12 = .ok (.iload_n 2, 1) := by decide +kernel
theorem dX0_wantsOf_13 : decode cX0_wantsOf 13 = .ok (.iconst 3, 1) := by decide +kernel
theorem dX0_wantsOf_14 : decode cX0_wantsOf 14 = .ok (.iadd, 1) := by decide +kernel
theorem dX0_wantsOf_15 : decode cX0_wantsOf 15 = .ok (.istore_n 3, 1) := by decide +kernel
theorem dX0_wantsOf_16 : decode cX0_wantsOf 16 = .ok (.iload_n 2, 1) := by decide +kernel
theorem dX0_wantsOf_17 : decode cX0_wantsOf 17 = .ok (.iconst 1, 1) := by decide +kernel
theorem dX0_wantsOf_18 : decode cX0_wantsOf 18 = .ok (.isub, 1) := by decide +kernel
theorem dX0_wantsOf_19 : decode cX0_wantsOf 19 = .ok (.istore 4, 2) := by decide +kernel
theorem dX0_wantsOf_21 : decode cX0_wantsOf 21 = .ok (.aload_n 0, 1) := by decide +kernel
theorem dX0_wantsOf_22 : decode cX0_wantsOf 22 = .ok (.getfield 19, 3) := by decide +kernel
theorem dX0_wantsOf_25 : decode cX0_wantsOf 25 = .ok (.iload_n 1, 1) := by decide +kernel
theorem dX0_wantsOf_26 : decode cX0_wantsOf 26 = .ok (.iaload, 1) := by decide +kernel
theorem dX0_wantsOf_27 : decode cX0_wantsOf 27 = .ok (.tableswitch 97 1 5 #[33, 35, 38, 64, 79], 33) := by decide +kernel
theorem dX0_wantsOf_60 : decode cX0_wantsOf 60 = .ok (.iload_n 3, 1) := by decide +kernel
theorem dX0_wantsOf_61 : decode cX0_wantsOf 61 = .ok (.ireturn, 1) := by decide +kernel
theorem dX0_wantsOf_62 : decode cX0_wantsOf 62 = .ok (.iload 4, 2) := by decide +kernel
theorem dX0_wantsOf_64 : decode cX0_wantsOf 64 = .ok (.ireturn, 1) := by decide +kernel
theorem dX0_wantsOf_65 : decode cX0_wantsOf 65 = .ok (.aload_n 0, 1) := by decide +kernel
theorem dX0_wantsOf_66 : decode cX0_wantsOf 66 = .ok (.getfield 23, 3) := by decide +kernel
theorem dX0_wantsOf_69 : decode cX0_wantsOf 69 = .ok (.aload_n 0, 1) := by decide +kernel
theorem dX0_wantsOf_70 : decode cX0_wantsOf 70 = .ok (.iload_n 1, 1) := by decide +kernel
theorem dX0_wantsOf_71 : decode cX0_wantsOf 71 = .ok (.invokevirtual 68, 3) := by decide +kernel
theorem dX0_wantsOf_74 : decode cX0_wantsOf 74 = .ok (.iaload, 1) := by decide +kernel
theorem dX0_wantsOf_75 : decode cX0_wantsOf 75 = .ok (.aload_n 0, 1) := by decide +kernel
theorem dX0_wantsOf_76 : decode cX0_wantsOf 76 = .ok (.getfield 23, 3) := by decide +kernel
theorem dX0_wantsOf_79 : decode cX0_wantsOf 79 = .ok (.iload_n 1, 1) := by decide +kernel
theorem dX0_wantsOf_80 : decode cX0_wantsOf 80 = .ok (.iaload, 1) := by decide +kernel
theorem dX0_wantsOf_81 : decode cX0_wantsOf 81 = .ok (.if_icmp .ge 8, 3) := by decide +kernel
theorem dX0_wantsOf_84 : decode cX0_wantsOf 84 = .ok (.bipush (-3), 2) := by decide +kernel
theorem dX0_wantsOf_86 : decode cX0_wantsOf 86 = .ok (.goto 4, 3) := by decide +kernel
theorem dX0_wantsOf_89 : decode cX0_wantsOf 89 = .ok (.iconst 0, 1) := by decide +kernel
theorem dX0_wantsOf_90 : decode cX0_wantsOf 90 = .ok (.ireturn, 1) := by decide +kernel
theorem dX0_wantsOf_91 : decode cX0_wantsOf 91 = .ok (.aload_n 0, 1) := by decide +kernel
theorem dX0_wantsOf_92 : decode cX0_wantsOf 92 = .ok (.invokevirtual 72, 3) := by decide +kernel
theorem dX0_wantsOf_95 : decode cX0_wantsOf 95 = .ok (.ifCond .eq 9, 3) := by decide +kernel
theorem dX0_wantsOf_98 : decode cX0_wantsOf 98 = .ok (.iconst 2, 1) := by decide +kernel
theorem dX0_wantsOf_99 : decode cX0_wantsOf 99 = .ok (.iload_n 3, 1) := by decide +kernel
theorem dX0_wantsOf_100 : decode cX0_wantsOf 100 = .ok (.imul, 1) := by decide +kernel
theorem dX0_wantsOf_101 : decode cX0_wantsOf 101 = .ok (.goto 4, 3) := by decide +kernel
theorem dX0_wantsOf_104 : decode cX0_wantsOf 104 = .ok (.iload_n 3, 1) := by decide +kernel
theorem dX0_wantsOf_105 : decode cX0_wantsOf 105 = .ok (.ireturn, 1) := by decide +kernel
theorem dX0_wantsOf_106 : decode cX0_wantsOf 106 = .ok (.aload_n 0, 1) := by decide +kernel
theorem dX0_wantsOf_107 : decode cX0_wantsOf 107 = .ok (.getfield 23, 3) := by decide +kernel
theorem dX0_wantsOf_110 : decode cX0_wantsOf 110 = .ok (.iload_n 1, 1) := by decide +kernel
theorem dX0_wantsOf_111 : decode cX0_wantsOf 111 = .ok (.iaload, 1) := by decide +kernel
theorem dX0_wantsOf_112 : decode cX0_wantsOf 112 = .ok (.bipush 60, 2) := by decide +kernel
theorem dX0_wantsOf_114 : decode cX0_wantsOf 114 = .ok (.if_icmp .le 7, 3) := by decide +kernel
theorem dX0_wantsOf_117 : decode cX0_wantsOf 117 = .ok (.iconst 0, 1) := by decide +kernel
theorem dX0_wantsOf_118 : decode cX0_wantsOf 118 = .ok (.goto 5, 3) := by decide +kernel
theorem dX0_wantsOf_121 : decode cX0_wantsOf 121 = .ok (.iload 4, 2) := by decide +kernel
theorem dX0_wantsOf_123 : decode cX0_wantsOf 123 = .ok (.ireturn, 1) := by decide +kernel
theorem dX0_wantsOf_124 : decode cX0_wantsOf 124 = .ok (.iload_n 2, 1) := by decide +kernel
theorem dX0_wantsOf_125 : decode cX0_wantsOf 125 = .ok (.ireturn, 1) := by decide +kernel
theorem dX0_paysOf_0 : decode cX0_paysOf 0 = .ok (.aload_n 0, 1) := by decide +kernel
theorem dX0_paysOf_1 : decode cX0_paysOf 1 = .ok (.getfield 19, 3) := by decide +kernel
theorem dX0_paysOf_4 : decode cX0_paysOf 4 = .ok (.iload_n 1, 1) := by decide +kernel
theorem dX0_paysOf_5 : decode cX0_paysOf 5 = .ok (.iaload, 1) := by decide +kernel
theorem dX0_paysOf_6 : decode cX0_paysOf 6 = .ok (.iconst 2, 1) := by decide +kernel
theorem dX0_paysOf_7 : decode cX0_paysOf 7 = .ok (.if_icmp .ne 7, 3) := by decide +kernel
theorem dX0_paysOf_10 : decode cX0_paysOf 10 = .ok (.iconst 1, 1) := by decide +kernel
theorem dX0_paysOf_11 : decode cX0_paysOf 11 = .ok (.goto 4, 3) := by decide +kernel
theorem dX0_paysOf_14 : decode cX0_paysOf 14 = .ok (.iconst 0, 1) := by decide +kernel
theorem dX0_paysOf_15 : decode cX0_paysOf 15 = .ok (.ireturn, 1) := by decide +kernel
theorem dX0_yieldsOf_0 : decode cX0_yieldsOf 0 = .ok (.iconst 4, 1) := by decide +kernel
theorem dX0_yieldsOf_1 : decode cX0_yieldsOf 1 = .ok (.istore_n 2, 1) := by decide +kernel
theorem dX0_yieldsOf_2 : decode cX0_yieldsOf 2 = .ok (.iload_n 2, 1) := by decide +kernel
theorem dX0_yieldsOf_3 : decode cX0_yieldsOf 3 = .ok (.iconst 2, 1) := by decide +kernel
theorem dX0_yieldsOf_4 : decode cX0_yieldsOf 4 = .ok (.idiv, 1) := by decide +kernel
theorem dX0_yieldsOf_5 : decode cX0_yieldsOf 5 = .ok (.istore_n 3, 1) := by decide +kernel
theorem dX0_yieldsOf_6 : decode cX0_yieldsOf 6 = .ok (.iload_n 2, 1) := by decide +kernel
theorem dX0_yieldsOf_7 : decode cX0_yieldsOf 7 = .ok (.iconst 4, 1) := by decide +kernel
theorem dX0_yieldsOf_8 : decode cX0_yieldsOf 8 = .ok (.iadd, 1) := by decide +kernel
theorem dX0_yieldsOf_9 : decode cX0_yieldsOf 9 = .ok (.istore 4, 2) := by decide +kernel
theorem dX0_yieldsOf_11 : decode cX0_yieldsOf 11 = .ok (.aload_n 0, 1) := by decide +kernel
theorem dX0_yieldsOf_12 : decode cX0_yieldsOf 12 = .ok (.getfield 19, 3) := by decide +kernel
theorem dX0_yieldsOf_15 : decode cX0_yieldsOf 15 = .ok (.iload_n 1, 1) := by decide +kernel
theorem dX0_yieldsOf_16 : decode cX0_yieldsOf 16 = .ok (.iaload, 1) := by decide +kernel
theorem dX0_yieldsOf_17 : decode cX0_yieldsOf 17 = .ok (.tableswitch 60 1 5 #[35, 37, 40, 47, 37], 35) := by decide +kernel
theorem dX0_yieldsOf_52 : decode cX0_yieldsOf 52 = .ok (.iload_n 3, 1) := by decide +kernel
theorem dX0_yieldsOf_53 : decode cX0_yieldsOf 53 = .ok (.ireturn, 1) := by decide +kernel
theorem dX0_yieldsOf_54 : decode cX0_yieldsOf 54 = .ok (.iload 4, 2) := by decide +kernel
theorem dX0_yieldsOf_56 : decode cX0_yieldsOf 56 = .ok (.ireturn, 1) := by decide +kernel
theorem dX0_yieldsOf_57 : decode cX0_yieldsOf 57 = .ok (.aload_n 0, 1) := by decide +kernel
theorem dX0_yieldsOf_58 : decode cX0_yieldsOf 58 = .ok (.getfield 23, 3) := by decide +kernel
theorem dX0_yieldsOf_61 : decode cX0_yieldsOf 61 = .ok (.iload_n 1, 1) := by decide +kernel
theorem dX0_yieldsOf_62 : decode cX0_yieldsOf 62 = .ok (.iaload, 1) := by decide +kernel
theorem dX0_yieldsOf_63 : decode cX0_yieldsOf 63 = .ok (.ireturn, 1) := by decide +kernel
theorem dX0_yieldsOf_64 : decode cX0_yieldsOf 64 = .ok (.aload_n 0, 1) := by decide +kernel
theorem dX0_yieldsOf_65 : decode cX0_yieldsOf 65 = .ok (.invokevirtual 72, 3) := by decide +kernel
theorem dX0_yieldsOf_68 : decode cX0_yieldsOf 68 = .ok (.ifCond .eq 7, 3) := by decide +kernel
theorem dX0_yieldsOf_71 : decode cX0_yieldsOf 71 = .ok (.iconst 0, 1) := by decide +kernel
theorem dX0_yieldsOf_72 : decode cX0_yieldsOf 72 = .ok (.goto 4, 3) := by decide +kernel
theorem dX0_yieldsOf_75 : decode cX0_yieldsOf 75 = .ok (.iload_n 3, 1) := by decide +kernel
theorem dX0_yieldsOf_76 : decode cX0_yieldsOf 76 = .ok (.ireturn, 1) := by decide +kernel
theorem dX0_yieldsOf_77 : decode cX0_yieldsOf 77 = .ok (.iload_n 2, 1) := by decide +kernel
theorem dX0_yieldsOf_78 : decode cX0_yieldsOf 78 = .ok (.ireturn, 1) := by decide +kernel
theorem dX0_goOn_0 : decode cX0_goOn 0 = .ok (.iconst 0, 1) := by decide +kernel
theorem dX0_goOn_1 : decode cX0_goOn 1 = .ok (.istore_n 2, 1) := by decide +kernel
theorem dX0_goOn_2 : decode cX0_goOn 2 = .ok (.iload_n 2, 1) := by decide +kernel
theorem dX0_goOn_3 : decode cX0_goOn 3 = .ok (.iload_n 1, 1) := by decide +kernel
theorem dX0_goOn_4 : decode cX0_goOn 4 = .ok (.if_icmp .ge 13, 3) := by decide +kernel
theorem dX0_goOn_7 : decode cX0_goOn 7 = .ok (.aload_n 0, 1) := by decide +kernel
theorem dX0_goOn_8 : decode cX0_goOn 8 = .ok (.invokevirtual 76, 3) := by decide +kernel
theorem dX0_goOn_11 : decode cX0_goOn 11 = .ok (.iinc 2 1, 3) := by decide +kernel
theorem dX0_goOn_14 : decode cX0_goOn 14 = .ok (.goto (-12), 3) := by decide +kernel
theorem dX0_goOn_17 : decode cX0_goOn 17 = .ok (.return_, 1) := by decide +kernel
theorem dX0_goMinute_0 : decode cX0_goMinute 0 = .ok (.aload_n 0, 1) := by decide +kernel
theorem dX0_goMinute_1 : decode cX0_goMinute 1 = .ok (.invokevirtual 79, 3) := by decide +kernel
theorem dX0_goMinute_4 : decode cX0_goMinute 4 = .ok (.ifCond .eq 10, 3) := by decide +kernel
theorem dX0_goMinute_7 : decode cX0_goMinute 7 = .ok (.aload_n 0, 1) := by decide +kernel
theorem dX0_goMinute_8 : decode cX0_goMinute 8 = .ok (.invokevirtual 82, 3) := by decide +kernel
theorem dX0_goMinute_11 : decode cX0_goMinute 11 = .ok (.goto 24, 3) := by decide +kernel
theorem dX0_goMinute_14 : decode cX0_goMinute 14 = .ok (.iconst 0, 1) := by decide +kernel
theorem dX0_goMinute_15 : decode cX0_goMinute 15 = .ok (.istore_n 1, 1) := by decide +kernel
theorem dX0_goMinute_16 : decode cX0_goMinute 16 = .ok (.iload_n 1, 1) := by decide +kernel
theorem dX0_goMinute_17 : decode cX0_goMinute 17 = .ok (.aload_n 0, 1) := by decide +kernel
theorem dX0_goMinute_18 : decode cX0_goMinute 18 = .ok (.getfield 16, 3) := by decide +kernel
theorem dX0_goMinute_21 : decode cX0_goMinute 21 = .ok (.if_icmp .ge 14, 3) := by decide +kernel
theorem dX0_goMinute_24 : decode cX0_goMinute 24 = .ok (.aload_n 0, 1) := by decide +kernel
theorem dX0_goMinute_25 : decode cX0_goMinute 25 = .ok (.iload_n 1, 1) := by decide +kernel
theorem dX0_goMinute_26 : decode cX0_goMinute 26 = .ok (.invokevirtual 85, 3) := by decide +kernel
theorem dX0_goMinute_29 : decode cX0_goMinute 29 = .ok (.iinc 1 1, 3) := by decide +kernel
theorem dX0_goMinute_32 : decode cX0_goMinute 32 = .ok (.goto (-16), 3) := by decide +kernel
theorem dX0_goMinute_35 : decode cX0_goMinute 35 = .ok (.aload_n 0, 1) := by decide +kernel
theorem dX0_goMinute_36 : decode cX0_goMinute 36 = .ok (.dup, 1) := by decide +kernel
theorem dX0_goMinute_37 : decode cX0_goMinute 37 = .ok (.getfield 7, 3) := by decide +kernel
theorem dX0_goMinute_40 : decode cX0_goMinute 40 = .ok (.iconst 1, 1) := by decide +kernel
theorem dX0_goMinute_41 : decode cX0_goMinute 41 = .ok (.iadd, 1) := by decide +kernel
theorem dX0_goMinute_42 : decode cX0_goMinute 42 = .ok (.putfield 7, 3) := by decide +kernel
theorem dX0_goMinute_45 : decode cX0_goMinute 45 = .ok (.return_, 1) := by decide +kernel
theorem dX0_getMoreLevel_0 : decode cX0_getMoreLevel 0 = .ok (.aload_n 0, 1) := by decide +kernel
theorem dX0_getMoreLevel_1 : decode cX0_getMoreLevel 1 = .ok (.invokevirtual 59, 3) := by decide +kernel
theorem dX0_getMoreLevel_4 : decode cX0_getMoreLevel 4 = .ok (.istore_n 1, 1) := by decide +kernel
theorem dX0_getMoreLevel_5 : decode cX0_getMoreLevel 5 = .ok (.aload_n 0, 1) := by decide +kernel
theorem dX0_getMoreLevel_6 : decode cX0_getMoreLevel 6 = .ok (.invokevirtual 62, 3) := by decide +kernel
theorem dX0_getMoreLevel_9 : decode cX0_getMoreLevel 9 = .ok (.istore_n 2, 1) := by decide +kernel
theorem dX0_getMoreLevel_10 : decode cX0_getMoreLevel 10 = .ok (.iload_n 1, 1) := by decide +kernel
theorem dX0_getMoreLevel_11 : decode cX0_getMoreLevel 11 = .ok (.ifCond .lt 32, 3) := by decide +kernel
theorem dX0_getMoreLevel_14 : decode cX0_getMoreLevel 14 = .ok (.iload_n 2, 1) := by decide +kernel
theorem dX0_getMoreLevel_15 : decode cX0_getMoreLevel 15 = .ok (.ifCond .lt 28, 3) := by decide +kernel
theorem dX0_getMoreLevel_18 : decode cX0_getMoreLevel 18 = .ok (.aload_n 0, 1) := by decide +kernel
theorem dX0_getMoreLevel_19 : decode cX0_getMoreLevel 19 = .ok (.getfield 23, 3) := by decide +kernel
theorem dX0_getMoreLevel_22 : decode cX0_getMoreLevel 22 = .ok (.iload_n 1, 1) := by decide +kernel
theorem dX0_getMoreLevel_23 : decode cX0_getMoreLevel 23 = .ok (.iaload, 1) := by decide +kernel
theorem dX0_getMoreLevel_24 : decode cX0_getMoreLevel 24 = .ok (.aload_n 0, 1) := by decide +kernel
theorem dX0_getMoreLevel_25 : decode cX0_getMoreLevel 25 = .ok (.getfield 23, 3) := by decide +kernel
theorem dX0_getMoreLevel_28 : decode cX0_getMoreLevel 28 = .ok (.iload_n 2, 1) := by decide +kernel
theorem dX0_getMoreLevel_29 : decode cX0_getMoreLevel 29 = .ok (.iaload, 1) := by decide +kernel
theorem dX0_getMoreLevel_30 : decode cX0_getMoreLevel 30 = .ok (.isub, 1) := by decide +kernel
theorem dX0_getMoreLevel_31 : decode cX0_getMoreLevel 31 = .ok (.iconst 2, 1) := by decide +kernel
theorem dX0_getMoreLevel_32 : decode cX0_getMoreLevel 32 = .ok (.if_icmp .lt 11, 3) := by decide +kernel
theorem dX0_getMoreLevel_35 : decode cX0_getMoreLevel 35 = .ok (.aload_n 0, 1) := by decide +kernel
theorem dX0_getMoreLevel_36 : decode cX0_getMoreLevel 36 = .ok (.iload_n 1, 1) := by decide +kernel
theorem dX0_getMoreLevel_37 : decode cX0_getMoreLevel 37 = .ok (.iload_n 2, 1) := by decide +kernel
theorem dX0_getMoreLevel_38 : decode cX0_getMoreLevel 38 = .ok (.iconst 1, 1) := by decide +kernel
theorem dX0_getMoreLevel_39 : decode cX0_getMoreLevel 39 = .ok (.invokevirtual 89, 3) := by decide +kernel
theorem dX0_getMoreLevel_42 : decode cX0_getMoreLevel 42 = .ok (.pop, 1) := by decide +kernel
theorem dX0_getMoreLevel_43 : decode cX0_getMoreLevel 43 = .ok (.return_, 1) := by decide +kernel
theorem dX0_deal_0 : decode cX0_deal 0 = .ok (.aload_n 0, 1) := by decide +kernel
theorem dX0_deal_1 : decode cX0_deal 1 = .ok (.iload_n 1, 1) := by decide +kernel
theorem dX0_deal_2 : decode cX0_deal 2 = .ok (.invokevirtual 93, 3) := by decide +kernel
theorem dX0_deal_5 : decode cX0_deal 5 = .ok (.istore_n 2, 1) := by decide +kernel
theorem dX0_deal_6 : decode cX0_deal 6 = .ok (.aload_n 0, 1) := by decide +kernel
theorem dX0_deal_7 : decode cX0_deal 7 = .ok (.iload_n 1, 1) := by decide +kernel
theorem dX0_deal_8 : decode cX0_deal 8 = .ok (.invokevirtual 68, 3) := by decide +kernel
theorem dX0_deal_11 : decode cX0_deal 11 = .ok (.istore_n 3, 1) := by decide +kernel
theorem dX0_deal_12 : decode cX0_deal 12 = .ok (.iload_n 2, 1) := by decide +kernel
theorem dX0_deal_13 : decode cX0_deal 13 = .ok (.ifCond .le 48, 3) := by decide +kernel
theorem dX0_deal_16 : decode cX0_deal 16 = .ok (.aload_n 0, 1) := by decide +kernel
theorem dX0_deal_17 : decode cX0_deal 17 = .ok (.getfield 26, 3) := by decide +kernel
theorem dX0_deal_20 : decode cX0_deal 20 = .ok (.iload_n 1, 1) := by decide +kernel
theorem dX0_deal_21 : decode cX0_deal 21 = .ok (.iaload, 1) := by decide +kernel
theorem dX0_deal_22 : decode cX0_deal 22 = .ok (.aload_n 0, 1) := by decide +kernel
theorem dX0_deal_23 : decode cX0_deal 23 = .ok (.iload_n 1, 1) := by decide +kernel
theorem dX0_deal_24 : decode cX0_deal 24 = .ok (.invokevirtual 96, 3) := by decide +kernel
theorem dX0_deal_27 : decode cX0_deal 27 = .ok (.if_icmp .lt 34, 3) := by decide +kernel
theorem dX0_deal_30 : decode cX0_deal 30 = .ok (.aload_n 0, 1) := by decide +kernel
theorem dX0_deal_31 : decode cX0_deal 31 = .ok (.iload_n 3, 1) := by decide +kernel
theorem dX0_deal_32 : decode cX0_deal 32 = .ok (.iload_n 1, 1) := by decide +kernel
theorem dX0_deal_33 : decode cX0_deal 33 = .ok (.iload_n 2, 1) := by decide +kernel
theorem dX0_deal_34 : decode cX0_deal 34 = .ok (.aload_n 0, 1) := by decide +kernel
theorem dX0_deal_35 : decode cX0_deal 35 = .ok (.iload_n 3, 1) := by decide +kernel
theorem dX0_deal_36 : decode cX0_deal 36 = .ok (.invokevirtual 99, 3) := by decide +kernel
theorem dX0_deal_39 : decode cX0_deal 39 = .ok (.invokestatic 41, 3) := by decide +kernel
theorem dX0_deal_42 : decode cX0_deal 42 = .ok (.invokevirtual 89, 3) := by decide +kernel
theorem dX0_deal_45 : decode cX0_deal 45 = .ok (.istore 4, 2) := by decide +kernel
theorem dX0_deal_47 : decode cX0_deal 47 = .ok (.iload 4, 2) := by decide +kernel
theorem dX0_deal_49 : decode cX0_deal 49 = .ok (.ifCond .le 9, 3) := by decide +kernel
theorem dX0_deal_52 : decode cX0_deal 52 = .ok (.aload_n 0, 1) := by decide +kernel
theorem dX0_deal_53 : decode cX0_deal 53 = .ok (.iload_n 1, 1) := by decide +kernel
theorem dX0_deal_54 : decode cX0_deal 54 = .ok (.iload_n 3, 1) := by decide +kernel
theorem dX0_deal_55 : decode cX0_deal 55 = .ok (.invokevirtual 102, 3) := by decide +kernel
theorem dX0_deal_58 : decode cX0_deal 58 = .ok (.goto 16, 3) := by decide +kernel
theorem dX0_deal_61 : decode cX0_deal 61 = .ok (.iload_n 2, 1) := by decide +kernel
theorem dX0_deal_62 : decode cX0_deal 62 = .ok (.ifCond .ge 12, 3) := by decide +kernel
theorem dX0_deal_65 : decode cX0_deal 65 = .ok (.aload_n 0, 1) := by decide +kernel
theorem dX0_deal_66 : decode cX0_deal 66 = .ok (.iload_n 1, 1) := by decide +kernel
theorem dX0_deal_67 : decode cX0_deal 67 = .ok (.iload_n 3, 1) := by decide +kernel
theorem dX0_deal_68 : decode cX0_deal 68 = .ok (.iload_n 2, 1) := by decide +kernel
theorem dX0_deal_69 : decode cX0_deal 69 = .ok (.ineg, 1) := by decide +kernel
theorem dX0_deal_70 : decode cX0_deal 70 = .ok (.invokevirtual 89, 3) := by decide +kernel
theorem dX0_deal_73 : decode cX0_deal 73 = .ok (.pop, 1) := by decide +kernel
theorem dX0_deal_74 : decode cX0_deal 74 = .ok (.return_, 1) := by decide +kernel
theorem dX0_carry_0 : decode cX0_carry 0 = .ok (.iload_n 3, 1) := by decide +kernel
theorem dX0_carry_1 : decode cX0_carry 1 = .ok (.aload_n 0, 1) := by decide +kernel
theorem dX0_carry_2 : decode cX0_carry 2 = .ok (.getfield 23, 3) := by decide +kernel
theorem dX0_carry_5 : decode cX0_carry 5 = .ok (.iload_n 1, 1) := by decide +kernel
theorem dX0_carry_6 : decode cX0_carry 6 = .ok (.iaload, 1) := by decide +kernel
theorem dX0_carry_7 : decode cX0_carry 7 = .ok (.sipush 200, 3) := by decide +kernel
theorem dX0_carry_10 : decode cX0_carry 10 = .ok (.aload_n 0, 1) := by decide +kernel
theorem dX0_carry_11 : decode cX0_carry 11 = .ok (.getfield 23, 3) := by decide +kernel
theorem dX0_carry_14 : decode cX0_carry 14 = .ok (.iload_n 2, 1) := by decide +kernel
theorem dX0_carry_15 : decode cX0_carry 15 = .ok (.iaload, 1) := by decide +kernel
theorem dX0_carry_16 : decode cX0_carry 16 = .ok (.isub, 1) := by decide +kernel
theorem dX0_carry_17 : decode cX0_carry 17 = .ok (.invokestatic 41, 3) := by decide +kernel
theorem dX0_carry_20 : decode cX0_carry 20 = .ok (.invokestatic 41, 3) := by decide +kernel
theorem dX0_carry_23 : decode cX0_carry 23 = .ok (.istore 4, 2) := by decide +kernel
theorem dX0_carry_25 : decode cX0_carry 25 = .ok (.aload_n 0, 1) := by decide +kernel
theorem dX0_carry_26 : decode cX0_carry 26 = .ok (.getfield 23, 3) := by decide +kernel
theorem dX0_carry_29 : decode cX0_carry 29 = .ok (.iload_n 1, 1) := by decide +kernel
theorem dX0_carry_30 : decode cX0_carry 30 = .ok (.dup2, 1) := by decide +kernel
theorem dX0_carry_31 : decode cX0_carry 31 = .ok (.iaload, 1) := by decide +kernel
theorem dX0_carry_32 : decode cX0_carry 32 = .ok (.iload 4, 2) := by decide +kernel
theorem dX0_carry_34 : decode cX0_carry 34 = .ok (.isub, 1) := by decide +kernel
theorem dX0_carry_35 : decode cX0_carry 35 = .ok (.iastore, 1) := by decide +kernel
theorem dX0_carry_36 : decode cX0_carry 36 = .ok (.aload_n 0, 1) := by decide +kernel
theorem dX0_carry_37 : decode cX0_carry 37 = .ok (.getfield 23, 3) := by decide +kernel
theorem dX0_carry_40 : decode cX0_carry 40 = .ok (.iload_n 2, 1) := by decide +kernel
theorem dX0_carry_41 : decode cX0_carry 41 = .ok (.dup2, 1) := by decide +kernel
theorem dX0_carry_42 : decode cX0_carry 42 = .ok (.iaload, 1) := by decide +kernel
theorem dX0_carry_43 : decode cX0_carry 43 = .ok (.iload 4, 2) := by decide +kernel
theorem dX0_carry_45 : decode cX0_carry 45 = .ok (.iadd, 1) := by decide +kernel
theorem dX0_carry_46 : decode cX0_carry 46 = .ok (.iastore, 1) := by decide +kernel
theorem dX0_carry_47 : decode cX0_carry 47 = .ok (.aload_n 0, 1) := by decide +kernel
theorem dX0_carry_48 : decode cX0_carry 48 = .ok (.getfield 29, 3) := by decide +kernel
theorem dX0_carry_51 : decode cX0_carry 51 = .ok (.iload_n 1, 1) := by decide +kernel
theorem dX0_carry_52 : decode cX0_carry 52 = .ok (.aload_n 0, 1) := by decide +kernel
theorem dX0_carry_53 : decode cX0_carry 53 = .ok (.getfield 29, 3) := by decide +kernel
theorem dX0_carry_56 : decode cX0_carry 56 = .ok (.iload_n 1, 1) := by decide +kernel
theorem dX0_carry_57 : decode cX0_carry 57 = .ok (.iaload, 1) := by decide +kernel
theorem dX0_carry_58 : decode cX0_carry 58 = .ok (.iload 4, 2) := by decide +kernel
theorem dX0_carry_60 : decode cX0_carry 60 = .ok (.isub, 1) := by decide +kernel
theorem dX0_carry_61 : decode cX0_carry 61 = .ok (.sipush (-9999), 3) := by decide +kernel
theorem dX0_carry_64 : decode cX0_carry 64 = .ok (.invokestatic 106, 3) := by decide +kernel
theorem dX0_carry_67 : decode cX0_carry 67 = .ok (.iastore, 1) := by decide +kernel
theorem dX0_carry_68 : decode cX0_carry 68 = .ok (.aload_n 0, 1) := by decide +kernel
theorem dX0_carry_69 : decode cX0_carry 69 = .ok (.getfield 29, 3) := by decide +kernel
theorem dX0_carry_72 : decode cX0_carry 72 = .ok (.iload_n 2, 1) := by decide +kernel
theorem dX0_carry_73 : decode cX0_carry 73 = .ok (.aload_n 0, 1) := by decide +kernel
theorem dX0_carry_74 : decode cX0_carry 74 = .ok (.getfield 29, 3) := by decide +kernel
theorem dX0_carry_77 : decode cX0_carry 77 = .ok (.iload_n 2, 1) := by decide +kernel
theorem dX0_carry_78 : decode cX0_carry 78 = .ok (.iaload, 1) := by decide +kernel
theorem dX0_carry_79 : decode cX0_carry 79 = .ok (.iload 4, 2) := by decide +kernel
theorem dX0_carry_81 : decode cX0_carry 81 = .ok (.iadd, 1) := by decide +kernel
theorem dX0_carry_82 : decode cX0_carry 82 = .ok (.sipush 9999, 3) := by decide +kernel
theorem dX0_carry_85 : decode cX0_carry 85 = .ok (.invokestatic 41, 3) := by decide +kernel
theorem dX0_carry_88 : decode cX0_carry 88 = .ok (.iastore, 1) := by decide +kernel
theorem dX0_carry_89 : decode cX0_carry 89 = .ok (.iload 4, 2) := by decide +kernel
theorem dX0_carry_91 : decode cX0_carry 91 = .ok (.ireturn, 1) := by decide +kernel
theorem dX0_payFor_0 : decode cX0_payFor 0 = .ok (.aload_n 0, 1) := by decide +kernel
theorem dX0_payFor_1 : decode cX0_payFor 1 = .ok (.iload_n 1, 1) := by decide +kernel
theorem dX0_payFor_2 : decode cX0_payFor 2 = .ok (.invokevirtual 96, 3) := by decide +kernel
theorem dX0_payFor_5 : decode cX0_payFor 5 = .ok (.istore_n 3, 1) := by decide +kernel
theorem dX0_payFor_6 : decode cX0_payFor 6 = .ok (.aload_n 0, 1) := by decide +kernel
theorem dX0_payFor_7 : decode cX0_payFor 7 = .ok (.getfield 26, 3) := by decide +kernel
theorem dX0_payFor_10 : decode cX0_payFor 10 = .ok (.iload_n 1, 1) := by decide +kernel
theorem dX0_payFor_11 : decode cX0_payFor 11 = .ok (.dup2, 1) := by decide +kernel
theorem dX0_payFor_12 : decode cX0_payFor 12 = .ok (.iaload, 1) := by decide +kernel
theorem dX0_payFor_13 : decode cX0_payFor 13 = .ok (.iload_n 3, 1) := by decide +kernel
theorem dX0_payFor_14 : decode cX0_payFor 14 = .ok (.isub, 1) := by decide +kernel
theorem dX0_payFor_15 : decode cX0_payFor 15 = .ok (.iastore, 1) := by decide +kernel
theorem dX0_payFor_16 : decode cX0_payFor 16 = .ok (.aload_n 0, 1) := by decide +kernel
theorem dX0_payFor_17 : decode cX0_payFor 17 = .ok (.getfield 26, 3) := by decide +kernel
theorem dX0_payFor_20 : decode cX0_payFor 20 = .ok (.iload_n 2, 1) := by decide +kernel
theorem dX0_payFor_21 : decode cX0_payFor 21 = .ok (.aload_n 0, 1) := by decide +kernel
theorem dX0_payFor_22 : decode cX0_payFor 22 = .ok (.getfield 26, 3) := by decide +kernel
theorem dX0_payFor_25 : decode cX0_payFor 25 = .ok (.iload_n 2, 1) := by decide +kernel
theorem dX0_payFor_26 : decode cX0_payFor 26 = .ok (.iaload, 1) := by decide +kernel
theorem dX0_payFor_27 : decode cX0_payFor 27 = .ok (.iload_n 3, 1) := by decide +kernel
theorem dX0_payFor_28 : decode cX0_payFor 28 = .ok (.iadd, 1) := by decide +kernel
theorem dX0_payFor_29 : decode cX0_payFor 29 = .ok (.bipush 99, 2) := by decide +kernel
theorem dX0_payFor_31 : decode cX0_payFor 31 = .ok (.invokestatic 41, 3) := by decide +kernel
theorem dX0_payFor_34 : decode cX0_payFor 34 = .ok (.iastore, 1) := by decide +kernel
theorem dX0_payFor_35 : decode cX0_payFor 35 = .ok (.return_, 1) := by decide +kernel
theorem dX1_init_0 : decode cX1_init 0 = .ok (.aload_n 0, 1) := by decide +kernel
theorem dX1_init_1 : decode cX1_init 1 = .ok (.invokespecial 1, 3) := by decide +kernel
theorem dX1_init_4 : decode cX1_init 4 = .ok (.aload_n 0, 1) := by decide +kernel
theorem dX1_init_5 : decode cX1_init 5 = .ok (.bipush 40, 2) := by decide +kernel
theorem dX1_init_7 : decode cX1_init 7 = .ok (.newarray .long, 2) := by decide +kernel
theorem dX1_init_9 : decode cX1_init 9 = .ok (.putfield 9, 3) := by decide +kernel
theorem dX1_init_12 : decode cX1_init 12 = .ok (.aload_n 0, 1) := by decide +kernel
theorem dX1_init_13 : decode cX1_init 13 = .ok (.iconst 0, 1) := by decide +kernel
theorem dX1_init_14 : decode cX1_init 14 = .ok (.putfield 13, 3) := by decide +kernel
theorem dX1_init_17 : decode cX1_init 17 = .ok (.aload_n 0, 1) := by decide +kernel
theorem dX1_init_18 : decode cX1_init 18 = .ok (.iconst 0, 1) := by decide +kernel
theorem dX1_init_19 : decode cX1_init 19 = .ok (.putfield 17, 3) := by decide +kernel
theorem dX1_init_22 : decode cX1_init 22 = .ok (.return_, 1) := by decide +kernel
theorem dX1_areBits_0 : decode cX1_areBits 0 = .ok (.iload_n 0, 1) := by decide +kernel
theorem dX1_areBits_1 : decode cX1_areBits 1 = .ok (.ifCond .eq 21, 3) := by decide +kernel
theorem dX1_areBits_4 : decode cX1_areBits 4 = .ok (.iload_n 0, 1) := by decide +kernel
theorem dX1_areBits_5 : decode cX1_areBits 5 = .ok (.bipush 8, 2) := by decide +kernel
theorem dX1_areBits_7 : decode cX1_areBits 7 = .ok (.if_icmp .eq 15, 3) := by decide +kernel
theorem dX1_areBits_10 : decode cX1_areBits 10 = .ok (.iload_n 0, 1) := by decide +kernel
theorem dX1_areBits_11 : decode cX1_areBits 11 = .ok (.bipush 16, 2) := by decide +kernel
theorem dX1_areBits_13 : decode cX1_areBits 13 = .ok (.if_icmp .eq 9, 3) := by decide +kernel
theorem dX1_areBits_16 : decode cX1_areBits 16 = .ok (.iload_n 0, 1) := by decide +kernel
theorem dX1_areBits_17 : decode cX1_areBits 17 = .ok (.bipush 64, 2) := by decide +kernel
theorem dX1_areBits_19 : decode cX1_areBits 19 = .ok (.if_icmp .ne 7, 3) := by decide +kernel
theorem dX1_areBits_22 : decode cX1_areBits 22 = .ok (.iconst 1, 1) := by decide +kernel
theorem dX1_areBits_23 : decode cX1_areBits 23 = .ok (.goto 4, 3) := by decide +kernel
theorem dX1_areBits_26 : decode cX1_areBits 26 = .ok (.iconst 0, 1) := by decide +kernel
theorem dX1_areBits_27 : decode cX1_areBits 27 = .ok (.ireturn, 1) := by decide +kernel
theorem dX1_isMissing_0 : decode cX1_isMissing 0 = .ok (.aload_n 0, 1) := by decide +kernel
theorem dX1_isMissing_1 : decode cX1_isMissing 1 = .ok (.getfield 13, 3) := by decide +kernel
theorem dX1_isMissing_4 : decode cX1_isMissing 4 = .ok (.ifCond .ne 7, 3) := by decide +kernel
theorem dX1_isMissing_7 : decode cX1_isMissing 7 = .ok (.iconst 1, 1) := by decide +kernel
theorem dX1_isMissing_8 : decode cX1_isMissing 8 = .ok (.goto 4, 3) := by decide +kernel
theorem dX1_isMissing_11 : decode cX1_isMissing 11 = .ok (.iconst 0, 1) := by decide +kernel
theorem dX1_isMissing_12 : decode cX1_isMissing 12 = .ok (.ireturn, 1) := by decide +kernel
theorem dX1_renew_0 : decode cX1_renew 0 = .ok (.aload_n 0, 1) := by decide +kernel
theorem dX1_renew_1 : decode cX1_renew 1 = .ok (.iload_n 1, 1) := by decide +kernel
theorem dX1_renew_2 : decode cX1_renew 2 = .ok (.putfield 13, 3) := by decide +kernel
theorem dX1_renew_5 : decode cX1_renew 5 = .ok (.aload_n 0, 1) := by decide +kernel
theorem dX1_renew_6 : decode cX1_renew 6 = .ok (.iload_n 1, 1) := by decide +kernel
theorem dX1_renew_7 : decode cX1_renew 7 = .ok (.ifCond .ne 7, 3) := by decide +kernel
theorem dX1_renew_10 : decode cX1_renew 10 = .ok (.iconst 0, 1) := by decide +kernel
theorem dX1_renew_11 : decode cX1_renew 11 = .ok (.goto 4, 3) := by decide +kernel
theorem dX1_renew_14 : decode cX1_renew 14 = .ok (.iload_n 2, 1) := by decide +kernel
theorem dX1_renew_15 : decode cX1_renew 15 = .ok (.putfield 17, 3) := by decide +kernel
theorem dX1_renew_18 : decode cX1_renew 18 = .ok (.aload_n 0, 1) := by decide +kernel
theorem dX1_renew_19 : decode cX1_renew 19 = .ok (.getfield 9, 3) := by decide +kernel
theorem dX1_renew_22 : decode cX1_renew 22 = .ok (.lconst 0, 1) := by decide +kernel
theorem dX1_renew_23 : decode cX1_renew 23 = .ok (.invokestatic 20, 3) := by decide +kernel
theorem dX1_renew_26 : decode cX1_renew 26 = .ok (.return_, 1) := by decide +kernel
theorem dX1_has_0 : decode cX1_has 0 = .ok (.iload_n 1, 1) := by decide +kernel
theorem dX1_has_1 : decode cX1_has 1 = .ok (.ifCond .lt 21, 3) := by decide +kernel
theorem dX1_has_4 : decode cX1_has 4 = .ok (.iload_n 2, 1) := by decide +kernel
theorem dX1_has_5 : decode cX1_has 5 = .ok (.ifCond .lt 17, 3) := by decide +kernel
theorem dX1_has_8 : decode cX1_has 8 = .ok (.iload_n 1, 1) := by decide +kernel
theorem dX1_has_9 : decode cX1_has 9 = .ok (.aload_n 0, 1) := by decide +kernel
theorem dX1_has_10 : decode cX1_has 10 = .ok (.getfield 17, 3) := by decide +kernel
theorem dX1_has_13 : decode cX1_has 13 = .ok (.iload_n 2, 1) := by decide +kernel
theorem dX1_has_14 : decode cX1_has 14 = .ok (.isub, 1) := by decide +kernel
theorem dX1_has_15 : decode cX1_has 15 = .ok (.if_icmp .gt 7, 3) := by decide +kernel
theorem dX1_has_18 : decode cX1_has 18 = .ok (.iconst 1, 1) := by decide +kernel
theorem dX1_has_19 : decode cX1_has 19 = .ok (.goto 4, 3) := by decide +kernel
theorem dX1_has_22 : decode cX1_has 22 = .ok (.iconst 0, 1) := by decide +kernel
theorem dX1_has_23 : decode cX1_has 23 = .ok (.ireturn, 1) := by decide +kernel
theorem dX1_store_0 : decode cX1_store 0 = .ok (.aload_n 0, 1) := by decide +kernel
theorem dX1_store_1 : decode cX1_store 1 = .ok (.getfield 13, 3) := by decide +kernel
theorem dX1_store_4 : decode cX1_store 4 = .ok (.bipush 8, 2) := by decide +kernel
theorem dX1_store_6 : decode cX1_store 6 = .ok (.if_icmp .ne 16, 3) := by decide +kernel
theorem dX1_store_9 : decode cX1_store 9 = .ok (.aload_n 0, 1) := by decide +kernel
theorem dX1_store_10 : decode cX1_store 10 = .ok (.getfield 9, 3) := by decide +kernel
theorem dX1_store_13 : decode cX1_store 13 = .ok (.iload_n 1, 1) := by decide +kernel
theorem dX1_store_14 : decode cX1_store 14 = .ok (.lload_n 2, 1) := by decide +kernel
theorem dX1_store_15 : decode cX1_store 15 = .ok (.l2i, 1) := by decide +kernel
theorem dX1_store_16 : decode cX1_store 16 = .ok (.i2b, 1) := by decide +kernel
theorem dX1_store_17 : decode cX1_store 17 = .ok (.i2l, 1) := by decide +kernel
theorem dX1_store_18 : decode cX1_store 18 = .ok (.lastore, 1) := by decide +kernel
theorem dX1_store_19 : decode cX1_store 19 = .ok (.goto 32, 3) := by decide +kernel
theorem dX1_store_22 : decode cX1_store 22 = .ok (.aload_n 0, 1) := by decide +kernel
theorem dX1_store_23 : decode cX1_store 23 = .ok (.getfield 13, 3) := by decide +kernel
theorem dX1_store_26 : decode cX1_store 26 = .ok (.bipush 16, 2) := by decide +kernel
theorem dX1_store_28 : decode cX1_store 28 = .ok (.if_icmp .ne 16, 3) := by decide +kernel
theorem dX1_store_31 : decode cX1_store 31 = .ok (.aload_n 0, 1) := by decide +kernel
theorem dX1_store_32 : decode cX1_store 32 = .ok (.getfield 9, 3) := by decide +kernel
theorem dX1_store_35 : decode cX1_store 35 = .ok (.iload_n 1, 1) := by decide +kernel
theorem dX1_store_36 : decode cX1_store 36 = .ok (.lload_n 2, 1) := by decide +kernel
theorem dX1_store_37 : decode cX1_store 37 = .ok (.l2i, 1) := by decide +kernel
theorem dX1_store_38 : decode cX1_store 38 = .ok (.i2s, 1) := by decide +kernel
theorem dX1_store_39 : decode cX1_store 39 = .ok (.i2l, 1) := by decide +kernel
theorem dX1_store_40 : decode cX1_store 40 = .ok (.lastore, 1) := by decide +kernel
theorem dX1_store_41 : decode cX1_store 41 = .ok (.goto 10, 3) := by decide +kernel
theorem dX1_store_44 : decode cX1_store 44 = .ok (.aload_n 0, 1) := by decide +kernel
theorem dX1_store_45 : decode cX1_store 45 = .ok (.getfield 9, 3) := by decide +kernel
theorem dX1_store_48 : decode cX1_store 48 = .ok (.iload_n 1, 1) := by decide +kernel
theorem dX1_store_49 : decode cX1_store 49 = .ok (.lload_n 2, 1) := by decide +kernel
theorem dX1_store_50 : decode cX1_store 50 = .ok (.lastore, 1) := by decide +kernel
theorem dX1_store_51 : decode cX1_store 51 = .ok (.return_, 1) := by decide +kernel
theorem dX2_init_0 : decode cX2_init 0 = .ok (.aload_n 0, 1) := by decide +kernel
theorem dX2_init_1 : decode cX2_init 1 = .ok (.invokespecial 3, 3) := by decide +kernel
theorem dX2_init_4 : decode cX2_init 4 = .ok (.aload_n 0, 1) := by decide +kernel
theorem dX2_init_5 : decode cX2_init 5 = .ok (.bipush 120, 2) := by decide +kernel
theorem dX2_init_7 : decode cX2_init 7 = .ok (.newarray .byte, 2) := by decide +kernel
theorem dX2_init_9 : decode cX2_init 9 = .ok (.putfield 11, 3) := by decide +kernel
theorem dX2_init_12 : decode cX2_init 12 = .ok (.aload_n 0, 1) := by decide +kernel
theorem dX2_init_13 : decode cX2_init 13 = .ok (.iconst 0, 1) := by decide +kernel
theorem dX2_init_14 : decode cX2_init 14 = .ok (.putfield 15, 3) := by decide +kernel
theorem dX2_init_17 : decode cX2_init 17 = .ok (.aload_n 0, 1) := by decide +kernel
theorem dX2_init_18 : decode cX2_init 18 = .ok (.iconst 0, 1) := by decide +kernel
theorem dX2_init_19 : decode cX2_init 19 = .ok (.putfield 19, 3) := by decide +kernel
theorem dX2_init_22 : decode cX2_init 22 = .ok (.aload_n 0, 1) := by decide +kernel
theorem dX2_init_23 : decode cX2_init 23 = .ok (.iconst 0, 1) := by decide +kernel
theorem dX2_init_24 : decode cX2_init 24 = .ok (.putfield 22, 3) := by decide +kernel
theorem dX2_init_27 : decode cX2_init 27 = .ok (.aload_n 0, 1) := by decide +kernel
theorem dX2_init_28 : decode cX2_init 28 = .ok (.iconst 0, 1) := by decide +kernel
theorem dX2_init_29 : decode cX2_init 29 = .ok (.putfield 25, 3) := by decide +kernel
theorem dX2_init_32 : decode cX2_init 32 = .ok (.aload_n 0, 1) := by decide +kernel
theorem dX2_init_33 : decode cX2_init 33 = .ok (.iconst 0, 1) := by decide +kernel
theorem dX2_init_34 : decode cX2_init 34 = .ok (.putfield 28, 3) := by decide +kernel
theorem dX2_init_37 : decode cX2_init 37 = .ok (.return_, 1) := by decide +kernel
theorem dX2_hasRoomFor_0 : decode cX2_hasRoomFor 0 = .ok (.aload_n 0, 1) := by decide +kernel
theorem dX2_hasRoomFor_1 : decode cX2_hasRoomFor 1 = .ok (.getfield 15, 3) := by decide +kernel
theorem dX2_hasRoomFor_4 : decode cX2_hasRoomFor 4 = .ok (.bipush 120, 2) := by decide +kernel
theorem dX2_hasRoomFor_6 : decode cX2_hasRoomFor 6 = .ok (.iload_n 1, 1) := by decide +kernel
theorem dX2_hasRoomFor_7 : decode cX2_hasRoomFor 7 = .ok (.isub, 1) := by decide +kernel
theorem dX2_hasRoomFor_8 : decode cX2_hasRoomFor 8 = .ok (.if_icmp .gt 7, 3) := by decide +kernel
theorem dX2_hasRoomFor_11 : decode cX2_hasRoomFor 11 = .ok (.iconst 1, 1) := by decide +kernel
theorem dX2_hasRoomFor_12 : decode cX2_hasRoomFor 12 = .ok (.goto 4, 3) := by decide +kernel
theorem dX2_hasRoomFor_15 : decode cX2_hasRoomFor 15 = .ok (.iconst 0, 1) := by decide +kernel
theorem dX2_hasRoomFor_16 : decode cX2_hasRoomFor 16 = .ok (.ireturn, 1) := by decide +kernel
theorem dX2_append_0 : decode cX2_append 0 = .ok (.aload_n 0, 1) := by decide +kernel
theorem dX2_append_1 : decode cX2_append 1 = .ok (.getfield 11, 3) := by decide +kernel
theorem dX2_append_4 : decode cX2_append 4 = .ok (.aload_n 0, 1) := by decide +kernel
theorem dX2_append_5 : decode cX2_append 5 = .ok (.getfield 15, 3) := by decide +kernel
theorem dX2_append_8 : decode cX2_append 8 = .ok (.iload_n 1, 1) := by decide +kernel
theorem dX2_append_9 : decode cX2_append 9 = .ok (.bastore, 1) := by decide +kernel
theorem dX2_append_10 : decode cX2_append 10 = .ok (.aload_n 0, 1) := by decide +kernel
theorem dX2_append_11 : decode cX2_append 11 = .ok (.dup, 1) := by decide +kernel
theorem dX2_append_12 : decode cX2_append 12 = .ok (.getfield 15, 3) := by decide +kernel
theorem dX2_append_15 : decode cX2_append 15 = .ok (.iconst 1, 1) := by decide +kernel
theorem dX2_append_16 : decode cX2_append 16 = .ok (.iadd, 1) := by decide +kernel
theorem dX2_append_17 : decode cX2_append 17 = .ok (.putfield 15, 3) := by decide +kernel
theorem dX2_append_20 : decode cX2_append 20 = .ok (.return_, 1) := by decide +kernel
theorem dX2_tellTo_0 : decode cX2_tellTo 0 = .ok (.aload_n 0, 1) := by decide +kernel
theorem dX2_tellTo_1 : decode cX2_tellTo 1 = .ok (.iconst 0, 1) := by decide +kernel
theorem dX2_tellTo_2 : decode cX2_tellTo 2 = .ok (.putfield 25, 3) := by decide +kernel
theorem dX2_tellTo_5 : decode cX2_tellTo 5 = .ok (.aload_n 0, 1) := by decide +kernel
theorem dX2_tellTo_6 : decode cX2_tellTo 6 = .ok (.invokevirtual 31, 3) := by decide +kernel
theorem dX2_tellTo_9 : decode cX2_tellTo 9 = .ok (.iconst 1, 1) := by decide +kernel
theorem dX2_tellTo_10 : decode cX2_tellTo 10 = .ok (.istore_n 2, 1) := by decide +kernel
theorem dX2_tellTo_11 : decode cX2_tellTo 11 = .ok (.iload_n 2, 1) := by decide +kernel
theorem dX2_tellTo_12 : decode cX2_tellTo 12 = .ok (.bipush 120, 2) := by decide +kernel
theorem dX2_tellTo_14 : decode cX2_tellTo 14 = .ok (.if_icmp .gt 52, 3) := by decide +kernel
theorem dX2_tellTo_17 : decode cX2_tellTo 17 = .ok (.aload_n 0, 1) := by decide +kernel
theorem dX2_tellTo_18 : decode cX2_tellTo 18 = .ok (.aload_n 1, 1) := by decide +kernel
theorem dX2_tellTo_19 : decode cX2_tellTo 19 = .ok (.invokevirtual 34, 3) := by decide +kernel
theorem dX2_tellTo_22 : decode cX2_tellTo 22 = .ok (.ifCond .ne 10, 3) := by decide +kernel
theorem dX2_tellTo_25 : decode cX2_tellTo 25 = .ok (.iconst (-1), 1) := by decide +kernel
theorem dX2_tellTo_26 : decode cX2_tellTo 26 = .ok (.aload_n 0, 1) := by decide +kernel
theorem dX2_tellTo_27 : decode cX2_tellTo 27 = .ok (.getfield 22, 3) := by decide +kernel
theorem dX2_tellTo_30 : decode cX2_tellTo 30 = .ok (.isub, 1) := by decide +kernel
theorem dX2_tellTo_31 : decode cX2_tellTo 31 = .ok (.ireturn, 1) := by decide +kernel
theorem dX2_tellTo_32 : decode cX2_tellTo 32 = .ok (.aload_n 0, 1) := by decide +kernel
theorem dX2_tellTo_33 : decode cX2_tellTo 33 = .ok (.getfield 19, 3) := by decide +kernel
theorem dX2_tellTo_36 : decode cX2_tellTo 36 = .ok (.ifCond .ne 5, 3) := by decide +kernel
theorem dX2_tellTo_39 : decode cX2_tellTo 39 = .ok (.iload_n 2, 1) := by decide +kernel
theorem dX2_tellTo_40 : decode cX2_tellTo 40 = .ok (.ireturn, 1) := by decide +kernel
theorem dX2_tellTo_41 : decode cX2_tellTo 41 = .ok (.aload_n 0, 1) := by decide +kernel
theorem dX2_tellTo_42 : decode cX2_tellTo 42 = .ok (.getfield 19, 3) := by decide +kernel
theorem dX2_tellTo_45 : decode cX2_tellTo 45 = .ok (.iconst 3, 1) := by decide +kernel
theorem dX2_tellTo_46 : decode cX2_tellTo 46 = .ok (.if_icmp .eq 10, 3) := by decide +kernel
theorem dX2_tellTo_49 : decode cX2_tellTo 49 = .ok (.iconst (-1), 1) := by decide +kernel
theorem dX2_tellTo_50 : decode cX2_tellTo 50 = .ok (.aload_n 0, 1) := by decide +kernel
theorem dX2_tellTo_51 : decode cX2_tellTo 51 = .ok (.getfield 22, 3) := by decide +kernel
theorem dX2_tellTo_54 : decode cX2_tellTo 54 = .ok (.isub, 1) := by decide +kernel
theorem dX2_tellTo_55 : decode cX2_tellTo 55 = .ok (.ireturn, 1) := by decide +kernel
theorem dX2_tellTo_56 : decode cX2_tellTo 56 = .ok (.aload_n 0, 1) := by decide +kernel
theorem dX2_tellTo_57 : decode cX2_tellTo 57 = .ok (.invokevirtual 31, 3) := by decide +kernel
theorem dX2_tellTo_60 : decode cX2_tellTo 60 = .ok (.iinc 2 1, 3) := by decide +kernel
theorem dX2_tellTo_63 : decode cX2_tellTo 63 = .ok (.goto (-52), 3) := by decide +kernel
theorem dX2_tellTo_66 : decode cX2_tellTo 66 = .ok (.iconst (-1), 1) := by decide +kernel
theorem dX2_tellTo_67 : decode cX2_tellTo 67 = .ok (.aload_n 0, 1) := by decide +kernel
theorem dX2_tellTo_68 : decode cX2_tellTo 68 = .ok (.getfield 22, 3) := by decide +kernel
theorem dX2_tellTo_71 : decode cX2_tellTo 71 = .ok (.isub, 1) := by decide +kernel
theorem dX2_tellTo_72 : decode cX2_tellTo 72 = .ok (.ireturn, 1) := by decide +kernel
theorem dX2_isItemTold_0 : decode cX2_isItemTold 0 = .ok (.aload_n 0, 1) := by decide +kernel
theorem dX2_isItemTold_1 : decode cX2_isItemTold 1 = .ok (.ldc 38, 2) := by decide +kernel
theorem dX2_isItemTold_3 : decode cX2_isItemTold 3 = .ok (.invokevirtual 40, 3) := by decide +kernel
theorem dX2_isItemTold_6 : decode cX2_isItemTold 6 = .ok (.ifCond .eq 9, 3) := by decide +kernel
theorem dX2_isItemTold_9 : decode cX2_isItemTold 9 = .ok (.aload_n 0, 1) := by decide +kernel
theorem dX2_isItemTold_10 : decode cX2_isItemTold 10 = .ok (.aload_n 1, 1) := by decide +kernel
theorem dX2_isItemTold_11 : decode cX2_isItemTold 11 = .ok (.invokevirtual 44, 3) := by decide +kernel
theorem dX2_isItemTold_14 : decode cX2_isItemTold 14 = .ok (.ireturn, 1) := by decide +kernel
theorem dX2_isItemTold_15 : decode cX2_isItemTold 15 = .ok (.aload_n 0, 1) := by decide +kernel
theorem dX2_isItemTold_16 : decode cX2_isItemTold 16 = .ok (.ldc 47, 2) := by decide +kernel
theorem dX2_isItemTold_18 : decode cX2_isItemTold 18 = .ok (.invokevirtual 40, 3) := by decide +kernel
theorem dX2_isItemTold_21 : decode cX2_isItemTold 21 = .ok (.ifCond .eq 9, 3) := by decide +kernel
theorem dX2_isItemTold_24 : decode cX2_isItemTold 24 = .ok (.aload_n 0, 1) := by decide +kernel
theorem dX2_isItemTold_25 : decode cX2_isItemTold 25 = .ok (.aload_n 1, 1) := by decide +kernel
theorem dX2_isItemTold_26 : decode cX2_isItemTold 26 = .ok (.invokevirtual 49, 3) := by decide +kernel
theorem dX2_isItemTold_29 : decode cX2_isItemTold 29 = .ok (.ireturn, 1) := by decide +kernel
theorem dX2_isItemTold_30 : decode cX2_isItemTold 30 = .ok (.aload_n 0, 1) := by decide +kernel
theorem dX2_isItemTold_31 : decode cX2_isItemTold 31 = .ok (.invokevirtual 52, 3) := by decide +kernel
theorem dX2_isItemTold_34 : decode cX2_isItemTold 34 = .ok (.istore_n 2, 1) := by decide +kernel
theorem dX2_isItemTold_35 : decode cX2_isItemTold 35 = .ok (.iload_n 2, 1) := by decide +kernel
theorem dX2_isItemTold_36 : decode cX2_isItemTold 36 = .ok (.ifCond .lt 23, 3) := by decide +kernel
theorem dX2_isItemTold_39 : decode cX2_isItemTold 39 = .ok (.aload_n 1, 1) := by decide +kernel
theorem dX2_isItemTold_40 : decode cX2_isItemTold 40 = .ok (.invokevirtual 56, 3) := by decide +kernel
theorem dX2_isItemTold_43 : decode cX2_isItemTold 43 = .ok (.ifCond .eq 16, 3) := by decide +kernel
theorem dX2_isItemTold_46 : decode cX2_isItemTold 46 = .ok (.aload_n 0, 1) := by decide +kernel
theorem dX2_isItemTold_47 : decode cX2_isItemTold 47 = .ok (.aload_n 1, 1) := by decide +kernel
theorem dX2_isItemTold_48 : decode cX2_isItemTold 48 = .ok (.iload_n 2, 1) := by decide +kernel
theorem dX2_isItemTold_49 : decode cX2_isItemTold 49 = .ok (.invokevirtual 62, 3) := by decide +kernel
theorem dX2_isItemTold_52 : decode cX2_isItemTold 52 = .ok (.ifCond .eq 7, 3) := by decide +kernel
theorem dX2_isItemTold_55 : decode cX2_isItemTold 55 = .ok (.iconst 1, 1) := by decide +kernel
theorem dX2_isItemTold_56 : decode cX2_isItemTold 56 = .ok (.goto 4, 3) := by decide +kernel
theorem dX2_isItemTold_59 : decode cX2_isItemTold 59 = .ok (.iconst 0, 1) := by decide +kernel
theorem dX2_isItemTold_60 : decode cX2_isItemTold 60 = .ok (.ireturn, 1) := by decide +kernel
theorem dX2_isPushTold_0 : decode cX2_isPushTold 0 = .ok (.aload_n 0, 1) := by decide +kernel
theorem dX2_isPushTold_1 : decode cX2_isPushTold 1 = .ok (.invokevirtual 31, 3) := by decide +kernel
theorem dX2_isPushTold_4 : decode cX2_isPushTold 4 = .ok (.aload_n 0, 1) := by decide +kernel
theorem dX2_isPushTold_5 : decode cX2_isPushTold 5 = .ok (.iconst 0, 1) := by decide +kernel
theorem dX2_isPushTold_6 : decode cX2_isPushTold 6 = .ok (.aload_n 1, 1) := by decide +kernel
theorem dX2_isPushTold_7 : decode cX2_isPushTold 7 = .ok (.getfield 66, 3) := by decide +kernel
theorem dX2_isPushTold_10 : decode cX2_isPushTold 10 = .ok (.iconst 1, 1) := by decide +kernel
theorem dX2_isPushTold_11 : decode cX2_isPushTold 11 = .ok (.isub, 1) := by decide +kernel
theorem dX2_isPushTold_12 : decode cX2_isPushTold 12 = .ok (.invokevirtual 69, 3) := by decide +kernel
theorem dX2_isPushTold_15 : decode cX2_isPushTold 15 = .ok (.ifCond .ne 5, 3) := by decide +kernel
theorem dX2_isPushTold_18 : decode cX2_isPushTold 18 = .ok (.iconst 0, 1) := by decide +kernel
theorem dX2_isPushTold_19 : decode cX2_isPushTold 19 = .ok (.ireturn, 1) := by decide +kernel
theorem dX2_isPushTold_20 : decode cX2_isPushTold 20 = .ok (.aload_n 0, 1) := by decide +kernel
theorem dX2_isPushTold_21 : decode cX2_isPushTold 21 = .ok (.getfield 28, 3) := by decide +kernel
theorem dX2_isPushTold_24 : decode cX2_isPushTold 24 = .ok (.istore_n 2, 1) := by decide +kernel
theorem dX2_isPushTold_25 : decode cX2_isPushTold 25 = .ok (.aload_n 0, 1) := by decide +kernel
theorem dX2_isPushTold_26 : decode cX2_isPushTold 26 = .ok (.invokevirtual 31, 3) := by decide +kernel
theorem dX2_isPushTold_29 : decode cX2_isPushTold 29 = .ok (.aload_n 0, 1) := by decide +kernel
theorem dX2_isPushTold_30 : decode cX2_isPushTold 30 = .ok (.iconst 1, 1) := by decide +kernel
theorem dX2_isPushTold_31 : decode cX2_isPushTold 31 = .ok (.bipush 99, 2) := by decide +kernel
theorem dX2_isPushTold_33 : decode cX2_isPushTold 33 = .ok (.invokevirtual 69, 3) := by decide +kernel
theorem dX2_isPushTold_36 : decode cX2_isPushTold 36 = .ok (.ifCond .ne 5, 3) := by decide +kernel
theorem dX2_isPushTold_39 : decode cX2_isPushTold 39 = .ok (.iconst 0, 1) := by decide +kernel
theorem dX2_isPushTold_40 : decode cX2_isPushTold 40 = .ok (.ireturn, 1) := by decide +kernel
theorem dX2_isPushTold_41 : decode cX2_isPushTold 41 = .ok (.aload_n 1, 1) := by decide +kernel
theorem dX2_isPushTold_42 : decode cX2_isPushTold 42 = .ok (.iload_n 2, 1) := by decide +kernel
theorem dX2_isPushTold_43 : decode cX2_isPushTold 43 = .ok (.aload_n 0, 1) := by decide +kernel
theorem dX2_isPushTold_44 : decode cX2_isPushTold 44 = .ok (.getfield 28, 3) := by decide +kernel
theorem dX2_isPushTold_47 : decode cX2_isPushTold 47 = .ok (.invokevirtual 73, 3) := by decide +kernel
theorem dX2_isPushTold_50 : decode cX2_isPushTold 50 = .ok (.aload_n 0, 1) := by decide +kernel
theorem dX2_isPushTold_51 : decode cX2_isPushTold 51 = .ok (.invokevirtual 31, 3) := by decide +kernel
theorem dX2_isPushTold_54 : decode cX2_isPushTold 54 = .ok (.iconst 1, 1) := by decide +kernel
theorem dX2_isPushTold_55 : decode cX2_isPushTold 55 = .ok (.ireturn, 1) := by decide +kernel
theorem dX2_isDarkTold_0 : decode cX2_isDarkTold 0 = .ok (.aload_n 0, 1) := by decide +kernel
theorem dX2_isDarkTold_1 : decode cX2_isDarkTold 1 = .ok (.invokevirtual 31, 3) := by decide +kernel
theorem dX2_isDarkTold_4 : decode cX2_isDarkTold 4 = .ok (.aload_n 0, 1) := by decide +kernel
theorem dX2_isDarkTold_5 : decode cX2_isDarkTold 5 = .ok (.iconst 0, 1) := by decide +kernel
theorem dX2_isDarkTold_6 : decode cX2_isDarkTold 6 = .ok (.bipush 59, 2) := by decide +kernel
theorem dX2_isDarkTold_8 : decode cX2_isDarkTold 8 = .ok (.invokevirtual 69, 3) := by decide +kernel
theorem dX2_isDarkTold_11 : decode cX2_isDarkTold 11 = .ok (.ifCond .ne 5, 3) := by decide +kernel
theorem dX2_isDarkTold_14 : decode cX2_isDarkTold 14 = .ok (.iconst 0, 1) := by decide +kernel
theorem dX2_isDarkTold_15 : decode cX2_isDarkTold 15 = .ok (.ireturn, 1) := by decide +kernel
theorem dX2_isDarkTold_16 : decode cX2_isDarkTold 16 = .ok (.aload_n 1, 1) := by decide +kernel
theorem dX2_isDarkTold_17 : decode cX2_isDarkTold 17 = .ok (.aload_n 0, 1) := by decide +kernel
theorem dX2_isDarkTold_18 : decode cX2_isDarkTold 18 = .ok (.getfield 28, 3) := by decide +kernel
theorem dX2_isDarkTold_21 : decode cX2_isDarkTold 21 = .ok (.putfield 77, 3) := by decide +kernel
theorem dX2_isDarkTold_24 : decode cX2_isDarkTold 24 = .ok (.aload_n 0, 1) := by decide +kernel
theorem dX2_isDarkTold_25 : decode cX2_isDarkTold 25 = .ok (.invokevirtual 31, 3) := by decide +kernel
theorem dX2_isDarkTold_28 : decode cX2_isDarkTold 28 = .ok (.iconst 1, 1) := by decide +kernel
theorem dX2_isDarkTold_29 : decode cX2_isDarkTold 29 = .ok (.ireturn, 1) := by decide +kernel
theorem dX2_isChildTold_0 : decode cX2_isChildTold 0 = .ok (.aload_n 1, 1) := by decide +kernel
theorem dX2_isChildTold_1 : decode cX2_isChildTold 1 = .ok (.iload_n 2, 1) := by decide +kernel
theorem dX2_isChildTold_2 : decode cX2_isChildTold 2 = .ok (.invokevirtual 80, 3) := by decide +kernel
theorem dX2_isChildTold_5 : decode cX2_isChildTold 5 = .ok (.istore_n 3, 1) := by decide +kernel
theorem dX2_isChildTold_6 : decode cX2_isChildTold 6 = .ok (.aload_n 0, 1) := by decide +kernel
theorem dX2_isChildTold_7 : decode cX2_isChildTold 7 = .ok (.invokevirtual 31, 3) := by decide +kernel
theorem dX2_isChildTold_10 : decode cX2_isChildTold 10 = .ok (.aload_n 0, 1) := by decide +kernel
theorem dX2_isChildTold_11 : decode cX2_isChildTold 11 = .ok (.ldc 84, 2) := by decide +kernel
theorem dX2_isChildTold_13 : decode cX2_isChildTold 13 = .ok (.sipush 200, 3) := by decide +kernel
theorem dX2_isChildTold_16 : decode cX2_isChildTold 16 = .ok (.aload_n 1, 1) := by decide +kernel
theorem dX2_isChildTold_17 : decode cX2_isChildTold 17 = .ok (.getfield 86, 3) := by decide +kernel
theorem dX2_isChildTold_20 : decode cX2_isChildTold 20 = .ok (.iload_n 3, 1) := by decide +kernel
theorem dX2_isChildTold_21 : decode cX2_isChildTold 21 = .ok (.invokevirtual 90, 3) := by decide +kernel
theorem dX2_isChildTold_24 : decode cX2_isChildTold 24 = .ok (.ifCond .eq 23, 3) := by decide +kernel
theorem dX2_isChildTold_27 : decode cX2_isChildTold 27 = .ok (.aload_n 0, 1) := by decide +kernel
theorem dX2_isChildTold_28 : decode cX2_isChildTold 28 = .ok (.ldc 94, 2) := by decide +kernel
theorem dX2_isChildTold_30 : decode cX2_isChildTold 30 = .ok (.bipush 99, 2) := by decide +kernel
theorem dX2_isChildTold_32 : decode cX2_isChildTold 32 = .ok (.aload_n 1, 1) := by decide +kernel
theorem dX2_isChildTold_33 : decode cX2_isChildTold 33 = .ok (.getfield 96, 3) := by decide +kernel
theorem dX2_isChildTold_36 : decode cX2_isChildTold 36 = .ok (.iload_n 3, 1) := by decide +kernel
theorem dX2_isChildTold_37 : decode cX2_isChildTold 37 = .ok (.invokevirtual 90, 3) := by decide +kernel
theorem dX2_isChildTold_40 : decode cX2_isChildTold 40 = .ok (.ifCond .eq 7, 3) := by decide +kernel
theorem dX2_isChildTold_43 : decode cX2_isChildTold 43 = .ok (.iconst 1, 1) := by decide +kernel
theorem dX2_isChildTold_44 : decode cX2_isChildTold 44 = .ok (.goto 4, 3) := by decide +kernel
theorem dX2_isChildTold_47 : decode cX2_isChildTold 47 = .ok (.iconst 0, 1) := by decide +kernel
theorem dX2_isChildTold_48 : decode cX2_isChildTold 48 = .ok (.ireturn, 1) := by decide +kernel
theorem dX2_isPartTold_0 : decode cX2_isPartTold 0 = .ok (.aload_n 0, 1) := by decide +kernel
theorem dX2_isPartTold_1 : decode cX2_isPartTold 1 = .ok (.aload_n 1, 1) := by decide +kernel
theorem dX2_isPartTold_2 : decode cX2_isPartTold 2 = .ok (.invokevirtual 40, 3) := by decide +kernel
theorem dX2_isPartTold_5 : decode cX2_isPartTold 5 = .ok (.ifCond .ne 5, 3) := by decide +kernel
theorem dX2_isPartTold_8 : decode cX2_isPartTold 8 = .ok (.iconst 1, 1) := by decide +kernel
theorem dX2_isPartTold_9 : decode cX2_isPartTold 9 = .ok (.ireturn, 1) := by decide +kernel
theorem dX2_isPartTold_10 : decode cX2_isPartTold 10 = .ok (.aload_n 0, 1) := by decide +kernel
theorem dX2_isPartTold_11 : decode cX2_isPartTold 11 = .ok (.invokevirtual 31, 3) := by decide +kernel
theorem dX2_isPartTold_14 : decode cX2_isPartTold 14 = .ok (.aload_n 0, 1) := by decide +kernel
theorem dX2_isPartTold_15 : decode cX2_isPartTold 15 = .ok (.iconst 0, 1) := by decide +kernel
theorem dX2_isPartTold_16 : decode cX2_isPartTold 16 = .ok (.iload_n 2, 1) := by decide +kernel
theorem dX2_isPartTold_17 : decode cX2_isPartTold 17 = .ok (.invokevirtual 69, 3) := by decide +kernel
theorem dX2_isPartTold_20 : decode cX2_isPartTold 20 = .ok (.ifCond .ne 5, 3) := by decide +kernel
theorem dX2_isPartTold_23 : decode cX2_isPartTold 23 = .ok (.iconst 0, 1) := by decide +kernel
theorem dX2_isPartTold_24 : decode cX2_isPartTold 24 = .ok (.ireturn, 1) := by decide +kernel
theorem dX2_isPartTold_25 : decode cX2_isPartTold 25 = .ok (.aload_n 3, 1) := by decide +kernel
theorem dX2_isPartTold_26 : decode cX2_isPartTold 26 = .ok (.iload 4, 2) := by decide +kernel
theorem dX2_isPartTold_28 : decode cX2_isPartTold 28 = .ok (.aload_n 0, 1) := by decide +kernel
theorem dX2_isPartTold_29 : decode cX2_isPartTold 29 = .ok (.getfield 28, 3) := by decide +kernel
theorem dX2_isPartTold_32 : decode cX2_isPartTold 32 = .ok (.iastore, 1) := by decide +kernel
theorem dX2_isPartTold_33 : decode cX2_isPartTold 33 = .ok (.aload_n 0, 1) := by decide +kernel
theorem dX2_isPartTold_34 : decode cX2_isPartTold 34 = .ok (.invokevirtual 31, 3) := by decide +kernel
theorem dX2_isPartTold_37 : decode cX2_isPartTold 37 = .ok (.iconst 1, 1) := by decide +kernel
theorem dX2_isPartTold_38 : decode cX2_isPartTold 38 = .ok (.ireturn, 1) := by decide +kernel
theorem dX2_isNumberWithin_0 : decode cX2_isNumberWithin 0 = .ok (.aload_n 0, 1) := by decide +kernel
theorem dX2_isNumberWithin_1 : decode cX2_isNumberWithin 1 = .ok (.getfield 19, 3) := by decide +kernel
theorem dX2_isNumberWithin_4 : decode cX2_isNumberWithin 4 = .ok (.iconst 2, 1) := by decide +kernel
theorem dX2_isNumberWithin_5 : decode cX2_isNumberWithin 5 = .ok (.if_icmp .ne 23, 3) := by decide +kernel
theorem dX2_isNumberWithin_8 : decode cX2_isNumberWithin 8 = .ok (.aload_n 0, 1) := by decide +kernel
theorem dX2_isNumberWithin_9 : decode cX2_isNumberWithin 9 = .ok (.getfield 28, 3) := by decide +kernel
theorem dX2_isNumberWithin_12 : decode cX2_isNumberWithin 12 = .ok (.iload_n 1, 1) := by decide +kernel
theorem dX2_isNumberWithin_13 : decode cX2_isNumberWithin 13 = .ok (.if_icmp .lt 15, 3) := by decide +kernel
theorem dX2_isNumberWithin_16 : decode cX2_isNumberWithin 16 = .ok (.aload_n 0, 1) := by decide +kernel
theorem dX2_isNumberWithin_17 : decode cX2_isNumberWithin 17 = .ok (.getfield 28, 3) := by decide +kernel
theorem dX2_isNumberWithin_20 : decode cX2_isNumberWithin 20 = .ok (.iload_n 2, 1) := by decide +kernel
theorem dX2_isNumberWithin_21 : decode cX2_isNumberWithin 21 = .ok (.if_icmp .gt 7, 3) := by decide +kernel
theorem dX2_isNumberWithin_24 : decode cX2_isNumberWithin 24 = .ok (.iconst 1, 1) := by decide +kernel
theorem dX2_isNumberWithin_25 : decode cX2_isNumberWithin 25 = .ok (.goto 4, 3) := by decide +kernel
theorem dX2_isNumberWithin_28 : decode cX2_isNumberWithin 28 = .ok (.iconst 0, 1) := by decide +kernel
theorem dX2_isNumberWithin_29 : decode cX2_isNumberWithin 29 = .ok (.ireturn, 1) := by decide +kernel
theorem dX2_kindNamed_0 : decode cX2_kindNamed 0 = .ok (.iconst 0, 1) := by decide +kernel
theorem dX2_kindNamed_1 : decode cX2_kindNamed 1 = .ok (.istore_n 1, 1) := by decide +kernel
theorem dX2_kindNamed_2 : decode cX2_kindNamed 2 = .ok (.iload_n 1, 1) := by decide +kernel
theorem dX2_kindNamed_3 : decode cX2_kindNamed 3 = .ok (.bipush 6, 2) := by decide +kernel
theorem dX2_kindNamed_5 : decode cX2_kindNamed 5 = .ok (.if_icmp .ge 22, 3) := by decide +kernel
theorem dX2_kindNamed_8 : decode cX2_kindNamed 8 = .ok (.aload_n 0, 1) := by decide +kernel
theorem dX2_kindNamed_9 : decode cX2_kindNamed 9 = .ok (.iload_n 1, 1) := by decide +kernel
theorem dX2_kindNamed_10 : decode cX2_kindNamed 10 = .ok (.invokestatic 99, 3) := by decide +kernel
theorem dX2_kindNamed_13 : decode cX2_kindNamed 13 = .ok (.invokevirtual 40, 3) := by decide +kernel
theorem dX2_kindNamed_16 : decode cX2_kindNamed 16 = .ok (.ifCond .eq 5, 3) := by decide +kernel
theorem dX2_kindNamed_19 : decode cX2_kindNamed 19 = .ok (.iload_n 1, 1) := by decide +kernel
theorem dX2_kindNamed_20 : decode cX2_kindNamed 20 = .ok (.ireturn, 1) := by decide +kernel
theorem dX2_kindNamed_21 : decode cX2_kindNamed 21 = .ok (.iinc 1 1, 3) := by decide +kernel
theorem dX2_kindNamed_24 : decode cX2_kindNamed 24 = .ok (.goto (-22), 3) := by decide +kernel
theorem dX2_kindNamed_27 : decode cX2_kindNamed 27 = .ok (.iconst (-1), 1) := by decide +kernel
theorem dX2_kindNamed_28 : decode cX2_kindNamed 28 = .ok (.ireturn, 1) := by decide +kernel
theorem dX2_nameOf_0 : decode cX2_nameOf 0 = .ok (.iload_n 0, 1) := by decide +kernel
theorem dX2_nameOf_1 : decode cX2_nameOf 1 = .ok (.tableswitch 50 1 5 #[35, 38, 41, 44, 47], 35) := by decide +kernel
theorem dX2_nameOf_36 : decode cX2_nameOf 36 = .ok (.ldc 103, 2) := by decide +kernel
theorem dX2_nameOf_38 : decode cX2_nameOf 38 = .ok (.areturn, 1) := by decide +kernel
theorem dX2_nameOf_39 : decode cX2_nameOf 39 = .ok (.ldc 105, 2) := by decide +kernel
theorem dX2_nameOf_41 : decode cX2_nameOf 41 = .ok (.areturn, 1) := by decide +kernel
theorem dX2_nameOf_42 : decode cX2_nameOf 42 = .ok (.ldc 107, 2) := by decide +kernel
theorem dX2_nameOf_44 : decode cX2_nameOf 44 = .ok (.areturn, 1) := by decide +kernel
theorem dX2_nameOf_45 : decode cX2_nameOf 45 = .ok (.ldc 109, 2) := by decide +kernel
theorem dX2_nameOf_47 : decode cX2_nameOf 47 = .ok (.areturn, 1) := by decide +kernel
theorem dX2_nameOf_48 : decode cX2_nameOf 48 = .ok (.ldc 111, 2) := by decide +kernel
theorem dX2_nameOf_50 : decode cX2_nameOf 50 = .ok (.areturn, 1) := by decide +kernel
theorem dX2_nameOf_51 : decode cX2_nameOf 51 = .ok (.ldc 113, 2) := by decide +kernel
theorem dX2_nameOf_53 : decode cX2_nameOf 53 = .ok (.areturn, 1) := by decide +kernel
theorem dX2_isWord_0 : decode cX2_isWord 0 = .ok (.aload_n 0, 1) := by decide +kernel
theorem dX2_isWord_1 : decode cX2_isWord 1 = .ok (.getfield 19, 3) := by decide +kernel
theorem dX2_isWord_4 : decode cX2_isWord 4 = .ok (.iconst 1, 1) := by decide +kernel
theorem dX2_isWord_5 : decode cX2_isWord 5 = .ok (.if_icmp .ne 19, 3) := by decide +kernel
theorem dX2_isWord_8 : decode cX2_isWord 8 = .ok (.aload_n 0, 1) := by decide +kernel
theorem dX2_isWord_9 : decode cX2_isWord 9 = .ok (.getfield 25, 3) := by decide +kernel
theorem dX2_isWord_12 : decode cX2_isWord 12 = .ok (.aload_n 0, 1) := by decide +kernel
theorem dX2_isWord_13 : decode cX2_isWord 13 = .ok (.getfield 22, 3) := by decide +kernel
theorem dX2_isWord_16 : decode cX2_isWord 16 = .ok (.isub, 1) := by decide +kernel
theorem dX2_isWord_17 : decode cX2_isWord 17 = .ok (.aload_n 1, 1) := by decide +kernel
theorem dX2_isWord_18 : decode cX2_isWord 18 = .ok (.invokevirtual 115, 3) := by decide +kernel
theorem dX2_isWord_21 : decode cX2_isWord 21 = .ok (.if_icmp .eq 5, 3) := by decide +kernel
theorem dX2_isWord_24 : decode cX2_isWord 24 = .ok (.iconst 0, 1) := by decide +kernel
theorem dX2_isWord_25 : decode cX2_isWord 25 = .ok (.ireturn, 1) := by decide +kernel
theorem dX2_isWord_26 : decode cX2_isWord 26 = .ok (.iconst 0, 1) := by decide +kernel
theorem dX2_isWord_27 : decode cX2_isWord 27 = .ok (.istore_n 2, 1) := by decide +kernel
theorem dX2_isWord_28 : decode cX2_isWord 28 = .ok (.iload_n 2, 1) := by decide +kernel
theorem dX2_isWord_29 : decode cX2_isWord 29 = .ok (.aload_n 1, 1) := by decide +kernel
theorem dX2_isWord_30 : decode cX2_isWord 30 = .ok (.invokevirtual 115, 3) := by decide +kernel
theorem dX2_isWord_33 : decode cX2_isWord 33 = .ok (.if_icmp .ge 30, 3) := by decide +kernel
theorem dX2_isWord_36 : decode cX2_isWord 36 = .ok (.aload_n 0, 1) := by decide +kernel
theorem dX2_isWord_37 : decode cX2_isWord 37 = .ok (.getfield 11, 3) := by decide +kernel
theorem dX2_isWord_40 : decode cX2_isWord 40 = .ok (.aload_n 0, 1) := by decide +kernel
theorem dX2_isWord_41 : decode cX2_isWord 41 = .ok (.getfield 22, 3) := by decide +kernel
theorem dX2_isWord_44 : decode cX2_isWord 44 = .ok (.iload_n 2, 1) := by decide +kernel
theorem dX2_isWord_45 : decode cX2_isWord 45 = .ok (.iadd, 1) := by decide +kernel
theorem dX2_isWord_46 : decode cX2_isWord 46 = .ok (.baload, 1) := by decide +kernel
theorem dX2_isWord_47 : decode cX2_isWord 47 = .ok (.aload_n 1, 1) := by decide +kernel
theorem dX2_isWord_48 : decode cX2_isWord 48 = .ok (.iload_n 2, 1) := by decide +kernel
theorem dX2_isWord_49 : decode cX2_isWord 49 = .ok (.invokevirtual 119, 3) := by decide +kernel
theorem dX2_isWord_52 : decode cX2_isWord 52 = .ok (.if_icmp .eq 5, 3) := by decide +kernel
theorem dX2_isWord_55 : decode cX2_isWord 55 = .ok (.iconst 0, 1) := by decide +kernel
theorem dX2_isWord_56 : decode cX2_isWord 56 = .ok (.ireturn, 1) := by decide +kernel
theorem dX2_isWord_57 : decode cX2_isWord 57 = .ok (.iinc 2 1, 3) := by decide +kernel
theorem dX2_isWord_60 : decode cX2_isWord 60 = .ok (.goto (-32), 3) := by decide +kernel
theorem dX2_isWord_63 : decode cX2_isWord 63 = .ok (.iconst 1, 1) := by decide +kernel
theorem dX2_isWord_64 : decode cX2_isWord 64 = .ok (.ireturn, 1) := by decide +kernel
theorem dX2_advance_0 : decode cX2_advance 0 = .ok (.aload_n 0, 1) := by decide +kernel
theorem dX2_advance_1 : decode cX2_advance 1 = .ok (.aload_n 0, 1) := by decide +kernel
theorem dX2_advance_2 : decode cX2_advance 2 = .ok (.getfield 25, 3) := by decide +kernel
theorem dX2_advance_5 : decode cX2_advance 5 = .ok (.putfield 22, 3) := by decide +kernel
theorem dX2_advance_8 : decode cX2_advance 8 = .ok (.aload_n 0, 1) := by decide +kernel
theorem dX2_advance_9 : decode cX2_advance 9 = .ok (.getfield 22, 3) := by decide +kernel
theorem dX2_advance_12 : decode cX2_advance 12 = .ok (.aload_n 0, 1) := by decide +kernel
theorem dX2_advance_13 : decode cX2_advance 13 = .ok (.getfield 15, 3) := by decide +kernel
theorem dX2_advance_16 : decode cX2_advance 16 = .ok (.if_icmp .ge 30, 3) := by decide +kernel
theorem dX2_advance_19 : decode cX2_advance 19 = .ok (.aload_n 0, 1) := by decide +kernel
theorem dX2_advance_20 : decode cX2_advance 20 = .ok (.getfield 11, 3) := by decide +kernel
theorem dX2_advance_23 : decode cX2_advance 23 = .ok (.aload_n 0, 1) := by decide +kernel
theorem dX2_advance_24 : decode cX2_advance 24 = .ok (.getfield 22, 3) := by decide +kernel
theorem dX2_advance_27 : decode cX2_advance 27 = .ok (.baload, 1) := by decide +kernel
theorem dX2_advance_28 : decode cX2_advance 28 = .ok (.bipush 32, 2) := by decide +kernel
theorem dX2_advance_30 : decode cX2_advance 30 = .ok (.if_icmp .ne 16, 3) := by decide +kernel
theorem dX2_advance_33 : decode cX2_advance 33 = .ok (.aload_n 0, 1) := by decide +kernel
theorem dX2_advance_34 : decode cX2_advance 34 = .ok (.dup, 1) := by decide +kernel
theorem dX2_advance_35 : decode cX2_advance 35 = .ok (.getfield 22, 3) := by decide +kernel
theorem dX2_advance_38 : decode cX2_advance 38 = .ok (.iconst 1, 1) := by decide +kernel
theorem dX2_advance_39 : decode cX2_advance 39 = .ok (.iadd, 1) := by decide +kernel
theorem dX2_advance_40 : decode cX2_advance 40 = .ok (.putfield 22, 3) := by decide +kernel
theorem dX2_advance_43 : decode cX2_advance 43 = .ok (.goto (-35), 3) := by decide +kernel
theorem dX2_advance_46 : decode cX2_advance 46 = .ok (.aload_n 0, 1) := by decide +kernel
theorem dX2_advance_47 : decode cX2_advance 47 = .ok (.aload_n 0, 1) := by decide +kernel
theorem dX2_advance_48 : decode cX2_advance 48 = .ok (.getfield 22, 3) := by decide +kernel
theorem dX2_advance_51 : decode cX2_advance 51 = .ok (.putfield 25, 3) := by decide +kernel
theorem dX2_advance_54 : decode cX2_advance 54 = .ok (.aload_n 0, 1) := by decide +kernel
theorem dX2_advance_55 : decode cX2_advance 55 = .ok (.iconst 0, 1) := by decide +kernel
theorem dX2_advance_56 : decode cX2_advance 56 = .ok (.putfield 28, 3) := by decide +kernel
theorem dX2_advance_59 : decode cX2_advance 59 = .ok (.aload_n 0, 1) := by decide +kernel
theorem dX2_advance_60 : decode cX2_advance 60 = .ok (.getfield 22, 3) := by decide +kernel
theorem dX2_advance_63 : decode cX2_advance 63 = .ok (.aload_n 0, 1) := by decide +kernel
theorem dX2_advance_64 : decode cX2_advance 64 = .ok (.getfield 15, 3) := by decide +kernel
theorem dX2_advance_67 : decode cX2_advance 67 = .ok (.if_icmp .lt 11, 3) := by decide +kernel
theorem dX2_advance_70 : decode cX2_advance 70 = .ok (.aload_n 0, 1) := by decide +kernel
theorem dX2_advance_71 : decode cX2_advance 71 = .ok (.iconst 0, 1) := by decide +kernel
theorem dX2_advance_72 : decode cX2_advance 72 = .ok (.putfield 19, 3) := by decide +kernel
theorem dX2_advance_75 : decode cX2_advance 75 = .ok (.goto 168, 3) := by decide +kernel
theorem dX2_advance_78 : decode cX2_advance 78 = .ok (.aload_n 0, 1) := by decide +kernel
theorem dX2_advance_79 : decode cX2_advance 79 = .ok (.aload_n 0, 1) := by decide +kernel
theorem dX2_advance_80 : decode cX2_advance 80 = .ok (.getfield 22, 3) := by decide +kernel
theorem dX2_advance_83 : decode cX2_advance 83 = .ok (.invokevirtual 123, 3) := by decide +kernel
theorem dX2_advance_86 : decode cX2_advance 86 = .ok (.ifCond .eq 43, 3) := by decide +kernel
theorem dX2_advance_89 : decode cX2_advance 89 = .ok (.aload_n 0, 1) := by decide +kernel
theorem dX2_advance_90 : decode cX2_advance 90 = .ok (.iconst 1, 1) := by decide +kernel
theorem dX2_advance_91 : decode cX2_advance 91 = .ok (.putfield 19, 3) := by decide +kernel
theorem dX2_advance_94 : decode cX2_advance 94 = .ok (.aload_n 0, 1) := by decide +kernel
theorem dX2_advance_95 : decode cX2_advance 95 = .ok (.getfield 25, 3) := by decide +kernel
theorem dX2_advance_98 : decode cX2_advance 98 = .ok (.aload_n 0, 1) := by decide +kernel
theorem dX2_advance_99 : decode cX2_advance 99 = .ok (.getfield 15, 3) := by decide +kernel
theorem dX2_advance_102 : decode cX2_advance 102 = .ok (.if_icmp .ge 141, 3) := by decide +kernel
theorem dX2_advance_105 : decode cX2_advance 105 = .ok (.aload_n 0, 1) := by decide +kernel
theorem dX2_advance_106 : decode cX2_advance 106 = .ok (.aload_n 0, 1) := by decide +kernel
theorem dX2_advance_107 : decode cX2_advance 107 = .ok (.getfield 25, 3) := by decide +kernel
theorem dX2_advance_110 : decode cX2_advance 110 = .ok (.invokevirtual 123, 3) := by decide +kernel
theorem dX2_advance_113 : decode cX2_advance 113 = .ok (.ifCond .eq 130, 3) := by decide +kernel
theorem dX2_advance_116 : decode cX2_advance 116 = .ok (.aload_n 0, 1) := by decide +kernel
theorem dX2_advance_117 : decode cX2_advance 117 = .ok (.dup, 1) := by decide +kernel
theorem dX2_advance_118 : decode cX2_advance 118 = .ok (.getfield 25, 3) := by decide +kernel
theorem dX2_advance_121 : decode cX2_advance 121 = .ok (.iconst 1, 1) := by decide +kernel
theorem dX2_advance_122 : decode cX2_advance 122 = .ok (.iadd, 1) := by decide +kernel
theorem dX2_advance_123 : decode cX2_advance 123 = .ok (.putfield 25, 3) := by decide +kernel
theorem dX2_advance_126 : decode cX2_advance 126 = .ok (.goto (-32), 3) := by decide +kernel
theorem dX2_advance_129 : decode cX2_advance 129 = .ok (.aload_n 0, 1) := by decide +kernel
theorem dX2_advance_130 : decode cX2_advance 130 = .ok (.aload_n 0, 1) := by decide +kernel
theorem dX2_advance_131 : decode cX2_advance 131 = .ok (.getfield 22, 3) := by decide +kernel
theorem dX2_advance_134 : decode cX2_advance 134 = .ok (.invokevirtual 127, 3) := by decide +kernel
theorem dX2_advance_137 : decode cX2_advance 137 = .ok (.ifCond .eq 73, 3) := by decide +kernel
theorem dX2_advance_140 : decode cX2_advance 140 = .ok (.aload_n 0, 1) := by decide +kernel
theorem dX2_advance_141 : decode cX2_advance 141 = .ok (.iconst 2, 1) := by decide +kernel
theorem dX2_advance_142 : decode cX2_advance 142 = .ok (.putfield 19, 3) := by decide +kernel
theorem dX2_advance_145 : decode cX2_advance 145 = .ok (.aload_n 0, 1) := by decide +kernel
theorem dX2_advance_146 : decode cX2_advance 146 = .ok (.getfield 25, 3) := by decide +kernel
theorem dX2_advance_149 : decode cX2_advance 149 = .ok (.aload_n 0, 1) := by decide +kernel
theorem dX2_advance_150 : decode cX2_advance 150 = .ok (.getfield 15, 3) := by decide +kernel
theorem dX2_advance_153 : decode cX2_advance 153 = .ok (.if_icmp .ge 90, 3) := by decide +kernel
theorem dX2_advance_156 : decode cX2_advance 156 = .ok (.aload_n 0, 1) := by decide +kernel
theorem dX2_advance_157 : decode cX2_advance 157 = .ok (.aload_n 0, 1) := by decide +kernel
theorem dX2_advance_158 : decode cX2_advance 158 = .ok (.getfield 25, 3) := by decide +kernel
theorem dX2_advance_161 : decode cX2_advance 161 = .ok (.invokevirtual 127, 3) := by decide +kernel
theorem dX2_advance_164 : decode cX2_advance 164 = .ok (.ifCond .eq 79, 3) := by decide +kernel
theorem dX2_advance_167 : decode cX2_advance 167 = .ok (.aload_n 0, 1) := by decide +kernel
theorem dX2_advance_168 : decode cX2_advance 168 = .ok (.aload_n 0, 1) := by decide +kernel
theorem dX2_advance_169 : decode cX2_advance 169 = .ok (.getfield 28, 3) := by decide +kernel
theorem dX2_advance_172 : decode cX2_advance 172 = .ok (.bipush 10, 2) := by decide +kernel
theorem dX2_advance_174 : decode cX2_advance 174 = .ok (.imul, 1) := by decide +kernel
theorem dX2_advance_175 : decode cX2_advance 175 = .ok (.aload_n 0, 1) := by decide +kernel
theorem dX2_advance_176 : decode cX2_advance 176 = .ok (.getfield 11, 3) := by decide +kernel
theorem dX2_advance_179 : decode cX2_advance 179 = .ok (.aload_n 0, 1) := by decide +kernel
theorem dX2_advance_180 : decode cX2_advance 180 = .ok (.getfield 25, 3) := by decide +kernel
theorem dX2_advance_183 : decode cX2_advance 183 = .ok (.baload, 1) := by decide +kernel
theorem dX2_advance_184 : decode cX2_advance 184 = .ok (.bipush 48, 2) := by decide +kernel
theorem dX2_advance_186 : decode cX2_advance 186 = .ok (.isub, 1) := by decide +kernel
theorem dX2_advance_187 : decode cX2_advance 187 = .ok (.iadd, 1) := by decide +kernel
theorem dX2_advance_188 : decode cX2_advance 188 = .ok (.sipush 1000, 3) := by decide +kernel
theorem dX2_advance_191 : decode cX2_advance 191 = .ok (.invokestatic 130, 3) := by decide +kernel
theorem dX2_advance_194 : decode cX2_advance 194 = .ok (.putfield 28, 3) := by decide +kernel
theorem dX2_advance_197 : decode cX2_advance 197 = .ok (.aload_n 0, 1) := by decide +kernel
theorem dX2_advance_198 : decode cX2_advance 198 = .ok (.dup, 1) := by decide +kernel
theorem dX2_advance_199 : decode cX2_advance 199 = .ok (.getfield 25, 3) := by decide +kernel
theorem dX2_advance_202 : decode cX2_advance 202 = .ok (.iconst 1, 1) := by decide +kernel
theorem dX2_advance_203 : decode cX2_advance 203 = .ok (.iadd, 1) := by decide +kernel
theorem dX2_advance_204 : decode cX2_advance 204 = .ok (.putfield 25, 3) := by decide +kernel
theorem dX2_advance_207 : decode cX2_advance 207 = .ok (.goto (-62), 3) := by decide +kernel
theorem dX2_advance_210 : decode cX2_advance 210 = .ok (.aload_n 0, 1) := by decide +kernel
theorem dX2_advance_211 : decode cX2_advance 211 = .ok (.aload_n 0, 1) := by decide +kernel
theorem dX2_advance_212 : decode cX2_advance 212 = .ok (.getfield 11, 3) := by decide +kernel
theorem dX2_advance_215 : decode cX2_advance 215 = .ok (.aload_n 0, 1) := by decide +kernel
theorem dX2_advance_216 : decode cX2_advance 216 = .ok (.getfield 22, 3) := by decide +kernel
theorem dX2_advance_219 : decode cX2_advance 219 = .ok (.baload, 1) := by decide +kernel
theorem dX2_advance_220 : decode cX2_advance 220 = .ok (.bipush 59, 2) := by decide +kernel
theorem dX2_advance_222 : decode cX2_advance 222 = .ok (.if_icmp .ne 7, 3) := by decide +kernel
theorem dX2_advance_225 : decode cX2_advance 225 = .ok (.iconst 3, 1) := by decide +kernel
theorem dX2_advance_226 : decode cX2_advance 226 = .ok (.goto 4, 3) := by decide +kernel
theorem dX2_advance_229 : decode cX2_advance 229 = .ok (.iconst 4, 1) := by decide +kernel
theorem dX2_advance_230 : decode cX2_advance 230 = .ok (.putfield 19, 3) := by decide +kernel
theorem dX2_advance_233 : decode cX2_advance 233 = .ok (.aload_n 0, 1) := by decide +kernel
theorem dX2_advance_234 : decode cX2_advance 234 = .ok (.dup, 1) := by decide +kernel
theorem dX2_advance_235 : decode cX2_advance 235 = .ok (.getfield 25, 3) := by decide +kernel
theorem dX2_advance_238 : decode cX2_advance 238 = .ok (.iconst 1, 1) := by decide +kernel
theorem dX2_advance_239 : decode cX2_advance 239 = .ok (.iadd, 1) := by decide +kernel
theorem dX2_advance_240 : decode cX2_advance 240 = .ok (.putfield 25, 3) := by decide +kernel
theorem dX2_advance_243 : decode cX2_advance 243 = .ok (.return_, 1) := by decide +kernel
theorem dX2_isLetter_0 : decode cX2_isLetter 0 = .ok (.aload_n 0, 1) := by decide +kernel
theorem dX2_isLetter_1 : decode cX2_isLetter 1 = .ok (.getfield 11, 3) := by decide +kernel
theorem dX2_isLetter_4 : decode cX2_isLetter 4 = .ok (.iload_n 1, 1) := by decide +kernel
theorem dX2_isLetter_5 : decode cX2_isLetter 5 = .ok (.baload, 1) := by decide +kernel
theorem dX2_isLetter_6 : decode cX2_isLetter 6 = .ok (.bipush 97, 2) := by decide +kernel
theorem dX2_isLetter_8 : decode cX2_isLetter 8 = .ok (.if_icmp .lt 18, 3) := by decide +kernel
theorem dX2_isLetter_11 : decode cX2_isLetter 11 = .ok (.aload_n 0, 1) := by decide +kernel
theorem dX2_isLetter_12 : decode cX2_isLetter 12 = .ok (.getfield 11, 3) := by decide +kernel
theorem dX2_isLetter_15 : decode cX2_isLetter 15 = .ok (.iload_n 1, 1) := by decide +kernel
theorem dX2_isLetter_16 : decode cX2_isLetter 16 = .ok (.baload, 1) := by decide +kernel
theorem dX2_isLetter_17 : decode cX2_isLetter 17 = .ok (.bipush 122, 2) := by decide +kernel
theorem dX2_isLetter_19 : decode cX2_isLetter 19 = .ok (.if_icmp .gt 7, 3) := by decide +kernel
theorem dX2_isLetter_22 : decode cX2_isLetter 22 = .ok (.iconst 1, 1) := by decide +kernel
theorem dX2_isLetter_23 : decode cX2_isLetter 23 = .ok (.goto 4, 3) := by decide +kernel
theorem dX2_isLetter_26 : decode cX2_isLetter 26 = .ok (.iconst 0, 1) := by decide +kernel
theorem dX2_isLetter_27 : decode cX2_isLetter 27 = .ok (.ireturn, 1) := by decide +kernel
theorem dX2_isDigit_0 : decode cX2_isDigit 0 = .ok (.aload_n 0, 1) := by decide +kernel
theorem dX2_isDigit_1 : decode cX2_isDigit 1 = .ok (.getfield 11, 3) := by decide +kernel
theorem dX2_isDigit_4 : decode cX2_isDigit 4 = .ok (.iload_n 1, 1) := by decide +kernel
theorem dX2_isDigit_5 : decode cX2_isDigit 5 = .ok (.baload, 1) := by decide +kernel
theorem dX2_isDigit_6 : decode cX2_isDigit 6 = .ok (.bipush 48, 2) := by decide +kernel
theorem dX2_isDigit_8 : decode cX2_isDigit 8 = .ok (.if_icmp .lt 18, 3) := by decide +kernel
theorem dX2_isDigit_11 : decode cX2_isDigit 11 = .ok (.aload_n 0, 1) := by decide +kernel
theorem dX2_isDigit_12 : decode cX2_isDigit 12 = .ok (.getfield 11, 3) := by decide +kernel
theorem dX2_isDigit_15 : decode cX2_isDigit 15 = .ok (.iload_n 1, 1) := by decide +kernel
theorem dX2_isDigit_16 : decode cX2_isDigit 16 = .ok (.baload, 1) := by decide +kernel
theorem dX2_isDigit_17 : decode cX2_isDigit 17 = .ok (.bipush 57, 2) := by decide +kernel
theorem dX2_isDigit_19 : decode cX2_isDigit 19 = .ok (.if_icmp .gt 7, 3) := by decide +kernel
theorem dX2_isDigit_22 : decode cX2_isDigit 22 = .ok (.iconst 1, 1) := by decide +kernel
theorem dX2_isDigit_23 : decode cX2_isDigit 23 = .ok (.goto 4, 3) := by decide +kernel
theorem dX2_isDigit_26 : decode cX2_isDigit 26 = .ok (.iconst 0, 1) := by decide +kernel
theorem dX2_isDigit_27 : decode cX2_isDigit 27 = .ok (.ireturn, 1) := by decide +kernel
theorem dX3_init_0 : decode cX3_init 0 = .ok (.aload_n 0, 1) := by decide +kernel
theorem dX3_init_1 : decode cX3_init 1 = .ok (.invokespecial 1, 3) := by decide +kernel
theorem dX3_init_4 : decode cX3_init 4 = .ok (.aload_n 0, 1) := by decide +kernel
theorem dX3_init_5 : decode cX3_init 5 = .ok (.new 7, 3) := by decide +kernel
theorem dX3_init_8 : decode cX3_init 8 = .ok (.dup, 1) := by decide +kernel
theorem dX3_init_9 : decode cX3_init 9 = .ok (.invokespecial 9, 3) := by decide +kernel
theorem dX3_init_12 : decode cX3_init 12 = .ok (.putfield 10, 3) := by decide +kernel
theorem dX3_init_15 : decode cX3_init 15 = .ok (.aload_n 0, 1) := by decide +kernel
theorem dX3_init_16 : decode cX3_init 16 = .ok (.new 7, 3) := by decide +kernel
theorem dX3_init_19 : decode cX3_init 19 = .ok (.dup, 1) := by decide +kernel
theorem dX3_init_20 : decode cX3_init 20 = .ok (.invokespecial 9, 3) := by decide +kernel
theorem dX3_init_23 : decode cX3_init 23 = .ok (.putfield 16, 3) := by decide +kernel
theorem dX3_init_26 : decode cX3_init 26 = .ok (.aload_n 0, 1) := by decide +kernel
theorem dX3_init_27 : decode cX3_init 27 = .ok (.new 7, 3) := by decide +kernel
theorem dX3_init_30 : decode cX3_init 30 = .ok (.dup, 1) := by decide +kernel
theorem dX3_init_31 : decode cX3_init 31 = .ok (.invokespecial 9, 3) := by decide +kernel
theorem dX3_init_34 : decode cX3_init 34 = .ok (.putfield 19, 3) := by decide +kernel
theorem dX3_init_37 : decode cX3_init 37 = .ok (.aload_n 0, 1) := by decide +kernel
theorem dX3_init_38 : decode cX3_init 38 = .ok (.iconst 0, 1) := by decide +kernel
theorem dX3_init_39 : decode cX3_init 39 = .ok (.putfield 22, 3) := by decide +kernel
theorem dX3_init_42 : decode cX3_init 42 = .ok (.aload_n 0, 1) := by decide +kernel
theorem dX3_init_43 : decode cX3_init 43 = .ok (.new 26, 3) := by decide +kernel
theorem dX3_init_46 : decode cX3_init 46 = .ok (.dup, 1) := by decide +kernel
theorem dX3_init_47 : decode cX3_init 47 = .ok (.invokespecial 28, 3) := by decide +kernel
theorem dX3_init_50 : decode cX3_init 50 = .ok (.putfield 29, 3) := by decide +kernel
theorem dX3_init_53 : decode cX3_init 53 = .ok (.aload_n 0, 1) := by decide +kernel
theorem dX3_init_54 : decode cX3_init 54 = .ok (.iconst 4, 1) := by decide +kernel
theorem dX3_init_55 : decode cX3_init 55 = .ok (.anewarray 33, 3) := by decide +kernel
theorem dX3_init_58 : decode cX3_init 58 = .ok (.putfield 35, 3) := by decide +kernel
theorem dX3_init_61 : decode cX3_init 61 = .ok (.iconst 0, 1) := by decide +kernel
theorem dX3_init_62 : decode cX3_init 62 = .ok (.istore_n 1, 1) := by decide +kernel
theorem dX3_init_63 : decode cX3_init 63 = .ok (.iload_n 1, 1) := by decide +kernel
theorem dX3_init_64 : decode cX3_init 64 = .ok (.iconst 4, 1) := by decide +kernel
theorem dX3_init_65 : decode cX3_init 65 = .ok (.if_icmp .ge 22, 3) := by decide +kernel
theorem dX3_init_68 : decode cX3_init 68 = .ok (.aload_n 0, 1) := by decide +kernel
theorem dX3_init_69 : decode cX3_init 69 = .ok (.getfield 35, 3) := by decide +kernel
theorem dX3_init_72 : decode cX3_init 72 = .ok (.iload_n 1, 1) := by decide +kernel
theorem dX3_init_73 : decode cX3_init 73 = .ok (.new 33, 3) := by decide +kernel
theorem dX3_init_76 : decode cX3_init 76 = .ok (.dup, 1) := by decide +kernel
theorem dX3_init_77 : decode cX3_init 77 = .ok (.invokespecial 39, 3) := by decide +kernel
theorem dX3_init_80 : decode cX3_init 80 = .ok (.aastore, 1) := by decide +kernel
theorem dX3_init_81 : decode cX3_init 81 = .ok (.iinc 1 1, 3) := by decide +kernel
theorem dX3_init_84 : decode cX3_init 84 = .ok (.goto (-21), 3) := by decide +kernel
theorem dX3_init_87 : decode cX3_init 87 = .ok (.aload_n 0, 1) := by decide +kernel
theorem dX3_init_88 : decode cX3_init 88 = .ok (.bipush 7, 2) := by decide +kernel
theorem dX3_init_90 : decode cX3_init 90 = .ok (.newarray .int, 2) := by decide +kernel
theorem dX3_init_92 : decode cX3_init 92 = .ok (.putfield 40, 3) := by decide +kernel
theorem dX3_init_95 : decode cX3_init 95 = .ok (.return_, 1) := by decide +kernel
theorem dX3_dark_0 : decode cX3_dark 0 = .ok (.iload_n 1, 1) := by decide +kernel
theorem dX3_dark_1 : decode cX3_dark 1 = .ok (.iconst 0, 1) := by decide +kernel
theorem dX3_dark_2 : decode cX3_dark 2 = .ok (.bipush 59, 2) := by decide +kernel
theorem dX3_dark_4 : decode cX3_dark 4 = .ok (.invokestatic 44, 3) := by decide +kernel
theorem dX3_dark_7 : decode cX3_dark 7 = .ok (.ifCond .ne 9, 3) := by decide +kernel
theorem dX3_dark_10 : decode cX3_dark 10 = .ok (.aload_n 0, 1) := by decide +kernel
theorem dX3_dark_11 : decode cX3_dark 11 = .ok (.iconst 0, 1) := by decide +kernel
theorem dX3_dark_12 : decode cX3_dark 12 = .ok (.invokevirtual 48, 3) := by decide +kernel
theorem dX3_dark_15 : decode cX3_dark 15 = .ok (.ireturn, 1) := by decide +kernel
theorem dX3_dark_16 : decode cX3_dark 16 = .ok (.aload_n 0, 1) := by decide +kernel
theorem dX3_dark_17 : decode cX3_dark 17 = .ok (.getfield 10, 3) := by decide +kernel
theorem dX3_dark_20 : decode cX3_dark 20 = .ok (.getfield 52, 3) := by decide +kernel
theorem dX3_dark_23 : decode cX3_dark 23 = .ok (.istore_n 2, 1) := by decide +kernel
theorem dX3_dark_24 : decode cX3_dark 24 = .ok (.aload_n 0, 1) := by decide +kernel
theorem dX3_dark_25 : decode cX3_dark 25 = .ok (.getfield 10, 3) := by decide +kernel
theorem dX3_dark_28 : decode cX3_dark 28 = .ok (.iload_n 1, 1) := by decide +kernel
theorem dX3_dark_29 : decode cX3_dark 29 = .ok (.putfield 52, 3) := by decide +kernel
theorem dX3_dark_32 : decode cX3_dark 32 = .ok (.iload_n 2, 1) := by decide +kernel
theorem dX3_dark_33 : decode cX3_dark 33 = .ok (.ireturn, 1) := by decide +kernel
theorem dX3_now_0 : decode cX3_now 0 = .ok (.iload_n 1, 1) := by decide +kernel
theorem dX3_now_1 : decode cX3_now 1 = .ok (.tableswitch 124 0 7 #[47, 55, 63, 74, 85, 97, 108, 116], 47) := by decide +kernel
theorem dX3_now_48 : decode cX3_now 48 = .ok (.aload_n 0, 1) := by decide +kernel
theorem dX3_now_49 : decode cX3_now 49 = .ok (.getfield 10, 3) := by decide +kernel
theorem dX3_now_52 : decode cX3_now 52 = .ok (.getfield 56, 3) := by decide +kernel
theorem dX3_now_55 : decode cX3_now 55 = .ok (.ireturn, 1) := by decide +kernel
theorem dX3_now_56 : decode cX3_now 56 = .ok (.aload_n 0, 1) := by decide +kernel
theorem dX3_now_57 : decode cX3_now 57 = .ok (.getfield 10, 3) := by decide +kernel
theorem dX3_now_60 : decode cX3_now 60 = .ok (.invokevirtual 59, 3) := by decide +kernel
theorem dX3_now_63 : decode cX3_now 63 = .ok (.ireturn, 1) := by decide +kernel
theorem dX3_now_64 : decode cX3_now 64 = .ok (.aload_n 0, 1) := by decide +kernel
theorem dX3_now_65 : decode cX3_now 65 = .ok (.getfield 10, 3) := by decide +kernel
theorem dX3_now_68 : decode cX3_now 68 = .ok (.invokevirtual 63, 3) := by decide +kernel
theorem dX3_now_71 : decode cX3_now 71 = .ok (.invokestatic 67, 3) := by decide +kernel
theorem dX3_now_74 : decode cX3_now 74 = .ok (.ireturn, 1) := by decide +kernel
theorem dX3_now_75 : decode cX3_now 75 = .ok (.aload_n 0, 1) := by decide +kernel
theorem dX3_now_76 : decode cX3_now 76 = .ok (.getfield 10, 3) := by decide +kernel
theorem dX3_now_79 : decode cX3_now 79 = .ok (.invokevirtual 71, 3) := by decide +kernel
theorem dX3_now_82 : decode cX3_now 82 = .ok (.invokestatic 67, 3) := by decide +kernel
theorem dX3_now_85 : decode cX3_now 85 = .ok (.ireturn, 1) := by decide +kernel
theorem dX3_now_86 : decode cX3_now 86 = .ok (.aload_n 0, 1) := by decide +kernel
theorem dX3_now_87 : decode cX3_now 87 = .ok (.aload_n 0, 1) := by decide +kernel
theorem dX3_now_88 : decode cX3_now 88 = .ok (.getfield 10, 3) := by decide +kernel
theorem dX3_now_91 : decode cX3_now 91 = .ok (.getfield 74, 3) := by decide +kernel
theorem dX3_now_94 : decode cX3_now 94 = .ok (.invokevirtual 77, 3) := by decide +kernel
theorem dX3_now_97 : decode cX3_now 97 = .ok (.ireturn, 1) := by decide +kernel
theorem dX3_now_98 : decode cX3_now 98 = .ok (.aload_n 0, 1) := by decide +kernel
theorem dX3_now_99 : decode cX3_now 99 = .ok (.getfield 10, 3) := by decide +kernel
theorem dX3_now_102 : decode cX3_now 102 = .ok (.invokevirtual 81, 3) := by decide +kernel
theorem dX3_now_105 : decode cX3_now 105 = .ok (.invokestatic 67, 3) := by decide +kernel
theorem dX3_now_108 : decode cX3_now 108 = .ok (.ireturn, 1) := by decide +kernel
theorem dX3_now_109 : decode cX3_now 109 = .ok (.aload_n 0, 1) := by decide +kernel
theorem dX3_now_110 : decode cX3_now 110 = .ok (.getfield 10, 3) := by decide +kernel
theorem dX3_now_113 : decode cX3_now 113 = .ok (.invokevirtual 84, 3) := by decide +kernel
theorem dX3_now_116 : decode cX3_now 116 = .ok (.ireturn, 1) := by decide +kernel
theorem dX3_now_117 : decode cX3_now 117 = .ok (.aload_n 0, 1) := by decide +kernel
theorem dX3_now_118 : decode cX3_now 118 = .ok (.getfield 10, 3) := by decide +kernel
theorem dX3_now_121 : decode cX3_now 121 = .ok (.invokevirtual 87, 3) := by decide +kernel
theorem dX3_now_124 : decode cX3_now 124 = .ok (.ireturn, 1) := by decide +kernel
theorem dX3_now_125 : decode cX3_now 125 = .ok (.aload_n 0, 1) := by decide +kernel
theorem dX3_now_126 : decode cX3_now 126 = .ok (.iconst 0, 1) := by decide +kernel
theorem dX3_now_127 : decode cX3_now 127 = .ok (.invokevirtual 48, 3) := by decide +kernel
theorem dX3_now_130 : decode cX3_now 130 = .ok (.ireturn, 1) := by decide +kernel
theorem dX3_child_0 : decode cX3_child 0 = .ok (.iload_n 1, 1) := by decide +kernel
theorem dX3_child_1 : decode cX3_child 1 = .ok (.invokestatic 90, 3) := by decide +kernel
theorem dX3_child_4 : decode cX3_child 4 = .ok (.ifCond .ne 9, 3) := by decide +kernel
theorem dX3_child_7 : decode cX3_child 7 = .ok (.aload_n 0, 1) := by decide +kernel
theorem dX3_child_8 : decode cX3_child 8 = .ok (.iconst 0, 1) := by decide +kernel
theorem dX3_child_9 : decode cX3_child 9 = .ok (.invokevirtual 48, 3) := by decide +kernel
theorem dX3_child_12 : decode cX3_child 12 = .ok (.ireturn, 1) := by decide +kernel
theorem dX3_child_13 : decode cX3_child 13 = .ok (.aload_n 0, 1) := by decide +kernel
theorem dX3_child_14 : decode cX3_child 14 = .ok (.getfield 10, 3) := by decide +kernel
theorem dX3_child_17 : decode cX3_child 17 = .ok (.invokevirtual 94, 3) := by decide +kernel
theorem dX3_child_20 : decode cX3_child 20 = .ok (.ifCond .ne 9, 3) := by decide +kernel
theorem dX3_child_23 : decode cX3_child 23 = .ok (.aload_n 0, 1) := by decide +kernel
theorem dX3_child_24 : decode cX3_child 24 = .ok (.iconst 1, 1) := by decide +kernel
theorem dX3_child_25 : decode cX3_child 25 = .ok (.invokevirtual 48, 3) := by decide +kernel
theorem dX3_child_28 : decode cX3_child 28 = .ok (.ireturn, 1) := by decide +kernel
theorem dX3_child_29 : decode cX3_child 29 = .ok (.aload_n 0, 1) := by decide +kernel
theorem dX3_child_30 : decode cX3_child 30 = .ok (.getfield 10, 3) := by decide +kernel
theorem dX3_child_33 : decode cX3_child 33 = .ok (.iload_n 1, 1) := by decide +kernel
theorem dX3_child_34 : decode cX3_child 34 = .ok (.invokevirtual 97, 3) := by decide +kernel
theorem dX3_child_37 : decode cX3_child 37 = .ok (.ireturn, 1) := by decide +kernel
theorem dX3_of_0 : decode cX3_of 0 = .ok (.aload_n 0, 1) := by decide +kernel
theorem dX3_of_1 : decode cX3_of 1 = .ok (.iload_n 1, 1) := by decide +kernel
theorem dX3_of_2 : decode cX3_of 2 = .ok (.invokevirtual 100, 3) := by decide +kernel
theorem dX3_of_5 : decode cX3_of 5 = .ok (.ifCond .ne 9, 3) := by decide +kernel
theorem dX3_of_8 : decode cX3_of 8 = .ok (.aload_n 0, 1) := by decide +kernel
theorem dX3_of_9 : decode cX3_of 9 = .ok (.iconst 0, 1) := by decide +kernel
theorem dX3_of_10 : decode cX3_of 10 = .ok (.invokevirtual 48, 3) := by decide +kernel
theorem dX3_of_13 : decode cX3_of 13 = .ok (.ireturn, 1) := by decide +kernel
theorem dX3_of_14 : decode cX3_of 14 = .ok (.iload_n 2, 1) := by decide +kernel
theorem dX3_of_15 : decode cX3_of 15 = .ok (.tableswitch 114 0 6 #[41, 51, 61, 71, 84, 96, 105], 41) := by decide +kernel
theorem dX3_of_56 : decode cX3_of 56 = .ok (.aload_n 0, 1) := by decide +kernel
theorem dX3_of_57 : decode cX3_of 57 = .ok (.getfield 10, 3) := by decide +kernel
theorem dX3_of_60 : decode cX3_of 60 = .ok (.getfield 103, 3) := by decide +kernel
theorem dX3_of_63 : decode cX3_of 63 = .ok (.iload_n 1, 1) := by decide +kernel
theorem dX3_of_64 : decode cX3_of 64 = .ok (.iaload, 1) := by decide +kernel
theorem dX3_of_65 : decode cX3_of 65 = .ok (.ireturn, 1) := by decide +kernel
theorem dX3_of_66 : decode cX3_of 66 = .ok (.aload_n 0, 1) := by decide +kernel
theorem dX3_of_67 : decode cX3_of 67 = .ok (.getfield 10, 3) := by decide +kernel
theorem dX3_of_70 : decode cX3_of 70 = .ok (.getfield 74, 3) := by decide +kernel
theorem dX3_of_73 : decode cX3_of 73 = .ok (.iload_n 1, 1) := by decide +kernel
theorem dX3_of_74 : decode cX3_of 74 = .ok (.iaload, 1) := by decide +kernel
theorem dX3_of_75 : decode cX3_of 75 = .ok (.ireturn, 1) := by decide +kernel
theorem dX3_of_76 : decode cX3_of 76 = .ok (.aload_n 0, 1) := by decide +kernel
theorem dX3_of_77 : decode cX3_of 77 = .ok (.getfield 10, 3) := by decide +kernel
theorem dX3_of_80 : decode cX3_of 80 = .ok (.getfield 106, 3) := by decide +kernel
theorem dX3_of_83 : decode cX3_of 83 = .ok (.iload_n 1, 1) := by decide +kernel
theorem dX3_of_84 : decode cX3_of 84 = .ok (.iaload, 1) := by decide +kernel
theorem dX3_of_85 : decode cX3_of 85 = .ok (.ireturn, 1) := by decide +kernel
theorem dX3_of_86 : decode cX3_of 86 = .ok (.ldc 109, 2) := by decide +kernel
theorem dX3_of_88 : decode cX3_of 88 = .ok (.aload_n 0, 1) := by decide +kernel
theorem dX3_of_89 : decode cX3_of 89 = .ok (.getfield 10, 3) := by decide +kernel
theorem dX3_of_92 : decode cX3_of 92 = .ok (.getfield 110, 3) := by decide +kernel
theorem dX3_of_95 : decode cX3_of 95 = .ok (.iload_n 1, 1) := by decide +kernel
theorem dX3_of_96 : decode cX3_of 96 = .ok (.iaload, 1) := by decide +kernel
theorem dX3_of_97 : decode cX3_of 97 = .ok (.iadd, 1) := by decide +kernel
theorem dX3_of_98 : decode cX3_of 98 = .ok (.ireturn, 1) := by decide +kernel
theorem dX3_of_99 : decode cX3_of 99 = .ok (.bipush 100, 2) := by decide +kernel
theorem dX3_of_101 : decode cX3_of 101 = .ok (.aload_n 0, 1) := by decide +kernel
theorem dX3_of_102 : decode cX3_of 102 = .ok (.getfield 10, 3) := by decide +kernel
theorem dX3_of_105 : decode cX3_of 105 = .ok (.iload_n 1, 1) := by decide +kernel
theorem dX3_of_106 : decode cX3_of 106 = .ok (.invokevirtual 113, 3) := by decide +kernel
theorem dX3_of_109 : decode cX3_of 109 = .ok (.iadd, 1) := by decide +kernel
theorem dX3_of_110 : decode cX3_of 110 = .ok (.ireturn, 1) := by decide +kernel
theorem dX3_of_111 : decode cX3_of 111 = .ok (.aload_n 0, 1) := by decide +kernel
theorem dX3_of_112 : decode cX3_of 112 = .ok (.getfield 10, 3) := by decide +kernel
theorem dX3_of_115 : decode cX3_of 115 = .ok (.iload_n 1, 1) := by decide +kernel
theorem dX3_of_116 : decode cX3_of 116 = .ok (.invokevirtual 116, 3) := by decide +kernel
theorem dX3_of_119 : decode cX3_of 119 = .ok (.ireturn, 1) := by decide +kernel
theorem dX3_of_120 : decode cX3_of 120 = .ok (.aload_n 0, 1) := by decide +kernel
theorem dX3_of_121 : decode cX3_of 121 = .ok (.getfield 10, 3) := by decide +kernel
theorem dX3_of_124 : decode cX3_of 124 = .ok (.iload_n 1, 1) := by decide +kernel
theorem dX3_of_125 : decode cX3_of 125 = .ok (.invokevirtual 119, 3) := by decide +kernel
theorem dX3_of_128 : decode cX3_of 128 = .ok (.ireturn, 1) := by decide +kernel
theorem dX3_of_129 : decode cX3_of 129 = .ok (.aload_n 0, 1) := by decide +kernel
theorem dX3_of_130 : decode cX3_of 130 = .ok (.iconst 0, 1) := by decide +kernel
theorem dX3_of_131 : decode cX3_of 131 = .ok (.invokevirtual 48, 3) := by decide +kernel
theorem dX3_of_134 : decode cX3_of 134 = .ok (.ireturn, 1) := by decide +kernel
theorem dX3_set_0 : decode cX3_set 0 = .ok (.aload_n 0, 1) := by decide +kernel
theorem dX3_set_1 : decode cX3_set 1 = .ok (.iload_n 1, 1) := by decide +kernel
theorem dX3_set_2 : decode cX3_set 2 = .ok (.invokevirtual 100, 3) := by decide +kernel
theorem dX3_set_5 : decode cX3_set 5 = .ok (.ifCond .ne 9, 3) := by decide +kernel
theorem dX3_set_8 : decode cX3_set 8 = .ok (.aload_n 0, 1) := by decide +kernel
theorem dX3_set_9 : decode cX3_set 9 = .ok (.iconst 0, 1) := by decide +kernel
theorem dX3_set_10 : decode cX3_set 10 = .ok (.invokevirtual 48, 3) := by decide +kernel
theorem dX3_set_13 : decode cX3_set 13 = .ok (.ireturn, 1) := by decide +kernel
theorem dX3_set_14 : decode cX3_set 14 = .ok (.iload_n 2, 1) := by decide +kernel
theorem dX3_set_15 : decode cX3_set 15 = .ok (.tableswitch 80 1 3 #[25, 43, 60], 25) := by decide +kernel
theorem dX3_set_40 : decode cX3_set 40 = .ok (.aload_n 0, 1) := by decide +kernel
theorem dX3_set_41 : decode cX3_set 41 = .ok (.aload_n 0, 1) := by decide +kernel
theorem dX3_set_42 : decode cX3_set 42 = .ok (.getfield 10, 3) := by decide +kernel
theorem dX3_set_45 : decode cX3_set 45 = .ok (.getfield 74, 3) := by decide +kernel
theorem dX3_set_48 : decode cX3_set 48 = .ok (.iload_n 1, 1) := by decide +kernel
theorem dX3_set_49 : decode cX3_set 49 = .ok (.iload_n 3, 1) := by decide +kernel
theorem dX3_set_50 : decode cX3_set 50 = .ok (.iconst 0, 1) := by decide +kernel
theorem dX3_set_51 : decode cX3_set 51 = .ok (.sipush 200, 3) := by decide +kernel
theorem dX3_set_54 : decode cX3_set 54 = .ok (.invokevirtual 122, 3) := by decide +kernel
theorem dX3_set_57 : decode cX3_set 57 = .ok (.ireturn, 1) := by decide +kernel
theorem dX3_set_58 : decode cX3_set 58 = .ok (.aload_n 0, 1) := by decide +kernel
theorem dX3_set_59 : decode cX3_set 59 = .ok (.aload_n 0, 1) := by decide +kernel
theorem dX3_set_60 : decode cX3_set 60 = .ok (.getfield 10, 3) := by decide +kernel
theorem dX3_set_63 : decode cX3_set 63 = .ok (.getfield 106, 3) := by decide +kernel
theorem dX3_set_66 : decode cX3_set 66 = .ok (.iload_n 1, 1) := by decide +kernel
theorem dX3_set_67 : decode cX3_set 67 = .ok (.iload_n 3, 1) := by decide +kernel
theorem dX3_set_68 : decode cX3_set 68 = .ok (.iconst 0, 1) := by decide +kernel
theorem dX3_set_69 : decode cX3_set 69 = .ok (.bipush 99, 2) := by decide +kernel
theorem dX3_set_71 : decode cX3_set 71 = .ok (.invokevirtual 122, 3) := by decide +kernel
theorem dX3_set_74 : decode cX3_set 74 = .ok (.ireturn, 1) := by decide +kernel
theorem dX3_set_75 : decode cX3_set 75 = .ok (.aload_n 0, 1) := by decide +kernel
theorem dX3_set_76 : decode cX3_set 76 = .ok (.aload_n 0, 1) := by decide +kernel
theorem dX3_set_77 : decode cX3_set 77 = .ok (.getfield 10, 3) := by decide +kernel
theorem dX3_set_80 : decode cX3_set 80 = .ok (.getfield 110, 3) := by decide +kernel
theorem dX3_set_83 : decode cX3_set 83 = .ok (.iload_n 1, 1) := by decide +kernel
theorem dX3_set_84 : decode cX3_set 84 = .ok (.iload_n 3, 1) := by decide +kernel
theorem dX3_set_85 : decode cX3_set 85 = .ok (.sipush (-9999), 3) := by decide +kernel
theorem dX3_set_88 : decode cX3_set 88 = .ok (.sipush 9999, 3) := by decide +kernel
theorem dX3_set_91 : decode cX3_set 91 = .ok (.invokevirtual 122, 3) := by decide +kernel
theorem dX3_set_94 : decode cX3_set 94 = .ok (.ireturn, 1) := by decide +kernel
theorem dX3_set_95 : decode cX3_set 95 = .ok (.aload_n 0, 1) := by decide +kernel
theorem dX3_set_96 : decode cX3_set 96 = .ok (.iconst 0, 1) := by decide +kernel
theorem dX3_set_97 : decode cX3_set 97 = .ok (.invokevirtual 48, 3) := by decide +kernel
theorem dX3_set_100 : decode cX3_set 100 = .ok (.ireturn, 1) := by decide +kernel
theorem dX3_turn_0 : decode cX3_turn 0 = .ok (.aload_n 0, 1) := by decide +kernel
theorem dX3_turn_1 : decode cX3_turn 1 = .ok (.iload_n 1, 1) := by decide +kernel
theorem dX3_turn_2 : decode cX3_turn 2 = .ok (.invokevirtual 100, 3) := by decide +kernel
theorem dX3_turn_5 : decode cX3_turn 5 = .ok (.ifCond .eq 10, 3) := by decide +kernel
theorem dX3_turn_8 : decode cX3_turn 8 = .ok (.iload_n 2, 1) := by decide +kernel
theorem dX3_turn_9 : decode cX3_turn 9 = .ok (.invokestatic 90, 3) := by decide +kernel
theorem dX3_turn_12 : decode cX3_turn 12 = .ok (.ifCond .ne 9, 3) := by decide +kernel
theorem dX3_turn_15 : decode cX3_turn 15 = .ok (.aload_n 0, 1) := by decide +kernel
theorem dX3_turn_16 : decode cX3_turn 16 = .ok (.iconst 0, 1) := by decide +kernel
theorem dX3_turn_17 : decode cX3_turn 17 = .ok (.invokevirtual 48, 3) := by decide +kernel
theorem dX3_turn_20 : decode cX3_turn 20 = .ok (.ireturn, 1) := by decide +kernel
theorem dX3_turn_21 : decode cX3_turn 21 = .ok (.aload_n 0, 1) := by decide +kernel
theorem dX3_turn_22 : decode cX3_turn 22 = .ok (.getfield 10, 3) := by decide +kernel
theorem dX3_turn_25 : decode cX3_turn 25 = .ok (.getfield 103, 3) := by decide +kernel
theorem dX3_turn_28 : decode cX3_turn 28 = .ok (.iload_n 1, 1) := by decide +kernel
theorem dX3_turn_29 : decode cX3_turn 29 = .ok (.iaload, 1) := by decide +kernel
theorem dX3_turn_30 : decode cX3_turn 30 = .ok (.istore_n 3, 1) := by decide +kernel
theorem dX3_turn_31 : decode cX3_turn 31 = .ok (.aload_n 0, 1) := by decide +kernel
theorem dX3_turn_32 : decode cX3_turn 32 = .ok (.getfield 10, 3) := by decide +kernel
theorem dX3_turn_35 : decode cX3_turn 35 = .ok (.getfield 103, 3) := by decide +kernel
theorem dX3_turn_38 : decode cX3_turn 38 = .ok (.iload_n 1, 1) := by decide +kernel
theorem dX3_turn_39 : decode cX3_turn 39 = .ok (.iload_n 2, 1) := by decide +kernel
theorem dX3_turn_40 : decode cX3_turn 40 = .ok (.iastore, 1) := by decide +kernel
theorem dX3_turn_41 : decode cX3_turn 41 = .ok (.iload_n 3, 1) := by decide +kernel
theorem dX3_turn_42 : decode cX3_turn 42 = .ok (.ireturn, 1) := by decide +kernel
theorem dX3_as_0 : decode cX3_as 0 = .ok (.aload_n 0, 1) := by decide +kernel
theorem dX3_as_1 : decode cX3_as 1 = .ok (.iload_n 1, 1) := by decide +kernel
theorem dX3_as_2 : decode cX3_as 2 = .ok (.invokevirtual 100, 3) := by decide +kernel
theorem dX3_as_5 : decode cX3_as 5 = .ok (.ifCond .eq 10, 3) := by decide +kernel
theorem dX3_as_8 : decode cX3_as 8 = .ok (.iload_n 2, 1) := by decide +kernel
theorem dX3_as_9 : decode cX3_as 9 = .ok (.invokestatic 90, 3) := by decide +kernel
theorem dX3_as_12 : decode cX3_as 12 = .ok (.ifCond .ne 9, 3) := by decide +kernel
theorem dX3_as_15 : decode cX3_as 15 = .ok (.aload_n 0, 1) := by decide +kernel
theorem dX3_as_16 : decode cX3_as 16 = .ok (.iconst 0, 1) := by decide +kernel
theorem dX3_as_17 : decode cX3_as 17 = .ok (.invokevirtual 48, 3) := by decide +kernel
theorem dX3_as_20 : decode cX3_as 20 = .ok (.ireturn, 1) := by decide +kernel
theorem dX3_as_21 : decode cX3_as 21 = .ok (.aload_n 0, 1) := by decide +kernel
theorem dX3_as_22 : decode cX3_as 22 = .ok (.getfield 10, 3) := by decide +kernel
theorem dX3_as_25 : decode cX3_as 25 = .ok (.getfield 103, 3) := by decide +kernel
theorem dX3_as_28 : decode cX3_as 28 = .ok (.iload_n 1, 1) := by decide +kernel
theorem dX3_as_29 : decode cX3_as 29 = .ok (.iaload, 1) := by decide +kernel
theorem dX3_as_30 : decode cX3_as 30 = .ok (.iload_n 2, 1) := by decide +kernel
theorem dX3_as_31 : decode cX3_as 31 = .ok (.invokestatic 126, 3) := by decide +kernel
theorem dX3_as_34 : decode cX3_as 34 = .ok (.ifCond .ne 9, 3) := by decide +kernel
theorem dX3_as_37 : decode cX3_as 37 = .ok (.aload_n 0, 1) := by decide +kernel
theorem dX3_as_38 : decode cX3_as 38 = .ok (.iconst 2, 1) := by decide +kernel
theorem dX3_as_39 : decode cX3_as 39 = .ok (.invokevirtual 48, 3) := by decide +kernel
theorem dX3_as_42 : decode cX3_as 42 = .ok (.ireturn, 1) := by decide +kernel
theorem dX3_as_43 : decode cX3_as 43 = .ok (.aload_n 0, 1) := by decide +kernel
theorem dX3_as_44 : decode cX3_as 44 = .ok (.getfield 10, 3) := by decide +kernel
theorem dX3_as_47 : decode cX3_as 47 = .ok (.getfield 74, 3) := by decide +kernel
theorem dX3_as_50 : decode cX3_as 50 = .ok (.iload_n 1, 1) := by decide +kernel
theorem dX3_as_51 : decode cX3_as 51 = .ok (.iaload, 1) := by decide +kernel
theorem dX3_as_52 : decode cX3_as 52 = .ok (.ireturn, 1) := by decide +kernel
theorem dX3_push_0 : decode cX3_push 0 = .ok (.aload_n 0, 1) := by decide +kernel
theorem dX3_push_1 : decode cX3_push 1 = .ok (.iload_n 1, 1) := by decide +kernel
theorem dX3_push_2 : decode cX3_push 2 = .ok (.invokevirtual 100, 3) := by decide +kernel
theorem dX3_push_5 : decode cX3_push 5 = .ok (.ifCond .eq 13, 3) := by decide +kernel
theorem dX3_push_8 : decode cX3_push 8 = .ok (.iload_n 2, 1) := by decide +kernel
theorem dX3_push_9 : decode cX3_push 9 = .ok (.iconst 1, 1) := by decide +kernel
theorem dX3_push_10 : decode cX3_push 10 = .ok (.bipush 99, 2) := by decide +kernel
theorem dX3_push_12 : decode cX3_push 12 = .ok (.invokestatic 44, 3) := by decide +kernel
theorem dX3_push_15 : decode cX3_push 15 = .ok (.ifCond .ne 9, 3) := by decide +kernel
theorem dX3_push_18 : decode cX3_push 18 = .ok (.aload_n 0, 1) := by decide +kernel
theorem dX3_push_19 : decode cX3_push 19 = .ok (.iconst 0, 1) := by decide +kernel
theorem dX3_push_20 : decode cX3_push 20 = .ok (.invokevirtual 48, 3) := by decide +kernel
theorem dX3_push_23 : decode cX3_push 23 = .ok (.ireturn, 1) := by decide +kernel
theorem dX3_push_24 : decode cX3_push 24 = .ok (.aload_n 0, 1) := by decide +kernel
theorem dX3_push_25 : decode cX3_push 25 = .ok (.getfield 10, 3) := by decide +kernel
theorem dX3_push_28 : decode cX3_push 28 = .ok (.iload_n 1, 1) := by decide +kernel
theorem dX3_push_29 : decode cX3_push 29 = .ok (.iload_n 2, 1) := by decide +kernel
theorem dX3_push_30 : decode cX3_push 30 = .ok (.invokevirtual 130, 3) := by decide +kernel
theorem dX3_push_33 : decode cX3_push 33 = .ok (.aload_n 0, 1) := by decide +kernel
theorem dX3_push_34 : decode cX3_push 34 = .ok (.getfield 10, 3) := by decide +kernel
theorem dX3_push_37 : decode cX3_push 37 = .ok (.getfield 74, 3) := by decide +kernel
theorem dX3_push_40 : decode cX3_push 40 = .ok (.iload_n 1, 1) := by decide +kernel
theorem dX3_push_41 : decode cX3_push 41 = .ok (.iaload, 1) := by decide +kernel
theorem dX3_push_42 : decode cX3_push 42 = .ok (.ireturn, 1) := by decide +kernel
theorem dX3_swap_0 : decode cX3_swap 0 = .ok (.aload_n 0, 1) := by decide +kernel
theorem dX3_swap_1 : decode cX3_swap 1 = .ok (.iload_n 1, 1) := by decide +kernel
theorem dX3_swap_2 : decode cX3_swap 2 = .ok (.iload_n 2, 1) := by decide +kernel
theorem dX3_swap_3 : decode cX3_swap 3 = .ok (.invokevirtual 134, 3) := by decide +kernel
theorem dX3_swap_6 : decode cX3_swap 6 = .ok (.ifCond .ne 9, 3) := by decide +kernel
theorem dX3_swap_9 : decode cX3_swap 9 = .ok (.aload_n 0, 1) := by decide +kernel
theorem dX3_swap_10 : decode cX3_swap 10 = .ok (.iconst 0, 1) := by decide +kernel
theorem dX3_swap_11 : decode cX3_swap 11 = .ok (.invokevirtual 48, 3) := by decide +kernel
theorem dX3_swap_14 : decode cX3_swap 14 = .ok (.ireturn, 1) := by decide +kernel
theorem dX3_swap_15 : decode cX3_swap 15 = .ok (.aload_n 0, 1) := by decide +kernel
theorem dX3_swap_16 : decode cX3_swap 16 = .ok (.getfield 10, 3) := by decide +kernel
theorem dX3_swap_19 : decode cX3_swap 19 = .ok (.iload_n 1, 1) := by decide +kernel
theorem dX3_swap_20 : decode cX3_swap 20 = .ok (.iload_n 2, 1) := by decide +kernel
theorem dX3_swap_21 : decode cX3_swap 21 = .ok (.invokevirtual 137, 3) := by decide +kernel
theorem dX3_swap_24 : decode cX3_swap 24 = .ok (.iconst 1, 1) := by decide +kernel
theorem dX3_swap_25 : decode cX3_swap 25 = .ok (.ireturn, 1) := by decide +kernel
theorem dX3_minutes_0 : decode cX3_minutes 0 = .ok (.iload_n 1, 1) := by decide +kernel
theorem dX3_minutes_1 : decode cX3_minutes 1 = .ok (.iconst 1, 1) := by decide +kernel
theorem dX3_minutes_2 : decode cX3_minutes 2 = .ok (.sipush 200, 3) := by decide +kernel
theorem dX3_minutes_5 : decode cX3_minutes 5 = .ok (.invokestatic 44, 3) := by decide +kernel
theorem dX3_minutes_8 : decode cX3_minutes 8 = .ok (.ifCond .ne 9, 3) := by decide +kernel
theorem dX3_minutes_11 : decode cX3_minutes 11 = .ok (.aload_n 0, 1) := by decide +kernel
theorem dX3_minutes_12 : decode cX3_minutes 12 = .ok (.iconst 0, 1) := by decide +kernel
theorem dX3_minutes_13 : decode cX3_minutes 13 = .ok (.invokevirtual 48, 3) := by decide +kernel
theorem dX3_minutes_16 : decode cX3_minutes 16 = .ok (.ireturn, 1) := by decide +kernel
theorem dX3_minutes_17 : decode cX3_minutes 17 = .ok (.aload_n 0, 1) := by decide +kernel
theorem dX3_minutes_18 : decode cX3_minutes 18 = .ok (.getfield 10, 3) := by decide +kernel
theorem dX3_minutes_21 : decode cX3_minutes 21 = .ok (.getfield 56, 3) := by decide +kernel
theorem dX3_minutes_24 : decode cX3_minutes 24 = .ok (.ldc 140, 2) := by decide +kernel
theorem dX3_minutes_26 : decode cX3_minutes 26 = .ok (.iload_n 1, 1) := by decide +kernel
theorem dX3_minutes_27 : decode cX3_minutes 27 = .ok (.isub, 1) := by decide +kernel
theorem dX3_minutes_28 : decode cX3_minutes 28 = .ok (.if_icmp .le 9, 3) := by decide +kernel
theorem dX3_minutes_31 : decode cX3_minutes 31 = .ok (.aload_n 0, 1) := by decide +kernel
theorem dX3_minutes_32 : decode cX3_minutes 32 = .ok (.iconst 4, 1) := by decide +kernel
theorem dX3_minutes_33 : decode cX3_minutes 33 = .ok (.invokevirtual 48, 3) := by decide +kernel
theorem dX3_minutes_36 : decode cX3_minutes 36 = .ok (.ireturn, 1) := by decide +kernel
theorem dX3_minutes_37 : decode cX3_minutes 37 = .ok (.aload_n 0, 1) := by decide +kernel
theorem dX3_minutes_38 : decode cX3_minutes 38 = .ok (.getfield 10, 3) := by decide +kernel
theorem dX3_minutes_41 : decode cX3_minutes 41 = .ok (.iload_n 1, 1) := by decide +kernel
theorem dX3_minutes_42 : decode cX3_minutes 42 = .ok (.invokevirtual 141, 3) := by decide +kernel
theorem dX3_minutes_45 : decode cX3_minutes 45 = .ok (.aload_n 0, 1) := by decide +kernel
theorem dX3_minutes_46 : decode cX3_minutes 46 = .ok (.getfield 10, 3) := by decide +kernel
theorem dX3_minutes_49 : decode cX3_minutes 49 = .ok (.invokevirtual 87, 3) := by decide +kernel
theorem dX3_minutes_52 : decode cX3_minutes 52 = .ok (.ireturn, 1) := by decide +kernel
theorem dX3_on_0 : decode cX3_on 0 = .ok (.aload_n 0, 1) := by decide +kernel
theorem dX3_on_1 : decode cX3_on 1 = .ok (.iload_n 1, 1) := by decide +kernel
theorem dX3_on_2 : decode cX3_on 2 = .ok (.invokevirtual 100, 3) := by decide +kernel
theorem dX3_on_5 : decode cX3_on 5 = .ok (.ifCond .eq 23, 3) := by decide +kernel
theorem dX3_on_8 : decode cX3_on 8 = .ok (.iload_n 2, 1) := by decide +kernel
theorem dX3_on_9 : decode cX3_on 9 = .ok (.iconst 0, 1) := by decide +kernel
theorem dX3_on_10 : decode cX3_on 10 = .ok (.sipush 400, 3) := by decide +kernel
theorem dX3_on_13 : decode cX3_on 13 = .ok (.invokestatic 44, 3) := by decide +kernel
theorem dX3_on_16 : decode cX3_on 16 = .ok (.ifCond .eq 12, 3) := by decide +kernel
theorem dX3_on_19 : decode cX3_on 19 = .ok (.iload_n 3, 1) := by decide +kernel
theorem dX3_on_20 : decode cX3_on 20 = .ok (.iconst 0, 1) := by decide +kernel
theorem dX3_on_21 : decode cX3_on 21 = .ok (.iconst 1, 1) := by decide +kernel
theorem dX3_on_22 : decode cX3_on 22 = .ok (.invokestatic 44, 3) := by decide +kernel
theorem dX3_on_25 : decode cX3_on 25 = .ok (.ifCond .ne 9, 3) := by decide +kernel
theorem dX3_on_28 : decode cX3_on 28 = .ok (.aload_n 0, 1) := by decide +kernel
theorem dX3_on_29 : decode cX3_on 29 = .ok (.iconst 0, 1) := by decide +kernel
theorem dX3_on_30 : decode cX3_on 30 = .ok (.invokevirtual 48, 3) := by decide +kernel
theorem dX3_on_33 : decode cX3_on 33 = .ok (.ireturn, 1) := by decide +kernel
theorem dX3_on_34 : decode cX3_on 34 = .ok (.aload_n 0, 1) := by decide +kernel
theorem dX3_on_35 : decode cX3_on 35 = .ok (.invokevirtual 145, 3) := by decide +kernel
theorem dX3_on_38 : decode cX3_on 38 = .ok (.aload_n 0, 1) := by decide +kernel
theorem dX3_on_39 : decode cX3_on 39 = .ok (.getfield 16, 3) := by decide +kernel
theorem dX3_on_42 : decode cX3_on 42 = .ok (.iload_n 2, 1) := by decide +kernel
theorem dX3_on_43 : decode cX3_on 43 = .ok (.invokevirtual 141, 3) := by decide +kernel
theorem dX3_on_46 : decode cX3_on 46 = .ok (.iload_n 3, 1) := by decide +kernel
theorem dX3_on_47 : decode cX3_on 47 = .ok (.ifCond .ne 15, 3) := by decide +kernel
theorem dX3_on_50 : decode cX3_on 50 = .ok (.aload_n 0, 1) := by decide +kernel
theorem dX3_on_51 : decode cX3_on 51 = .ok (.getfield 16, 3) := by decide +kernel
theorem dX3_on_54 : decode cX3_on 54 = .ok (.getfield 74, 3) := by decide +kernel
theorem dX3_on_57 : decode cX3_on 57 = .ok (.iload_n 1, 1) := by decide +kernel
theorem dX3_on_58 : decode cX3_on 58 = .ok (.iaload, 1) := by decide +kernel
theorem dX3_on_59 : decode cX3_on 59 = .ok (.goto 12, 3) := by decide +kernel
theorem dX3_on_62 : decode cX3_on 62 = .ok (.aload_n 0, 1) := by decide +kernel
theorem dX3_on_63 : decode cX3_on 63 = .ok (.getfield 16, 3) := by decide +kernel
theorem dX3_on_66 : decode cX3_on 66 = .ok (.getfield 106, 3) := by decide +kernel
theorem dX3_on_69 : decode cX3_on 69 = .ok (.iload_n 1, 1) := by decide +kernel
theorem dX3_on_70 : decode cX3_on 70 = .ok (.iaload, 1) := by decide +kernel
theorem dX3_on_71 : decode cX3_on 71 = .ok (.ireturn, 1) := by decide +kernel
theorem dX3_owes_0 : decode cX3_owes 0 = .ok (.aload_n 0, 1) := by decide +kernel
theorem dX3_owes_1 : decode cX3_owes 1 = .ok (.iload_n 1, 1) := by decide +kernel
theorem dX3_owes_2 : decode cX3_owes 2 = .ok (.invokevirtual 100, 3) := by decide +kernel
theorem dX3_owes_5 : decode cX3_owes 5 = .ok (.ifCond .eq 14, 3) := by decide +kernel
theorem dX3_owes_8 : decode cX3_owes 8 = .ok (.iload_n 2, 1) := by decide +kernel
theorem dX3_owes_9 : decode cX3_owes 9 = .ok (.iconst 0, 1) := by decide +kernel
theorem dX3_owes_10 : decode cX3_owes 10 = .ok (.sipush 400, 3) := by decide +kernel
theorem dX3_owes_13 : decode cX3_owes 13 = .ok (.invokestatic 44, 3) := by decide +kernel
theorem dX3_owes_16 : decode cX3_owes 16 = .ok (.ifCond .ne 9, 3) := by decide +kernel
theorem dX3_owes_19 : decode cX3_owes 19 = .ok (.aload_n 0, 1) := by decide +kernel
theorem dX3_owes_20 : decode cX3_owes 20 = .ok (.iconst 0, 1) := by decide +kernel
theorem dX3_owes_21 : decode cX3_owes 21 = .ok (.invokevirtual 48, 3) := by decide +kernel
theorem dX3_owes_24 : decode cX3_owes 24 = .ok (.ireturn, 1) := by decide +kernel
theorem dX3_owes_25 : decode cX3_owes 25 = .ok (.aload_n 0, 1) := by decide +kernel
theorem dX3_owes_26 : decode cX3_owes 26 = .ok (.invokevirtual 145, 3) := by decide +kernel
theorem dX3_owes_29 : decode cX3_owes 29 = .ok (.aload_n 0, 1) := by decide +kernel
theorem dX3_owes_30 : decode cX3_owes 30 = .ok (.getfield 16, 3) := by decide +kernel
theorem dX3_owes_33 : decode cX3_owes 33 = .ok (.iload_n 2, 1) := by decide +kernel
theorem dX3_owes_34 : decode cX3_owes 34 = .ok (.invokevirtual 141, 3) := by decide +kernel
theorem dX3_owes_37 : decode cX3_owes 37 = .ok (.aload_n 0, 1) := by decide +kernel
theorem dX3_owes_38 : decode cX3_owes 38 = .ok (.getfield 16, 3) := by decide +kernel
theorem dX3_owes_41 : decode cX3_owes 41 = .ok (.getfield 110, 3) := by decide +kernel
theorem dX3_owes_44 : decode cX3_owes 44 = .ok (.iload_n 1, 1) := by decide +kernel
theorem dX3_owes_45 : decode cX3_owes 45 = .ok (.iaload, 1) := by decide +kernel
theorem dX3_owes_46 : decode cX3_owes 46 = .ok (.ireturn, 1) := by decide +kernel
theorem dX3_level_0 : decode cX3_level 0 = .ok (.aload_n 0, 1) := by decide +kernel
theorem dX3_level_1 : decode cX3_level 1 = .ok (.invokevirtual 145, 3) := by decide +kernel
theorem dX3_level_4 : decode cX3_level 4 = .ok (.iconst 0, 1) := by decide +kernel
theorem dX3_level_5 : decode cX3_level 5 = .ok (.istore_n 1, 1) := by decide +kernel
theorem dX3_level_6 : decode cX3_level 6 = .ok (.iload_n 1, 1) := by decide +kernel
theorem dX3_level_7 : decode cX3_level 7 = .ok (.sipush 400, 3) := by decide +kernel
theorem dX3_level_10 : decode cX3_level 10 = .ok (.if_icmp .gt 28, 3) := by decide +kernel
theorem dX3_level_13 : decode cX3_level 13 = .ok (.aload_n 0, 1) := by decide +kernel
theorem dX3_level_14 : decode cX3_level 14 = .ok (.getfield 16, 3) := by decide +kernel
theorem dX3_level_17 : decode cX3_level 17 = .ok (.invokevirtual 81, 3) := by decide +kernel
theorem dX3_level_20 : decode cX3_level 20 = .ok (.ifCond .eq 5, 3) := by decide +kernel
theorem dX3_level_23 : decode cX3_level 23 = .ok (.iload_n 1, 1) := by decide +kernel
theorem dX3_level_24 : decode cX3_level 24 = .ok (.ireturn, 1) := by decide +kernel
theorem dX3_level_25 : decode cX3_level 25 = .ok (.aload_n 0, 1) := by decide +kernel
theorem dX3_level_26 : decode cX3_level 26 = .ok (.getfield 16, 3) := by decide +kernel
theorem dX3_level_29 : decode cX3_level 29 = .ok (.invokevirtual 148, 3) := by decide +kernel
theorem dX3_level_32 : decode cX3_level 32 = .ok (.iinc 1 1, 3) := by decide +kernel
theorem dX3_level_35 : decode cX3_level 35 = .ok (.goto (-29), 3) := by decide +kernel
theorem dX3_level_38 : decode cX3_level 38 = .ok (.aload_n 0, 1) := by decide +kernel
theorem dX3_level_39 : decode cX3_level 39 = .ok (.iconst 3, 1) := by decide +kernel
theorem dX3_level_40 : decode cX3_level 40 = .ok (.invokevirtual 48, 3) := by decide +kernel
theorem dX3_level_43 : decode cX3_level 43 = .ok (.ireturn, 1) := by decide +kernel
end
section
theorem dX3_comes_0 : decode cX3_comes 0 = .ok (.aload_n 0, 1) := by decide +kernel
theorem dX3_comes_1 : decode cX3_comes 1 = .ok (.iload_n 1, 1) := by decide +kernel
theorem dX3_comes_2 : decode cX3_comes 2 = .ok (.invokevirtual 100, 3) := by decide +kernel
theorem dX3_comes_5 : decode cX3_comes 5 = .ok (.ifCond .eq 14, 3) := by decide +kernel
theorem dX3_comes_8 : decode cX3_comes 8 = .ok (.iload_n 2, 1) := by decide +kernel
theorem dX3_comes_9 : decode cX3_comes 9 = .ok (.iconst 0, 1) := by decide +kernel
theorem dX3_comes_10 : decode cX3_comes 10 = .ok (.sipush 200, 3) := by decide +kernel
theorem dX3_comes_13 : decode cX3_comes 13 = .ok (.invokestatic 44, 3) := by decide +kernel
theorem dX3_comes_16 : decode cX3_comes 16 = .ok (.ifCond .ne 9, 3) := by decide +kernel
theorem dX3_comes_19 : decode cX3_comes 19 = .ok (.aload_n 0, 1) := by decide +kernel
theorem dX3_comes_20 : decode cX3_comes 20 = .ok (.iconst 0, 1) := by decide +kernel
theorem dX3_comes_21 : decode cX3_comes 21 = .ok (.invokevirtual 48, 3) := by decide +kernel
theorem dX3_comes_24 : decode cX3_comes 24 = .ok (.ireturn, 1) := by decide +kernel
theorem dX3_comes_25 : decode cX3_comes 25 = .ok (.aload_n 0, 1) := by decide +kernel
theorem dX3_comes_26 : decode cX3_comes 26 = .ok (.iload_n 1, 1) := by decide +kernel
theorem dX3_comes_27 : decode cX3_comes 27 = .ok (.iload_n 2, 1) := by decide +kernel
theorem dX3_comes_28 : decode cX3_comes 28 = .ok (.sipush 200, 3) := by decide +kernel
theorem dX3_comes_31 : decode cX3_comes 31 = .ok (.invokevirtual 151, 3) := by decide +kernel
theorem dX3_comes_34 : decode cX3_comes 34 = .ok (.ireturn, 1) := by decide +kernel
theorem dX3_dust_0 : decode cX3_dust 0 = .ok (.aload_n 0, 1) := by decide +kernel
theorem dX3_dust_1 : decode cX3_dust 1 = .ok (.iload_n 1, 1) := by decide +kernel
theorem dX3_dust_2 : decode cX3_dust 2 = .ok (.invokevirtual 100, 3) := by decide +kernel
theorem dX3_dust_5 : decode cX3_dust 5 = .ok (.ifCond .ne 9, 3) := by decide +kernel
theorem dX3_dust_8 : decode cX3_dust 8 = .ok (.aload_n 0, 1) := by decide +kernel
theorem dX3_dust_9 : decode cX3_dust 9 = .ok (.iconst 0, 1) := by decide +kernel
theorem dX3_dust_10 : decode cX3_dust 10 = .ok (.invokevirtual 48, 3) := by decide +kernel
theorem dX3_dust_13 : decode cX3_dust 13 = .ok (.ireturn, 1) := by decide +kernel
theorem dX3_dust_14 : decode cX3_dust 14 = .ok (.aload_n 0, 1) := by decide +kernel
theorem dX3_dust_15 : decode cX3_dust 15 = .ok (.iload_n 1, 1) := by decide +kernel
theorem dX3_dust_16 : decode cX3_dust 16 = .ok (.iconst 0, 1) := by decide +kernel
theorem dX3_dust_17 : decode cX3_dust 17 = .ok (.iconst 0, 1) := by decide +kernel
theorem dX3_dust_18 : decode cX3_dust 18 = .ok (.invokevirtual 151, 3) := by decide +kernel
theorem dX3_dust_21 : decode cX3_dust 21 = .ok (.ireturn, 1) := by decide +kernel
theorem dX3_place_0 : decode cX3_place 0 = .ok (.aload_n 0, 1) := by decide +kernel
theorem dX3_place_1 : decode cX3_place 1 = .ok (.iload_n 1, 1) := by decide +kernel
theorem dX3_place_2 : decode cX3_place 2 = .ok (.invokevirtual 100, 3) := by decide +kernel
theorem dX3_place_5 : decode cX3_place 5 = .ok (.ifCond .eq 13, 3) := by decide +kernel
theorem dX3_place_8 : decode cX3_place 8 = .ok (.iload_n 2, 1) := by decide +kernel
theorem dX3_place_9 : decode cX3_place 9 = .ok (.iconst 1, 1) := by decide +kernel
theorem dX3_place_10 : decode cX3_place 10 = .ok (.bipush 100, 2) := by decide +kernel
theorem dX3_place_12 : decode cX3_place 12 = .ok (.invokestatic 44, 3) := by decide +kernel
theorem dX3_place_15 : decode cX3_place 15 = .ok (.ifCond .ne 9, 3) := by decide +kernel
theorem dX3_place_18 : decode cX3_place 18 = .ok (.aload_n 0, 1) := by decide +kernel
theorem dX3_place_19 : decode cX3_place 19 = .ok (.iconst 0, 1) := by decide +kernel
theorem dX3_place_20 : decode cX3_place 20 = .ok (.invokevirtual 48, 3) := by decide +kernel
theorem dX3_place_23 : decode cX3_place 23 = .ok (.ireturn, 1) := by decide +kernel
theorem dX3_place_24 : decode cX3_place 24 = .ok (.aload_n 0, 1) := by decide +kernel
theorem dX3_place_25 : decode cX3_place 25 = .ok (.invokevirtual 145, 3) := by decide +kernel
theorem dX3_place_28 : decode cX3_place 28 = .ok (.aload_n 0, 1) := by decide +kernel
theorem dX3_place_29 : decode cX3_place 29 = .ok (.iload_n 1, 1) := by decide +kernel
theorem dX3_place_30 : decode cX3_place 30 = .ok (.iload_n 2, 1) := by decide +kernel
theorem dX3_place_31 : decode cX3_place 31 = .ok (.invokevirtual 155, 3) := by decide +kernel
theorem dX3_place_34 : decode cX3_place 34 = .ok (.istore_n 3, 1) := by decide +kernel
theorem dX3_place_35 : decode cX3_place 35 = .ok (.iconst (-1), 1) := by decide +kernel
theorem dX3_place_36 : decode cX3_place 36 = .ok (.istore 4, 2) := by decide +kernel
theorem dX3_place_38 : decode cX3_place 38 = .ok (.iconst 0, 1) := by decide +kernel
theorem dX3_place_39 : decode cX3_place 39 = .ok (.istore 5, 2) := by decide +kernel
theorem dX3_place_41 : decode cX3_place 41 = .ok (.iload 5, 2) := by decide +kernel
theorem dX3_place_43 : decode cX3_place 43 = .ok (.aload_n 0, 1) := by decide +kernel
theorem dX3_place_44 : decode cX3_place 44 = .ok (.getfield 10, 3) := by decide +kernel
theorem dX3_place_47 : decode cX3_place 47 = .ok (.getfield 159, 3) := by decide +kernel
theorem dX3_place_50 : decode cX3_place 50 = .ok (.if_icmp .ge 51, 3) := by decide +kernel
theorem dX3_place_53 : decode cX3_place 53 = .ok (.iload 5, 2) := by decide +kernel
theorem dX3_place_55 : decode cX3_place 55 = .ok (.iload_n 1, 1) := by decide +kernel
theorem dX3_place_56 : decode cX3_place 56 = .ok (.if_icmp .eq 39, 3) := by decide +kernel
theorem dX3_place_59 : decode cX3_place 59 = .ok (.aload_n 0, 1) := by decide +kernel
theorem dX3_place_60 : decode cX3_place 60 = .ok (.invokevirtual 145, 3) := by decide +kernel
theorem dX3_place_63 : decode cX3_place 63 = .ok (.aload_n 0, 1) := by decide +kernel
theorem dX3_place_64 : decode cX3_place 64 = .ok (.getfield 16, 3) := by decide +kernel
theorem dX3_place_67 : decode cX3_place 67 = .ok (.iload_n 1, 1) := by decide +kernel
theorem dX3_place_68 : decode cX3_place 68 = .ok (.iload 5, 2) := by decide +kernel
theorem dX3_place_70 : decode cX3_place 70 = .ok (.invokevirtual 137, 3) := by decide +kernel
theorem dX3_place_73 : decode cX3_place 73 = .ok (.aload_n 0, 1) := by decide +kernel
theorem dX3_place_74 : decode cX3_place 74 = .ok (.iload 5, 2) := by decide +kernel
theorem dX3_place_76 : decode cX3_place 76 = .ok (.iload_n 2, 1) := by decide +kernel
theorem dX3_place_77 : decode cX3_place 77 = .ok (.invokevirtual 155, 3) := by decide +kernel
theorem dX3_place_80 : decode cX3_place 80 = .ok (.istore 6, 2) := by decide +kernel
theorem dX3_place_82 : decode cX3_place 82 = .ok (.iload 6, 2) := by decide +kernel
theorem dX3_place_84 : decode cX3_place 84 = .ok (.iload_n 3, 1) := by decide +kernel
theorem dX3_place_85 : decode cX3_place 85 = .ok (.if_icmp .le 10, 3) := by decide +kernel
theorem dX3_place_88 : decode cX3_place 88 = .ok (.iload 6, 2) := by decide +kernel
theorem dX3_place_90 : decode cX3_place 90 = .ok (.istore_n 3, 1) := by decide +kernel
theorem dX3_place_91 : decode cX3_place 91 = .ok (.iload 5, 2) := by decide +kernel
theorem dX3_place_93 : decode cX3_place 93 = .ok (.istore 4, 2) := by decide +kernel
theorem dX3_place_95 : decode cX3_place 95 = .ok (.iinc 5 1, 3) := by decide +kernel
theorem dX3_place_98 : decode cX3_place 98 = .ok (.goto (-57), 3) := by decide +kernel
theorem dX3_place_101 : decode cX3_place 101 = .ok (.iload 4, 2) := by decide +kernel
theorem dX3_place_103 : decode cX3_place 103 = .ok (.ifCond .ge 11, 3) := by decide +kernel
theorem dX3_place_106 : decode cX3_place 106 = .ok (.aload_n 0, 1) := by decide +kernel
theorem dX3_place_107 : decode cX3_place 107 = .ok (.iconst 3, 1) := by decide +kernel
theorem dX3_place_108 : decode cX3_place 108 = .ok (.invokevirtual 48, 3) := by decide +kernel
theorem dX3_place_111 : decode cX3_place 111 = .ok (.goto 5, 3) := by decide +kernel
theorem dX3_place_114 : decode cX3_place 114 = .ok (.iload 4, 2) := by decide +kernel
theorem dX3_place_116 : decode cX3_place 116 = .ok (.ireturn, 1) := by decide +kernel
theorem dX3_kind_0 : decode cX3_kind 0 = .ok (.aload_n 0, 1) := by decide +kernel
theorem dX3_kind_1 : decode cX3_kind 1 = .ok (.iload_n 1, 1) := by decide +kernel
theorem dX3_kind_2 : decode cX3_kind 2 = .ok (.invokevirtual 100, 3) := by decide +kernel
theorem dX3_kind_5 : decode cX3_kind 5 = .ok (.ifCond .eq 13, 3) := by decide +kernel
theorem dX3_kind_8 : decode cX3_kind 8 = .ok (.iload_n 2, 1) := by decide +kernel
theorem dX3_kind_9 : decode cX3_kind 9 = .ok (.iconst 1, 1) := by decide +kernel
theorem dX3_kind_10 : decode cX3_kind 10 = .ok (.bipush 100, 2) := by decide +kernel
theorem dX3_kind_12 : decode cX3_kind 12 = .ok (.invokestatic 44, 3) := by decide +kernel
theorem dX3_kind_15 : decode cX3_kind 15 = .ok (.ifCond .ne 9, 3) := by decide +kernel
theorem dX3_kind_18 : decode cX3_kind 18 = .ok (.aload_n 0, 1) := by decide +kernel
theorem dX3_kind_19 : decode cX3_kind 19 = .ok (.iconst 0, 1) := by decide +kernel
theorem dX3_kind_20 : decode cX3_kind 20 = .ok (.invokevirtual 48, 3) := by decide +kernel
theorem dX3_kind_23 : decode cX3_kind 23 = .ok (.ireturn, 1) := by decide +kernel
theorem dX3_kind_24 : decode cX3_kind 24 = .ok (.iconst (-1), 1) := by decide +kernel
theorem dX3_kind_25 : decode cX3_kind 25 = .ok (.istore_n 3, 1) := by decide +kernel
theorem dX3_kind_26 : decode cX3_kind 26 = .ok (.iconst 0, 1) := by decide +kernel
theorem dX3_kind_27 : decode cX3_kind 27 = .ok (.istore 4, 2) := by decide +kernel
theorem dX3_kind_29 : decode cX3_kind 29 = .ok (.iconst 0, 1) := by decide +kernel
theorem dX3_kind_30 : decode cX3_kind 30 = .ok (.istore 5, 2) := by decide +kernel
theorem dX3_kind_32 : decode cX3_kind 32 = .ok (.iload 5, 2) := by decide +kernel
theorem dX3_kind_34 : decode cX3_kind 34 = .ok (.bipush 6, 2) := by decide +kernel
theorem dX3_kind_36 : decode cX3_kind 36 = .ok (.if_icmp .ge 45, 3) := by decide +kernel
theorem dX3_kind_39 : decode cX3_kind 39 = .ok (.aload_n 0, 1) := by decide +kernel
theorem dX3_kind_40 : decode cX3_kind 40 = .ok (.invokevirtual 145, 3) := by decide +kernel
theorem dX3_kind_43 : decode cX3_kind 43 = .ok (.aload_n 0, 1) := by decide +kernel
theorem dX3_kind_44 : decode cX3_kind 44 = .ok (.getfield 16, 3) := by decide +kernel
theorem dX3_kind_47 : decode cX3_kind 47 = .ok (.getfield 103, 3) := by decide +kernel
theorem dX3_kind_50 : decode cX3_kind 50 = .ok (.iload_n 1, 1) := by decide +kernel
theorem dX3_kind_51 : decode cX3_kind 51 = .ok (.iload 5, 2) := by decide +kernel
theorem dX3_kind_53 : decode cX3_kind 53 = .ok (.iastore, 1) := by decide +kernel
theorem dX3_kind_54 : decode cX3_kind 54 = .ok (.aload_n 0, 1) := by decide +kernel
theorem dX3_kind_55 : decode cX3_kind 55 = .ok (.iload_n 1, 1) := by decide +kernel
theorem dX3_kind_56 : decode cX3_kind 56 = .ok (.iload_n 2, 1) := by decide +kernel
theorem dX3_kind_57 : decode cX3_kind 57 = .ok (.invokevirtual 155, 3) := by decide +kernel
theorem dX3_kind_60 : decode cX3_kind 60 = .ok (.istore 6, 2) := by decide +kernel
theorem dX3_kind_62 : decode cX3_kind 62 = .ok (.iload 6, 2) := by decide +kernel
theorem dX3_kind_64 : decode cX3_kind 64 = .ok (.iload_n 3, 1) := by decide +kernel
theorem dX3_kind_65 : decode cX3_kind 65 = .ok (.if_icmp .le 10, 3) := by decide +kernel
theorem dX3_kind_68 : decode cX3_kind 68 = .ok (.iload 6, 2) := by decide +kernel
theorem dX3_kind_70 : decode cX3_kind 70 = .ok (.istore_n 3, 1) := by decide +kernel
theorem dX3_kind_71 : decode cX3_kind 71 = .ok (.iload 5, 2) := by decide +kernel
theorem dX3_kind_73 : decode cX3_kind 73 = .ok (.istore 4, 2) := by decide +kernel
theorem dX3_kind_75 : decode cX3_kind 75 = .ok (.iinc 5 1, 3) := by decide +kernel
theorem dX3_kind_78 : decode cX3_kind 78 = .ok (.goto (-46), 3) := by decide +kernel
theorem dX3_kind_81 : decode cX3_kind 81 = .ok (.iload 4, 2) := by decide +kernel
theorem dX3_kind_83 : decode cX3_kind 83 = .ok (.ireturn, 1) := by decide +kernel
theorem dX3_marbles_0 : decode cX3_marbles 0 = .ok (.aload_n 0, 1) := by decide +kernel
theorem dX3_marbles_1 : decode cX3_marbles 1 = .ok (.iload_n 1, 1) := by decide +kernel
theorem dX3_marbles_2 : decode cX3_marbles 2 = .ok (.invokevirtual 100, 3) := by decide +kernel
theorem dX3_marbles_5 : decode cX3_marbles 5 = .ok (.ifCond .eq 24, 3) := by decide +kernel
theorem dX3_marbles_8 : decode cX3_marbles 8 = .ok (.iload_n 2, 1) := by decide +kernel
theorem dX3_marbles_9 : decode cX3_marbles 9 = .ok (.iconst 1, 1) := by decide +kernel
theorem dX3_marbles_10 : decode cX3_marbles 10 = .ok (.bipush 100, 2) := by decide +kernel
theorem dX3_marbles_12 : decode cX3_marbles 12 = .ok (.invokestatic 44, 3) := by decide +kernel
theorem dX3_marbles_15 : decode cX3_marbles 15 = .ok (.ifCond .eq 14, 3) := by decide +kernel
theorem dX3_marbles_18 : decode cX3_marbles 18 = .ok (.iload_n 3, 1) := by decide +kernel
theorem dX3_marbles_19 : decode cX3_marbles 19 = .ok (.iconst 0, 1) := by decide +kernel
theorem dX3_marbles_20 : decode cX3_marbles 20 = .ok (.sipush 200, 3) := by decide +kernel
theorem dX3_marbles_23 : decode cX3_marbles 23 = .ok (.invokestatic 44, 3) := by decide +kernel
theorem dX3_marbles_26 : decode cX3_marbles 26 = .ok (.ifCond .ne 9, 3) := by decide +kernel
theorem dX3_marbles_29 : decode cX3_marbles 29 = .ok (.aload_n 0, 1) := by decide +kernel
theorem dX3_marbles_30 : decode cX3_marbles 30 = .ok (.iconst 0, 1) := by decide +kernel
theorem dX3_marbles_31 : decode cX3_marbles 31 = .ok (.invokevirtual 48, 3) := by decide +kernel
theorem dX3_marbles_34 : decode cX3_marbles 34 = .ok (.ireturn, 1) := by decide +kernel
theorem dX3_marbles_35 : decode cX3_marbles 35 = .ok (.iconst 0, 1) := by decide +kernel
theorem dX3_marbles_36 : decode cX3_marbles 36 = .ok (.istore 4, 2) := by decide +kernel
theorem dX3_marbles_38 : decode cX3_marbles 38 = .ok (.iload 4, 2) := by decide +kernel
theorem dX3_marbles_40 : decode cX3_marbles 40 = .ok (.bipush 99, 2) := by decide +kernel
theorem dX3_marbles_42 : decode cX3_marbles 42 = .ok (.if_icmp .gt 37, 3) := by decide +kernel
theorem dX3_marbles_45 : decode cX3_marbles 45 = .ok (.aload_n 0, 1) := by decide +kernel
theorem dX3_marbles_46 : decode cX3_marbles 46 = .ok (.invokevirtual 145, 3) := by decide +kernel
theorem dX3_marbles_49 : decode cX3_marbles 49 = .ok (.aload_n 0, 1) := by decide +kernel
theorem dX3_marbles_50 : decode cX3_marbles 50 = .ok (.getfield 16, 3) := by decide +kernel
theorem dX3_marbles_53 : decode cX3_marbles 53 = .ok (.getfield 106, 3) := by decide +kernel
theorem dX3_marbles_56 : decode cX3_marbles 56 = .ok (.iload_n 1, 1) := by decide +kernel
theorem dX3_marbles_57 : decode cX3_marbles 57 = .ok (.iload 4, 2) := by decide +kernel
theorem dX3_marbles_59 : decode cX3_marbles 59 = .ok (.iastore, 1) := by decide +kernel
theorem dX3_marbles_60 : decode cX3_marbles 60 = .ok (.aload_n 0, 1) := by decide +kernel
theorem dX3_marbles_61 : decode cX3_marbles 61 = .ok (.iload_n 1, 1) := by decide +kernel
theorem dX3_marbles_62 : decode cX3_marbles 62 = .ok (.iload_n 2, 1) := by decide +kernel
theorem dX3_marbles_63 : decode cX3_marbles 63 = .ok (.invokevirtual 155, 3) := by decide +kernel
theorem dX3_marbles_66 : decode cX3_marbles 66 = .ok (.iload_n 3, 1) := by decide +kernel
theorem dX3_marbles_67 : decode cX3_marbles 67 = .ok (.if_icmp .lt 6, 3) := by decide +kernel
theorem dX3_marbles_70 : decode cX3_marbles 70 = .ok (.iload 4, 2) := by decide +kernel
theorem dX3_marbles_72 : decode cX3_marbles 72 = .ok (.ireturn, 1) := by decide +kernel
theorem dX3_marbles_73 : decode cX3_marbles 73 = .ok (.iinc 4 1, 3) := by decide +kernel
theorem dX3_marbles_76 : decode cX3_marbles 76 = .ok (.goto (-38), 3) := by decide +kernel
theorem dX3_marbles_79 : decode cX3_marbles 79 = .ok (.aload_n 0, 1) := by decide +kernel
theorem dX3_marbles_80 : decode cX3_marbles 80 = .ok (.iconst 3, 1) := by decide +kernel
theorem dX3_marbles_81 : decode cX3_marbles 81 = .ok (.invokevirtual 48, 3) := by decide +kernel
theorem dX3_marbles_84 : decode cX3_marbles 84 = .ok (.ireturn, 1) := by decide +kernel
theorem dX3_night_0 : decode cX3_night 0 = .ok (.iload_n 1, 1) := by decide +kernel
theorem dX3_night_1 : decode cX3_night 1 = .ok (.iconst 1, 1) := by decide +kernel
theorem dX3_night_2 : decode cX3_night 2 = .ok (.bipush 120, 2) := by decide +kernel
theorem dX3_night_4 : decode cX3_night 4 = .ok (.invokestatic 44, 3) := by decide +kernel
theorem dX3_night_7 : decode cX3_night 7 = .ok (.ifCond .ne 9, 3) := by decide +kernel
theorem dX3_night_10 : decode cX3_night 10 = .ok (.aload_n 0, 1) := by decide +kernel
theorem dX3_night_11 : decode cX3_night 11 = .ok (.iconst 0, 1) := by decide +kernel
theorem dX3_night_12 : decode cX3_night 12 = .ok (.invokevirtual 48, 3) := by decide +kernel
theorem dX3_night_15 : decode cX3_night 15 = .ok (.ireturn, 1) := by decide +kernel
theorem dX3_night_16 : decode cX3_night 16 = .ok (.sipush 201, 3) := by decide +kernel
theorem dX3_night_19 : decode cX3_night 19 = .ok (.istore_n 2, 1) := by decide +kernel
theorem dX3_night_20 : decode cX3_night 20 = .ok (.iconst 0, 1) := by decide +kernel
theorem dX3_night_21 : decode cX3_night 21 = .ok (.istore_n 3, 1) := by decide +kernel
theorem dX3_night_22 : decode cX3_night 22 = .ok (.iconst 0, 1) := by decide +kernel
theorem dX3_night_23 : decode cX3_night 23 = .ok (.istore 4, 2) := by decide +kernel
theorem dX3_night_25 : decode cX3_night 25 = .ok (.iload 4, 2) := by decide +kernel
theorem dX3_night_27 : decode cX3_night 27 = .ok (.bipush 59, 2) := by decide +kernel
theorem dX3_night_29 : decode cX3_night 29 = .ok (.if_icmp .gt 51, 3) := by decide +kernel
theorem dX3_night_32 : decode cX3_night 32 = .ok (.aload_n 0, 1) := by decide +kernel
theorem dX3_night_33 : decode cX3_night 33 = .ok (.invokevirtual 145, 3) := by decide +kernel
theorem dX3_night_36 : decode cX3_night 36 = .ok (.aload_n 0, 1) := by decide +kernel
theorem dX3_night_37 : decode cX3_night 37 = .ok (.getfield 16, 3) := by decide +kernel
theorem dX3_night_40 : decode cX3_night 40 = .ok (.iload 4, 2) := by decide +kernel
theorem dX3_night_42 : decode cX3_night 42 = .ok (.putfield 52, 3) := by decide +kernel
theorem dX3_night_45 : decode cX3_night 45 = .ok (.aload_n 0, 1) := by decide +kernel
theorem dX3_night_46 : decode cX3_night 46 = .ok (.getfield 16, 3) := by decide +kernel
theorem dX3_night_49 : decode cX3_night 49 = .ok (.iload_n 1, 1) := by decide +kernel
theorem dX3_night_50 : decode cX3_night 50 = .ok (.invokevirtual 141, 3) := by decide +kernel
theorem dX3_night_53 : decode cX3_night 53 = .ok (.aload_n 0, 1) := by decide +kernel
theorem dX3_night_54 : decode cX3_night 54 = .ok (.getfield 16, 3) := by decide +kernel
theorem dX3_night_57 : decode cX3_night 57 = .ok (.invokevirtual 162, 3) := by decide +kernel
theorem dX3_night_60 : decode cX3_night 60 = .ok (.istore 5, 2) := by decide +kernel
theorem dX3_night_62 : decode cX3_night 62 = .ok (.iload 5, 2) := by decide +kernel
theorem dX3_night_64 : decode cX3_night 64 = .ok (.iload_n 2, 1) := by decide +kernel
theorem dX3_night_65 : decode cX3_night 65 = .ok (.if_icmp .ge 9, 3) := by decide +kernel
theorem dX3_night_68 : decode cX3_night 68 = .ok (.iload 5, 2) := by decide +kernel
theorem dX3_night_70 : decode cX3_night 70 = .ok (.istore_n 2, 1) := by decide +kernel
theorem dX3_night_71 : decode cX3_night 71 = .ok (.iload 4, 2) := by decide +kernel
theorem dX3_night_73 : decode cX3_night 73 = .ok (.istore_n 3, 1) := by decide +kernel
theorem dX3_night_74 : decode cX3_night 74 = .ok (.iinc 4 1, 3) := by decide +kernel
theorem dX3_night_77 : decode cX3_night 77 = .ok (.goto (-52), 3) := by decide +kernel
theorem dX3_night_80 : decode cX3_night 80 = .ok (.iload_n 3, 1) := by decide +kernel
theorem dX3_night_81 : decode cX3_night 81 = .ok (.ireturn, 1) := by decide +kernel
theorem dX3_enough_0 : decode cX3_enough 0 = .ok (.aload_n 0, 1) := by decide +kernel
theorem dX3_enough_1 : decode cX3_enough 1 = .ok (.iload_n 1, 1) := by decide +kernel
theorem dX3_enough_2 : decode cX3_enough 2 = .ok (.invokevirtual 100, 3) := by decide +kernel
theorem dX3_enough_5 : decode cX3_enough 5 = .ok (.ifCond .eq 24, 3) := by decide +kernel
theorem dX3_enough_8 : decode cX3_enough 8 = .ok (.iload_n 2, 1) := by decide +kernel
theorem dX3_enough_9 : decode cX3_enough 9 = .ok (.iconst 0, 1) := by decide +kernel
theorem dX3_enough_10 : decode cX3_enough 10 = .ok (.bipush 100, 2) := by decide +kernel
theorem dX3_enough_12 : decode cX3_enough 12 = .ok (.invokestatic 44, 3) := by decide +kernel
theorem dX3_enough_15 : decode cX3_enough 15 = .ok (.ifCond .eq 14, 3) := by decide +kernel
theorem dX3_enough_18 : decode cX3_enough 18 = .ok (.iload_n 3, 1) := by decide +kernel
theorem dX3_enough_19 : decode cX3_enough 19 = .ok (.iconst 0, 1) := by decide +kernel
theorem dX3_enough_20 : decode cX3_enough 20 = .ok (.sipush 200, 3) := by decide +kernel
theorem dX3_enough_23 : decode cX3_enough 23 = .ok (.invokestatic 44, 3) := by decide +kernel
theorem dX3_enough_26 : decode cX3_enough 26 = .ok (.ifCond .ne 9, 3) := by decide +kernel
theorem dX3_enough_29 : decode cX3_enough 29 = .ok (.aload_n 0, 1) := by decide +kernel
theorem dX3_enough_30 : decode cX3_enough 30 = .ok (.iconst 0, 1) := by decide +kernel
theorem dX3_enough_31 : decode cX3_enough 31 = .ok (.invokevirtual 48, 3) := by decide +kernel
theorem dX3_enough_34 : decode cX3_enough 34 = .ok (.ireturn, 1) := by decide +kernel
theorem dX3_enough_35 : decode cX3_enough 35 = .ok (.iconst 0, 1) := by decide +kernel
theorem dX3_enough_36 : decode cX3_enough 36 = .ok (.istore 4, 2) := by decide +kernel
theorem dX3_enough_38 : decode cX3_enough 38 = .ok (.iload 4, 2) := by decide +kernel
theorem dX3_enough_40 : decode cX3_enough 40 = .ok (.bipush 99, 2) := by decide +kernel
theorem dX3_enough_42 : decode cX3_enough 42 = .ok (.if_icmp .gt 36, 3) := by decide +kernel
theorem dX3_enough_45 : decode cX3_enough 45 = .ok (.aload_n 0, 1) := by decide +kernel
theorem dX3_enough_46 : decode cX3_enough 46 = .ok (.invokevirtual 145, 3) := by decide +kernel
theorem dX3_enough_49 : decode cX3_enough 49 = .ok (.aload_n 0, 1) := by decide +kernel
theorem dX3_enough_50 : decode cX3_enough 50 = .ok (.getfield 16, 3) := by decide +kernel
theorem dX3_enough_53 : decode cX3_enough 53 = .ok (.iload_n 1, 1) := by decide +kernel
theorem dX3_enough_54 : decode cX3_enough 54 = .ok (.iload 4, 2) := by decide +kernel
theorem dX3_enough_56 : decode cX3_enough 56 = .ok (.invokevirtual 130, 3) := by decide +kernel
theorem dX3_enough_59 : decode cX3_enough 59 = .ok (.aload_n 0, 1) := by decide +kernel
theorem dX3_enough_60 : decode cX3_enough 60 = .ok (.iload_n 1, 1) := by decide +kernel
theorem dX3_enough_61 : decode cX3_enough 61 = .ok (.iload_n 2, 1) := by decide +kernel
theorem dX3_enough_62 : decode cX3_enough 62 = .ok (.invokevirtual 155, 3) := by decide +kernel
theorem dX3_enough_65 : decode cX3_enough 65 = .ok (.iload_n 3, 1) := by decide +kernel
theorem dX3_enough_66 : decode cX3_enough 66 = .ok (.if_icmp .lt 6, 3) := by decide +kernel
theorem dX3_enough_69 : decode cX3_enough 69 = .ok (.iload 4, 2) := by decide +kernel
theorem dX3_enough_71 : decode cX3_enough 71 = .ok (.ireturn, 1) := by decide +kernel
theorem dX3_enough_72 : decode cX3_enough 72 = .ok (.iinc 4 1, 3) := by decide +kernel
theorem dX3_enough_75 : decode cX3_enough 75 = .ok (.goto (-37), 3) := by decide +kernel
theorem dX3_enough_78 : decode cX3_enough 78 = .ok (.aload_n 0, 1) := by decide +kernel
theorem dX3_enough_79 : decode cX3_enough 79 = .ok (.iconst 3, 1) := by decide +kernel
theorem dX3_enough_80 : decode cX3_enough 80 = .ok (.invokevirtual 48, 3) := by decide +kernel
theorem dX3_enough_83 : decode cX3_enough 83 = .ok (.ireturn, 1) := by decide +kernel
theorem dX3_whom_0 : decode cX3_whom 0 = .ok (.iload_n 1, 1) := by decide +kernel
theorem dX3_whom_1 : decode cX3_whom 1 = .ok (.iconst 1, 1) := by decide +kernel
theorem dX3_whom_2 : decode cX3_whom 2 = .ok (.bipush 99, 2) := by decide +kernel
theorem dX3_whom_4 : decode cX3_whom 4 = .ok (.invokestatic 44, 3) := by decide +kernel
theorem dX3_whom_7 : decode cX3_whom 7 = .ok (.ifCond .eq 13, 3) := by decide +kernel
theorem dX3_whom_10 : decode cX3_whom 10 = .ok (.iload_n 2, 1) := by decide +kernel
theorem dX3_whom_11 : decode cX3_whom 11 = .ok (.iconst 0, 1) := by decide +kernel
theorem dX3_whom_12 : decode cX3_whom 12 = .ok (.bipush 100, 2) := by decide +kernel
theorem dX3_whom_14 : decode cX3_whom 14 = .ok (.invokestatic 44, 3) := by decide +kernel
theorem dX3_whom_17 : decode cX3_whom 17 = .ok (.ifCond .ne 9, 3) := by decide +kernel
theorem dX3_whom_20 : decode cX3_whom 20 = .ok (.aload_n 0, 1) := by decide +kernel
theorem dX3_whom_21 : decode cX3_whom 21 = .ok (.iconst 0, 1) := by decide +kernel
theorem dX3_whom_22 : decode cX3_whom 22 = .ok (.invokevirtual 48, 3) := by decide +kernel
theorem dX3_whom_25 : decode cX3_whom 25 = .ok (.ireturn, 1) := by decide +kernel
theorem dX3_whom_26 : decode cX3_whom 26 = .ok (.iconst (-1), 1) := by decide +kernel
theorem dX3_whom_27 : decode cX3_whom 27 = .ok (.istore_n 3, 1) := by decide +kernel
theorem dX3_whom_28 : decode cX3_whom 28 = .ok (.iconst (-1), 1) := by decide +kernel
theorem dX3_whom_29 : decode cX3_whom 29 = .ok (.istore 4, 2) := by decide +kernel
theorem dX3_whom_31 : decode cX3_whom 31 = .ok (.iconst 0, 1) := by decide +kernel
theorem dX3_whom_32 : decode cX3_whom 32 = .ok (.istore 5, 2) := by decide +kernel
theorem dX3_whom_34 : decode cX3_whom 34 = .ok (.iload 5, 2) := by decide +kernel
theorem dX3_whom_36 : decode cX3_whom 36 = .ok (.aload_n 0, 1) := by decide +kernel
theorem dX3_whom_37 : decode cX3_whom 37 = .ok (.getfield 10, 3) := by decide +kernel
theorem dX3_whom_40 : decode cX3_whom 40 = .ok (.getfield 159, 3) := by decide +kernel
theorem dX3_whom_43 : decode cX3_whom 43 = .ok (.if_icmp .ge 45, 3) := by decide +kernel
theorem dX3_whom_46 : decode cX3_whom 46 = .ok (.aload_n 0, 1) := by decide +kernel
theorem dX3_whom_47 : decode cX3_whom 47 = .ok (.invokevirtual 145, 3) := by decide +kernel
theorem dX3_whom_50 : decode cX3_whom 50 = .ok (.aload_n 0, 1) := by decide +kernel
theorem dX3_whom_51 : decode cX3_whom 51 = .ok (.getfield 16, 3) := by decide +kernel
theorem dX3_whom_54 : decode cX3_whom 54 = .ok (.iload 5, 2) := by decide +kernel
theorem dX3_whom_56 : decode cX3_whom 56 = .ok (.iload_n 1, 1) := by decide +kernel
theorem dX3_whom_57 : decode cX3_whom 57 = .ok (.invokevirtual 130, 3) := by decide +kernel
theorem dX3_whom_60 : decode cX3_whom 60 = .ok (.aload_n 0, 1) := by decide +kernel
theorem dX3_whom_61 : decode cX3_whom 61 = .ok (.iload 5, 2) := by decide +kernel
theorem dX3_whom_63 : decode cX3_whom 63 = .ok (.iload_n 2, 1) := by decide +kernel
theorem dX3_whom_64 : decode cX3_whom 64 = .ok (.invokevirtual 155, 3) := by decide +kernel
theorem dX3_whom_67 : decode cX3_whom 67 = .ok (.istore 6, 2) := by decide +kernel
theorem dX3_whom_69 : decode cX3_whom 69 = .ok (.iload 6, 2) := by decide +kernel
theorem dX3_whom_71 : decode cX3_whom 71 = .ok (.iload_n 3, 1) := by decide +kernel
theorem dX3_whom_72 : decode cX3_whom 72 = .ok (.if_icmp .le 10, 3) := by decide +kernel
theorem dX3_whom_75 : decode cX3_whom 75 = .ok (.iload 6, 2) := by decide +kernel
theorem dX3_whom_77 : decode cX3_whom 77 = .ok (.istore_n 3, 1) := by decide +kernel
theorem dX3_whom_78 : decode cX3_whom 78 = .ok (.iload 5, 2) := by decide +kernel
theorem dX3_whom_80 : decode cX3_whom 80 = .ok (.istore 4, 2) := by decide +kernel
theorem dX3_whom_82 : decode cX3_whom 82 = .ok (.iinc 5 1, 3) := by decide +kernel
theorem dX3_whom_85 : decode cX3_whom 85 = .ok (.goto (-51), 3) := by decide +kernel
theorem dX3_whom_88 : decode cX3_whom 88 = .ok (.iload 4, 2) := by decide +kernel
theorem dX3_whom_90 : decode cX3_whom 90 = .ok (.ifCond .ge 11, 3) := by decide +kernel
theorem dX3_whom_93 : decode cX3_whom 93 = .ok (.aload_n 0, 1) := by decide +kernel
theorem dX3_whom_94 : decode cX3_whom 94 = .ok (.iconst 3, 1) := by decide +kernel
theorem dX3_whom_95 : decode cX3_whom 95 = .ok (.invokevirtual 48, 3) := by decide +kernel
theorem dX3_whom_98 : decode cX3_whom 98 = .ok (.goto 5, 3) := by decide +kernel
theorem dX3_whom_101 : decode cX3_whom 101 = .ok (.iload 4, 2) := by decide +kernel
theorem dX3_whom_103 : decode cX3_whom 103 = .ok (.ireturn, 1) := by decide +kernel
theorem dX3_debtor_0 : decode cX3_debtor 0 = .ok (.iload_n 1, 1) := by decide +kernel
theorem dX3_debtor_1 : decode cX3_debtor 1 = .ok (.iconst 0, 1) := by decide +kernel
theorem dX3_debtor_2 : decode cX3_debtor 2 = .ok (.sipush 400, 3) := by decide +kernel
theorem dX3_debtor_5 : decode cX3_debtor 5 = .ok (.invokestatic 44, 3) := by decide +kernel
theorem dX3_debtor_8 : decode cX3_debtor 8 = .ok (.ifCond .ne 9, 3) := by decide +kernel
theorem dX3_debtor_11 : decode cX3_debtor 11 = .ok (.aload_n 0, 1) := by decide +kernel
theorem dX3_debtor_12 : decode cX3_debtor 12 = .ok (.iconst 0, 1) := by decide +kernel
theorem dX3_debtor_13 : decode cX3_debtor 13 = .ok (.invokevirtual 48, 3) := by decide +kernel
theorem dX3_debtor_16 : decode cX3_debtor 16 = .ok (.ireturn, 1) := by decide +kernel
theorem dX3_debtor_17 : decode cX3_debtor 17 = .ok (.aload_n 0, 1) := by decide +kernel
theorem dX3_debtor_18 : decode cX3_debtor 18 = .ok (.getfield 10, 3) := by decide +kernel
theorem dX3_debtor_21 : decode cX3_debtor 21 = .ok (.getfield 159, 3) := by decide +kernel
theorem dX3_debtor_24 : decode cX3_debtor 24 = .ok (.ifCond .ne 9, 3) := by decide +kernel
theorem dX3_debtor_27 : decode cX3_debtor 27 = .ok (.aload_n 0, 1) := by decide +kernel
theorem dX3_debtor_28 : decode cX3_debtor 28 = .ok (.iconst 3, 1) := by decide +kernel
theorem dX3_debtor_29 : decode cX3_debtor 29 = .ok (.invokevirtual 48, 3) := by decide +kernel
theorem dX3_debtor_32 : decode cX3_debtor 32 = .ok (.ireturn, 1) := by decide +kernel
theorem dX3_debtor_33 : decode cX3_debtor 33 = .ok (.aload_n 0, 1) := by decide +kernel
theorem dX3_debtor_34 : decode cX3_debtor 34 = .ok (.invokevirtual 145, 3) := by decide +kernel
theorem dX3_debtor_37 : decode cX3_debtor 37 = .ok (.aload_n 0, 1) := by decide +kernel
theorem dX3_debtor_38 : decode cX3_debtor 38 = .ok (.getfield 16, 3) := by decide +kernel
theorem dX3_debtor_41 : decode cX3_debtor 41 = .ok (.iload_n 1, 1) := by decide +kernel
theorem dX3_debtor_42 : decode cX3_debtor 42 = .ok (.invokevirtual 141, 3) := by decide +kernel
theorem dX3_debtor_45 : decode cX3_debtor 45 = .ok (.aload_n 0, 1) := by decide +kernel
theorem dX3_debtor_46 : decode cX3_debtor 46 = .ok (.getfield 16, 3) := by decide +kernel
theorem dX3_debtor_49 : decode cX3_debtor 49 = .ok (.aload_n 0, 1) := by decide +kernel
theorem dX3_debtor_50 : decode cX3_debtor 50 = .ok (.getfield 16, 3) := by decide +kernel
theorem dX3_debtor_53 : decode cX3_debtor 53 = .ok (.getfield 110, 3) := by decide +kernel
theorem dX3_debtor_56 : decode cX3_debtor 56 = .ok (.invokevirtual 165, 3) := by decide +kernel
theorem dX3_debtor_59 : decode cX3_debtor 59 = .ok (.ireturn, 1) := by decide +kernel
theorem dX3_feed_0 : decode cX3_feed 0 = .ok (.iload_n 2, 1) := by decide +kernel
theorem dX3_feed_1 : decode cX3_feed 1 = .ok (.iconst 1, 1) := by decide +kernel
theorem dX3_feed_2 : decode cX3_feed 2 = .ok (.iconst 4, 1) := by decide +kernel
theorem dX3_feed_3 : decode cX3_feed 3 = .ok (.invokestatic 44, 3) := by decide +kernel
theorem dX3_feed_6 : decode cX3_feed 6 = .ok (.ifCond .ne 9, 3) := by decide +kernel
theorem dX3_feed_9 : decode cX3_feed 9 = .ok (.aload_n 0, 1) := by decide +kernel
theorem dX3_feed_10 : decode cX3_feed 10 = .ok (.iconst 0, 1) := by decide +kernel
theorem dX3_feed_11 : decode cX3_feed 11 = .ok (.invokevirtual 48, 3) := by decide +kernel
theorem dX3_feed_14 : decode cX3_feed 14 = .ok (.ireturn, 1) := by decide +kernel
theorem dX3_feed_15 : decode cX3_feed 15 = .ok (.aload_n 0, 1) := by decide +kernel
theorem dX3_feed_16 : decode cX3_feed 16 = .ok (.getfield 29, 3) := by decide +kernel
theorem dX3_feed_19 : decode cX3_feed 19 = .ok (.iload_n 2, 1) := by decide +kernel
theorem dX3_feed_20 : decode cX3_feed 20 = .ok (.invokevirtual 168, 3) := by decide +kernel
theorem dX3_feed_23 : decode cX3_feed 23 = .ok (.ifCond .ne 9, 3) := by decide +kernel
theorem dX3_feed_26 : decode cX3_feed 26 = .ok (.aload_n 0, 1) := by decide +kernel
theorem dX3_feed_27 : decode cX3_feed 27 = .ok (.iconst 1, 1) := by decide +kernel
theorem dX3_feed_28 : decode cX3_feed 28 = .ok (.invokevirtual 48, 3) := by decide +kernel
theorem dX3_feed_31 : decode cX3_feed 31 = .ok (.ireturn, 1) := by decide +kernel
theorem dX3_feed_32 : decode cX3_feed 32 = .ok (.iload_n 2, 1) := by decide +kernel
theorem dX3_feed_33 : decode cX3_feed 33 = .ok (.iconst 1, 1) := by decide +kernel
theorem dX3_feed_34 : decode cX3_feed 34 = .ok (.isub, 1) := by decide +kernel
theorem dX3_feed_35 : decode cX3_feed 35 = .ok (.istore_n 3, 1) := by decide +kernel
theorem dX3_feed_36 : decode cX3_feed 36 = .ok (.iload_n 3, 1) := by decide +kernel
theorem dX3_feed_37 : decode cX3_feed 37 = .ok (.ifCond .lt 23, 3) := by decide +kernel
theorem dX3_feed_40 : decode cX3_feed 40 = .ok (.aload_n 0, 1) := by decide +kernel
theorem dX3_feed_41 : decode cX3_feed 41 = .ok (.getfield 29, 3) := by decide +kernel
theorem dX3_feed_44 : decode cX3_feed 44 = .ok (.iload_n 1, 1) := by decide +kernel
theorem dX3_feed_45 : decode cX3_feed 45 = .ok (.bipush 8, 2) := by decide +kernel
theorem dX3_feed_47 : decode cX3_feed 47 = .ok (.iload_n 3, 1) := by decide +kernel
theorem dX3_feed_48 : decode cX3_feed 48 = .ok (.imul, 1) := by decide +kernel
theorem dX3_feed_49 : decode cX3_feed 49 = .ok (.ishr, 1) := by decide +kernel
theorem dX3_feed_50 : decode cX3_feed 50 = .ok (.i2b, 1) := by decide +kernel
theorem dX3_feed_51 : decode cX3_feed 51 = .ok (.invokevirtual 171, 3) := by decide +kernel
theorem dX3_feed_54 : decode cX3_feed 54 = .ok (.iinc 3 (-1), 3) := by decide +kernel
theorem dX3_feed_57 : decode cX3_feed 57 = .ok (.goto (-21), 3) := by decide +kernel
theorem dX3_feed_60 : decode cX3_feed 60 = .ok (.aload_n 0, 1) := by decide +kernel
theorem dX3_feed_61 : decode cX3_feed 61 = .ok (.getfield 29, 3) := by decide +kernel
theorem dX3_feed_64 : decode cX3_feed 64 = .ok (.getfield 175, 3) := by decide +kernel
theorem dX3_feed_67 : decode cX3_feed 67 = .ok (.ireturn, 1) := by decide +kernel
theorem dX3_wipe_0 : decode cX3_wipe 0 = .ok (.aload_n 0, 1) := by decide +kernel
theorem dX3_wipe_1 : decode cX3_wipe 1 = .ok (.getfield 29, 3) := by decide +kernel
theorem dX3_wipe_4 : decode cX3_wipe 4 = .ok (.getfield 175, 3) := by decide +kernel
theorem dX3_wipe_7 : decode cX3_wipe 7 = .ok (.istore_n 1, 1) := by decide +kernel
theorem dX3_wipe_8 : decode cX3_wipe 8 = .ok (.aload_n 0, 1) := by decide +kernel
theorem dX3_wipe_9 : decode cX3_wipe 9 = .ok (.getfield 29, 3) := by decide +kernel
theorem dX3_wipe_12 : decode cX3_wipe 12 = .ok (.iconst 0, 1) := by decide +kernel
theorem dX3_wipe_13 : decode cX3_wipe 13 = .ok (.putfield 175, 3) := by decide +kernel
theorem dX3_wipe_16 : decode cX3_wipe 16 = .ok (.iload_n 1, 1) := by decide +kernel
theorem dX3_wipe_17 : decode cX3_wipe 17 = .ok (.ireturn, 1) := by decide +kernel
theorem dX3_ground_0 : decode cX3_ground 0 = .ok (.aload_n 0, 1) := by decide +kernel
theorem dX3_ground_1 : decode cX3_ground 1 = .ok (.invokevirtual 145, 3) := by decide +kernel
theorem dX3_ground_4 : decode cX3_ground 4 = .ok (.aload_n 0, 1) := by decide +kernel
theorem dX3_ground_5 : decode cX3_ground 5 = .ok (.getfield 29, 3) := by decide +kernel
theorem dX3_ground_8 : decode cX3_ground 8 = .ok (.aload_n 0, 1) := by decide +kernel
theorem dX3_ground_9 : decode cX3_ground 9 = .ok (.getfield 16, 3) := by decide +kernel
theorem dX3_ground_12 : decode cX3_ground 12 = .ok (.invokevirtual 178, 3) := by decide +kernel
theorem dX3_ground_15 : decode cX3_ground 15 = .ok (.istore_n 1, 1) := by decide +kernel
theorem dX3_ground_16 : decode cX3_ground 16 = .ok (.aload_n 0, 1) := by decide +kernel
theorem dX3_ground_17 : decode cX3_ground 17 = .ok (.getfield 29, 3) := by decide +kernel
theorem dX3_ground_20 : decode cX3_ground 20 = .ok (.iconst 0, 1) := by decide +kernel
theorem dX3_ground_21 : decode cX3_ground 21 = .ok (.putfield 175, 3) := by decide +kernel
theorem dX3_ground_24 : decode cX3_ground 24 = .ok (.iload_n 1, 1) := by decide +kernel
theorem dX3_ground_25 : decode cX3_ground 25 = .ok (.ifCond .lt 14, 3) := by decide +kernel
theorem dX3_ground_28 : decode cX3_ground 28 = .ok (.aload_n 0, 1) := by decide +kernel
theorem dX3_ground_29 : decode cX3_ground 29 = .ok (.getfield 10, 3) := by decide +kernel
theorem dX3_ground_32 : decode cX3_ground 32 = .ok (.aload_n 0, 1) := by decide +kernel
theorem dX3_ground_33 : decode cX3_ground 33 = .ok (.getfield 16, 3) := by decide +kernel
theorem dX3_ground_36 : decode cX3_ground 36 = .ok (.invokevirtual 182, 3) := by decide +kernel
theorem dX3_ground_39 : decode cX3_ground 39 = .ok (.iload_n 1, 1) := by decide +kernel
theorem dX3_ground_40 : decode cX3_ground 40 = .ok (.ireturn, 1) := by decide +kernel
theorem dX3_sheet_0 : decode cX3_sheet 0 = .ok (.iload_n 1, 1) := by decide +kernel
theorem dX3_sheet_1 : decode cX3_sheet 1 = .ok (.invokestatic 186, 3) := by decide +kernel
theorem dX3_sheet_4 : decode cX3_sheet 4 = .ok (.ifCond .eq 10, 3) := by decide +kernel
theorem dX3_sheet_7 : decode cX3_sheet 7 = .ok (.iload_n 2, 1) := by decide +kernel
theorem dX3_sheet_8 : decode cX3_sheet 8 = .ok (.invokestatic 189, 3) := by decide +kernel
theorem dX3_sheet_11 : decode cX3_sheet 11 = .ok (.ifCond .ne 9, 3) := by decide +kernel
theorem dX3_sheet_14 : decode cX3_sheet 14 = .ok (.aload_n 0, 1) := by decide +kernel
theorem dX3_sheet_15 : decode cX3_sheet 15 = .ok (.iconst 0, 1) := by decide +kernel
theorem dX3_sheet_16 : decode cX3_sheet 16 = .ok (.invokevirtual 48, 3) := by decide +kernel
theorem dX3_sheet_19 : decode cX3_sheet 19 = .ok (.ireturn, 1) := by decide +kernel
theorem dX3_sheet_20 : decode cX3_sheet 20 = .ok (.iload_n 3, 1) := by decide +kernel
theorem dX3_sheet_21 : decode cX3_sheet 21 = .ok (.ifCond .ge 10, 3) := by decide +kernel
theorem dX3_sheet_24 : decode cX3_sheet 24 = .ok (.aload_n 0, 1) := by decide +kernel
theorem dX3_sheet_25 : decode cX3_sheet 25 = .ok (.bipush 6, 2) := by decide +kernel
theorem dX3_sheet_27 : decode cX3_sheet 27 = .ok (.invokevirtual 48, 3) := by decide +kernel
theorem dX3_sheet_30 : decode cX3_sheet 30 = .ok (.ireturn, 1) := by decide +kernel
theorem dX3_sheet_31 : decode cX3_sheet 31 = .ok (.iload_n 3, 1) := by decide +kernel
theorem dX3_sheet_32 : decode cX3_sheet 32 = .ok (.bipush 40, 2) := by decide +kernel
theorem dX3_sheet_34 : decode cX3_sheet 34 = .ok (.if_icmp .le 9, 3) := by decide +kernel
theorem dX3_sheet_37 : decode cX3_sheet 37 = .ok (.aload_n 0, 1) := by decide +kernel
theorem dX3_sheet_38 : decode cX3_sheet 38 = .ok (.iconst 0, 1) := by decide +kernel
theorem dX3_sheet_39 : decode cX3_sheet 39 = .ok (.invokevirtual 48, 3) := by decide +kernel
theorem dX3_sheet_42 : decode cX3_sheet 42 = .ok (.ireturn, 1) := by decide +kernel
theorem dX3_sheet_43 : decode cX3_sheet 43 = .ok (.aload_n 0, 1) := by decide +kernel
theorem dX3_sheet_44 : decode cX3_sheet 44 = .ok (.getfield 35, 3) := by decide +kernel
theorem dX3_sheet_47 : decode cX3_sheet 47 = .ok (.iload_n 1, 1) := by decide +kernel
theorem dX3_sheet_48 : decode cX3_sheet 48 = .ok (.aaload, 1) := by decide +kernel
theorem dX3_sheet_49 : decode cX3_sheet 49 = .ok (.iload_n 2, 1) := by decide +kernel
theorem dX3_sheet_50 : decode cX3_sheet 50 = .ok (.iload_n 3, 1) := by decide +kernel
theorem dX3_sheet_51 : decode cX3_sheet 51 = .ok (.invokevirtual 192, 3) := by decide +kernel
theorem dX3_sheet_54 : decode cX3_sheet 54 = .ok (.aload_n 0, 1) := by decide +kernel
theorem dX3_sheet_55 : decode cX3_sheet 55 = .ok (.getfield 35, 3) := by decide +kernel
theorem dX3_sheet_58 : decode cX3_sheet 58 = .ok (.iload_n 1, 1) := by decide +kernel
theorem dX3_sheet_59 : decode cX3_sheet 59 = .ok (.aaload, 1) := by decide +kernel
theorem dX3_sheet_60 : decode cX3_sheet 60 = .ok (.getfield 195, 3) := by decide +kernel
theorem dX3_sheet_63 : decode cX3_sheet 63 = .ok (.ireturn, 1) := by decide +kernel
theorem dX3_write_0 : decode cX3_write 0 = .ok (.iload_n 1, 1) := by decide +kernel
theorem dX3_write_1 : decode cX3_write 1 = .ok (.invokestatic 186, 3) := by decide +kernel
theorem dX3_write_4 : decode cX3_write 4 = .ok (.ifCond .ne 10, 3) := by decide +kernel
theorem dX3_write_7 : decode cX3_write 7 = .ok (.aload_n 0, 1) := by decide +kernel
theorem dX3_write_8 : decode cX3_write 8 = .ok (.iconst 0, 1) := by decide +kernel
theorem dX3_write_9 : decode cX3_write 9 = .ok (.invokevirtual 48, 3) := by decide +kernel
theorem dX3_write_12 : decode cX3_write 12 = .ok (.i2l, 1) := by decide +kernel
theorem dX3_write_13 : decode cX3_write 13 = .ok (.lreturn, 1) := by decide +kernel
theorem dX3_write_14 : decode cX3_write 14 = .ok (.aload_n 0, 1) := by decide +kernel
theorem dX3_write_15 : decode cX3_write 15 = .ok (.getfield 35, 3) := by decide +kernel
theorem dX3_write_18 : decode cX3_write 18 = .ok (.iload_n 1, 1) := by decide +kernel
theorem dX3_write_19 : decode cX3_write 19 = .ok (.aaload, 1) := by decide +kernel
theorem dX3_write_20 : decode cX3_write 20 = .ok (.astore 5, 2) := by decide +kernel
theorem dX3_write_22 : decode cX3_write 22 = .ok (.aload 5, 2) := by decide +kernel
theorem dX3_write_24 : decode cX3_write 24 = .ok (.invokevirtual 196, 3) := by decide +kernel
theorem dX3_write_27 : decode cX3_write 27 = .ok (.ifCond .eq 10, 3) := by decide +kernel
theorem dX3_write_30 : decode cX3_write 30 = .ok (.aload_n 0, 1) := by decide +kernel
theorem dX3_write_31 : decode cX3_write 31 = .ok (.iconst 5, 1) := by decide +kernel
theorem dX3_write_32 : decode cX3_write 32 = .ok (.invokevirtual 48, 3) := by decide +kernel
theorem dX3_write_35 : decode cX3_write 35 = .ok (.i2l, 1) := by decide +kernel
theorem dX3_write_36 : decode cX3_write 36 = .ok (.lreturn, 1) := by decide +kernel
theorem dX3_write_37 : decode cX3_write 37 = .ok (.aload 5, 2) := by decide +kernel
theorem dX3_write_39 : decode cX3_write 39 = .ok (.iload_n 2, 1) := by decide +kernel
theorem dX3_write_40 : decode cX3_write 40 = .ok (.iconst 1, 1) := by decide +kernel
theorem dX3_write_41 : decode cX3_write 41 = .ok (.invokevirtual 199, 3) := by decide +kernel
theorem dX3_write_44 : decode cX3_write 44 = .ok (.ifCond .ne 10, 3) := by decide +kernel
theorem dX3_write_47 : decode cX3_write 47 = .ok (.aload_n 0, 1) := by decide +kernel
theorem dX3_write_48 : decode cX3_write 48 = .ok (.iconst 0, 1) := by decide +kernel
theorem dX3_write_49 : decode cX3_write 49 = .ok (.invokevirtual 48, 3) := by decide +kernel
theorem dX3_write_52 : decode cX3_write 52 = .ok (.i2l, 1) := by decide +kernel
theorem dX3_write_53 : decode cX3_write 53 = .ok (.lreturn, 1) := by decide +kernel
theorem dX3_write_54 : decode cX3_write 54 = .ok (.aload 5, 2) := by decide +kernel
theorem dX3_write_56 : decode cX3_write 56 = .ok (.getfield 202, 3) := by decide +kernel
theorem dX3_write_59 : decode cX3_write 59 = .ok (.iload_n 2, 1) := by decide +kernel
theorem dX3_write_60 : decode cX3_write 60 = .ok (.laload, 1) := by decide +kernel
theorem dX3_write_61 : decode cX3_write 61 = .ok (.lstore 6, 2) := by decide +kernel
theorem dX3_write_63 : decode cX3_write 63 = .ok (.aload 5, 2) := by decide +kernel
theorem dX3_write_65 : decode cX3_write 65 = .ok (.iload_n 2, 1) := by decide +kernel
theorem dX3_write_66 : decode cX3_write 66 = .ok (.lload_n 3, 1) := by decide +kernel
theorem dX3_write_67 : decode cX3_write 67 = .ok (.invokevirtual 206, 3) := by decide +kernel
theorem dX3_write_70 : decode cX3_write 70 = .ok (.lload 6, 2) := by decide +kernel
theorem dX3_write_72 : decode cX3_write 72 = .ok (.lreturn, 1) := by decide +kernel
theorem dX3_copy_0 : decode cX3_copy 0 = .ok (.iload_n 1, 1) := by decide +kernel
theorem dX3_copy_1 : decode cX3_copy 1 = .ok (.invokestatic 186, 3) := by decide +kernel
theorem dX3_copy_4 : decode cX3_copy 4 = .ok (.ifCond .eq 10, 3) := by decide +kernel
theorem dX3_copy_7 : decode cX3_copy 7 = .ok (.iload_n 3, 1) := by decide +kernel
theorem dX3_copy_8 : decode cX3_copy 8 = .ok (.invokestatic 186, 3) := by decide +kernel
theorem dX3_copy_11 : decode cX3_copy 11 = .ok (.ifCond .ne 9, 3) := by decide +kernel
theorem dX3_copy_14 : decode cX3_copy 14 = .ok (.aload_n 0, 1) := by decide +kernel
theorem dX3_copy_15 : decode cX3_copy 15 = .ok (.iconst 0, 1) := by decide +kernel
theorem dX3_copy_16 : decode cX3_copy 16 = .ok (.invokevirtual 48, 3) := by decide +kernel
theorem dX3_copy_19 : decode cX3_copy 19 = .ok (.ireturn, 1) := by decide +kernel
theorem dX3_copy_20 : decode cX3_copy 20 = .ok (.aload_n 0, 1) := by decide +kernel
theorem dX3_copy_21 : decode cX3_copy 21 = .ok (.getfield 35, 3) := by decide +kernel
theorem dX3_copy_24 : decode cX3_copy 24 = .ok (.iload_n 1, 1) := by decide +kernel
theorem dX3_copy_25 : decode cX3_copy 25 = .ok (.aaload, 1) := by decide +kernel
theorem dX3_copy_26 : decode cX3_copy 26 = .ok (.astore 6, 2) := by decide +kernel
theorem dX3_copy_28 : decode cX3_copy 28 = .ok (.aload_n 0, 1) := by decide +kernel
theorem dX3_copy_29 : decode cX3_copy 29 = .ok (.getfield 35, 3) := by decide +kernel
theorem dX3_copy_32 : decode cX3_copy 32 = .ok (.iload_n 3, 1) := by decide +kernel
theorem dX3_copy_33 : decode cX3_copy 33 = .ok (.aaload, 1) := by decide +kernel
theorem dX3_copy_34 : decode cX3_copy 34 = .ok (.astore 7, 2) := by decide +kernel
theorem dX3_copy_36 : decode cX3_copy 36 = .ok (.aload 6, 2) := by decide +kernel
theorem dX3_copy_38 : decode cX3_copy 38 = .ok (.invokevirtual 196, 3) := by decide +kernel
theorem dX3_copy_41 : decode cX3_copy 41 = .ok (.ifCond .ne 11, 3) := by decide +kernel
theorem dX3_copy_44 : decode cX3_copy 44 = .ok (.aload 7, 2) := by decide +kernel
theorem dX3_copy_46 : decode cX3_copy 46 = .ok (.invokevirtual 196, 3) := by decide +kernel
theorem dX3_copy_49 : decode cX3_copy 49 = .ok (.ifCond .eq 9, 3) := by decide +kernel
theorem dX3_copy_52 : decode cX3_copy 52 = .ok (.aload_n 0, 1) := by decide +kernel
theorem dX3_copy_53 : decode cX3_copy 53 = .ok (.iconst 5, 1) := by decide +kernel
theorem dX3_copy_54 : decode cX3_copy 54 = .ok (.invokevirtual 48, 3) := by decide +kernel
theorem dX3_copy_57 : decode cX3_copy 57 = .ok (.ireturn, 1) := by decide +kernel
theorem dX3_copy_58 : decode cX3_copy 58 = .ok (.aload 6, 2) := by decide +kernel
theorem dX3_copy_60 : decode cX3_copy 60 = .ok (.getfield 210, 3) := by decide +kernel
theorem dX3_copy_63 : decode cX3_copy 63 = .ok (.aload 7, 2) := by decide +kernel
theorem dX3_copy_65 : decode cX3_copy 65 = .ok (.getfield 210, 3) := by decide +kernel
theorem dX3_copy_68 : decode cX3_copy 68 = .ok (.if_icmp .eq 9, 3) := by decide +kernel
theorem dX3_copy_71 : decode cX3_copy 71 = .ok (.aload_n 0, 1) := by decide +kernel
theorem dX3_copy_72 : decode cX3_copy 72 = .ok (.iconst 2, 1) := by decide +kernel
theorem dX3_copy_73 : decode cX3_copy 73 = .ok (.invokevirtual 48, 3) := by decide +kernel
theorem dX3_copy_76 : decode cX3_copy 76 = .ok (.ireturn, 1) := by decide +kernel
theorem dX3_copy_77 : decode cX3_copy 77 = .ok (.aload 6, 2) := by decide +kernel
theorem dX3_copy_79 : decode cX3_copy 79 = .ok (.iload_n 2, 1) := by decide +kernel
theorem dX3_copy_80 : decode cX3_copy 80 = .ok (.iload 5, 2) := by decide +kernel
theorem dX3_copy_82 : decode cX3_copy 82 = .ok (.invokevirtual 199, 3) := by decide +kernel
theorem dX3_copy_85 : decode cX3_copy 85 = .ok (.ifCond .eq 15, 3) := by decide +kernel
theorem dX3_copy_88 : decode cX3_copy 88 = .ok (.aload 7, 2) := by decide +kernel
theorem dX3_copy_90 : decode cX3_copy 90 = .ok (.iload 4, 2) := by decide +kernel
theorem dX3_copy_92 : decode cX3_copy 92 = .ok (.iload 5, 2) := by decide +kernel
theorem dX3_copy_94 : decode cX3_copy 94 = .ok (.invokevirtual 199, 3) := by decide +kernel
theorem dX3_copy_97 : decode cX3_copy 97 = .ok (.ifCond .ne 9, 3) := by decide +kernel
theorem dX3_copy_100 : decode cX3_copy 100 = .ok (.aload_n 0, 1) := by decide +kernel
theorem dX3_copy_101 : decode cX3_copy 101 = .ok (.iconst 0, 1) := by decide +kernel
theorem dX3_copy_102 : decode cX3_copy 102 = .ok (.invokevirtual 48, 3) := by decide +kernel
theorem dX3_copy_105 : decode cX3_copy 105 = .ok (.ireturn, 1) := by decide +kernel
theorem dX3_copy_106 : decode cX3_copy 106 = .ok (.aload 6, 2) := by decide +kernel
theorem dX3_copy_108 : decode cX3_copy 108 = .ok (.getfield 202, 3) := by decide +kernel
theorem dX3_copy_111 : decode cX3_copy 111 = .ok (.iload_n 2, 1) := by decide +kernel
theorem dX3_copy_112 : decode cX3_copy 112 = .ok (.aload 7, 2) := by decide +kernel
theorem dX3_copy_114 : decode cX3_copy 114 = .ok (.getfield 202, 3) := by decide +kernel
theorem dX3_copy_117 : decode cX3_copy 117 = .ok (.iload 4, 2) := by decide +kernel
theorem dX3_copy_119 : decode cX3_copy 119 = .ok (.iload 5, 2) := by decide +kernel
theorem dX3_copy_121 : decode cX3_copy 121 = .ok (.invokestatic 213, 3) := by decide +kernel
theorem dX3_copy_124 : decode cX3_copy 124 = .ok (.iload 5, 2) := by decide +kernel
theorem dX3_copy_126 : decode cX3_copy 126 = .ok (.ireturn, 1) := by decide +kernel
theorem dX3_lays_0 : decode cX3_lays 0 = .ok (.iload_n 1, 1) := by decide +kernel
theorem dX3_lays_1 : decode cX3_lays 1 = .ok (.invokestatic 186, 3) := by decide +kernel
theorem dX3_lays_4 : decode cX3_lays 4 = .ok (.ifCond .ne 9, 3) := by decide +kernel
theorem dX3_lays_7 : decode cX3_lays 7 = .ok (.aload_n 0, 1) := by decide +kernel
theorem dX3_lays_8 : decode cX3_lays 8 = .ok (.iconst 0, 1) := by decide +kernel
theorem dX3_lays_9 : decode cX3_lays 9 = .ok (.invokevirtual 48, 3) := by decide +kernel
theorem dX3_lays_12 : decode cX3_lays 12 = .ok (.ireturn, 1) := by decide +kernel
theorem dX3_lays_13 : decode cX3_lays 13 = .ok (.aload_n 0, 1) := by decide +kernel
theorem dX3_lays_14 : decode cX3_lays 14 = .ok (.getfield 35, 3) := by decide +kernel
theorem dX3_lays_17 : decode cX3_lays 17 = .ok (.iload_n 1, 1) := by decide +kernel
theorem dX3_lays_18 : decode cX3_lays 18 = .ok (.aaload, 1) := by decide +kernel
theorem dX3_lays_19 : decode cX3_lays 19 = .ok (.astore_n 2, 1) := by decide +kernel
theorem dX3_lays_20 : decode cX3_lays 20 = .ok (.aload_n 2, 1) := by decide +kernel
theorem dX3_lays_21 : decode cX3_lays 21 = .ok (.invokevirtual 196, 3) := by decide +kernel
theorem dX3_lays_24 : decode cX3_lays 24 = .ok (.ifCond .eq 9, 3) := by decide +kernel
theorem dX3_lays_27 : decode cX3_lays 27 = .ok (.aload_n 0, 1) := by decide +kernel
theorem dX3_lays_28 : decode cX3_lays 28 = .ok (.iconst 5, 1) := by decide +kernel
theorem dX3_lays_29 : decode cX3_lays 29 = .ok (.invokevirtual 48, 3) := by decide +kernel
theorem dX3_lays_32 : decode cX3_lays 32 = .ok (.ireturn, 1) := by decide +kernel
theorem dX3_lays_33 : decode cX3_lays 33 = .ok (.iconst 0, 1) := by decide +kernel
theorem dX3_lays_34 : decode cX3_lays 34 = .ok (.istore_n 3, 1) := by decide +kernel
theorem dX3_lays_35 : decode cX3_lays 35 = .ok (.aload_n 2, 1) := by decide +kernel
theorem dX3_lays_36 : decode cX3_lays 36 = .ok (.getfield 195, 3) := by decide +kernel
theorem dX3_lays_39 : decode cX3_lays 39 = .ok (.aload_n 0, 1) := by decide +kernel
theorem dX3_lays_40 : decode cX3_lays 40 = .ok (.getfield 10, 3) := by decide +kernel
theorem dX3_lays_43 : decode cX3_lays 43 = .ok (.getfield 159, 3) := by decide +kernel
theorem dX3_lays_46 : decode cX3_lays 46 = .ok (.invokestatic 219, 3) := by decide +kernel
theorem dX3_lays_49 : decode cX3_lays 49 = .ok (.istore 4, 2) := by decide +kernel
theorem dX3_lays_51 : decode cX3_lays 51 = .ok (.iconst 0, 1) := by decide +kernel
theorem dX3_lays_52 : decode cX3_lays 52 = .ok (.istore 5, 2) := by decide +kernel
theorem dX3_lays_54 : decode cX3_lays 54 = .ok (.iload 5, 2) := by decide +kernel
theorem dX3_lays_56 : decode cX3_lays 56 = .ok (.iload 4, 2) := by decide +kernel
theorem dX3_lays_58 : decode cX3_lays 58 = .ok (.if_icmp .ge 50, 3) := by decide +kernel
theorem dX3_lays_61 : decode cX3_lays 61 = .ok (.aload_n 2, 1) := by decide +kernel
theorem dX3_lays_62 : decode cX3_lays 62 = .ok (.getfield 202, 3) := by decide +kernel
theorem dX3_lays_65 : decode cX3_lays 65 = .ok (.iload 5, 2) := by decide +kernel
theorem dX3_lays_67 : decode cX3_lays 67 = .ok (.laload, 1) := by decide +kernel
theorem dX3_lays_68 : decode cX3_lays 68 = .ok (.lstore 6, 2) := by decide +kernel
theorem dX3_lays_70 : decode cX3_lays 70 = .ok (.lload 6, 2) := by decide +kernel
theorem dX3_lays_72 : decode cX3_lays 72 = .ok (.lconst 0, 1) := by decide +kernel
theorem dX3_lays_73 : decode cX3_lays 73 = .ok (.lcmp, 1) := by decide +kernel
theorem dX3_lays_74 : decode cX3_lays 74 = .ok (.ifCond .lt 28, 3) := by decide +kernel
theorem dX3_lays_77 : decode cX3_lays 77 = .ok (.lload 6, 2) := by decide +kernel
theorem dX3_lays_79 : decode cX3_lays 79 = .ok (.ldc2_w 224, 3) := by decide +kernel
theorem dX3_lays_82 : decode cX3_lays 82 = .ok (.lcmp, 1) := by decide +kernel
theorem dX3_lays_83 : decode cX3_lays 83 = .ok (.ifCond .gt 19, 3) := by decide +kernel
theorem dX3_lays_86 : decode cX3_lays 86 = .ok (.aload_n 0, 1) := by decide +kernel
theorem dX3_lays_87 : decode cX3_lays 87 = .ok (.getfield 10, 3) := by decide +kernel
theorem dX3_lays_90 : decode cX3_lays 90 = .ok (.getfield 74, 3) := by decide +kernel
theorem dX3_lays_93 : decode cX3_lays 93 = .ok (.iload 5, 2) := by decide +kernel
theorem dX3_lays_95 : decode cX3_lays 95 = .ok (.lload 6, 2) := by decide +kernel
theorem dX3_lays_97 : decode cX3_lays 97 = .ok (.l2i, 1) := by decide +kernel
theorem dX3_lays_98 : decode cX3_lays 98 = .ok (.iastore, 1) := by decide +kernel
theorem dX3_lays_99 : decode cX3_lays 99 = .ok (.iinc 3 1, 3) := by decide +kernel
theorem dX3_lays_102 : decode cX3_lays 102 = .ok (.iinc 5 1, 3) := by decide +kernel
theorem dX3_lays_105 : decode cX3_lays 105 = .ok (.goto (-51), 3) := by decide +kernel
theorem dX3_lays_108 : decode cX3_lays 108 = .ok (.iload_n 3, 1) := by decide +kernel
theorem dX3_lays_109 : decode cX3_lays 109 = .ok (.ireturn, 1) := by decide +kernel
theorem dX3_book_0 : decode cX3_book 0 = .ok (.iload_n 1, 1) := by decide +kernel
theorem dX3_book_1 : decode cX3_book 1 = .ok (.invokestatic 186, 3) := by decide +kernel
theorem dX3_book_4 : decode cX3_book 4 = .ok (.ifCond .ne 9, 3) := by decide +kernel
theorem dX3_book_7 : decode cX3_book 7 = .ok (.aload_n 0, 1) := by decide +kernel
theorem dX3_book_8 : decode cX3_book 8 = .ok (.iconst 0, 1) := by decide +kernel
theorem dX3_book_9 : decode cX3_book 9 = .ok (.invokevirtual 48, 3) := by decide +kernel
theorem dX3_book_12 : decode cX3_book 12 = .ok (.ireturn, 1) := by decide +kernel
theorem dX3_book_13 : decode cX3_book 13 = .ok (.aload_n 0, 1) := by decide +kernel
theorem dX3_book_14 : decode cX3_book 14 = .ok (.getfield 35, 3) := by decide +kernel
theorem dX3_book_17 : decode cX3_book 17 = .ok (.iload_n 1, 1) := by decide +kernel
theorem dX3_book_18 : decode cX3_book 18 = .ok (.aaload, 1) := by decide +kernel
theorem dX3_book_19 : decode cX3_book 19 = .ok (.astore_n 3, 1) := by decide +kernel
theorem dX3_book_20 : decode cX3_book 20 = .ok (.aload_n 3, 1) := by decide +kernel
theorem dX3_book_21 : decode cX3_book 21 = .ok (.invokevirtual 196, 3) := by decide +kernel
theorem dX3_book_24 : decode cX3_book 24 = .ok (.ifCond .eq 9, 3) := by decide +kernel
theorem dX3_book_27 : decode cX3_book 27 = .ok (.aload_n 0, 1) := by decide +kernel
theorem dX3_book_28 : decode cX3_book 28 = .ok (.iconst 5, 1) := by decide +kernel
theorem dX3_book_29 : decode cX3_book 29 = .ok (.invokevirtual 48, 3) := by decide +kernel
theorem dX3_book_32 : decode cX3_book 32 = .ok (.ireturn, 1) := by decide +kernel
theorem dX3_book_33 : decode cX3_book 33 = .ok (.aload_n 0, 1) := by decide +kernel
theorem dX3_book_34 : decode cX3_book 34 = .ok (.iload_n 2, 1) := by decide +kernel
theorem dX3_book_35 : decode cX3_book 35 = .ok (.invokevirtual 100, 3) := by decide +kernel
theorem dX3_book_38 : decode cX3_book 38 = .ok (.ifCond .ne 9, 3) := by decide +kernel
theorem dX3_book_41 : decode cX3_book 41 = .ok (.aload_n 0, 1) := by decide +kernel
theorem dX3_book_42 : decode cX3_book 42 = .ok (.iconst 0, 1) := by decide +kernel
theorem dX3_book_43 : decode cX3_book 43 = .ok (.invokevirtual 48, 3) := by decide +kernel
theorem dX3_book_46 : decode cX3_book 46 = .ok (.ireturn, 1) := by decide +kernel
theorem dX3_book_47 : decode cX3_book 47 = .ok (.aload_n 0, 1) := by decide +kernel
theorem dX3_book_48 : decode cX3_book 48 = .ok (.invokevirtual 145, 3) := by decide +kernel
theorem dX3_book_51 : decode cX3_book 51 = .ok (.iconst 0, 1) := by decide +kernel
theorem dX3_book_52 : decode cX3_book 52 = .ok (.istore 4, 2) := by decide +kernel
theorem dX3_book_54 : decode cX3_book 54 = .ok (.iload 4, 2) := by decide +kernel
theorem dX3_book_56 : decode cX3_book 56 = .ok (.aload_n 3, 1) := by decide +kernel
theorem dX3_book_57 : decode cX3_book 57 = .ok (.getfield 195, 3) := by decide +kernel
theorem dX3_book_60 : decode cX3_book 60 = .ok (.if_icmp .ge 32, 3) := by decide +kernel
theorem dX3_book_63 : decode cX3_book 63 = .ok (.aload_n 3, 1) := by decide +kernel
theorem dX3_book_64 : decode cX3_book 64 = .ok (.iload 4, 2) := by decide +kernel
theorem dX3_book_66 : decode cX3_book 66 = .ok (.aload_n 0, 1) := by decide +kernel
theorem dX3_book_67 : decode cX3_book 67 = .ok (.getfield 16, 3) := by decide +kernel
theorem dX3_book_70 : decode cX3_book 70 = .ok (.getfield 74, 3) := by decide +kernel
theorem dX3_book_73 : decode cX3_book 73 = .ok (.iload_n 2, 1) := by decide +kernel
theorem dX3_book_74 : decode cX3_book 74 = .ok (.iaload, 1) := by decide +kernel
theorem dX3_book_75 : decode cX3_book 75 = .ok (.i2l, 1) := by decide +kernel
theorem dX3_book_76 : decode cX3_book 76 = .ok (.invokevirtual 206, 3) := by decide +kernel
theorem dX3_book_79 : decode cX3_book 79 = .ok (.aload_n 0, 1) := by decide +kernel
theorem dX3_book_80 : decode cX3_book 80 = .ok (.getfield 16, 3) := by decide +kernel
theorem dX3_book_83 : decode cX3_book 83 = .ok (.invokevirtual 148, 3) := by decide +kernel
theorem dX3_book_86 : decode cX3_book 86 = .ok (.iinc 4 1, 3) := by decide +kernel
theorem dX3_book_89 : decode cX3_book 89 = .ok (.goto (-35), 3) := by decide +kernel
theorem dX3_book_92 : decode cX3_book 92 = .ok (.aload_n 3, 1) := by decide +kernel
theorem dX3_book_93 : decode cX3_book 93 = .ok (.getfield 195, 3) := by decide +kernel
theorem dX3_book_96 : decode cX3_book 96 = .ok (.ireturn, 1) := by decide +kernel
theorem dX3_read_0 : decode cX3_read 0 = .ok (.iload_n 1, 1) := by decide +kernel
theorem dX3_read_1 : decode cX3_read 1 = .ok (.invokestatic 186, 3) := by decide +kernel
theorem dX3_read_4 : decode cX3_read 4 = .ok (.ifCond .ne 9, 3) := by decide +kernel
theorem dX3_read_7 : decode cX3_read 7 = .ok (.aload_n 0, 1) := by decide +kernel
theorem dX3_read_8 : decode cX3_read 8 = .ok (.iconst 0, 1) := by decide +kernel
theorem dX3_read_9 : decode cX3_read 9 = .ok (.invokevirtual 48, 3) := by decide +kernel
theorem dX3_read_12 : decode cX3_read 12 = .ok (.ireturn, 1) := by decide +kernel
theorem dX3_read_13 : decode cX3_read 13 = .ok (.aload_n 0, 1) := by decide +kernel
theorem dX3_read_14 : decode cX3_read 14 = .ok (.getfield 35, 3) := by decide +kernel
theorem dX3_read_17 : decode cX3_read 17 = .ok (.iload_n 1, 1) := by decide +kernel
theorem dX3_read_18 : decode cX3_read 18 = .ok (.aaload, 1) := by decide +kernel
theorem dX3_read_19 : decode cX3_read 19 = .ok (.astore 4, 2) := by decide +kernel
theorem dX3_read_21 : decode cX3_read 21 = .ok (.aload 4, 2) := by decide +kernel
theorem dX3_read_23 : decode cX3_read 23 = .ok (.invokevirtual 196, 3) := by decide +kernel
theorem dX3_read_26 : decode cX3_read 26 = .ok (.ifCond .eq 9, 3) := by decide +kernel
theorem dX3_read_29 : decode cX3_read 29 = .ok (.aload_n 0, 1) := by decide +kernel
theorem dX3_read_30 : decode cX3_read 30 = .ok (.iconst 5, 1) := by decide +kernel
theorem dX3_read_31 : decode cX3_read 31 = .ok (.invokevirtual 48, 3) := by decide +kernel
theorem dX3_read_34 : decode cX3_read 34 = .ok (.ireturn, 1) := by decide +kernel
theorem dX3_read_35 : decode cX3_read 35 = .ok (.aload_n 0, 1) := by decide +kernel
theorem dX3_read_36 : decode cX3_read 36 = .ok (.iload_n 2, 1) := by decide +kernel
theorem dX3_read_37 : decode cX3_read 37 = .ok (.iload_n 3, 1) := by decide +kernel
theorem dX3_read_38 : decode cX3_read 38 = .ok (.invokevirtual 134, 3) := by decide +kernel
theorem dX3_read_41 : decode cX3_read 41 = .ok (.ifCond .ne 9, 3) := by decide +kernel
theorem dX3_read_44 : decode cX3_read 44 = .ok (.aload_n 0, 1) := by decide +kernel
theorem dX3_read_45 : decode cX3_read 45 = .ok (.iconst 0, 1) := by decide +kernel
theorem dX3_read_46 : decode cX3_read 46 = .ok (.invokevirtual 48, 3) := by decide +kernel
theorem dX3_read_49 : decode cX3_read 49 = .ok (.ireturn, 1) := by decide +kernel
theorem dX3_read_50 : decode cX3_read 50 = .ok (.iconst 0, 1) := by decide +kernel
theorem dX3_read_51 : decode cX3_read 51 = .ok (.istore 5, 2) := by decide +kernel
theorem dX3_read_53 : decode cX3_read 53 = .ok (.iconst 0, 1) := by decide +kernel
theorem dX3_read_54 : decode cX3_read 54 = .ok (.istore 6, 2) := by decide +kernel
theorem dX3_read_56 : decode cX3_read 56 = .ok (.iload 6, 2) := by decide +kernel
theorem dX3_read_58 : decode cX3_read 58 = .ok (.bipush 6, 2) := by decide +kernel
theorem dX3_read_60 : decode cX3_read 60 = .ok (.if_icmp .ge 64, 3) := by decide +kernel
theorem dX3_read_63 : decode cX3_read 63 = .ok (.iconst 0, 1) := by decide +kernel
theorem dX3_read_64 : decode cX3_read 64 = .ok (.istore 7, 2) := by decide +kernel
theorem dX3_read_66 : decode cX3_read 66 = .ok (.iload 7, 2) := by decide +kernel
theorem dX3_read_68 : decode cX3_read 68 = .ok (.bipush 6, 2) := by decide +kernel
theorem dX3_read_70 : decode cX3_read 70 = .ok (.if_icmp .ge 48, 3) := by decide +kernel
theorem dX3_read_73 : decode cX3_read 73 = .ok (.aload_n 0, 1) := by decide +kernel
theorem dX3_read_74 : decode cX3_read 74 = .ok (.invokevirtual 145, 3) := by decide +kernel
theorem dX3_read_77 : decode cX3_read 77 = .ok (.aload_n 0, 1) := by decide +kernel
theorem dX3_read_78 : decode cX3_read 78 = .ok (.getfield 16, 3) := by decide +kernel
theorem dX3_read_81 : decode cX3_read 81 = .ok (.getfield 103, 3) := by decide +kernel
theorem dX3_read_84 : decode cX3_read 84 = .ok (.iload_n 2, 1) := by decide +kernel
theorem dX3_read_85 : decode cX3_read 85 = .ok (.iload 6, 2) := by decide +kernel
theorem dX3_read_87 : decode cX3_read 87 = .ok (.iastore, 1) := by decide +kernel
theorem dX3_read_88 : decode cX3_read 88 = .ok (.aload_n 0, 1) := by decide +kernel
theorem dX3_read_89 : decode cX3_read 89 = .ok (.getfield 16, 3) := by decide +kernel
theorem dX3_read_92 : decode cX3_read 92 = .ok (.getfield 103, 3) := by decide +kernel
theorem dX3_read_95 : decode cX3_read 95 = .ok (.iload_n 3, 1) := by decide +kernel
theorem dX3_read_96 : decode cX3_read 96 = .ok (.iload 7, 2) := by decide +kernel
theorem dX3_read_98 : decode cX3_read 98 = .ok (.iastore, 1) := by decide +kernel
theorem dX3_read_99 : decode cX3_read 99 = .ok (.aload_n 0, 1) := by decide +kernel
theorem dX3_read_100 : decode cX3_read 100 = .ok (.aload 4, 2) := by decide +kernel
theorem dX3_read_102 : decode cX3_read 102 = .ok (.iload_n 2, 1) := by decide +kernel
theorem dX3_read_103 : decode cX3_read 103 = .ok (.invokevirtual 226, 3) := by decide +kernel
theorem dX3_read_106 : decode cX3_read 106 = .ok (.ifCond .eq 6, 3) := by decide +kernel
theorem dX3_read_109 : decode cX3_read 109 = .ok (.iinc 5 1, 3) := by decide +kernel
theorem dX3_read_112 : decode cX3_read 112 = .ok (.iinc 7 1, 3) := by decide +kernel
theorem dX3_read_115 : decode cX3_read 115 = .ok (.goto (-49), 3) := by decide +kernel
theorem dX3_read_118 : decode cX3_read 118 = .ok (.iinc 6 1, 3) := by decide +kernel
theorem dX3_read_121 : decode cX3_read 121 = .ok (.goto (-65), 3) := by decide +kernel
theorem dX3_read_124 : decode cX3_read 124 = .ok (.iload 5, 2) := by decide +kernel
theorem dX3_read_126 : decode cX3_read 126 = .ok (.ireturn, 1) := by decide +kernel
theorem dX3_image_0 : decode cX3_image 0 = .ok (.aload_n 0, 1) := by decide +kernel
theorem dX3_image_1 : decode cX3_image 1 = .ok (.getfield 19, 3) := by decide +kernel
theorem dX3_image_4 : decode cX3_image 4 = .ok (.aload_n 0, 1) := by decide +kernel
theorem dX3_image_5 : decode cX3_image 5 = .ok (.getfield 10, 3) := by decide +kernel
theorem dX3_image_8 : decode cX3_image 8 = .ok (.invokevirtual 182, 3) := by decide +kernel
theorem dX3_image_11 : decode cX3_image 11 = .ok (.aload_n 0, 1) := by decide +kernel
theorem dX3_image_12 : decode cX3_image 12 = .ok (.iconst 1, 1) := by decide +kernel
theorem dX3_image_13 : decode cX3_image 13 = .ok (.putfield 22, 3) := by decide +kernel
theorem dX3_image_16 : decode cX3_image 16 = .ok (.iconst 1, 1) := by decide +kernel
theorem dX3_image_17 : decode cX3_image 17 = .ok (.ireturn, 1) := by decide +kernel
theorem dX3_undo_0 : decode cX3_undo 0 = .ok (.aload_n 0, 1) := by decide +kernel
theorem dX3_undo_1 : decode cX3_undo 1 = .ok (.getfield 22, 3) := by decide +kernel
theorem dX3_undo_4 : decode cX3_undo 4 = .ok (.ifCond .ne 9, 3) := by decide +kernel
theorem dX3_undo_7 : decode cX3_undo 7 = .ok (.aload_n 0, 1) := by decide +kernel
theorem dX3_undo_8 : decode cX3_undo 8 = .ok (.iconst 3, 1) := by decide +kernel
theorem dX3_undo_9 : decode cX3_undo 9 = .ok (.invokevirtual 48, 3) := by decide +kernel
theorem dX3_undo_12 : decode cX3_undo 12 = .ok (.ireturn, 1) := by decide +kernel
theorem dX3_undo_13 : decode cX3_undo 13 = .ok (.aload_n 0, 1) := by decide +kernel
theorem dX3_undo_14 : decode cX3_undo 14 = .ok (.getfield 10, 3) := by decide +kernel
theorem dX3_undo_17 : decode cX3_undo 17 = .ok (.aload_n 0, 1) := by decide +kernel
theorem dX3_undo_18 : decode cX3_undo 18 = .ok (.getfield 19, 3) := by decide +kernel
theorem dX3_undo_21 : decode cX3_undo 21 = .ok (.invokevirtual 182, 3) := by decide +kernel
theorem dX3_undo_24 : decode cX3_undo 24 = .ok (.aload_n 0, 1) := by decide +kernel
theorem dX3_undo_25 : decode cX3_undo 25 = .ok (.getfield 10, 3) := by decide +kernel
theorem dX3_undo_28 : decode cX3_undo 28 = .ok (.getfield 159, 3) := by decide +kernel
theorem dX3_undo_31 : decode cX3_undo 31 = .ok (.ireturn, 1) := by decide +kernel
theorem dX3_tear_0 : decode cX3_tear 0 = .ok (.aload_n 0, 1) := by decide +kernel
theorem dX3_tear_1 : decode cX3_tear 1 = .ok (.getfield 22, 3) := by decide +kernel
theorem dX3_tear_4 : decode cX3_tear 4 = .ok (.invokestatic 67, 3) := by decide +kernel
theorem dX3_tear_7 : decode cX3_tear 7 = .ok (.istore_n 1, 1) := by decide +kernel
theorem dX3_tear_8 : decode cX3_tear 8 = .ok (.aload_n 0, 1) := by decide +kernel
theorem dX3_tear_9 : decode cX3_tear 9 = .ok (.iconst 0, 1) := by decide +kernel
theorem dX3_tear_10 : decode cX3_tear 10 = .ok (.putfield 22, 3) := by decide +kernel
theorem dX3_tear_13 : decode cX3_tear 13 = .ok (.iload_n 1, 1) := by decide +kernel
theorem dX3_tear_14 : decode cX3_tear 14 = .ok (.ireturn, 1) := by decide +kernel
theorem dX3_count_0 : decode cX3_count 0 = .ok (.iload_n 1, 1) := by decide +kernel
theorem dX3_count_1 : decode cX3_count 1 = .ok (.tableswitch 74 0 3 #[31, 39, 47, 59], 31) := by decide +kernel
theorem dX3_count_32 : decode cX3_count 32 = .ok (.aload_n 0, 1) := by decide +kernel
theorem dX3_count_33 : decode cX3_count 33 = .ok (.getfield 10, 3) := by decide +kernel
theorem dX3_count_36 : decode cX3_count 36 = .ok (.getfield 159, 3) := by decide +kernel
theorem dX3_count_39 : decode cX3_count 39 = .ok (.ireturn, 1) := by decide +kernel
theorem dX3_count_40 : decode cX3_count 40 = .ok (.aload_n 0, 1) := by decide +kernel
theorem dX3_count_41 : decode cX3_count 41 = .ok (.getfield 29, 3) := by decide +kernel
theorem dX3_count_44 : decode cX3_count 44 = .ok (.getfield 175, 3) := by decide +kernel
theorem dX3_count_47 : decode cX3_count 47 = .ok (.ireturn, 1) := by decide +kernel
theorem dX3_count_48 : decode cX3_count 48 = .ok (.aload_n 0, 1) := by decide +kernel
theorem dX3_count_49 : decode cX3_count 49 = .ok (.aload_n 0, 1) := by decide +kernel
theorem dX3_count_50 : decode cX3_count 50 = .ok (.getfield 10, 3) := by decide +kernel
theorem dX3_count_53 : decode cX3_count 53 = .ok (.getfield 106, 3) := by decide +kernel
theorem dX3_count_56 : decode cX3_count 56 = .ok (.invokevirtual 77, 3) := by decide +kernel
theorem dX3_count_59 : decode cX3_count 59 = .ok (.ireturn, 1) := by decide +kernel
theorem dX3_count_60 : decode cX3_count 60 = .ok (.ldc 109, 2) := by decide +kernel
theorem dX3_count_62 : decode cX3_count 62 = .ok (.aload_n 0, 1) := by decide +kernel
theorem dX3_count_63 : decode cX3_count 63 = .ok (.aload_n 0, 1) := by decide +kernel
theorem dX3_count_64 : decode cX3_count 64 = .ok (.getfield 10, 3) := by decide +kernel
theorem dX3_count_67 : decode cX3_count 67 = .ok (.getfield 110, 3) := by decide +kernel
theorem dX3_count_70 : decode cX3_count 70 = .ok (.invokevirtual 77, 3) := by decide +kernel
theorem dX3_count_73 : decode cX3_count 73 = .ok (.iadd, 1) := by decide +kernel
theorem dX3_count_74 : decode cX3_count 74 = .ok (.ireturn, 1) := by decide +kernel
theorem dX3_count_75 : decode cX3_count 75 = .ok (.aload_n 0, 1) := by decide +kernel
theorem dX3_count_76 : decode cX3_count 76 = .ok (.iconst 0, 1) := by decide +kernel
theorem dX3_count_77 : decode cX3_count 77 = .ok (.invokevirtual 48, 3) := by decide +kernel
theorem dX3_count_80 : decode cX3_count 80 = .ok (.ireturn, 1) := by decide +kernel
theorem dX3_status_0 : decode cX3_status 0 = .ok (.iload_n 1, 1) := by decide +kernel
theorem dX3_status_1 : decode cX3_status 1 = .ok (.iconst (-1), 1) := by decide +kernel
theorem dX3_status_2 : decode cX3_status 2 = .ok (.if_icmp .ne 43, 3) := by decide +kernel
theorem dX3_status_5 : decode cX3_status 5 = .ok (.iconst 0, 1) := by decide +kernel
theorem dX3_status_6 : decode cX3_status 6 = .ok (.istore_n 2, 1) := by decide +kernel
theorem dX3_status_7 : decode cX3_status 7 = .ok (.aload_n 0, 1) := by decide +kernel
theorem dX3_status_8 : decode cX3_status 8 = .ok (.getfield 40, 3) := by decide +kernel
theorem dX3_status_11 : decode cX3_status 11 = .ok (.astore_n 3, 1) := by decide +kernel
theorem dX3_status_12 : decode cX3_status 12 = .ok (.aload_n 3, 1) := by decide +kernel
theorem dX3_status_13 : decode cX3_status 13 = .ok (.arraylength, 1) := by decide +kernel
theorem dX3_status_14 : decode cX3_status 14 = .ok (.istore 4, 2) := by decide +kernel
theorem dX3_status_16 : decode cX3_status 16 = .ok (.iconst 0, 1) := by decide +kernel
theorem dX3_status_17 : decode cX3_status 17 = .ok (.istore 5, 2) := by decide +kernel
theorem dX3_status_19 : decode cX3_status 19 = .ok (.iload 5, 2) := by decide +kernel
theorem dX3_status_21 : decode cX3_status 21 = .ok (.iload 4, 2) := by decide +kernel
theorem dX3_status_23 : decode cX3_status 23 = .ok (.if_icmp .ge 20, 3) := by decide +kernel
theorem dX3_status_26 : decode cX3_status 26 = .ok (.aload_n 3, 1) := by decide +kernel
theorem dX3_status_27 : decode cX3_status 27 = .ok (.iload 5, 2) := by decide +kernel
theorem dX3_status_29 : decode cX3_status 29 = .ok (.iaload, 1) := by decide +kernel
theorem dX3_status_30 : decode cX3_status 30 = .ok (.istore 6, 2) := by decide +kernel
theorem dX3_status_32 : decode cX3_status 32 = .ok (.iload_n 2, 1) := by decide +kernel
theorem dX3_status_33 : decode cX3_status 33 = .ok (.iload 6, 2) := by decide +kernel
theorem dX3_status_35 : decode cX3_status 35 = .ok (.iadd, 1) := by decide +kernel
theorem dX3_status_36 : decode cX3_status 36 = .ok (.istore_n 2, 1) := by decide +kernel
theorem dX3_status_37 : decode cX3_status 37 = .ok (.iinc 5 1, 3) := by decide +kernel
theorem dX3_status_40 : decode cX3_status 40 = .ok (.goto (-21), 3) := by decide +kernel
theorem dX3_status_43 : decode cX3_status 43 = .ok (.iload_n 2, 1) := by decide +kernel
theorem dX3_status_44 : decode cX3_status 44 = .ok (.ireturn, 1) := by decide +kernel
theorem dX3_status_45 : decode cX3_status 45 = .ok (.iload_n 1, 1) := by decide +kernel
theorem dX3_status_46 : decode cX3_status 46 = .ok (.iconst 0, 1) := by decide +kernel
theorem dX3_status_47 : decode cX3_status 47 = .ok (.bipush 6, 2) := by decide +kernel
theorem dX3_status_49 : decode cX3_status 49 = .ok (.invokestatic 44, 3) := by decide +kernel
theorem dX3_status_52 : decode cX3_status 52 = .ok (.ifCond .ne 9, 3) := by decide +kernel
theorem dX3_status_55 : decode cX3_status 55 = .ok (.aload_n 0, 1) := by decide +kernel
theorem dX3_status_56 : decode cX3_status 56 = .ok (.iconst 0, 1) := by decide +kernel
theorem dX3_status_57 : decode cX3_status 57 = .ok (.invokevirtual 48, 3) := by decide +kernel
theorem dX3_status_60 : decode cX3_status 60 = .ok (.ireturn, 1) := by decide +kernel
theorem dX3_status_61 : decode cX3_status 61 = .ok (.aload_n 0, 1) := by decide +kernel
theorem dX3_status_62 : decode cX3_status 62 = .ok (.getfield 40, 3) := by decide +kernel
theorem dX3_status_65 : decode cX3_status 65 = .ok (.iload_n 1, 1) := by decide +kernel
theorem dX3_status_66 : decode cX3_status 66 = .ok (.iaload, 1) := by decide +kernel
theorem dX3_status_67 : decode cX3_status 67 = .ok (.ireturn, 1) := by decide +kernel
theorem dX3_found_0 : decode cX3_found 0 = .ok (.aload_n 0, 1) := by decide +kernel
theorem dX3_found_1 : decode cX3_found 1 = .ok (.getfield 40, 3) := by decide +kernel
theorem dX3_found_4 : decode cX3_found 4 = .ok (.iload_n 1, 1) := by decide +kernel
theorem dX3_found_5 : decode cX3_found 5 = .ok (.dup2, 1) := by decide +kernel
theorem dX3_found_6 : decode cX3_found 6 = .ok (.iaload, 1) := by decide +kernel
theorem dX3_found_7 : decode cX3_found 7 = .ok (.iconst 1, 1) := by decide +kernel
theorem dX3_found_8 : decode cX3_found 8 = .ok (.iadd, 1) := by decide +kernel
theorem dX3_found_9 : decode cX3_found 9 = .ok (.iastore, 1) := by decide +kernel
theorem dX3_found_10 : decode cX3_found 10 = .ok (.ldc 230, 2) := by decide +kernel
theorem dX3_found_12 : decode cX3_found 12 = .ok (.iload_n 1, 1) := by decide +kernel
theorem dX3_found_13 : decode cX3_found 13 = .ok (.isub, 1) := by decide +kernel
theorem dX3_found_14 : decode cX3_found 14 = .ok (.ireturn, 1) := by decide +kernel
theorem dX3_within_0 : decode cX3_within 0 = .ok (.iload_n 0, 1) := by decide +kernel
theorem dX3_within_1 : decode cX3_within 1 = .ok (.iload_n 1, 1) := by decide +kernel
theorem dX3_within_2 : decode cX3_within 2 = .ok (.if_icmp .lt 12, 3) := by decide +kernel
theorem dX3_within_5 : decode cX3_within 5 = .ok (.iload_n 0, 1) := by decide +kernel
theorem dX3_within_6 : decode cX3_within 6 = .ok (.iload_n 2, 1) := by decide +kernel
theorem dX3_within_7 : decode cX3_within 7 = .ok (.if_icmp .gt 7, 3) := by decide +kernel
theorem dX3_within_10 : decode cX3_within 10 = .ok (.iconst 1, 1) := by decide +kernel
theorem dX3_within_11 : decode cX3_within 11 = .ok (.goto 4, 3) := by decide +kernel
theorem dX3_within_14 : decode cX3_within 14 = .ok (.iconst 0, 1) := by decide +kernel
theorem dX3_within_15 : decode cX3_within 15 = .ok (.ireturn, 1) := by decide +kernel
theorem dX3_asNumber_0 : decode cX3_asNumber 0 = .ok (.iload_n 0, 1) := by decide +kernel
theorem dX3_asNumber_1 : decode cX3_asNumber 1 = .ok (.ifCond .eq 7, 3) := by decide +kernel
theorem dX3_asNumber_4 : decode cX3_asNumber 4 = .ok (.iconst 1, 1) := by decide +kernel
theorem dX3_asNumber_5 : decode cX3_asNumber 5 = .ok (.goto 4, 3) := by decide +kernel
theorem dX3_asNumber_8 : decode cX3_asNumber 8 = .ok (.iconst 0, 1) := by decide +kernel
theorem dX3_asNumber_9 : decode cX3_asNumber 9 = .ok (.ireturn, 1) := by decide +kernel
theorem dX3_isKind_0 : decode cX3_isKind 0 = .ok (.iload_n 0, 1) := by decide +kernel
theorem dX3_isKind_1 : decode cX3_isKind 1 = .ok (.iconst 0, 1) := by decide +kernel
theorem dX3_isKind_2 : decode cX3_isKind 2 = .ok (.iconst 5, 1) := by decide +kernel
theorem dX3_isKind_3 : decode cX3_isKind 3 = .ok (.invokestatic 44, 3) := by decide +kernel
theorem dX3_isKind_6 : decode cX3_isKind 6 = .ok (.ireturn, 1) := by decide +kernel
theorem dX3_isSheet_0 : decode cX3_isSheet 0 = .ok (.iload_n 0, 1) := by decide +kernel
theorem dX3_isSheet_1 : decode cX3_isSheet 1 = .ok (.iconst 0, 1) := by decide +kernel
theorem dX3_isSheet_2 : decode cX3_isSheet 2 = .ok (.iconst 3, 1) := by decide +kernel
theorem dX3_isSheet_3 : decode cX3_isSheet 3 = .ok (.invokestatic 44, 3) := by decide +kernel
theorem dX3_isSheet_6 : decode cX3_isSheet 6 = .ok (.ireturn, 1) := by decide +kernel
theorem dX3_isChild_0 : decode cX3_isChild 0 = .ok (.iload_n 1, 1) := by decide +kernel
theorem dX3_isChild_1 : decode cX3_isChild 1 = .ok (.iconst 0, 1) := by decide +kernel
theorem dX3_isChild_2 : decode cX3_isChild 2 = .ok (.aload_n 0, 1) := by decide +kernel
theorem dX3_isChild_3 : decode cX3_isChild 3 = .ok (.getfield 10, 3) := by decide +kernel
theorem dX3_isChild_6 : decode cX3_isChild 6 = .ok (.getfield 159, 3) := by decide +kernel
theorem dX3_isChild_9 : decode cX3_isChild 9 = .ok (.iconst 1, 1) := by decide +kernel
theorem dX3_isChild_10 : decode cX3_isChild 10 = .ok (.isub, 1) := by decide +kernel
theorem dX3_isChild_11 : decode cX3_isChild 11 = .ok (.invokestatic 44, 3) := by decide +kernel
theorem dX3_isChild_14 : decode cX3_isChild 14 = .ok (.ireturn, 1) := by decide +kernel
theorem dX3_areTwo_0 : decode cX3_areTwo 0 = .ok (.aload_n 0, 1) := by decide +kernel
theorem dX3_areTwo_1 : decode cX3_areTwo 1 = .ok (.iload_n 1, 1) := by decide +kernel
theorem dX3_areTwo_2 : decode cX3_areTwo 2 = .ok (.invokevirtual 100, 3) := by decide +kernel
theorem dX3_areTwo_5 : decode cX3_areTwo 5 = .ok (.ifCond .eq 20, 3) := by decide +kernel
theorem dX3_areTwo_8 : decode cX3_areTwo 8 = .ok (.aload_n 0, 1) := by decide +kernel
theorem dX3_areTwo_9 : decode cX3_areTwo 9 = .ok (.iload_n 2, 1) := by decide +kernel
theorem dX3_areTwo_10 : decode cX3_areTwo 10 = .ok (.invokevirtual 100, 3) := by decide +kernel
theorem dX3_areTwo_13 : decode cX3_areTwo 13 = .ok (.ifCond .eq 12, 3) := by decide +kernel
theorem dX3_areTwo_16 : decode cX3_areTwo 16 = .ok (.iload_n 1, 1) := by decide +kernel
theorem dX3_areTwo_17 : decode cX3_areTwo 17 = .ok (.iload_n 2, 1) := by decide +kernel
theorem dX3_areTwo_18 : decode cX3_areTwo 18 = .ok (.if_icmp .eq 7, 3) := by decide +kernel
theorem dX3_areTwo_21 : decode cX3_areTwo 21 = .ok (.iconst 1, 1) := by decide +kernel
theorem dX3_areTwo_22 : decode cX3_areTwo 22 = .ok (.goto 4, 3) := by decide +kernel
theorem dX3_areTwo_25 : decode cX3_areTwo 25 = .ok (.iconst 0, 1) := by decide +kernel
theorem dX3_areTwo_26 : decode cX3_areTwo 26 = .ok (.ireturn, 1) := by decide +kernel
theorem dX3_sumOf_0 : decode cX3_sumOf 0 = .ok (.iconst 0, 1) := by decide +kernel
theorem dX3_sumOf_1 : decode cX3_sumOf 1 = .ok (.istore_n 2, 1) := by decide +kernel
theorem dX3_sumOf_2 : decode cX3_sumOf 2 = .ok (.iconst 0, 1) := by decide +kernel
theorem dX3_sumOf_3 : decode cX3_sumOf 3 = .ok (.istore_n 3, 1) := by decide +kernel
theorem dX3_sumOf_4 : decode cX3_sumOf 4 = .ok (.iload_n 3, 1) := by decide +kernel
theorem dX3_sumOf_5 : decode cX3_sumOf 5 = .ok (.aload_n 0, 1) := by decide +kernel
theorem dX3_sumOf_6 : decode cX3_sumOf 6 = .ok (.getfield 10, 3) := by decide +kernel
theorem dX3_sumOf_9 : decode cX3_sumOf 9 = .ok (.getfield 159, 3) := by decide +kernel
theorem dX3_sumOf_12 : decode cX3_sumOf 12 = .ok (.if_icmp .ge 15, 3) := by decide +kernel
theorem dX3_sumOf_15 : decode cX3_sumOf 15 = .ok (.iload_n 2, 1) := by decide +kernel
theorem dX3_sumOf_16 : decode cX3_sumOf 16 = .ok (.aload_n 1, 1) := by decide +kernel
theorem dX3_sumOf_17 : decode cX3_sumOf 17 = .ok (.iload_n 3, 1) := by decide +kernel
theorem dX3_sumOf_18 : decode cX3_sumOf 18 = .ok (.iaload, 1) := by decide +kernel
theorem dX3_sumOf_19 : decode cX3_sumOf 19 = .ok (.iadd, 1) := by decide +kernel
theorem dX3_sumOf_20 : decode cX3_sumOf 20 = .ok (.istore_n 2, 1) := by decide +kernel
theorem dX3_sumOf_21 : decode cX3_sumOf 21 = .ok (.iinc 3 1, 3) := by decide +kernel
theorem dX3_sumOf_24 : decode cX3_sumOf 24 = .ok (.goto (-20), 3) := by decide +kernel
theorem dX3_sumOf_27 : decode cX3_sumOf 27 = .ok (.iload_n 2, 1) := by decide +kernel
theorem dX3_sumOf_28 : decode cX3_sumOf 28 = .ok (.ireturn, 1) := by decide +kernel
theorem dX3_put_0 : decode cX3_put 0 = .ok (.iload_n 3, 1) := by decide +kernel
theorem dX3_put_1 : decode cX3_put 1 = .ok (.iload 4, 2) := by decide +kernel
theorem dX3_put_3 : decode cX3_put 3 = .ok (.iload 5, 2) := by decide +kernel
theorem dX3_put_5 : decode cX3_put 5 = .ok (.invokestatic 44, 3) := by decide +kernel
theorem dX3_put_8 : decode cX3_put 8 = .ok (.ifCond .ne 9, 3) := by decide +kernel
theorem dX3_put_11 : decode cX3_put 11 = .ok (.aload_n 0, 1) := by decide +kernel
theorem dX3_put_12 : decode cX3_put 12 = .ok (.iconst 0, 1) := by decide +kernel
theorem dX3_put_13 : decode cX3_put 13 = .ok (.invokevirtual 48, 3) := by decide +kernel
theorem dX3_put_16 : decode cX3_put 16 = .ok (.ireturn, 1) := by decide +kernel
theorem dX3_put_17 : decode cX3_put 17 = .ok (.aload_n 1, 1) := by decide +kernel
theorem dX3_put_18 : decode cX3_put 18 = .ok (.iload_n 2, 1) := by decide +kernel
theorem dX3_put_19 : decode cX3_put 19 = .ok (.iaload, 1) := by decide +kernel
theorem dX3_put_20 : decode cX3_put 20 = .ok (.istore 6, 2) := by decide +kernel
theorem dX3_put_22 : decode cX3_put 22 = .ok (.aload_n 1, 1) := by decide +kernel
theorem dX3_put_23 : decode cX3_put 23 = .ok (.iload_n 2, 1) := by decide +kernel
theorem dX3_put_24 : decode cX3_put 24 = .ok (.iload_n 3, 1) := by decide +kernel
theorem dX3_put_25 : decode cX3_put 25 = .ok (.iastore, 1) := by decide +kernel
theorem dX3_put_26 : decode cX3_put 26 = .ok (.iload 6, 2) := by decide +kernel
theorem dX3_put_28 : decode cX3_put 28 = .ok (.ireturn, 1) := by decide +kernel
theorem dX3_tryAsItIs_0 : decode cX3_tryAsItIs 0 = .ok (.aload_n 0, 1) := by decide +kernel
theorem dX3_tryAsItIs_1 : decode cX3_tryAsItIs 1 = .ok (.getfield 16, 3) := by decide +kernel
theorem dX3_tryAsItIs_4 : decode cX3_tryAsItIs 4 = .ok (.aload_n 0, 1) := by decide +kernel
theorem dX3_tryAsItIs_5 : decode cX3_tryAsItIs 5 = .ok (.getfield 10, 3) := by decide +kernel
theorem dX3_tryAsItIs_8 : decode cX3_tryAsItIs 8 = .ok (.invokevirtual 182, 3) := by decide +kernel
theorem dX3_tryAsItIs_11 : decode cX3_tryAsItIs 11 = .ok (.return_, 1) := by decide +kernel
theorem dX3_heightLater_0 : decode cX3_heightLater 0 = .ok (.aload_n 0, 1) := by decide +kernel
theorem dX3_heightLater_1 : decode cX3_heightLater 1 = .ok (.getfield 16, 3) := by decide +kernel
theorem dX3_heightLater_4 : decode cX3_heightLater 4 = .ok (.iload_n 2, 1) := by decide +kernel
theorem dX3_heightLater_5 : decode cX3_heightLater 5 = .ok (.invokevirtual 141, 3) := by decide +kernel
theorem dX3_heightLater_8 : decode cX3_heightLater 8 = .ok (.aload_n 0, 1) := by decide +kernel
theorem dX3_heightLater_9 : decode cX3_heightLater 9 = .ok (.getfield 16, 3) := by decide +kernel
theorem dX3_heightLater_12 : decode cX3_heightLater 12 = .ok (.getfield 74, 3) := by decide +kernel
theorem dX3_heightLater_15 : decode cX3_heightLater 15 = .ok (.iload_n 1, 1) := by decide +kernel
theorem dX3_heightLater_16 : decode cX3_heightLater 16 = .ok (.iaload, 1) := by decide +kernel
theorem dX3_heightLater_17 : decode cX3_heightLater 17 = .ok (.ireturn, 1) := by decide +kernel
theorem dX3_firstMinuteWithin_0 : decode cX3_firstMinuteWithin 0 = .ok (.aload_n 0, 1) := by decide +kernel
theorem dX3_firstMinuteWithin_1 : decode cX3_firstMinuteWithin 1 = .ok (.invokevirtual 145, 3) := by decide +kernel
theorem dX3_firstMinuteWithin_4 : decode cX3_firstMinuteWithin 4 = .ok (.iconst 0, 1) := by decide +kernel
theorem dX3_firstMinuteWithin_5 : decode cX3_firstMinuteWithin 5 = .ok (.istore 4, 2) := by decide +kernel
theorem dX3_firstMinuteWithin_7 : decode cX3_firstMinuteWithin 7 = .ok (.iload 4, 2) := by decide +kernel
theorem dX3_firstMinuteWithin_9 : decode cX3_firstMinuteWithin 9 = .ok (.sipush 400, 3) := by decide +kernel
theorem dX3_firstMinuteWithin_12 : decode cX3_firstMinuteWithin 12 = .ok (.if_icmp .gt 36, 3) := by decide +kernel
theorem dX3_firstMinuteWithin_15 : decode cX3_firstMinuteWithin 15 = .ok (.aload_n 0, 1) := by decide +kernel
theorem dX3_firstMinuteWithin_16 : decode cX3_firstMinuteWithin 16 = .ok (.getfield 16, 3) := by decide +kernel
theorem dX3_firstMinuteWithin_19 : decode cX3_firstMinuteWithin 19 = .ok (.getfield 74, 3) := by decide +kernel
theorem dX3_firstMinuteWithin_22 : decode cX3_firstMinuteWithin 22 = .ok (.iload_n 1, 1) := by decide +kernel
theorem dX3_firstMinuteWithin_23 : decode cX3_firstMinuteWithin 23 = .ok (.iaload, 1) := by decide +kernel
theorem dX3_firstMinuteWithin_24 : decode cX3_firstMinuteWithin 24 = .ok (.iload_n 2, 1) := by decide +kernel
theorem dX3_firstMinuteWithin_25 : decode cX3_firstMinuteWithin 25 = .ok (.iload_n 3, 1) := by decide +kernel
theorem dX3_firstMinuteWithin_26 : decode cX3_firstMinuteWithin 26 = .ok (.invokestatic 44, 3) := by decide +kernel
theorem dX3_firstMinuteWithin_29 : decode cX3_firstMinuteWithin 29 = .ok (.ifCond .eq 6, 3) := by decide +kernel
theorem dX3_firstMinuteWithin_32 : decode cX3_firstMinuteWithin 32 = .ok (.iload 4, 2) := by decide +kernel
theorem dX3_firstMinuteWithin_34 : decode cX3_firstMinuteWithin 34 = .ok (.ireturn, 1) := by decide +kernel
theorem dX3_firstMinuteWithin_35 : decode cX3_firstMinuteWithin 35 = .ok (.aload_n 0, 1) := by decide +kernel
theorem dX3_firstMinuteWithin_36 : decode cX3_firstMinuteWithin 36 = .ok (.getfield 16, 3) := by decide +kernel
theorem dX3_firstMinuteWithin_39 : decode cX3_firstMinuteWithin 39 = .ok (.invokevirtual 148, 3) := by decide +kernel
theorem dX3_firstMinuteWithin_42 : decode cX3_firstMinuteWithin 42 = .ok (.iinc 4 1, 3) := by decide +kernel
theorem dX3_firstMinuteWithin_45 : decode cX3_firstMinuteWithin 45 = .ok (.goto (-38), 3) := by decide +kernel
theorem dX3_firstMinuteWithin_48 : decode cX3_firstMinuteWithin 48 = .ok (.aload_n 0, 1) := by decide +kernel
theorem dX3_firstMinuteWithin_49 : decode cX3_firstMinuteWithin 49 = .ok (.iconst 3, 1) := by decide +kernel
theorem dX3_firstMinuteWithin_50 : decode cX3_firstMinuteWithin 50 = .ok (.invokevirtual 48, 3) := by decide +kernel
theorem dX3_firstMinuteWithin_53 : decode cX3_firstMinuteWithin 53 = .ok (.ireturn, 1) := by decide +kernel
theorem dX3_wentAsBooked_0 : decode cX3_wentAsBooked 0 = .ok (.iconst 0, 1) := by decide +kernel
theorem dX3_wentAsBooked_1 : decode cX3_wentAsBooked 1 = .ok (.istore_n 3, 1) := by decide +kernel
theorem dX3_wentAsBooked_2 : decode cX3_wentAsBooked 2 = .ok (.iload_n 3, 1) := by decide +kernel
theorem dX3_wentAsBooked_3 : decode cX3_wentAsBooked 3 = .ok (.aload_n 1, 1) := by decide +kernel
theorem dX3_wentAsBooked_4 : decode cX3_wentAsBooked 4 = .ok (.getfield 195, 3) := by decide +kernel
theorem dX3_wentAsBooked_7 : decode cX3_wentAsBooked 7 = .ok (.if_icmp .ge 38, 3) := by decide +kernel
theorem dX3_wentAsBooked_10 : decode cX3_wentAsBooked 10 = .ok (.aload_n 1, 1) := by decide +kernel
theorem dX3_wentAsBooked_11 : decode cX3_wentAsBooked 11 = .ok (.getfield 202, 3) := by decide +kernel
theorem dX3_wentAsBooked_14 : decode cX3_wentAsBooked 14 = .ok (.iload_n 3, 1) := by decide +kernel
theorem dX3_wentAsBooked_15 : decode cX3_wentAsBooked 15 = .ok (.laload, 1) := by decide +kernel
theorem dX3_wentAsBooked_16 : decode cX3_wentAsBooked 16 = .ok (.aload_n 0, 1) := by decide +kernel
theorem dX3_wentAsBooked_17 : decode cX3_wentAsBooked 17 = .ok (.getfield 16, 3) := by decide +kernel
theorem dX3_wentAsBooked_20 : decode cX3_wentAsBooked 20 = .ok (.getfield 74, 3) := by decide +kernel
theorem dX3_wentAsBooked_23 : decode cX3_wentAsBooked 23 = .ok (.iload_n 2, 1) := by decide +kernel
theorem dX3_wentAsBooked_24 : decode cX3_wentAsBooked 24 = .ok (.iaload, 1) := by decide +kernel
theorem dX3_wentAsBooked_25 : decode cX3_wentAsBooked 25 = .ok (.i2l, 1) := by decide +kernel
theorem dX3_wentAsBooked_26 : decode cX3_wentAsBooked 26 = .ok (.lcmp, 1) := by decide +kernel
theorem dX3_wentAsBooked_27 : decode cX3_wentAsBooked 27 = .ok (.ifCond .eq 5, 3) := by decide +kernel
theorem dX3_wentAsBooked_30 : decode cX3_wentAsBooked 30 = .ok (.iconst 0, 1) := by decide +kernel
theorem dX3_wentAsBooked_31 : decode cX3_wentAsBooked 31 = .ok (.ireturn, 1) := by decide +kernel
theorem dX3_wentAsBooked_32 : decode cX3_wentAsBooked 32 = .ok (.aload_n 0, 1) := by decide +kernel
theorem dX3_wentAsBooked_33 : decode cX3_wentAsBooked 33 = .ok (.getfield 16, 3) := by decide +kernel
theorem dX3_wentAsBooked_36 : decode cX3_wentAsBooked 36 = .ok (.invokevirtual 148, 3) := by decide +kernel
theorem dX3_wentAsBooked_39 : decode cX3_wentAsBooked 39 = .ok (.iinc 3 1, 3) := by decide +kernel
theorem dX3_wentAsBooked_42 : decode cX3_wentAsBooked 42 = .ok (.goto (-40), 3) := by decide +kernel
theorem dX3_wentAsBooked_45 : decode cX3_wentAsBooked 45 = .ok (.iconst 1, 1) := by decide +kernel
theorem dX3_wentAsBooked_46 : decode cX3_wentAsBooked 46 = .ok (.ireturn, 1) := by decide +kernel
theorem dX4_init_0 : decode cX4_init 0 = .ok (.aload_n 0, 1) := by decide +kernel
theorem dX4_init_1 : decode cX4_init 1 = .ok (.invokespecial 1, 3) := by decide +kernel
theorem dX4_init_4 : decode cX4_init 4 = .ok (.aload_n 0, 1) := by decide +kernel
theorem dX4_init_5 : decode cX4_init 5 = .ok (.bipush 35, 2) := by decide +kernel
theorem dX4_init_7 : decode cX4_init 7 = .ok (.newarray .int, 2) := by decide +kernel
theorem dX4_init_9 : decode cX4_init 9 = .ok (.putfield 7, 3) := by decide +kernel
theorem dX4_init_12 : decode cX4_init 12 = .ok (.aload_n 0, 1) := by decide +kernel
theorem dX4_init_13 : decode cX4_init 13 = .ok (.bipush 7, 2) := by decide +kernel
theorem dX4_init_15 : decode cX4_init 15 = .ok (.newarray .int, 2) := by decide +kernel
theorem dX4_init_17 : decode cX4_init 17 = .ok (.putfield 13, 3) := by decide +kernel
theorem dX4_init_20 : decode cX4_init 20 = .ok (.aload_n 0, 1) := by decide +kernel
theorem dX4_init_21 : decode cX4_init 21 = .ok (.bipush 35, 2) := by decide +kernel
theorem dX4_init_23 : decode cX4_init 23 = .ok (.newarray .int, 2) := by decide +kernel
theorem dX4_init_25 : decode cX4_init 25 = .ok (.putfield 16, 3) := by decide +kernel
theorem dX4_init_28 : decode cX4_init 28 = .ok (.aload_n 0, 1) := by decide +kernel
theorem dX4_init_29 : decode cX4_init 29 = .ok (.bipush 35, 2) := by decide +kernel
theorem dX4_init_31 : decode cX4_init 31 = .ok (.newarray .int, 2) := by decide +kernel
theorem dX4_init_33 : decode cX4_init 33 = .ok (.putfield 19, 3) := by decide +kernel
theorem dX4_init_36 : decode cX4_init 36 = .ok (.aload_n 0, 1) := by decide +kernel
theorem dX4_init_37 : decode cX4_init 37 = .ok (.bipush 120, 2) := by decide +kernel
theorem dX4_init_39 : decode cX4_init 39 = .ok (.newarray .int, 2) := by decide +kernel
theorem dX4_init_41 : decode cX4_init 41 = .ok (.putfield 22, 3) := by decide +kernel
theorem dX4_init_44 : decode cX4_init 44 = .ok (.aload_n 0, 1) := by decide +kernel
theorem dX4_init_45 : decode cX4_init 45 = .ok (.iconst 4, 1) := by decide +kernel
theorem dX4_init_46 : decode cX4_init 46 = .ok (.newarray .int, 2) := by decide +kernel
theorem dX4_init_48 : decode cX4_init 48 = .ok (.putfield 25, 3) := by decide +kernel
theorem dX4_init_51 : decode cX4_init 51 = .ok (.aload_n 0, 1) := by decide +kernel
theorem dX4_init_52 : decode cX4_init 52 = .ok (.iconst 4, 1) := by decide +kernel
theorem dX4_init_53 : decode cX4_init 53 = .ok (.newarray .int, 2) := by decide +kernel
theorem dX4_init_55 : decode cX4_init 55 = .ok (.putfield 28, 3) := by decide +kernel
theorem dX4_init_58 : decode cX4_init 58 = .ok (.aload_n 0, 1) := by decide +kernel
theorem dX4_init_59 : decode cX4_init 59 = .ok (.sipush 160, 3) := by decide +kernel
theorem dX4_init_62 : decode cX4_init 62 = .ok (.newarray .long, 2) := by decide +kernel
theorem dX4_init_64 : decode cX4_init 64 = .ok (.putfield 31, 3) := by decide +kernel
theorem dX4_init_67 : decode cX4_init 67 = .ok (.aload_n 0, 1) := by decide +kernel
theorem dX4_init_68 : decode cX4_init 68 = .ok (.bipush 40, 2) := by decide +kernel
theorem dX4_init_70 : decode cX4_init 70 = .ok (.newarray .long, 2) := by decide +kernel
theorem dX4_init_72 : decode cX4_init 72 = .ok (.putfield 35, 3) := by decide +kernel
theorem dX4_init_75 : decode cX4_init 75 = .ok (.aload_n 0, 1) := by decide +kernel
theorem dX4_init_76 : decode cX4_init 76 = .ok (.bipush 35, 2) := by decide +kernel
theorem dX4_init_78 : decode cX4_init 78 = .ok (.newarray .int, 2) := by decide +kernel
theorem dX4_init_80 : decode cX4_init 80 = .ok (.putfield 38, 3) := by decide +kernel
theorem dX4_init_83 : decode cX4_init 83 = .ok (.aload_n 0, 1) := by decide +kernel
theorem dX4_init_84 : decode cX4_init 84 = .ok (.bipush 35, 2) := by decide +kernel
theorem dX4_init_86 : decode cX4_init 86 = .ok (.newarray .int, 2) := by decide +kernel
theorem dX4_init_88 : decode cX4_init 88 = .ok (.putfield 41, 3) := by decide +kernel
theorem dX4_init_91 : decode cX4_init 91 = .ok (.aload_n 0, 1) := by decide +kernel
theorem dX4_init_92 : decode cX4_init 92 = .ok (.getfield 7, 3) := by decide +kernel
theorem dX4_init_95 : decode cX4_init 95 = .ok (.iconst 1, 1) := by decide +kernel
theorem dX4_init_96 : decode cX4_init 96 = .ok (.bipush 50, 2) := by decide +kernel
theorem dX4_init_98 : decode cX4_init 98 = .ok (.iastore, 1) := by decide +kernel
theorem dX4_init_99 : decode cX4_init 99 = .ok (.return_, 1) := by decide +kernel
theorem dX4_in_0 : decode cX4_in 0 = .ok (.iload_n 0, 1) := by decide +kernel
theorem dX4_in_1 : decode cX4_in 1 = .ok (.iload_n 1, 1) := by decide +kernel
theorem dX4_in_2 : decode cX4_in 2 = .ok (.if_icmp .lt 12, 3) := by decide +kernel
theorem dX4_in_5 : decode cX4_in 5 = .ok (.iload_n 0, 1) := by decide +kernel
theorem dX4_in_6 : decode cX4_in 6 = .ok (.iload_n 2, 1) := by decide +kernel
theorem dX4_in_7 : decode cX4_in 7 = .ok (.if_icmp .gt 7, 3) := by decide +kernel
theorem dX4_in_10 : decode cX4_in 10 = .ok (.iconst 1, 1) := by decide +kernel
theorem dX4_in_11 : decode cX4_in 11 = .ok (.goto 4, 3) := by decide +kernel
theorem dX4_in_14 : decode cX4_in 14 = .ok (.iconst 0, 1) := by decide +kernel
theorem dX4_in_15 : decode cX4_in 15 = .ok (.ireturn, 1) := by decide +kernel
theorem dX4_finds_0 : decode cX4_finds 0 = .ok (.aload_n 0, 1) := by decide +kernel
theorem dX4_finds_1 : decode cX4_finds 1 = .ok (.getfield 13, 3) := by decide +kernel
theorem dX4_finds_4 : decode cX4_finds 4 = .ok (.ldc 44, 2) := by decide +kernel
theorem dX4_finds_6 : decode cX4_finds 6 = .ok (.iload_n 1, 1) := by decide +kernel
theorem dX4_finds_7 : decode cX4_finds 7 = .ok (.isub, 1) := by decide +kernel
theorem dX4_finds_8 : decode cX4_finds 8 = .ok (.dup2, 1) := by decide +kernel
theorem dX4_finds_9 : decode cX4_finds 9 = .ok (.iaload, 1) := by decide +kernel
theorem dX4_finds_10 : decode cX4_finds 10 = .ok (.iconst 1, 1) := by decide +kernel
theorem dX4_finds_11 : decode cX4_finds 11 = .ok (.iadd, 1) := by decide +kernel
theorem dX4_finds_12 : decode cX4_finds 12 = .ok (.iastore, 1) := by decide +kernel
theorem dX4_finds_13 : decode cX4_finds 13 = .ok (.iload_n 1, 1) := by decide +kernel
theorem dX4_finds_14 : decode cX4_finds 14 = .ok (.ireturn, 1) := by decide +kernel
theorem dX4_held_0 : decode cX4_held 0 = .ok (.iload_n 0, 1) := by decide +kernel
theorem dX4_held_1 : decode cX4_held 1 = .ok (.iload_n 1, 1) := by decide +kernel
theorem dX4_held_2 : decode cX4_held 2 = .ok (.if_icmp .ge 7, 3) := by decide +kernel
theorem dX4_held_5 : decode cX4_held 5 = .ok (.iload_n 1, 1) := by decide +kernel
theorem dX4_held_6 : decode cX4_held 6 = .ok (.goto 13, 3) := by decide +kernel
theorem dX4_held_9 : decode cX4_held 9 = .ok (.iload_n 0, 1) := by decide +kernel
theorem dX4_held_10 : decode cX4_held 10 = .ok (.iload_n 2, 1) := by decide +kernel
theorem dX4_held_11 : decode cX4_held 11 = .ok (.if_icmp .le 7, 3) := by decide +kernel
theorem dX4_held_14 : decode cX4_held 14 = .ok (.iload_n 2, 1) := by decide +kernel
theorem dX4_held_15 : decode cX4_held 15 = .ok (.goto 4, 3) := by decide +kernel
theorem dX4_held_18 : decode cX4_held 18 = .ok (.iload_n 0, 1) := by decide +kernel
theorem dX4_held_19 : decode cX4_held 19 = .ok (.ireturn, 1) := by decide +kernel
theorem dX4_lesser_0 : decode cX4_lesser 0 = .ok (.iload_n 0, 1) := by decide +kernel
theorem dX4_lesser_1 : decode cX4_lesser 1 = .ok (.iload_n 1, 1) := by decide +kernel
theorem dX4_lesser_2 : decode cX4_lesser 2 = .ok (.if_icmp .ge 7, 3) := by decide +kernel
theorem dX4_lesser_5 : decode cX4_lesser 5 = .ok (.iload_n 0, 1) := by decide +kernel
theorem dX4_lesser_6 : decode cX4_lesser 6 = .ok (.goto 4, 3) := by decide +kernel
theorem dX4_lesser_9 : decode cX4_lesser 9 = .ok (.iload_n 1, 1) := by decide +kernel
theorem dX4_lesser_10 : decode cX4_lesser 10 = .ok (.ireturn, 1) := by decide +kernel
theorem dX4_its_0 : decode cX4_its 0 = .ok (.aload_n 0, 1) := by decide +kernel
theorem dX4_its_1 : decode cX4_its 1 = .ok (.getfield 7, 3) := by decide +kernel
theorem dX4_its_4 : decode cX4_its 4 = .ok (.iconst 3, 1) := by decide +kernel
theorem dX4_its_5 : decode cX4_its 5 = .ok (.iconst 4, 1) := by decide +kernel
theorem dX4_its_6 : decode cX4_its 6 = .ok (.iload_n 1, 1) := by decide +kernel
theorem dX4_its_7 : decode cX4_its 7 = .ok (.imul, 1) := by decide +kernel
theorem dX4_its_8 : decode cX4_its 8 = .ok (.iadd, 1) := by decide +kernel
theorem dX4_its_9 : decode cX4_its 9 = .ok (.iload_n 2, 1) := by decide +kernel
theorem dX4_its_10 : decode cX4_its 10 = .ok (.iadd, 1) := by decide +kernel
theorem dX4_its_11 : decode cX4_its 11 = .ok (.iaload, 1) := by decide +kernel
theorem dX4_its_12 : decode cX4_its 12 = .ok (.ireturn, 1) := by decide +kernel
theorem dX4_puts_0 : decode cX4_puts 0 = .ok (.aload_n 0, 1) := by decide +kernel
theorem dX4_puts_1 : decode cX4_puts 1 = .ok (.getfield 7, 3) := by decide +kernel
theorem dX4_puts_4 : decode cX4_puts 4 = .ok (.iconst 3, 1) := by decide +kernel
theorem dX4_puts_5 : decode cX4_puts 5 = .ok (.iconst 4, 1) := by decide +kernel
theorem dX4_puts_6 : decode cX4_puts 6 = .ok (.iload_n 1, 1) := by decide +kernel
theorem dX4_puts_7 : decode cX4_puts 7 = .ok (.imul, 1) := by decide +kernel
theorem dX4_puts_8 : decode cX4_puts 8 = .ok (.iadd, 1) := by decide +kernel
theorem dX4_puts_9 : decode cX4_puts 9 = .ok (.iload_n 2, 1) := by decide +kernel
theorem dX4_puts_10 : decode cX4_puts 10 = .ok (.iadd, 1) := by decide +kernel
theorem dX4_puts_11 : decode cX4_puts 11 = .ok (.iload_n 3, 1) := by decide +kernel
theorem dX4_puts_12 : decode cX4_puts 12 = .ok (.iastore, 1) := by decide +kernel
theorem dX4_puts_13 : decode cX4_puts 13 = .ok (.return_, 1) := by decide +kernel
theorem dX4_becomes_0 : decode cX4_becomes 0 = .ok (.aload_n 0, 1) := by decide +kernel
theorem dX4_becomes_1 : decode cX4_becomes 1 = .ok (.getfield 7, 3) := by decide +kernel
theorem dX4_becomes_4 : decode cX4_becomes 4 = .ok (.iload_n 1, 1) := by decide +kernel
theorem dX4_becomes_5 : decode cX4_becomes 5 = .ok (.iaload, 1) := by decide +kernel
theorem dX4_becomes_6 : decode cX4_becomes 6 = .ok (.istore_n 3, 1) := by decide +kernel
theorem dX4_becomes_7 : decode cX4_becomes 7 = .ok (.aload_n 0, 1) := by decide +kernel
theorem dX4_becomes_8 : decode cX4_becomes 8 = .ok (.getfield 7, 3) := by decide +kernel
theorem dX4_becomes_11 : decode cX4_becomes 11 = .ok (.iload_n 1, 1) := by decide +kernel
theorem dX4_becomes_12 : decode cX4_becomes 12 = .ok (.iload_n 2, 1) := by decide +kernel
theorem dX4_becomes_13 : decode cX4_becomes 13 = .ok (.iastore, 1) := by decide +kernel
theorem dX4_becomes_14 : decode cX4_becomes 14 = .ok (.iload_n 3, 1) := by decide +kernel
theorem dX4_becomes_15 : decode cX4_becomes 15 = .ok (.ireturn, 1) := by decide +kernel
theorem dX4_isOne_0 : decode cX4_isOne 0 = .ok (.iload_n 1, 1) := by decide +kernel
theorem dX4_isOne_1 : decode cX4_isOne 1 = .ok (.iconst 0, 1) := by decide +kernel
theorem dX4_isOne_2 : decode cX4_isOne 2 = .ok (.aload_n 0, 1) := by decide +kernel
theorem dX4_isOne_3 : decode cX4_isOne 3 = .ok (.getfield 7, 3) := by decide +kernel
theorem dX4_isOne_6 : decode cX4_isOne 6 = .ok (.iconst 2, 1) := by decide +kernel
theorem dX4_isOne_7 : decode cX4_isOne 7 = .ok (.iaload, 1) := by decide +kernel
theorem dX4_isOne_8 : decode cX4_isOne 8 = .ok (.iconst 1, 1) := by decide +kernel
theorem dX4_isOne_9 : decode cX4_isOne 9 = .ok (.isub, 1) := by decide +kernel
theorem dX4_isOne_10 : decode cX4_isOne 10 = .ok (.invokestatic 45, 3) := by decide +kernel
theorem dX4_isOne_13 : decode cX4_isOne 13 = .ok (.ireturn, 1) := by decide +kernel
theorem dX4_isKind_0 : decode cX4_isKind 0 = .ok (.iload_n 0, 1) := by decide +kernel
theorem dX4_isKind_1 : decode cX4_isKind 1 = .ok (.iconst 0, 1) := by decide +kernel
theorem dX4_isKind_2 : decode cX4_isKind 2 = .ok (.iconst 5, 1) := by decide +kernel
theorem dX4_isKind_3 : decode cX4_isKind 3 = .ok (.invokestatic 45, 3) := by decide +kernel
theorem dX4_isKind_6 : decode cX4_isKind 6 = .ok (.ireturn, 1) := by decide +kernel
theorem dX4_next_0 : decode cX4_next 0 = .ok (.iload_n 1, 1) := by decide +kernel
theorem dX4_next_1 : decode cX4_next 1 = .ok (.iconst 1, 1) := by decide +kernel
theorem dX4_next_2 : decode cX4_next 2 = .ok (.iadd, 1) := by decide +kernel
theorem dX4_next_3 : decode cX4_next 3 = .ok (.aload_n 0, 1) := by decide +kernel
theorem dX4_next_4 : decode cX4_next 4 = .ok (.getfield 7, 3) := by decide +kernel
theorem dX4_next_7 : decode cX4_next 7 = .ok (.iconst 2, 1) := by decide +kernel
theorem dX4_next_8 : decode cX4_next 8 = .ok (.iaload, 1) := by decide +kernel
theorem dX4_next_9 : decode cX4_next 9 = .ok (.irem, 1) := by decide +kernel
theorem dX4_next_10 : decode cX4_next 10 = .ok (.ireturn, 1) := by decide +kernel
theorem dX4_isDusk_0 : decode cX4_isDusk 0 = .ok (.aload_n 0, 1) := by decide +kernel
theorem dX4_isDusk_1 : decode cX4_isDusk 1 = .ok (.getfield 7, 3) := by decide +kernel
theorem dX4_isDusk_4 : decode cX4_isDusk 4 = .ok (.iconst 0, 1) := by decide +kernel
theorem dX4_isDusk_5 : decode cX4_isDusk 5 = .ok (.iaload, 1) := by decide +kernel
theorem dX4_isDusk_6 : decode cX4_isDusk 6 = .ok (.bipush 60, 2) := by decide +kernel
theorem dX4_isDusk_8 : decode cX4_isDusk 8 = .ok (.irem, 1) := by decide +kernel
theorem dX4_isDusk_9 : decode cX4_isDusk 9 = .ok (.aload_n 0, 1) := by decide +kernel
theorem dX4_isDusk_10 : decode cX4_isDusk 10 = .ok (.getfield 7, 3) := by decide +kernel
theorem dX4_isDusk_13 : decode cX4_isDusk 13 = .ok (.iconst 1, 1) := by decide +kernel
theorem dX4_isDusk_14 : decode cX4_isDusk 14 = .ok (.iaload, 1) := by decide +kernel
theorem dX4_isDusk_15 : decode cX4_isDusk 15 = .ok (.if_icmp .lt 7, 3) := by decide +kernel
theorem dX4_isDusk_18 : decode cX4_isDusk 18 = .ok (.iconst 1, 1) := by decide +kernel
theorem dX4_isDusk_19 : decode cX4_isDusk 19 = .ok (.goto 4, 3) := by decide +kernel
theorem dX4_isDusk_22 : decode cX4_isDusk 22 = .ok (.iconst 0, 1) := by decide +kernel
theorem dX4_isDusk_23 : decode cX4_isDusk 23 = .ok (.ireturn, 1) := by decide +kernel
theorem dX4_isSaturday_0 : decode cX4_isSaturday 0 = .ok (.aload_n 0, 1) := by decide +kernel
theorem dX4_isSaturday_1 : decode cX4_isSaturday 1 = .ok (.getfield 7, 3) := by decide +kernel
theorem dX4_isSaturday_4 : decode cX4_isSaturday 4 = .ok (.iconst 0, 1) := by decide +kernel
theorem dX4_isSaturday_5 : decode cX4_isSaturday 5 = .ok (.iaload, 1) := by decide +kernel
theorem dX4_isSaturday_6 : decode cX4_isSaturday 6 = .ok (.bipush 60, 2) := by decide +kernel
theorem dX4_isSaturday_8 : decode cX4_isSaturday 8 = .ok (.idiv, 1) := by decide +kernel
theorem dX4_isSaturday_9 : decode cX4_isSaturday 9 = .ok (.bipush 7, 2) := by decide +kernel
theorem dX4_isSaturday_11 : decode cX4_isSaturday 11 = .ok (.irem, 1) := by decide +kernel
theorem dX4_isSaturday_12 : decode cX4_isSaturday 12 = .ok (.iconst 5, 1) := by decide +kernel
theorem dX4_isSaturday_13 : decode cX4_isSaturday 13 = .ok (.if_icmp .ne 7, 3) := by decide +kernel
theorem dX4_isSaturday_16 : decode cX4_isSaturday 16 = .ok (.iconst 1, 1) := by decide +kernel
theorem dX4_isSaturday_17 : decode cX4_isSaturday 17 = .ok (.goto 4, 3) := by decide +kernel
theorem dX4_isSaturday_20 : decode cX4_isSaturday 20 = .ok (.iconst 0, 1) := by decide +kernel
theorem dX4_isSaturday_21 : decode cX4_isSaturday 21 = .ok (.ireturn, 1) := by decide +kernel
theorem dX4_dark_0 : decode cX4_dark 0 = .ok (.iload_n 1, 1) := by decide +kernel
theorem dX4_dark_1 : decode cX4_dark 1 = .ok (.iconst 0, 1) := by decide +kernel
theorem dX4_dark_2 : decode cX4_dark 2 = .ok (.bipush 59, 2) := by decide +kernel
theorem dX4_dark_4 : decode cX4_dark 4 = .ok (.invokestatic 45, 3) := by decide +kernel
theorem dX4_dark_7 : decode cX4_dark 7 = .ok (.ifCond .eq 12, 3) := by decide +kernel
theorem dX4_dark_10 : decode cX4_dark 10 = .ok (.aload_n 0, 1) := by decide +kernel
theorem dX4_dark_11 : decode cX4_dark 11 = .ok (.iconst 1, 1) := by decide +kernel
theorem dX4_dark_12 : decode cX4_dark 12 = .ok (.iload_n 1, 1) := by decide +kernel
theorem dX4_dark_13 : decode cX4_dark 13 = .ok (.invokevirtual 49, 3) := by decide +kernel
theorem dX4_dark_16 : decode cX4_dark 16 = .ok (.goto 9, 3) := by decide +kernel
theorem dX4_dark_19 : decode cX4_dark 19 = .ok (.aload_n 0, 1) := by decide +kernel
theorem dX4_dark_20 : decode cX4_dark 20 = .ok (.ldc 44, 2) := by decide +kernel
theorem dX4_dark_22 : decode cX4_dark 22 = .ok (.invokevirtual 53, 3) := by decide +kernel
theorem dX4_dark_25 : decode cX4_dark 25 = .ok (.ireturn, 1) := by decide +kernel
theorem dX4_sumOf_0 : decode cX4_sumOf 0 = .ok (.iconst 0, 1) := by decide +kernel
theorem dX4_sumOf_1 : decode cX4_sumOf 1 = .ok (.istore_n 2, 1) := by decide +kernel
theorem dX4_sumOf_2 : decode cX4_sumOf 2 = .ok (.iconst 0, 1) := by decide +kernel
theorem dX4_sumOf_3 : decode cX4_sumOf 3 = .ok (.istore_n 3, 1) := by decide +kernel
theorem dX4_sumOf_4 : decode cX4_sumOf 4 = .ok (.iload_n 3, 1) := by decide +kernel
theorem dX4_sumOf_5 : decode cX4_sumOf 5 = .ok (.aload_n 0, 1) := by decide +kernel
theorem dX4_sumOf_6 : decode cX4_sumOf 6 = .ok (.getfield 7, 3) := by decide +kernel
theorem dX4_sumOf_9 : decode cX4_sumOf 9 = .ok (.iconst 2, 1) := by decide +kernel
theorem dX4_sumOf_10 : decode cX4_sumOf 10 = .ok (.iaload, 1) := by decide +kernel
theorem dX4_sumOf_11 : decode cX4_sumOf 11 = .ok (.if_icmp .ge 18, 3) := by decide +kernel
theorem dX4_sumOf_14 : decode cX4_sumOf 14 = .ok (.iload_n 2, 1) := by decide +kernel
theorem dX4_sumOf_15 : decode cX4_sumOf 15 = .ok (.aload_n 0, 1) := by decide +kernel
theorem dX4_sumOf_16 : decode cX4_sumOf 16 = .ok (.iload_n 3, 1) := by decide +kernel
theorem dX4_sumOf_17 : decode cX4_sumOf 17 = .ok (.iload_n 1, 1) := by decide +kernel
theorem dX4_sumOf_18 : decode cX4_sumOf 18 = .ok (.invokevirtual 57, 3) := by decide +kernel
theorem dX4_sumOf_21 : decode cX4_sumOf 21 = .ok (.iadd, 1) := by decide +kernel
theorem dX4_sumOf_22 : decode cX4_sumOf 22 = .ok (.istore_n 2, 1) := by decide +kernel
theorem dX4_sumOf_23 : decode cX4_sumOf 23 = .ok (.iinc 3 1, 3) := by decide +kernel
theorem dX4_sumOf_26 : decode cX4_sumOf 26 = .ok (.goto (-22), 3) := by decide +kernel
theorem dX4_sumOf_29 : decode cX4_sumOf 29 = .ok (.iload_n 2, 1) := by decide +kernel
theorem dX4_sumOf_30 : decode cX4_sumOf 30 = .ok (.ireturn, 1) := by decide +kernel
theorem dX4_mostOf_0 : decode cX4_mostOf 0 = .ok (.iconst (-1), 1) := by decide +kernel
theorem dX4_mostOf_1 : decode cX4_mostOf 1 = .ok (.istore_n 2, 1) := by decide +kernel
theorem dX4_mostOf_2 : decode cX4_mostOf 2 = .ok (.iconst 0, 1) := by decide +kernel
theorem dX4_mostOf_3 : decode cX4_mostOf 3 = .ok (.istore_n 3, 1) := by decide +kernel
theorem dX4_mostOf_4 : decode cX4_mostOf 4 = .ok (.iload_n 3, 1) := by decide +kernel
theorem dX4_mostOf_5 : decode cX4_mostOf 5 = .ok (.aload_n 0, 1) := by decide +kernel
theorem dX4_mostOf_6 : decode cX4_mostOf 6 = .ok (.getfield 7, 3) := by decide +kernel
theorem dX4_mostOf_9 : decode cX4_mostOf 9 = .ok (.iconst 2, 1) := by decide +kernel
theorem dX4_mostOf_10 : decode cX4_mostOf 10 = .ok (.iaload, 1) := by decide +kernel
theorem dX4_mostOf_11 : decode cX4_mostOf 11 = .ok (.if_icmp .ge 34, 3) := by decide +kernel
theorem dX4_mostOf_14 : decode cX4_mostOf 14 = .ok (.iload_n 2, 1) := by decide +kernel
theorem dX4_mostOf_15 : decode cX4_mostOf 15 = .ok (.ifCond .lt 18, 3) := by decide +kernel
theorem dX4_mostOf_18 : decode cX4_mostOf 18 = .ok (.aload_n 0, 1) := by decide +kernel
theorem dX4_mostOf_19 : decode cX4_mostOf 19 = .ok (.iload_n 3, 1) := by decide +kernel
theorem dX4_mostOf_20 : decode cX4_mostOf 20 = .ok (.iload_n 1, 1) := by decide +kernel
theorem dX4_mostOf_21 : decode cX4_mostOf 21 = .ok (.invokevirtual 57, 3) := by decide +kernel
theorem dX4_mostOf_24 : decode cX4_mostOf 24 = .ok (.aload_n 0, 1) := by decide +kernel
theorem dX4_mostOf_25 : decode cX4_mostOf 25 = .ok (.iload_n 2, 1) := by decide +kernel
theorem dX4_mostOf_26 : decode cX4_mostOf 26 = .ok (.iload_n 1, 1) := by decide +kernel
theorem dX4_mostOf_27 : decode cX4_mostOf 27 = .ok (.invokevirtual 57, 3) := by decide +kernel
theorem dX4_mostOf_30 : decode cX4_mostOf 30 = .ok (.if_icmp .le 7, 3) := by decide +kernel
theorem dX4_mostOf_33 : decode cX4_mostOf 33 = .ok (.iload_n 3, 1) := by decide +kernel
theorem dX4_mostOf_34 : decode cX4_mostOf 34 = .ok (.goto 4, 3) := by decide +kernel
theorem dX4_mostOf_37 : decode cX4_mostOf 37 = .ok (.iload_n 2, 1) := by decide +kernel
theorem dX4_mostOf_38 : decode cX4_mostOf 38 = .ok (.istore_n 2, 1) := by decide +kernel
theorem dX4_mostOf_39 : decode cX4_mostOf 39 = .ok (.iinc 3 1, 3) := by decide +kernel
theorem dX4_mostOf_42 : decode cX4_mostOf 42 = .ok (.goto (-38), 3) := by decide +kernel
theorem dX4_mostOf_45 : decode cX4_mostOf 45 = .ok (.iload_n 2, 1) := by decide +kernel
theorem dX4_mostOf_46 : decode cX4_mostOf 46 = .ok (.ireturn, 1) := by decide +kernel
theorem dX4_lowest_0 : decode cX4_lowest 0 = .ok (.iconst (-1), 1) := by decide +kernel
theorem dX4_lowest_1 : decode cX4_lowest 1 = .ok (.istore_n 1, 1) := by decide +kernel
theorem dX4_lowest_2 : decode cX4_lowest 2 = .ok (.iconst 0, 1) := by decide +kernel
theorem dX4_lowest_3 : decode cX4_lowest 3 = .ok (.istore_n 2, 1) := by decide +kernel
theorem dX4_lowest_4 : decode cX4_lowest 4 = .ok (.iload_n 2, 1) := by decide +kernel
theorem dX4_lowest_5 : decode cX4_lowest 5 = .ok (.aload_n 0, 1) := by decide +kernel
theorem dX4_lowest_6 : decode cX4_lowest 6 = .ok (.getfield 7, 3) := by decide +kernel
theorem dX4_lowest_9 : decode cX4_lowest 9 = .ok (.iconst 2, 1) := by decide +kernel
theorem dX4_lowest_10 : decode cX4_lowest 10 = .ok (.iaload, 1) := by decide +kernel
theorem dX4_lowest_11 : decode cX4_lowest 11 = .ok (.if_icmp .ge 34, 3) := by decide +kernel
theorem dX4_lowest_14 : decode cX4_lowest 14 = .ok (.iload_n 1, 1) := by decide +kernel
theorem dX4_lowest_15 : decode cX4_lowest 15 = .ok (.ifCond .lt 18, 3) := by decide +kernel
theorem dX4_lowest_18 : decode cX4_lowest 18 = .ok (.aload_n 0, 1) := by decide +kernel
theorem dX4_lowest_19 : decode cX4_lowest 19 = .ok (.iload_n 2, 1) := by decide +kernel
theorem dX4_lowest_20 : decode cX4_lowest 20 = .ok (.iconst 1, 1) := by decide +kernel
theorem dX4_lowest_21 : decode cX4_lowest 21 = .ok (.invokevirtual 57, 3) := by decide +kernel
theorem dX4_lowest_24 : decode cX4_lowest 24 = .ok (.aload_n 0, 1) := by decide +kernel
theorem dX4_lowest_25 : decode cX4_lowest 25 = .ok (.iload_n 1, 1) := by decide +kernel
theorem dX4_lowest_26 : decode cX4_lowest 26 = .ok (.iconst 1, 1) := by decide +kernel
theorem dX4_lowest_27 : decode cX4_lowest 27 = .ok (.invokevirtual 57, 3) := by decide +kernel
theorem dX4_lowest_30 : decode cX4_lowest 30 = .ok (.if_icmp .ge 7, 3) := by decide +kernel
theorem dX4_lowest_33 : decode cX4_lowest 33 = .ok (.iload_n 2, 1) := by decide +kernel
theorem dX4_lowest_34 : decode cX4_lowest 34 = .ok (.goto 4, 3) := by decide +kernel
theorem dX4_lowest_37 : decode cX4_lowest 37 = .ok (.iload_n 1, 1) := by decide +kernel
theorem dX4_lowest_38 : decode cX4_lowest 38 = .ok (.istore_n 1, 1) := by decide +kernel
theorem dX4_lowest_39 : decode cX4_lowest 39 = .ok (.iinc 2 1, 3) := by decide +kernel
theorem dX4_lowest_42 : decode cX4_lowest 42 = .ok (.goto (-38), 3) := by decide +kernel
theorem dX4_lowest_45 : decode cX4_lowest 45 = .ok (.iload_n 1, 1) := by decide +kernel
theorem dX4_lowest_46 : decode cX4_lowest 46 = .ok (.ireturn, 1) := by decide +kernel
theorem dX4_difference_0 : decode cX4_difference 0 = .ok (.aload_n 0, 1) := by decide +kernel
theorem dX4_difference_1 : decode cX4_difference 1 = .ok (.getfield 7, 3) := by decide +kernel
theorem dX4_difference_4 : decode cX4_difference 4 = .ok (.iconst 2, 1) := by decide +kernel
theorem dX4_difference_5 : decode cX4_difference 5 = .ok (.iaload, 1) := by decide +kernel
theorem dX4_difference_6 : decode cX4_difference 6 = .ok (.ifCond .ne 7, 3) := by decide +kernel
theorem dX4_difference_9 : decode cX4_difference 9 = .ok (.iconst 0, 1) := by decide +kernel
theorem dX4_difference_10 : decode cX4_difference 10 = .ok (.goto 23, 3) := by decide +kernel
theorem dX4_difference_13 : decode cX4_difference 13 = .ok (.aload_n 0, 1) := by decide +kernel
theorem dX4_difference_14 : decode cX4_difference 14 = .ok (.aload_n 0, 1) := by decide +kernel
theorem dX4_difference_15 : decode cX4_difference 15 = .ok (.iconst 1, 1) := by decide +kernel
theorem dX4_difference_16 : decode cX4_difference 16 = .ok (.invokevirtual 60, 3) := by decide +kernel
theorem dX4_difference_19 : decode cX4_difference 19 = .ok (.iconst 1, 1) := by decide +kernel
theorem dX4_difference_20 : decode cX4_difference 20 = .ok (.invokevirtual 57, 3) := by decide +kernel
theorem dX4_difference_23 : decode cX4_difference 23 = .ok (.aload_n 0, 1) := by decide +kernel
theorem dX4_difference_24 : decode cX4_difference 24 = .ok (.aload_n 0, 1) := by decide +kernel
theorem dX4_difference_25 : decode cX4_difference 25 = .ok (.invokevirtual 63, 3) := by decide +kernel
theorem dX4_difference_28 : decode cX4_difference 28 = .ok (.iconst 1, 1) := by decide +kernel
theorem dX4_difference_29 : decode cX4_difference 29 = .ok (.invokevirtual 57, 3) := by decide +kernel
theorem dX4_difference_32 : decode cX4_difference 32 = .ok (.isub, 1) := by decide +kernel
theorem dX4_difference_33 : decode cX4_difference 33 = .ok (.ireturn, 1) := by decide +kernel
theorem dX4_dustSet_0 : decode cX4_dustSet 0 = .ok (.iconst 0, 1) := by decide +kernel
theorem dX4_dustSet_1 : decode cX4_dustSet 1 = .ok (.istore_n 1, 1) := by decide +kernel
theorem dX4_dustSet_2 : decode cX4_dustSet 2 = .ok (.iconst 0, 1) := by decide +kernel
theorem dX4_dustSet_3 : decode cX4_dustSet 3 = .ok (.istore_n 2, 1) := by decide +kernel
theorem dX4_dustSet_4 : decode cX4_dustSet 4 = .ok (.iload_n 2, 1) := by decide +kernel
theorem dX4_dustSet_5 : decode cX4_dustSet 5 = .ok (.aload_n 0, 1) := by decide +kernel
theorem dX4_dustSet_6 : decode cX4_dustSet 6 = .ok (.getfield 7, 3) := by decide +kernel
theorem dX4_dustSet_9 : decode cX4_dustSet 9 = .ok (.iconst 2, 1) := by decide +kernel
theorem dX4_dustSet_10 : decode cX4_dustSet 10 = .ok (.iaload, 1) := by decide +kernel
theorem dX4_dustSet_11 : decode cX4_dustSet 11 = .ok (.if_icmp .ge 28, 3) := by decide +kernel
theorem dX4_dustSet_14 : decode cX4_dustSet 14 = .ok (.iload_n 1, 1) := by decide +kernel
theorem dX4_dustSet_15 : decode cX4_dustSet 15 = .ok (.aload_n 0, 1) := by decide +kernel
theorem dX4_dustSet_16 : decode cX4_dustSet 16 = .ok (.iload_n 2, 1) := by decide +kernel
theorem dX4_dustSet_17 : decode cX4_dustSet 17 = .ok (.iconst 1, 1) := by decide +kernel
theorem dX4_dustSet_18 : decode cX4_dustSet 18 = .ok (.invokevirtual 57, 3) := by decide +kernel
theorem dX4_dustSet_21 : decode cX4_dustSet 21 = .ok (.ifCond .ne 9, 3) := by decide +kernel
theorem dX4_dustSet_24 : decode cX4_dustSet 24 = .ok (.iconst 1, 1) := by decide +kernel
theorem dX4_dustSet_25 : decode cX4_dustSet 25 = .ok (.iload_n 2, 1) := by decide +kernel
theorem dX4_dustSet_26 : decode cX4_dustSet 26 = .ok (.ishl, 1) := by decide +kernel
theorem dX4_dustSet_27 : decode cX4_dustSet 27 = .ok (.goto 4, 3) := by decide +kernel
theorem dX4_dustSet_30 : decode cX4_dustSet 30 = .ok (.iconst 0, 1) := by decide +kernel
theorem dX4_dustSet_31 : decode cX4_dustSet 31 = .ok (.ior, 1) := by decide +kernel
theorem dX4_dustSet_32 : decode cX4_dustSet 32 = .ok (.istore_n 1, 1) := by decide +kernel
theorem dX4_dustSet_33 : decode cX4_dustSet 33 = .ok (.iinc 2 1, 3) := by decide +kernel
theorem dX4_dustSet_36 : decode cX4_dustSet 36 = .ok (.goto (-32), 3) := by decide +kernel
theorem dX4_dustSet_39 : decode cX4_dustSet 39 = .ok (.iload_n 1, 1) := by decide +kernel
theorem dX4_dustSet_40 : decode cX4_dustSet 40 = .ok (.ireturn, 1) := by decide +kernel
theorem dX4_now_0 : decode cX4_now 0 = .ok (.iload_n 1, 1) := by decide +kernel
theorem dX4_now_1 : decode cX4_now 1 = .ok (.tableswitch 121 0 7 #[47, 54, 64, 77, 90, 96, 110, 115], 47) := by decide +kernel
theorem dX4_now_48 : decode cX4_now 48 = .ok (.aload_n 0, 1) := by decide +kernel
theorem dX4_now_49 : decode cX4_now 49 = .ok (.getfield 7, 3) := by decide +kernel
theorem dX4_now_52 : decode cX4_now 52 = .ok (.iconst 0, 1) := by decide +kernel
theorem dX4_now_53 : decode cX4_now 53 = .ok (.iaload, 1) := by decide +kernel
theorem dX4_now_54 : decode cX4_now 54 = .ok (.ireturn, 1) := by decide +kernel
theorem dX4_now_55 : decode cX4_now 55 = .ok (.aload_n 0, 1) := by decide +kernel
theorem dX4_now_56 : decode cX4_now 56 = .ok (.getfield 7, 3) := by decide +kernel
theorem dX4_now_59 : decode cX4_now 59 = .ok (.iconst 0, 1) := by decide +kernel
theorem dX4_now_60 : decode cX4_now 60 = .ok (.iaload, 1) := by decide +kernel
theorem dX4_now_61 : decode cX4_now 61 = .ok (.bipush 60, 2) := by decide +kernel
theorem dX4_now_63 : decode cX4_now 63 = .ok (.irem, 1) := by decide +kernel
theorem dX4_now_64 : decode cX4_now 64 = .ok (.ireturn, 1) := by decide +kernel
theorem dX4_now_65 : decode cX4_now 65 = .ok (.aload_n 0, 1) := by decide +kernel
theorem dX4_now_66 : decode cX4_now 66 = .ok (.invokevirtual 67, 3) := by decide +kernel
theorem dX4_now_69 : decode cX4_now 69 = .ok (.ifCond .eq 7, 3) := by decide +kernel
theorem dX4_now_72 : decode cX4_now 72 = .ok (.iconst 1, 1) := by decide +kernel
theorem dX4_now_73 : decode cX4_now 73 = .ok (.goto 4, 3) := by decide +kernel
theorem dX4_now_76 : decode cX4_now 76 = .ok (.iconst 0, 1) := by decide +kernel
theorem dX4_now_77 : decode cX4_now 77 = .ok (.ireturn, 1) := by decide +kernel
theorem dX4_now_78 : decode cX4_now 78 = .ok (.aload_n 0, 1) := by decide +kernel
theorem dX4_now_79 : decode cX4_now 79 = .ok (.invokevirtual 71, 3) := by decide +kernel
theorem dX4_now_82 : decode cX4_now 82 = .ok (.ifCond .eq 7, 3) := by decide +kernel
theorem dX4_now_85 : decode cX4_now 85 = .ok (.iconst 1, 1) := by decide +kernel
theorem dX4_now_86 : decode cX4_now 86 = .ok (.goto 4, 3) := by decide +kernel
theorem dX4_now_89 : decode cX4_now 89 = .ok (.iconst 0, 1) := by decide +kernel
theorem dX4_now_90 : decode cX4_now 90 = .ok (.ireturn, 1) := by decide +kernel
theorem dX4_now_91 : decode cX4_now 91 = .ok (.aload_n 0, 1) := by decide +kernel
theorem dX4_now_92 : decode cX4_now 92 = .ok (.iconst 1, 1) := by decide +kernel
theorem dX4_now_93 : decode cX4_now 93 = .ok (.invokevirtual 74, 3) := by decide +kernel
theorem dX4_now_96 : decode cX4_now 96 = .ok (.ireturn, 1) := by decide +kernel
theorem dX4_now_97 : decode cX4_now 97 = .ok (.aload_n 0, 1) := by decide +kernel
theorem dX4_now_98 : decode cX4_now 98 = .ok (.invokevirtual 77, 3) := by decide +kernel
theorem dX4_now_101 : decode cX4_now 101 = .ok (.iconst 2, 1) := by decide +kernel
theorem dX4_now_102 : decode cX4_now 102 = .ok (.if_icmp .ge 7, 3) := by decide +kernel
theorem dX4_now_105 : decode cX4_now 105 = .ok (.iconst 1, 1) := by decide +kernel
theorem dX4_now_106 : decode cX4_now 106 = .ok (.goto 4, 3) := by decide +kernel
theorem dX4_now_109 : decode cX4_now 109 = .ok (.iconst 0, 1) := by decide +kernel
theorem dX4_now_110 : decode cX4_now 110 = .ok (.ireturn, 1) := by decide +kernel
theorem dX4_now_111 : decode cX4_now 111 = .ok (.aload_n 0, 1) := by decide +kernel
theorem dX4_now_112 : decode cX4_now 112 = .ok (.invokevirtual 80, 3) := by decide +kernel
theorem dX4_now_115 : decode cX4_now 115 = .ok (.ireturn, 1) := by decide +kernel
theorem dX4_now_116 : decode cX4_now 116 = .ok (.aload_n 0, 1) := by decide +kernel
theorem dX4_now_117 : decode cX4_now 117 = .ok (.iconst 1, 1) := by decide +kernel
theorem dX4_now_118 : decode cX4_now 118 = .ok (.invokevirtual 60, 3) := by decide +kernel
theorem dX4_now_121 : decode cX4_now 121 = .ok (.ireturn, 1) := by decide +kernel
theorem dX4_now_122 : decode cX4_now 122 = .ok (.aload_n 0, 1) := by decide +kernel
theorem dX4_now_123 : decode cX4_now 123 = .ok (.ldc 44, 2) := by decide +kernel
theorem dX4_now_125 : decode cX4_now 125 = .ok (.invokevirtual 53, 3) := by decide +kernel
theorem dX4_now_128 : decode cX4_now 128 = .ok (.ireturn, 1) := by decide +kernel
theorem dX4_wants_0 : decode cX4_wants 0 = .ok (.aload_n 0, 1) := by decide +kernel
theorem dX4_wants_1 : decode cX4_wants 1 = .ok (.getfield 7, 3) := by decide +kernel
theorem dX4_wants_4 : decode cX4_wants 4 = .ok (.iconst 2, 1) := by decide +kernel
theorem dX4_wants_5 : decode cX4_wants 5 = .ok (.iaload, 1) := by decide +kernel
theorem dX4_wants_6 : decode cX4_wants 6 = .ok (.iconst 1, 1) := by decide +kernel
theorem dX4_wants_7 : decode cX4_wants 7 = .ok (.if_icmp .ne 5, 3) := by decide +kernel
theorem dX4_wants_10 : decode cX4_wants 10 = .ok (.iconst 0, 1) := by decide +kernel
theorem dX4_wants_11 : decode cX4_wants 11 = .ok (.ireturn, 1) := by decide +kernel
theorem dX4_wants_12 : decode cX4_wants 12 = .ok (.aload_n 0, 1) := by decide +kernel
theorem dX4_wants_13 : decode cX4_wants 13 = .ok (.iload_n 1, 1) := by decide +kernel
theorem dX4_wants_14 : decode cX4_wants 14 = .ok (.iconst 0, 1) := by decide +kernel
theorem dX4_wants_15 : decode cX4_wants 15 = .ok (.invokevirtual 57, 3) := by decide +kernel
theorem dX4_wants_18 : decode cX4_wants 18 = .ok (.tableswitch 95 1 5 #[34, 36, 38, 64, 78], 34) := by decide +kernel
theorem dX4_wants_52 : decode cX4_wants 52 = .ok (.iconst 5, 1) := by decide +kernel
theorem dX4_wants_53 : decode cX4_wants 53 = .ok (.ireturn, 1) := by decide +kernel
theorem dX4_wants_54 : decode cX4_wants 54 = .ok (.iconst 1, 1) := by decide +kernel
theorem dX4_wants_55 : decode cX4_wants 55 = .ok (.ireturn, 1) := by decide +kernel
theorem dX4_wants_56 : decode cX4_wants 56 = .ok (.aload_n 0, 1) := by decide +kernel
theorem dX4_wants_57 : decode cX4_wants 57 = .ok (.aload_n 0, 1) := by decide +kernel
theorem dX4_wants_58 : decode cX4_wants 58 = .ok (.iload_n 1, 1) := by decide +kernel
theorem dX4_wants_59 : decode cX4_wants 59 = .ok (.invokevirtual 83, 3) := by decide +kernel
theorem dX4_wants_62 : decode cX4_wants 62 = .ok (.iconst 1, 1) := by decide +kernel
theorem dX4_wants_63 : decode cX4_wants 63 = .ok (.invokevirtual 57, 3) := by decide +kernel
theorem dX4_wants_66 : decode cX4_wants 66 = .ok (.aload_n 0, 1) := by decide +kernel
theorem dX4_wants_67 : decode cX4_wants 67 = .ok (.iload_n 1, 1) := by decide +kernel
theorem dX4_wants_68 : decode cX4_wants 68 = .ok (.iconst 1, 1) := by decide +kernel
theorem dX4_wants_69 : decode cX4_wants 69 = .ok (.invokevirtual 57, 3) := by decide +kernel
theorem dX4_wants_72 : decode cX4_wants 72 = .ok (.if_icmp .ge 8, 3) := by decide +kernel
theorem dX4_wants_75 : decode cX4_wants 75 = .ok (.bipush (-3), 2) := by decide +kernel
theorem dX4_wants_77 : decode cX4_wants 77 = .ok (.goto 4, 3) := by decide +kernel
theorem dX4_wants_80 : decode cX4_wants 80 = .ok (.iconst 0, 1) := by decide +kernel
theorem dX4_wants_81 : decode cX4_wants 81 = .ok (.ireturn, 1) := by decide +kernel
theorem dX4_wants_82 : decode cX4_wants 82 = .ok (.aload_n 0, 1) := by decide +kernel
theorem dX4_wants_83 : decode cX4_wants 83 = .ok (.invokevirtual 71, 3) := by decide +kernel
theorem dX4_wants_86 : decode cX4_wants 86 = .ok (.ifCond .eq 8, 3) := by decide +kernel
theorem dX4_wants_89 : decode cX4_wants 89 = .ok (.bipush 10, 2) := by decide +kernel
theorem dX4_wants_91 : decode cX4_wants 91 = .ok (.goto 4, 3) := by decide +kernel
theorem dX4_wants_94 : decode cX4_wants 94 = .ok (.iconst 5, 1) := by decide +kernel
theorem dX4_wants_95 : decode cX4_wants 95 = .ok (.ireturn, 1) := by decide +kernel
theorem dX4_wants_96 : decode cX4_wants 96 = .ok (.aload_n 0, 1) := by decide +kernel
theorem dX4_wants_97 : decode cX4_wants 97 = .ok (.iload_n 1, 1) := by decide +kernel
theorem dX4_wants_98 : decode cX4_wants 98 = .ok (.iconst 1, 1) := by decide +kernel
theorem dX4_wants_99 : decode cX4_wants 99 = .ok (.invokevirtual 57, 3) := by decide +kernel
theorem dX4_wants_102 : decode cX4_wants 102 = .ok (.bipush 60, 2) := by decide +kernel
theorem dX4_wants_104 : decode cX4_wants 104 = .ok (.if_icmp .le 7, 3) := by decide +kernel
theorem dX4_wants_107 : decode cX4_wants 107 = .ok (.iconst 0, 1) := by decide +kernel
theorem dX4_wants_108 : decode cX4_wants 108 = .ok (.goto 4, 3) := by decide +kernel
theorem dX4_wants_111 : decode cX4_wants 111 = .ok (.iconst 1, 1) := by decide +kernel
theorem dX4_wants_112 : decode cX4_wants 112 = .ok (.ireturn, 1) := by decide +kernel
theorem dX4_wants_113 : decode cX4_wants 113 = .ok (.iconst 2, 1) := by decide +kernel
theorem dX4_wants_114 : decode cX4_wants 114 = .ok (.ireturn, 1) := by decide +kernel
theorem dX4_pays_0 : decode cX4_pays 0 = .ok (.aload_n 0, 1) := by decide +kernel
theorem dX4_pays_1 : decode cX4_pays 1 = .ok (.iload_n 1, 1) := by decide +kernel
theorem dX4_pays_2 : decode cX4_pays 2 = .ok (.iconst 0, 1) := by decide +kernel
theorem dX4_pays_3 : decode cX4_pays 3 = .ok (.invokevirtual 57, 3) := by decide +kernel
theorem dX4_pays_6 : decode cX4_pays 6 = .ok (.iconst 2, 1) := by decide +kernel
theorem dX4_pays_7 : decode cX4_pays 7 = .ok (.if_icmp .ne 7, 3) := by decide +kernel
theorem dX4_pays_10 : decode cX4_pays 10 = .ok (.iconst 1, 1) := by decide +kernel
theorem dX4_pays_11 : decode cX4_pays 11 = .ok (.goto 4, 3) := by decide +kernel
theorem dX4_pays_14 : decode cX4_pays 14 = .ok (.iconst 0, 1) := by decide +kernel
theorem dX4_pays_15 : decode cX4_pays 15 = .ok (.ireturn, 1) := by decide +kernel
theorem dX4_yields_0 : decode cX4_yields 0 = .ok (.aload_n 0, 1) := by decide +kernel
theorem dX4_yields_1 : decode cX4_yields 1 = .ok (.iload_n 1, 1) := by decide +kernel
theorem dX4_yields_2 : decode cX4_yields 2 = .ok (.iconst 0, 1) := by decide +kernel
theorem dX4_yields_3 : decode cX4_yields 3 = .ok (.invokevirtual 57, 3) := by decide +kernel
theorem dX4_yields_6 : decode cX4_yields 6 = .ok (.tableswitch 59 1 5 #[34, 36, 39, 46, 36], 34) := by decide +kernel
theorem dX4_yields_40 : decode cX4_yields 40 = .ok (.iconst 2, 1) := by decide +kernel
theorem dX4_yields_41 : decode cX4_yields 41 = .ok (.ireturn, 1) := by decide +kernel
theorem dX4_yields_42 : decode cX4_yields 42 = .ok (.bipush 8, 2) := by decide +kernel
theorem dX4_yields_44 : decode cX4_yields 44 = .ok (.ireturn, 1) := by decide +kernel
theorem dX4_yields_45 : decode cX4_yields 45 = .ok (.aload_n 0, 1) := by decide +kernel
theorem dX4_yields_46 : decode cX4_yields 46 = .ok (.iload_n 1, 1) := by decide +kernel
theorem dX4_yields_47 : decode cX4_yields 47 = .ok (.iconst 1, 1) := by decide +kernel
theorem dX4_yields_48 : decode cX4_yields 48 = .ok (.invokevirtual 57, 3) := by decide +kernel
theorem dX4_yields_51 : decode cX4_yields 51 = .ok (.ireturn, 1) := by decide +kernel
theorem dX4_yields_52 : decode cX4_yields 52 = .ok (.aload_n 0, 1) := by decide +kernel
theorem dX4_yields_53 : decode cX4_yields 53 = .ok (.invokevirtual 71, 3) := by decide +kernel
theorem dX4_yields_56 : decode cX4_yields 56 = .ok (.ifCond .eq 7, 3) := by decide +kernel
theorem dX4_yields_59 : decode cX4_yields 59 = .ok (.iconst 0, 1) := by decide +kernel
theorem dX4_yields_60 : decode cX4_yields 60 = .ok (.goto 4, 3) := by decide +kernel
theorem dX4_yields_63 : decode cX4_yields 63 = .ok (.iconst 2, 1) := by decide +kernel
theorem dX4_yields_64 : decode cX4_yields 64 = .ok (.ireturn, 1) := by decide +kernel
theorem dX4_yields_65 : decode cX4_yields 65 = .ok (.iconst 4, 1) := by decide +kernel
theorem dX4_yields_66 : decode cX4_yields 66 = .ok (.ireturn, 1) := by decide +kernel
theorem dX4_adds_0 : decode cX4_adds 0 = .ok (.aload_n 0, 1) := by decide +kernel
theorem dX4_adds_1 : decode cX4_adds 1 = .ok (.getfield 7, 3) := by decide +kernel
theorem dX4_adds_4 : decode cX4_adds 4 = .ok (.iconst 2, 1) := by decide +kernel
theorem dX4_adds_5 : decode cX4_adds 5 = .ok (.iaload, 1) := by decide +kernel
theorem dX4_adds_6 : decode cX4_adds 6 = .ok (.istore 4, 2) := by decide +kernel
theorem dX4_adds_8 : decode cX4_adds 8 = .ok (.aload_n 0, 1) := by decide +kernel
theorem dX4_adds_9 : decode cX4_adds 9 = .ok (.iload 4, 2) := by decide +kernel
theorem dX4_adds_11 : decode cX4_adds 11 = .ok (.iconst 0, 1) := by decide +kernel
theorem dX4_adds_12 : decode cX4_adds 12 = .ok (.iload_n 1, 1) := by decide +kernel
theorem dX4_adds_13 : decode cX4_adds 13 = .ok (.invokevirtual 86, 3) := by decide +kernel
theorem dX4_adds_16 : decode cX4_adds 16 = .ok (.aload_n 0, 1) := by decide +kernel
theorem dX4_adds_17 : decode cX4_adds 17 = .ok (.iload 4, 2) := by decide +kernel
theorem dX4_adds_19 : decode cX4_adds 19 = .ok (.iconst 1, 1) := by decide +kernel
theorem dX4_adds_20 : decode cX4_adds 20 = .ok (.iload_n 2, 1) := by decide +kernel
theorem dX4_adds_21 : decode cX4_adds 21 = .ok (.invokevirtual 86, 3) := by decide +kernel
theorem dX4_adds_24 : decode cX4_adds 24 = .ok (.aload_n 0, 1) := by decide +kernel
theorem dX4_adds_25 : decode cX4_adds 25 = .ok (.iload 4, 2) := by decide +kernel
theorem dX4_adds_27 : decode cX4_adds 27 = .ok (.iconst 2, 1) := by decide +kernel
theorem dX4_adds_28 : decode cX4_adds 28 = .ok (.iload_n 3, 1) := by decide +kernel
theorem dX4_adds_29 : decode cX4_adds 29 = .ok (.invokevirtual 86, 3) := by decide +kernel
theorem dX4_adds_32 : decode cX4_adds 32 = .ok (.aload_n 0, 1) := by decide +kernel
theorem dX4_adds_33 : decode cX4_adds 33 = .ok (.iload 4, 2) := by decide +kernel
theorem dX4_adds_35 : decode cX4_adds 35 = .ok (.iconst 3, 1) := by decide +kernel
theorem dX4_adds_36 : decode cX4_adds 36 = .ok (.iconst 0, 1) := by decide +kernel
theorem dX4_adds_37 : decode cX4_adds 37 = .ok (.invokevirtual 86, 3) := by decide +kernel
theorem dX4_adds_40 : decode cX4_adds 40 = .ok (.aload_n 0, 1) := by decide +kernel
theorem dX4_adds_41 : decode cX4_adds 41 = .ok (.getfield 7, 3) := by decide +kernel
theorem dX4_adds_44 : decode cX4_adds 44 = .ok (.iconst 2, 1) := by decide +kernel
theorem dX4_adds_45 : decode cX4_adds 45 = .ok (.dup2, 1) := by decide +kernel
theorem dX4_adds_46 : decode cX4_adds 46 = .ok (.iaload, 1) := by decide +kernel
theorem dX4_adds_47 : decode cX4_adds 47 = .ok (.iconst 1, 1) := by decide +kernel
theorem dX4_adds_48 : decode cX4_adds 48 = .ok (.iadd, 1) := by decide +kernel
theorem dX4_adds_49 : decode cX4_adds 49 = .ok (.iastore, 1) := by decide +kernel
theorem dX4_adds_50 : decode cX4_adds 50 = .ok (.return_, 1) := by decide +kernel
theorem dX4_child_0 : decode cX4_child 0 = .ok (.iload_n 1, 1) := by decide +kernel
theorem dX4_child_1 : decode cX4_child 1 = .ok (.invokestatic 90, 3) := by decide +kernel
theorem dX4_child_4 : decode cX4_child 4 = .ok (.ifCond .ne 10, 3) := by decide +kernel
theorem dX4_child_7 : decode cX4_child 7 = .ok (.aload_n 0, 1) := by decide +kernel
theorem dX4_child_8 : decode cX4_child 8 = .ok (.ldc 44, 2) := by decide +kernel
theorem dX4_child_10 : decode cX4_child 10 = .ok (.invokevirtual 53, 3) := by decide +kernel
theorem dX4_child_13 : decode cX4_child 13 = .ok (.ireturn, 1) := by decide +kernel
theorem dX4_child_14 : decode cX4_child 14 = .ok (.aload_n 0, 1) := by decide +kernel
theorem dX4_child_15 : decode cX4_child 15 = .ok (.getfield 7, 3) := by decide +kernel
theorem dX4_child_18 : decode cX4_child 18 = .ok (.iconst 2, 1) := by decide +kernel
theorem dX4_child_19 : decode cX4_child 19 = .ok (.iaload, 1) := by decide +kernel
theorem dX4_child_20 : decode cX4_child 20 = .ok (.bipush 8, 2) := by decide +kernel
theorem dX4_child_22 : decode cX4_child 22 = .ok (.if_icmp .ne 10, 3) := by decide +kernel
theorem dX4_child_25 : decode cX4_child 25 = .ok (.aload_n 0, 1) := by decide +kernel
theorem dX4_child_26 : decode cX4_child 26 = .ok (.ldc 94, 2) := by decide +kernel
theorem dX4_child_28 : decode cX4_child 28 = .ok (.invokevirtual 53, 3) := by decide +kernel
theorem dX4_child_31 : decode cX4_child 31 = .ok (.ireturn, 1) := by decide +kernel
theorem dX4_child_32 : decode cX4_child 32 = .ok (.aload_n 0, 1) := by decide +kernel
theorem dX4_child_33 : decode cX4_child 33 = .ok (.iload_n 1, 1) := by decide +kernel
theorem dX4_child_34 : decode cX4_child 34 = .ok (.bipush 50, 2) := by decide +kernel
theorem dX4_child_36 : decode cX4_child 36 = .ok (.iconst 5, 1) := by decide +kernel
theorem dX4_child_37 : decode cX4_child 37 = .ok (.invokevirtual 95, 3) := by decide +kernel
theorem dX4_child_40 : decode cX4_child 40 = .ok (.aload_n 0, 1) := by decide +kernel
theorem dX4_child_41 : decode cX4_child 41 = .ok (.getfield 7, 3) := by decide +kernel
theorem dX4_child_44 : decode cX4_child 44 = .ok (.iconst 2, 1) := by decide +kernel
theorem dX4_child_45 : decode cX4_child 45 = .ok (.iaload, 1) := by decide +kernel
theorem dX4_child_46 : decode cX4_child 46 = .ok (.iconst 1, 1) := by decide +kernel
theorem dX4_child_47 : decode cX4_child 47 = .ok (.isub, 1) := by decide +kernel
theorem dX4_child_48 : decode cX4_child 48 = .ok (.ireturn, 1) := by decide +kernel
theorem dX4_of_0 : decode cX4_of 0 = .ok (.aload_n 0, 1) := by decide +kernel
theorem dX4_of_1 : decode cX4_of 1 = .ok (.iload_n 1, 1) := by decide +kernel
theorem dX4_of_2 : decode cX4_of 2 = .ok (.invokevirtual 98, 3) := by decide +kernel
theorem dX4_of_5 : decode cX4_of 5 = .ok (.ifCond .eq 13, 3) := by decide +kernel
theorem dX4_of_8 : decode cX4_of 8 = .ok (.iload_n 2, 1) := by decide +kernel
theorem dX4_of_9 : decode cX4_of 9 = .ok (.iconst 0, 1) := by decide +kernel
theorem dX4_of_10 : decode cX4_of 10 = .ok (.bipush 6, 2) := by decide +kernel
theorem dX4_of_12 : decode cX4_of 12 = .ok (.invokestatic 45, 3) := by decide +kernel
theorem dX4_of_15 : decode cX4_of 15 = .ok (.ifCond .ne 10, 3) := by decide +kernel
theorem dX4_of_18 : decode cX4_of 18 = .ok (.aload_n 0, 1) := by decide +kernel
theorem dX4_of_19 : decode cX4_of 19 = .ok (.ldc 44, 2) := by decide +kernel
theorem dX4_of_21 : decode cX4_of 21 = .ok (.invokevirtual 53, 3) := by decide +kernel
theorem dX4_of_24 : decode cX4_of 24 = .ok (.ireturn, 1) := by decide +kernel
theorem dX4_of_25 : decode cX4_of 25 = .ok (.iload_n 2, 1) := by decide +kernel
theorem dX4_of_26 : decode cX4_of 26 = .ok (.tableswitch 61 3 6 #[30, 40, 49, 55], 30) := by decide +kernel
theorem dX4_of_56 : decode cX4_of 56 = .ok (.ldc 101, 2) := by decide +kernel
theorem dX4_of_58 : decode cX4_of 58 = .ok (.aload_n 0, 1) := by decide +kernel
theorem dX4_of_59 : decode cX4_of 59 = .ok (.iload_n 1, 1) := by decide +kernel
theorem dX4_of_60 : decode cX4_of 60 = .ok (.iconst 3, 1) := by decide +kernel
theorem dX4_of_61 : decode cX4_of 61 = .ok (.invokevirtual 57, 3) := by decide +kernel
theorem dX4_of_64 : decode cX4_of 64 = .ok (.iadd, 1) := by decide +kernel
theorem dX4_of_65 : decode cX4_of 65 = .ok (.ireturn, 1) := by decide +kernel
theorem dX4_of_66 : decode cX4_of 66 = .ok (.bipush 100, 2) := by decide +kernel
theorem dX4_of_68 : decode cX4_of 68 = .ok (.aload_n 0, 1) := by decide +kernel
theorem dX4_of_69 : decode cX4_of 69 = .ok (.iload_n 1, 1) := by decide +kernel
theorem dX4_of_70 : decode cX4_of 70 = .ok (.invokevirtual 102, 3) := by decide +kernel
theorem dX4_of_73 : decode cX4_of 73 = .ok (.iadd, 1) := by decide +kernel
theorem dX4_of_74 : decode cX4_of 74 = .ok (.ireturn, 1) := by decide +kernel
theorem dX4_of_75 : decode cX4_of 75 = .ok (.aload_n 0, 1) := by decide +kernel
theorem dX4_of_76 : decode cX4_of 76 = .ok (.iload_n 1, 1) := by decide +kernel
theorem dX4_of_77 : decode cX4_of 77 = .ok (.invokevirtual 105, 3) := by decide +kernel
theorem dX4_of_80 : decode cX4_of 80 = .ok (.ireturn, 1) := by decide +kernel
theorem dX4_of_81 : decode cX4_of 81 = .ok (.aload_n 0, 1) := by decide +kernel
theorem dX4_of_82 : decode cX4_of 82 = .ok (.iload_n 1, 1) := by decide +kernel
theorem dX4_of_83 : decode cX4_of 83 = .ok (.invokevirtual 108, 3) := by decide +kernel
theorem dX4_of_86 : decode cX4_of 86 = .ok (.ireturn, 1) := by decide +kernel
theorem dX4_of_87 : decode cX4_of 87 = .ok (.aload_n 0, 1) := by decide +kernel
theorem dX4_of_88 : decode cX4_of 88 = .ok (.iload_n 1, 1) := by decide +kernel
theorem dX4_of_89 : decode cX4_of 89 = .ok (.iload_n 2, 1) := by decide +kernel
theorem dX4_of_90 : decode cX4_of 90 = .ok (.invokevirtual 57, 3) := by decide +kernel
theorem dX4_of_93 : decode cX4_of 93 = .ok (.ireturn, 1) := by decide +kernel
theorem dX4_isPart_0 : decode cX4_isPart 0 = .ok (.iload_n 0, 1) := by decide +kernel
theorem dX4_isPart_1 : decode cX4_isPart 1 = .ok (.lookupswitch 44 #[(1, 27), (2, 36)], 27) := by decide +kernel
theorem dX4_isPart_28 : decode cX4_isPart 28 = .ok (.iload_n 1, 1) := by decide +kernel
theorem dX4_isPart_29 : decode cX4_isPart 29 = .ok (.iconst 0, 1) := by decide +kernel
theorem dX4_isPart_30 : decode cX4_isPart 30 = .ok (.sipush 200, 3) := by decide +kernel
theorem dX4_isPart_33 : decode cX4_isPart 33 = .ok (.invokestatic 45, 3) := by decide +kernel
theorem dX4_isPart_36 : decode cX4_isPart 36 = .ok (.ireturn, 1) := by decide +kernel
theorem dX4_isPart_37 : decode cX4_isPart 37 = .ok (.iload_n 1, 1) := by decide +kernel
theorem dX4_isPart_38 : decode cX4_isPart 38 = .ok (.iconst 0, 1) := by decide +kernel
theorem dX4_isPart_39 : decode cX4_isPart 39 = .ok (.bipush 99, 2) := by decide +kernel
theorem dX4_isPart_41 : decode cX4_isPart 41 = .ok (.invokestatic 45, 3) := by decide +kernel
theorem dX4_isPart_44 : decode cX4_isPart 44 = .ok (.ireturn, 1) := by decide +kernel
theorem dX4_isPart_45 : decode cX4_isPart 45 = .ok (.iload_n 0, 1) := by decide +kernel
theorem dX4_isPart_46 : decode cX4_isPart 46 = .ok (.iconst 3, 1) := by decide +kernel
theorem dX4_isPart_47 : decode cX4_isPart 47 = .ok (.if_icmp .ne 20, 3) := by decide +kernel
theorem dX4_isPart_50 : decode cX4_isPart 50 = .ok (.iload_n 1, 1) := by decide +kernel
theorem dX4_isPart_51 : decode cX4_isPart 51 = .ok (.sipush (-9999), 3) := by decide +kernel
theorem dX4_isPart_54 : decode cX4_isPart 54 = .ok (.sipush 9999, 3) := by decide +kernel
theorem dX4_isPart_57 : decode cX4_isPart 57 = .ok (.invokestatic 45, 3) := by decide +kernel
theorem dX4_isPart_60 : decode cX4_isPart 60 = .ok (.ifCond .eq 7, 3) := by decide +kernel
theorem dX4_isPart_63 : decode cX4_isPart 63 = .ok (.iconst 1, 1) := by decide +kernel
theorem dX4_isPart_64 : decode cX4_isPart 64 = .ok (.goto 4, 3) := by decide +kernel
theorem dX4_isPart_67 : decode cX4_isPart 67 = .ok (.iconst 0, 1) := by decide +kernel
theorem dX4_isPart_68 : decode cX4_isPart 68 = .ok (.ireturn, 1) := by decide +kernel
end
section
theorem dX4_set_0 : decode cX4_set 0 = .ok (.aload_n 0, 1) := by decide +kernel
theorem dX4_set_1 : decode cX4_set 1 = .ok (.iload_n 1, 1) := by decide +kernel
theorem dX4_set_2 : decode cX4_set 2 = .ok (.invokevirtual 98, 3) := by decide +kernel
theorem dX4_set_5 : decode cX4_set 5 = .ok (.ifCond .eq 26, 3) := by decide +kernel
theorem dX4_set_8 : decode cX4_set 8 = .ok (.iload_n 2, 1) := by decide +kernel
theorem dX4_set_9 : decode cX4_set 9 = .ok (.iload_n 3, 1) := by decide +kernel
theorem dX4_set_10 : decode cX4_set 10 = .ok (.invokestatic 111, 3) := by decide +kernel
theorem dX4_set_13 : decode cX4_set 13 = .ok (.ifCond .eq 18, 3) := by decide +kernel
theorem dX4_set_16 : decode cX4_set 16 = .ok (.aload_n 0, 1) := by decide +kernel
theorem dX4_set_17 : decode cX4_set 17 = .ok (.iconst 3, 1) := by decide +kernel
theorem dX4_set_18 : decode cX4_set 18 = .ok (.iconst 4, 1) := by decide +kernel
theorem dX4_set_19 : decode cX4_set 19 = .ok (.iload_n 1, 1) := by decide +kernel
theorem dX4_set_20 : decode cX4_set 20 = .ok (.imul, 1) := by decide +kernel
theorem dX4_set_21 : decode cX4_set 21 = .ok (.iadd, 1) := by decide +kernel
theorem dX4_set_22 : decode cX4_set 22 = .ok (.iload_n 2, 1) := by decide +kernel
theorem dX4_set_23 : decode cX4_set 23 = .ok (.iadd, 1) := by decide +kernel
theorem dX4_set_24 : decode cX4_set 24 = .ok (.iload_n 3, 1) := by decide +kernel
theorem dX4_set_25 : decode cX4_set 25 = .ok (.invokevirtual 49, 3) := by decide +kernel
theorem dX4_set_28 : decode cX4_set 28 = .ok (.goto 9, 3) := by decide +kernel
theorem dX4_set_31 : decode cX4_set 31 = .ok (.aload_n 0, 1) := by decide +kernel
theorem dX4_set_32 : decode cX4_set 32 = .ok (.ldc 44, 2) := by decide +kernel
theorem dX4_set_34 : decode cX4_set 34 = .ok (.invokevirtual 53, 3) := by decide +kernel
theorem dX4_set_37 : decode cX4_set 37 = .ok (.ireturn, 1) := by decide +kernel
theorem dX4_turn_0 : decode cX4_turn 0 = .ok (.aload_n 0, 1) := by decide +kernel
theorem dX4_turn_1 : decode cX4_turn 1 = .ok (.iload_n 1, 1) := by decide +kernel
theorem dX4_turn_2 : decode cX4_turn 2 = .ok (.invokevirtual 98, 3) := by decide +kernel
theorem dX4_turn_5 : decode cX4_turn 5 = .ok (.ifCond .eq 23, 3) := by decide +kernel
theorem dX4_turn_8 : decode cX4_turn 8 = .ok (.iload_n 2, 1) := by decide +kernel
theorem dX4_turn_9 : decode cX4_turn 9 = .ok (.invokestatic 90, 3) := by decide +kernel
theorem dX4_turn_12 : decode cX4_turn 12 = .ok (.ifCond .eq 16, 3) := by decide +kernel
theorem dX4_turn_15 : decode cX4_turn 15 = .ok (.aload_n 0, 1) := by decide +kernel
theorem dX4_turn_16 : decode cX4_turn 16 = .ok (.iconst 3, 1) := by decide +kernel
theorem dX4_turn_17 : decode cX4_turn 17 = .ok (.iconst 4, 1) := by decide +kernel
theorem dX4_turn_18 : decode cX4_turn 18 = .ok (.iload_n 1, 1) := by decide +kernel
theorem dX4_turn_19 : decode cX4_turn 19 = .ok (.imul, 1) := by decide +kernel
theorem dX4_turn_20 : decode cX4_turn 20 = .ok (.iadd, 1) := by decide +kernel
theorem dX4_turn_21 : decode cX4_turn 21 = .ok (.iload_n 2, 1) := by decide +kernel
theorem dX4_turn_22 : decode cX4_turn 22 = .ok (.invokevirtual 49, 3) := by decide +kernel
theorem dX4_turn_25 : decode cX4_turn 25 = .ok (.goto 9, 3) := by decide +kernel
theorem dX4_turn_28 : decode cX4_turn 28 = .ok (.aload_n 0, 1) := by decide +kernel
theorem dX4_turn_29 : decode cX4_turn 29 = .ok (.ldc 44, 2) := by decide +kernel
theorem dX4_turn_31 : decode cX4_turn 31 = .ok (.invokevirtual 53, 3) := by decide +kernel
theorem dX4_turn_34 : decode cX4_turn 34 = .ok (.ireturn, 1) := by decide +kernel
theorem dX4_as_0 : decode cX4_as 0 = .ok (.aload_n 0, 1) := by decide +kernel
theorem dX4_as_1 : decode cX4_as 1 = .ok (.iload_n 1, 1) := by decide +kernel
theorem dX4_as_2 : decode cX4_as 2 = .ok (.invokevirtual 98, 3) := by decide +kernel
theorem dX4_as_5 : decode cX4_as 5 = .ok (.ifCond .eq 10, 3) := by decide +kernel
theorem dX4_as_8 : decode cX4_as 8 = .ok (.iload_n 2, 1) := by decide +kernel
theorem dX4_as_9 : decode cX4_as 9 = .ok (.invokestatic 90, 3) := by decide +kernel
theorem dX4_as_12 : decode cX4_as 12 = .ok (.ifCond .ne 10, 3) := by decide +kernel
theorem dX4_as_15 : decode cX4_as 15 = .ok (.aload_n 0, 1) := by decide +kernel
theorem dX4_as_16 : decode cX4_as 16 = .ok (.ldc 44, 2) := by decide +kernel
theorem dX4_as_18 : decode cX4_as 18 = .ok (.invokevirtual 53, 3) := by decide +kernel
theorem dX4_as_21 : decode cX4_as 21 = .ok (.ireturn, 1) := by decide +kernel
theorem dX4_as_22 : decode cX4_as 22 = .ok (.aload_n 0, 1) := by decide +kernel
theorem dX4_as_23 : decode cX4_as 23 = .ok (.iload_n 1, 1) := by decide +kernel
theorem dX4_as_24 : decode cX4_as 24 = .ok (.iconst 0, 1) := by decide +kernel
theorem dX4_as_25 : decode cX4_as 25 = .ok (.invokevirtual 57, 3) := by decide +kernel
theorem dX4_as_28 : decode cX4_as 28 = .ok (.istore_n 3, 1) := by decide +kernel
theorem dX4_as_29 : decode cX4_as 29 = .ok (.iload_n 2, 1) := by decide +kernel
theorem dX4_as_30 : decode cX4_as 30 = .ok (.ifCond .eq 28, 3) := by decide +kernel
theorem dX4_as_33 : decode cX4_as 33 = .ok (.iload_n 2, 1) := by decide +kernel
theorem dX4_as_34 : decode cX4_as 34 = .ok (.iload_n 3, 1) := by decide +kernel
theorem dX4_as_35 : decode cX4_as 35 = .ok (.if_icmp .eq 23, 3) := by decide +kernel
theorem dX4_as_38 : decode cX4_as 38 = .ok (.iload_n 2, 1) := by decide +kernel
theorem dX4_as_39 : decode cX4_as 39 = .ok (.iconst 1, 1) := by decide +kernel
theorem dX4_as_40 : decode cX4_as 40 = .ok (.if_icmp .ne 8, 3) := by decide +kernel
theorem dX4_as_43 : decode cX4_as 43 = .ok (.iload_n 3, 1) := by decide +kernel
theorem dX4_as_44 : decode cX4_as 44 = .ok (.iconst 4, 1) := by decide +kernel
theorem dX4_as_45 : decode cX4_as 45 = .ok (.if_icmp .eq 13, 3) := by decide +kernel
theorem dX4_as_48 : decode cX4_as 48 = .ok (.iload_n 2, 1) := by decide +kernel
theorem dX4_as_49 : decode cX4_as 49 = .ok (.iconst 2, 1) := by decide +kernel
theorem dX4_as_50 : decode cX4_as 50 = .ok (.if_icmp .ne 12, 3) := by decide +kernel
theorem dX4_as_53 : decode cX4_as 53 = .ok (.iload_n 3, 1) := by decide +kernel
theorem dX4_as_54 : decode cX4_as 54 = .ok (.iconst 5, 1) := by decide +kernel
theorem dX4_as_55 : decode cX4_as 55 = .ok (.if_icmp .ne 7, 3) := by decide +kernel
theorem dX4_as_58 : decode cX4_as 58 = .ok (.iconst 1, 1) := by decide +kernel
theorem dX4_as_59 : decode cX4_as 59 = .ok (.goto 4, 3) := by decide +kernel
theorem dX4_as_62 : decode cX4_as 62 = .ok (.iconst 0, 1) := by decide +kernel
theorem dX4_as_63 : decode cX4_as 63 = .ok (.istore 4, 2) := by decide +kernel
theorem dX4_as_65 : decode cX4_as 65 = .ok (.iload 4, 2) := by decide +kernel
theorem dX4_as_67 : decode cX4_as 67 = .ok (.ifCond .eq 12, 3) := by decide +kernel
theorem dX4_as_70 : decode cX4_as 70 = .ok (.aload_n 0, 1) := by decide +kernel
theorem dX4_as_71 : decode cX4_as 71 = .ok (.iload_n 1, 1) := by decide +kernel
theorem dX4_as_72 : decode cX4_as 72 = .ok (.iconst 1, 1) := by decide +kernel
theorem dX4_as_73 : decode cX4_as 73 = .ok (.invokevirtual 57, 3) := by decide +kernel
theorem dX4_as_76 : decode cX4_as 76 = .ok (.goto 9, 3) := by decide +kernel
theorem dX4_as_79 : decode cX4_as 79 = .ok (.aload_n 0, 1) := by decide +kernel
theorem dX4_as_80 : decode cX4_as 80 = .ok (.ldc 115, 2) := by decide +kernel
theorem dX4_as_82 : decode cX4_as 82 = .ok (.invokevirtual 53, 3) := by decide +kernel
theorem dX4_as_85 : decode cX4_as 85 = .ok (.ireturn, 1) := by decide +kernel
theorem dX4_pushes_0 : decode cX4_pushes 0 = .ok (.aload_n 0, 1) := by decide +kernel
theorem dX4_pushes_1 : decode cX4_pushes 1 = .ok (.iload_n 1, 1) := by decide +kernel
theorem dX4_pushes_2 : decode cX4_pushes 2 = .ok (.iconst 1, 1) := by decide +kernel
theorem dX4_pushes_3 : decode cX4_pushes 3 = .ok (.aload_n 0, 1) := by decide +kernel
theorem dX4_pushes_4 : decode cX4_pushes 4 = .ok (.iload_n 1, 1) := by decide +kernel
theorem dX4_pushes_5 : decode cX4_pushes 5 = .ok (.iconst 1, 1) := by decide +kernel
theorem dX4_pushes_6 : decode cX4_pushes 6 = .ok (.invokevirtual 57, 3) := by decide +kernel
theorem dX4_pushes_9 : decode cX4_pushes 9 = .ok (.iload_n 2, 1) := by decide +kernel
theorem dX4_pushes_10 : decode cX4_pushes 10 = .ok (.iadd, 1) := by decide +kernel
theorem dX4_pushes_11 : decode cX4_pushes 11 = .ok (.sipush 200, 3) := by decide +kernel
theorem dX4_pushes_14 : decode cX4_pushes 14 = .ok (.invokestatic 116, 3) := by decide +kernel
theorem dX4_pushes_17 : decode cX4_pushes 17 = .ok (.invokevirtual 86, 3) := by decide +kernel
theorem dX4_pushes_20 : decode cX4_pushes 20 = .ok (.return_, 1) := by decide +kernel
theorem dX4_push_0 : decode cX4_push 0 = .ok (.aload_n 0, 1) := by decide +kernel
theorem dX4_push_1 : decode cX4_push 1 = .ok (.iload_n 1, 1) := by decide +kernel
theorem dX4_push_2 : decode cX4_push 2 = .ok (.invokevirtual 98, 3) := by decide +kernel
theorem dX4_push_5 : decode cX4_push 5 = .ok (.ifCond .eq 13, 3) := by decide +kernel
theorem dX4_push_8 : decode cX4_push 8 = .ok (.iload_n 2, 1) := by decide +kernel
theorem dX4_push_9 : decode cX4_push 9 = .ok (.iconst 1, 1) := by decide +kernel
theorem dX4_push_10 : decode cX4_push 10 = .ok (.bipush 99, 2) := by decide +kernel
theorem dX4_push_12 : decode cX4_push 12 = .ok (.invokestatic 45, 3) := by decide +kernel
theorem dX4_push_15 : decode cX4_push 15 = .ok (.ifCond .ne 10, 3) := by decide +kernel
theorem dX4_push_18 : decode cX4_push 18 = .ok (.aload_n 0, 1) := by decide +kernel
theorem dX4_push_19 : decode cX4_push 19 = .ok (.ldc 44, 2) := by decide +kernel
theorem dX4_push_21 : decode cX4_push 21 = .ok (.invokevirtual 53, 3) := by decide +kernel
theorem dX4_push_24 : decode cX4_push 24 = .ok (.ireturn, 1) := by decide +kernel
theorem dX4_push_25 : decode cX4_push 25 = .ok (.aload_n 0, 1) := by decide +kernel
theorem dX4_push_26 : decode cX4_push 26 = .ok (.iload_n 1, 1) := by decide +kernel
theorem dX4_push_27 : decode cX4_push 27 = .ok (.iload_n 2, 1) := by decide +kernel
theorem dX4_push_28 : decode cX4_push 28 = .ok (.invokevirtual 119, 3) := by decide +kernel
theorem dX4_push_31 : decode cX4_push 31 = .ok (.aload_n 0, 1) := by decide +kernel
theorem dX4_push_32 : decode cX4_push 32 = .ok (.iload_n 1, 1) := by decide +kernel
theorem dX4_push_33 : decode cX4_push 33 = .ok (.iconst 1, 1) := by decide +kernel
theorem dX4_push_34 : decode cX4_push 34 = .ok (.invokevirtual 57, 3) := by decide +kernel
theorem dX4_push_37 : decode cX4_push 37 = .ok (.ireturn, 1) := by decide +kernel
theorem dX4_swaps_0 : decode cX4_swaps 0 = .ok (.iconst 0, 1) := by decide +kernel
theorem dX4_swaps_1 : decode cX4_swaps 1 = .ok (.istore_n 3, 1) := by decide +kernel
theorem dX4_swaps_2 : decode cX4_swaps 2 = .ok (.iload_n 3, 1) := by decide +kernel
theorem dX4_swaps_3 : decode cX4_swaps 3 = .ok (.iconst 4, 1) := by decide +kernel
theorem dX4_swaps_4 : decode cX4_swaps 4 = .ok (.if_icmp .ge 37, 3) := by decide +kernel
theorem dX4_swaps_7 : decode cX4_swaps 7 = .ok (.aload_n 0, 1) := by decide +kernel
theorem dX4_swaps_8 : decode cX4_swaps 8 = .ok (.iload_n 1, 1) := by decide +kernel
theorem dX4_swaps_9 : decode cX4_swaps 9 = .ok (.iload_n 3, 1) := by decide +kernel
theorem dX4_swaps_10 : decode cX4_swaps 10 = .ok (.invokevirtual 57, 3) := by decide +kernel
theorem dX4_swaps_13 : decode cX4_swaps 13 = .ok (.istore 4, 2) := by decide +kernel
theorem dX4_swaps_15 : decode cX4_swaps 15 = .ok (.aload_n 0, 1) := by decide +kernel
theorem dX4_swaps_16 : decode cX4_swaps 16 = .ok (.iload_n 1, 1) := by decide +kernel
theorem dX4_swaps_17 : decode cX4_swaps 17 = .ok (.iload_n 3, 1) := by decide +kernel
theorem dX4_swaps_18 : decode cX4_swaps 18 = .ok (.aload_n 0, 1) := by decide +kernel
theorem dX4_swaps_19 : decode cX4_swaps 19 = .ok (.iload_n 2, 1) := by decide +kernel
theorem dX4_swaps_20 : decode cX4_swaps 20 = .ok (.iload_n 3, 1) := by decide +kernel
theorem dX4_swaps_21 : decode cX4_swaps 21 = .ok (.invokevirtual 57, 3) := by decide +kernel
theorem dX4_swaps_24 : decode cX4_swaps 24 = .ok (.invokevirtual 86, 3) := by decide +kernel
theorem dX4_swaps_27 : decode cX4_swaps 27 = .ok (.aload_n 0, 1) := by decide +kernel
theorem dX4_swaps_28 : decode cX4_swaps 28 = .ok (.iload_n 2, 1) := by decide +kernel
theorem dX4_swaps_29 : decode cX4_swaps 29 = .ok (.iload_n 3, 1) := by decide +kernel
theorem dX4_swaps_30 : decode cX4_swaps 30 = .ok (.iload 4, 2) := by decide +kernel
theorem dX4_swaps_32 : decode cX4_swaps 32 = .ok (.invokevirtual 86, 3) := by decide +kernel
theorem dX4_swaps_35 : decode cX4_swaps 35 = .ok (.iinc 3 1, 3) := by decide +kernel
theorem dX4_swaps_38 : decode cX4_swaps 38 = .ok (.goto (-36), 3) := by decide +kernel
theorem dX4_swaps_41 : decode cX4_swaps 41 = .ok (.return_, 1) := by decide +kernel
theorem dX4_swap_0 : decode cX4_swap 0 = .ok (.aload_n 0, 1) := by decide +kernel
theorem dX4_swap_1 : decode cX4_swap 1 = .ok (.iload_n 1, 1) := by decide +kernel
theorem dX4_swap_2 : decode cX4_swap 2 = .ok (.invokevirtual 98, 3) := by decide +kernel
theorem dX4_swap_5 : decode cX4_swap 5 = .ok (.ifCond .eq 16, 3) := by decide +kernel
theorem dX4_swap_8 : decode cX4_swap 8 = .ok (.aload_n 0, 1) := by decide +kernel
theorem dX4_swap_9 : decode cX4_swap 9 = .ok (.iload_n 2, 1) := by decide +kernel
theorem dX4_swap_10 : decode cX4_swap 10 = .ok (.invokevirtual 98, 3) := by decide +kernel
theorem dX4_swap_13 : decode cX4_swap 13 = .ok (.ifCond .eq 8, 3) := by decide +kernel
theorem dX4_swap_16 : decode cX4_swap 16 = .ok (.iload_n 1, 1) := by decide +kernel
theorem dX4_swap_17 : decode cX4_swap 17 = .ok (.iload_n 2, 1) := by decide +kernel
theorem dX4_swap_18 : decode cX4_swap 18 = .ok (.if_icmp .ne 10, 3) := by decide +kernel
theorem dX4_swap_21 : decode cX4_swap 21 = .ok (.aload_n 0, 1) := by decide +kernel
theorem dX4_swap_22 : decode cX4_swap 22 = .ok (.ldc 44, 2) := by decide +kernel
theorem dX4_swap_24 : decode cX4_swap 24 = .ok (.invokevirtual 53, 3) := by decide +kernel
theorem dX4_swap_27 : decode cX4_swap 27 = .ok (.ireturn, 1) := by decide +kernel
theorem dX4_swap_28 : decode cX4_swap 28 = .ok (.aload_n 0, 1) := by decide +kernel
theorem dX4_swap_29 : decode cX4_swap 29 = .ok (.iload_n 1, 1) := by decide +kernel
theorem dX4_swap_30 : decode cX4_swap 30 = .ok (.iload_n 2, 1) := by decide +kernel
theorem dX4_swap_31 : decode cX4_swap 31 = .ok (.invokevirtual 123, 3) := by decide +kernel
theorem dX4_swap_34 : decode cX4_swap 34 = .ok (.iconst 1, 1) := by decide +kernel
theorem dX4_swap_35 : decode cX4_swap 35 = .ok (.ireturn, 1) := by decide +kernel
theorem dX4_goes_0 : decode cX4_goes 0 = .ok (.aload_n 0, 1) := by decide +kernel
theorem dX4_goes_1 : decode cX4_goes 1 = .ok (.iload_n 1, 1) := by decide +kernel
theorem dX4_goes_2 : decode cX4_goes 2 = .ok (.iconst 1, 1) := by decide +kernel
theorem dX4_goes_3 : decode cX4_goes 3 = .ok (.aload_n 0, 1) := by decide +kernel
theorem dX4_goes_4 : decode cX4_goes 4 = .ok (.iload_n 1, 1) := by decide +kernel
theorem dX4_goes_5 : decode cX4_goes 5 = .ok (.iconst 1, 1) := by decide +kernel
theorem dX4_goes_6 : decode cX4_goes 6 = .ok (.invokevirtual 57, 3) := by decide +kernel
theorem dX4_goes_9 : decode cX4_goes 9 = .ok (.iload_n 3, 1) := by decide +kernel
theorem dX4_goes_10 : decode cX4_goes 10 = .ok (.isub, 1) := by decide +kernel
theorem dX4_goes_11 : decode cX4_goes 11 = .ok (.invokevirtual 86, 3) := by decide +kernel
theorem dX4_goes_14 : decode cX4_goes 14 = .ok (.aload_n 0, 1) := by decide +kernel
theorem dX4_goes_15 : decode cX4_goes 15 = .ok (.iload_n 2, 1) := by decide +kernel
theorem dX4_goes_16 : decode cX4_goes 16 = .ok (.iconst 1, 1) := by decide +kernel
theorem dX4_goes_17 : decode cX4_goes 17 = .ok (.aload_n 0, 1) := by decide +kernel
theorem dX4_goes_18 : decode cX4_goes 18 = .ok (.iload_n 2, 1) := by decide +kernel
theorem dX4_goes_19 : decode cX4_goes 19 = .ok (.iconst 1, 1) := by decide +kernel
theorem dX4_goes_20 : decode cX4_goes 20 = .ok (.invokevirtual 57, 3) := by decide +kernel
theorem dX4_goes_23 : decode cX4_goes 23 = .ok (.iload_n 3, 1) := by decide +kernel
theorem dX4_goes_24 : decode cX4_goes 24 = .ok (.iadd, 1) := by decide +kernel
theorem dX4_goes_25 : decode cX4_goes 25 = .ok (.invokevirtual 86, 3) := by decide +kernel
theorem dX4_goes_28 : decode cX4_goes 28 = .ok (.aload_n 0, 1) := by decide +kernel
theorem dX4_goes_29 : decode cX4_goes 29 = .ok (.iload_n 1, 1) := by decide +kernel
theorem dX4_goes_30 : decode cX4_goes 30 = .ok (.iconst 3, 1) := by decide +kernel
theorem dX4_goes_31 : decode cX4_goes 31 = .ok (.aload_n 0, 1) := by decide +kernel
theorem dX4_goes_32 : decode cX4_goes 32 = .ok (.iload_n 1, 1) := by decide +kernel
theorem dX4_goes_33 : decode cX4_goes 33 = .ok (.iconst 3, 1) := by decide +kernel
theorem dX4_goes_34 : decode cX4_goes 34 = .ok (.invokevirtual 57, 3) := by decide +kernel
theorem dX4_goes_37 : decode cX4_goes 37 = .ok (.iload_n 3, 1) := by decide +kernel
theorem dX4_goes_38 : decode cX4_goes 38 = .ok (.isub, 1) := by decide +kernel
theorem dX4_goes_39 : decode cX4_goes 39 = .ok (.sipush (-9999), 3) := by decide +kernel
theorem dX4_goes_42 : decode cX4_goes 42 = .ok (.sipush 9999, 3) := by decide +kernel
theorem dX4_goes_45 : decode cX4_goes 45 = .ok (.invokestatic 126, 3) := by decide +kernel
theorem dX4_goes_48 : decode cX4_goes 48 = .ok (.invokevirtual 86, 3) := by decide +kernel
theorem dX4_goes_51 : decode cX4_goes 51 = .ok (.aload_n 0, 1) := by decide +kernel
theorem dX4_goes_52 : decode cX4_goes 52 = .ok (.iload_n 2, 1) := by decide +kernel
theorem dX4_goes_53 : decode cX4_goes 53 = .ok (.iconst 3, 1) := by decide +kernel
theorem dX4_goes_54 : decode cX4_goes 54 = .ok (.aload_n 0, 1) := by decide +kernel
theorem dX4_goes_55 : decode cX4_goes 55 = .ok (.iload_n 2, 1) := by decide +kernel
theorem dX4_goes_56 : decode cX4_goes 56 = .ok (.iconst 3, 1) := by decide +kernel
theorem dX4_goes_57 : decode cX4_goes 57 = .ok (.invokevirtual 57, 3) := by decide +kernel
theorem dX4_goes_60 : decode cX4_goes 60 = .ok (.iload_n 3, 1) := by decide +kernel
theorem dX4_goes_61 : decode cX4_goes 61 = .ok (.iadd, 1) := by decide +kernel
theorem dX4_goes_62 : decode cX4_goes 62 = .ok (.sipush (-9999), 3) := by decide +kernel
theorem dX4_goes_65 : decode cX4_goes 65 = .ok (.sipush 9999, 3) := by decide +kernel
theorem dX4_goes_68 : decode cX4_goes 68 = .ok (.invokestatic 126, 3) := by decide +kernel
theorem dX4_goes_71 : decode cX4_goes 71 = .ok (.invokevirtual 86, 3) := by decide +kernel
theorem dX4_goes_74 : decode cX4_goes 74 = .ok (.return_, 1) := by decide +kernel
theorem dX4_mayGo_0 : decode cX4_mayGo 0 = .ok (.iload_n 3, 1) := by decide +kernel
theorem dX4_mayGo_1 : decode cX4_mayGo 1 = .ok (.aload_n 0, 1) := by decide +kernel
theorem dX4_mayGo_2 : decode cX4_mayGo 2 = .ok (.iload_n 1, 1) := by decide +kernel
theorem dX4_mayGo_3 : decode cX4_mayGo 3 = .ok (.iconst 1, 1) := by decide +kernel
theorem dX4_mayGo_4 : decode cX4_mayGo 4 = .ok (.invokevirtual 57, 3) := by decide +kernel
theorem dX4_mayGo_7 : decode cX4_mayGo 7 = .ok (.sipush 200, 3) := by decide +kernel
theorem dX4_mayGo_10 : decode cX4_mayGo 10 = .ok (.aload_n 0, 1) := by decide +kernel
theorem dX4_mayGo_11 : decode cX4_mayGo 11 = .ok (.iload_n 2, 1) := by decide +kernel
theorem dX4_mayGo_12 : decode cX4_mayGo 12 = .ok (.iconst 1, 1) := by decide +kernel
theorem dX4_mayGo_13 : decode cX4_mayGo 13 = .ok (.invokevirtual 57, 3) := by decide +kernel
theorem dX4_mayGo_16 : decode cX4_mayGo 16 = .ok (.isub, 1) := by decide +kernel
theorem dX4_mayGo_17 : decode cX4_mayGo 17 = .ok (.invokestatic 116, 3) := by decide +kernel
theorem dX4_mayGo_20 : decode cX4_mayGo 20 = .ok (.invokestatic 116, 3) := by decide +kernel
theorem dX4_mayGo_23 : decode cX4_mayGo 23 = .ok (.ireturn, 1) := by decide +kernel
theorem dX4_swings_0 : decode cX4_swings 0 = .ok (.aload_n 0, 1) := by decide +kernel
theorem dX4_swings_1 : decode cX4_swings 1 = .ok (.iload_n 1, 1) := by decide +kernel
theorem dX4_swings_2 : decode cX4_swings 2 = .ok (.invokevirtual 83, 3) := by decide +kernel
theorem dX4_swings_5 : decode cX4_swings 5 = .ok (.istore_n 2, 1) := by decide +kernel
theorem dX4_swings_6 : decode cX4_swings 6 = .ok (.aload_n 0, 1) := by decide +kernel
theorem dX4_swings_7 : decode cX4_swings 7 = .ok (.iload_n 1, 1) := by decide +kernel
theorem dX4_swings_8 : decode cX4_swings 8 = .ok (.invokevirtual 102, 3) := by decide +kernel
theorem dX4_swings_11 : decode cX4_swings 11 = .ok (.istore_n 3, 1) := by decide +kernel
theorem dX4_swings_12 : decode cX4_swings 12 = .ok (.iload_n 3, 1) := by decide +kernel
theorem dX4_swings_13 : decode cX4_swings 13 = .ok (.ifCond .ge 17, 3) := by decide +kernel
theorem dX4_swings_16 : decode cX4_swings 16 = .ok (.aload_n 0, 1) := by decide +kernel
theorem dX4_swings_17 : decode cX4_swings 17 = .ok (.iload_n 1, 1) := by decide +kernel
theorem dX4_swings_18 : decode cX4_swings 18 = .ok (.iload_n 2, 1) := by decide +kernel
theorem dX4_swings_19 : decode cX4_swings 19 = .ok (.aload_n 0, 1) := by decide +kernel
theorem dX4_swings_20 : decode cX4_swings 20 = .ok (.iload_n 1, 1) := by decide +kernel
theorem dX4_swings_21 : decode cX4_swings 21 = .ok (.iload_n 2, 1) := by decide +kernel
theorem dX4_swings_22 : decode cX4_swings 22 = .ok (.iload_n 3, 1) := by decide +kernel
theorem dX4_swings_23 : decode cX4_swings 23 = .ok (.ineg, 1) := by decide +kernel
theorem dX4_swings_24 : decode cX4_swings 24 = .ok (.invokevirtual 130, 3) := by decide +kernel
theorem dX4_swings_27 : decode cX4_swings 27 = .ok (.invokevirtual 133, 3) := by decide +kernel
theorem dX4_swings_30 : decode cX4_swings 30 = .ok (.iload_n 3, 1) := by decide +kernel
theorem dX4_swings_31 : decode cX4_swings 31 = .ok (.ifCond .le 17, 3) := by decide +kernel
theorem dX4_swings_34 : decode cX4_swings 34 = .ok (.aload_n 0, 1) := by decide +kernel
theorem dX4_swings_35 : decode cX4_swings 35 = .ok (.iload_n 1, 1) := by decide +kernel
theorem dX4_swings_36 : decode cX4_swings 36 = .ok (.iconst 2, 1) := by decide +kernel
theorem dX4_swings_37 : decode cX4_swings 37 = .ok (.invokevirtual 57, 3) := by decide +kernel
theorem dX4_swings_40 : decode cX4_swings 40 = .ok (.aload_n 0, 1) := by decide +kernel
theorem dX4_swings_41 : decode cX4_swings 41 = .ok (.iload_n 1, 1) := by decide +kernel
theorem dX4_swings_42 : decode cX4_swings 42 = .ok (.invokevirtual 105, 3) := by decide +kernel
theorem dX4_swings_45 : decode cX4_swings 45 = .ok (.if_icmp .ge 4, 3) := by decide +kernel
theorem dX4_swings_48 : decode cX4_swings 48 = .ok (.return_, 1) := by decide +kernel
theorem dX4_swings_49 : decode cX4_swings 49 = .ok (.aload_n 0, 1) := by decide +kernel
theorem dX4_swings_50 : decode cX4_swings 50 = .ok (.iload_n 2, 1) := by decide +kernel
theorem dX4_swings_51 : decode cX4_swings 51 = .ok (.iload_n 1, 1) := by decide +kernel
theorem dX4_swings_52 : decode cX4_swings 52 = .ok (.iload_n 3, 1) := by decide +kernel
theorem dX4_swings_53 : decode cX4_swings 53 = .ok (.aload_n 0, 1) := by decide +kernel
theorem dX4_swings_54 : decode cX4_swings 54 = .ok (.iload_n 2, 1) := by decide +kernel
theorem dX4_swings_55 : decode cX4_swings 55 = .ok (.invokevirtual 108, 3) := by decide +kernel
theorem dX4_swings_58 : decode cX4_swings 58 = .ok (.invokestatic 116, 3) := by decide +kernel
theorem dX4_swings_61 : decode cX4_swings 61 = .ok (.invokevirtual 130, 3) := by decide +kernel
theorem dX4_swings_64 : decode cX4_swings 64 = .ok (.istore 4, 2) := by decide +kernel
theorem dX4_swings_66 : decode cX4_swings 66 = .ok (.aload_n 0, 1) := by decide +kernel
theorem dX4_swings_67 : decode cX4_swings 67 = .ok (.iload_n 2, 1) := by decide +kernel
theorem dX4_swings_68 : decode cX4_swings 68 = .ok (.iload_n 1, 1) := by decide +kernel
theorem dX4_swings_69 : decode cX4_swings 69 = .ok (.iload 4, 2) := by decide +kernel
theorem dX4_swings_71 : decode cX4_swings 71 = .ok (.invokevirtual 133, 3) := by decide +kernel
theorem dX4_swings_74 : decode cX4_swings 74 = .ok (.iload 4, 2) := by decide +kernel
theorem dX4_swings_76 : decode cX4_swings 76 = .ok (.ifCond .le 44, 3) := by decide +kernel
theorem dX4_swings_79 : decode cX4_swings 79 = .ok (.aload_n 0, 1) := by decide +kernel
theorem dX4_swings_80 : decode cX4_swings 80 = .ok (.iload_n 2, 1) := by decide +kernel
theorem dX4_swings_81 : decode cX4_swings 81 = .ok (.iconst 2, 1) := by decide +kernel
theorem dX4_swings_82 : decode cX4_swings 82 = .ok (.aload_n 0, 1) := by decide +kernel
theorem dX4_swings_83 : decode cX4_swings 83 = .ok (.iload_n 2, 1) := by decide +kernel
theorem dX4_swings_84 : decode cX4_swings 84 = .ok (.iconst 2, 1) := by decide +kernel
theorem dX4_swings_85 : decode cX4_swings 85 = .ok (.invokevirtual 57, 3) := by decide +kernel
theorem dX4_swings_88 : decode cX4_swings 88 = .ok (.aload_n 0, 1) := by decide +kernel
theorem dX4_swings_89 : decode cX4_swings 89 = .ok (.iload_n 1, 1) := by decide +kernel
theorem dX4_swings_90 : decode cX4_swings 90 = .ok (.invokevirtual 105, 3) := by decide +kernel
theorem dX4_swings_93 : decode cX4_swings 93 = .ok (.iadd, 1) := by decide +kernel
theorem dX4_swings_94 : decode cX4_swings 94 = .ok (.bipush 99, 2) := by decide +kernel
theorem dX4_swings_96 : decode cX4_swings 96 = .ok (.invokestatic 116, 3) := by decide +kernel
theorem dX4_swings_99 : decode cX4_swings 99 = .ok (.invokevirtual 86, 3) := by decide +kernel
theorem dX4_swings_102 : decode cX4_swings 102 = .ok (.aload_n 0, 1) := by decide +kernel
theorem dX4_swings_103 : decode cX4_swings 103 = .ok (.iload_n 1, 1) := by decide +kernel
theorem dX4_swings_104 : decode cX4_swings 104 = .ok (.iconst 2, 1) := by decide +kernel
theorem dX4_swings_105 : decode cX4_swings 105 = .ok (.aload_n 0, 1) := by decide +kernel
theorem dX4_swings_106 : decode cX4_swings 106 = .ok (.iload_n 1, 1) := by decide +kernel
theorem dX4_swings_107 : decode cX4_swings 107 = .ok (.iconst 2, 1) := by decide +kernel
theorem dX4_swings_108 : decode cX4_swings 108 = .ok (.invokevirtual 57, 3) := by decide +kernel
theorem dX4_swings_111 : decode cX4_swings 111 = .ok (.aload_n 0, 1) := by decide +kernel
theorem dX4_swings_112 : decode cX4_swings 112 = .ok (.iload_n 1, 1) := by decide +kernel
theorem dX4_swings_113 : decode cX4_swings 113 = .ok (.invokevirtual 105, 3) := by decide +kernel
theorem dX4_swings_116 : decode cX4_swings 116 = .ok (.isub, 1) := by decide +kernel
theorem dX4_swings_117 : decode cX4_swings 117 = .ok (.invokevirtual 86, 3) := by decide +kernel
theorem dX4_swings_120 : decode cX4_swings 120 = .ok (.return_, 1) := by decide +kernel
theorem dX4_levels_0 : decode cX4_levels 0 = .ok (.aload_n 0, 1) := by decide +kernel
theorem dX4_levels_1 : decode cX4_levels 1 = .ok (.iconst 1, 1) := by decide +kernel
theorem dX4_levels_2 : decode cX4_levels 2 = .ok (.invokevirtual 60, 3) := by decide +kernel
theorem dX4_levels_5 : decode cX4_levels 5 = .ok (.istore_n 1, 1) := by decide +kernel
theorem dX4_levels_6 : decode cX4_levels 6 = .ok (.aload_n 0, 1) := by decide +kernel
theorem dX4_levels_7 : decode cX4_levels 7 = .ok (.invokevirtual 63, 3) := by decide +kernel
theorem dX4_levels_10 : decode cX4_levels 10 = .ok (.istore_n 2, 1) := by decide +kernel
theorem dX4_levels_11 : decode cX4_levels 11 = .ok (.aload_n 0, 1) := by decide +kernel
theorem dX4_levels_12 : decode cX4_levels 12 = .ok (.iload_n 1, 1) := by decide +kernel
theorem dX4_levels_13 : decode cX4_levels 13 = .ok (.iconst 1, 1) := by decide +kernel
theorem dX4_levels_14 : decode cX4_levels 14 = .ok (.invokevirtual 57, 3) := by decide +kernel
theorem dX4_levels_17 : decode cX4_levels 17 = .ok (.aload_n 0, 1) := by decide +kernel
theorem dX4_levels_18 : decode cX4_levels 18 = .ok (.iload_n 2, 1) := by decide +kernel
theorem dX4_levels_19 : decode cX4_levels 19 = .ok (.iconst 1, 1) := by decide +kernel
theorem dX4_levels_20 : decode cX4_levels 20 = .ok (.invokevirtual 57, 3) := by decide +kernel
theorem dX4_levels_23 : decode cX4_levels 23 = .ok (.isub, 1) := by decide +kernel
theorem dX4_levels_24 : decode cX4_levels 24 = .ok (.iconst 2, 1) := by decide +kernel
theorem dX4_levels_25 : decode cX4_levels 25 = .ok (.if_icmp .lt 10, 3) := by decide +kernel
theorem dX4_levels_28 : decode cX4_levels 28 = .ok (.aload_n 0, 1) := by decide +kernel
theorem dX4_levels_29 : decode cX4_levels 29 = .ok (.iload_n 1, 1) := by decide +kernel
theorem dX4_levels_30 : decode cX4_levels 30 = .ok (.iload_n 2, 1) := by decide +kernel
theorem dX4_levels_31 : decode cX4_levels 31 = .ok (.iconst 1, 1) := by decide +kernel
theorem dX4_levels_32 : decode cX4_levels 32 = .ok (.invokevirtual 133, 3) := by decide +kernel
theorem dX4_levels_35 : decode cX4_levels 35 = .ok (.return_, 1) := by decide +kernel
theorem dX4_oneMinute_0 : decode cX4_oneMinute 0 = .ok (.aload_n 0, 1) := by decide +kernel
theorem dX4_oneMinute_1 : decode cX4_oneMinute 1 = .ok (.getfield 7, 3) := by decide +kernel
theorem dX4_oneMinute_4 : decode cX4_oneMinute 4 = .ok (.iconst 2, 1) := by decide +kernel
theorem dX4_oneMinute_5 : decode cX4_oneMinute 5 = .ok (.iaload, 1) := by decide +kernel
theorem dX4_oneMinute_6 : decode cX4_oneMinute 6 = .ok (.iconst 1, 1) := by decide +kernel
theorem dX4_oneMinute_7 : decode cX4_oneMinute 7 = .ok (.if_icmp .le 17, 3) := by decide +kernel
theorem dX4_oneMinute_10 : decode cX4_oneMinute 10 = .ok (.aload_n 0, 1) := by decide +kernel
theorem dX4_oneMinute_11 : decode cX4_oneMinute 11 = .ok (.invokevirtual 67, 3) := by decide +kernel
theorem dX4_oneMinute_14 : decode cX4_oneMinute 14 = .ok (.ifCond .eq 10, 3) := by decide +kernel
theorem dX4_oneMinute_17 : decode cX4_oneMinute 17 = .ok (.aload_n 0, 1) := by decide +kernel
theorem dX4_oneMinute_18 : decode cX4_oneMinute 18 = .ok (.invokevirtual 136, 3) := by decide +kernel
theorem dX4_oneMinute_21 : decode cX4_oneMinute 21 = .ok (.goto 36, 3) := by decide +kernel
theorem dX4_oneMinute_24 : decode cX4_oneMinute 24 = .ok (.iconst 0, 1) := by decide +kernel
theorem dX4_oneMinute_25 : decode cX4_oneMinute 25 = .ok (.istore_n 1, 1) := by decide +kernel
theorem dX4_oneMinute_26 : decode cX4_oneMinute 26 = .ok (.iload_n 1, 1) := by decide +kernel
theorem dX4_oneMinute_27 : decode cX4_oneMinute 27 = .ok (.aload_n 0, 1) := by decide +kernel
theorem dX4_oneMinute_28 : decode cX4_oneMinute 28 = .ok (.getfield 7, 3) := by decide +kernel
theorem dX4_oneMinute_31 : decode cX4_oneMinute 31 = .ok (.iconst 2, 1) := by decide +kernel
theorem dX4_oneMinute_32 : decode cX4_oneMinute 32 = .ok (.iaload, 1) := by decide +kernel
theorem dX4_oneMinute_33 : decode cX4_oneMinute 33 = .ok (.if_icmp .ge 24, 3) := by decide +kernel
theorem dX4_oneMinute_36 : decode cX4_oneMinute 36 = .ok (.aload_n 0, 1) := by decide +kernel
theorem dX4_oneMinute_37 : decode cX4_oneMinute 37 = .ok (.getfield 7, 3) := by decide +kernel
theorem dX4_oneMinute_40 : decode cX4_oneMinute 40 = .ok (.iconst 2, 1) := by decide +kernel
theorem dX4_oneMinute_41 : decode cX4_oneMinute 41 = .ok (.iaload, 1) := by decide +kernel
theorem dX4_oneMinute_42 : decode cX4_oneMinute 42 = .ok (.iconst 1, 1) := by decide +kernel
theorem dX4_oneMinute_43 : decode cX4_oneMinute 43 = .ok (.if_icmp .le 14, 3) := by decide +kernel
theorem dX4_oneMinute_46 : decode cX4_oneMinute 46 = .ok (.aload_n 0, 1) := by decide +kernel
theorem dX4_oneMinute_47 : decode cX4_oneMinute 47 = .ok (.iload_n 1, 1) := by decide +kernel
theorem dX4_oneMinute_48 : decode cX4_oneMinute 48 = .ok (.invokevirtual 139, 3) := by decide +kernel
theorem dX4_oneMinute_51 : decode cX4_oneMinute 51 = .ok (.iinc 1 1, 3) := by decide +kernel
theorem dX4_oneMinute_54 : decode cX4_oneMinute 54 = .ok (.goto (-28), 3) := by decide +kernel
theorem dX4_oneMinute_57 : decode cX4_oneMinute 57 = .ok (.aload_n 0, 1) := by decide +kernel
theorem dX4_oneMinute_58 : decode cX4_oneMinute 58 = .ok (.getfield 7, 3) := by decide +kernel
theorem dX4_oneMinute_61 : decode cX4_oneMinute 61 = .ok (.iconst 0, 1) := by decide +kernel
theorem dX4_oneMinute_62 : decode cX4_oneMinute 62 = .ok (.dup2, 1) := by decide +kernel
theorem dX4_oneMinute_63 : decode cX4_oneMinute 63 = .ok (.iaload, 1) := by decide +kernel
theorem dX4_oneMinute_64 : decode cX4_oneMinute 64 = .ok (.iconst 1, 1) := by decide +kernel
theorem dX4_oneMinute_65 : decode cX4_oneMinute 65 = .ok (.iadd, 1) := by decide +kernel
theorem dX4_oneMinute_66 : decode cX4_oneMinute 66 = .ok (.iastore, 1) := by decide +kernel
theorem dX4_oneMinute_67 : decode cX4_oneMinute 67 = .ok (.return_, 1) := by decide +kernel
theorem dX4_passes_0 : decode cX4_passes 0 = .ok (.iconst 0, 1) := by decide +kernel
theorem dX4_passes_1 : decode cX4_passes 1 = .ok (.istore_n 2, 1) := by decide +kernel
theorem dX4_passes_2 : decode cX4_passes 2 = .ok (.iload_n 2, 1) := by decide +kernel
theorem dX4_passes_3 : decode cX4_passes 3 = .ok (.iload_n 1, 1) := by decide +kernel
theorem dX4_passes_4 : decode cX4_passes 4 = .ok (.if_icmp .ge 13, 3) := by decide +kernel
theorem dX4_passes_7 : decode cX4_passes 7 = .ok (.aload_n 0, 1) := by decide +kernel
theorem dX4_passes_8 : decode cX4_passes 8 = .ok (.invokevirtual 143, 3) := by decide +kernel
theorem dX4_passes_11 : decode cX4_passes 11 = .ok (.iinc 2 1, 3) := by decide +kernel
theorem dX4_passes_14 : decode cX4_passes 14 = .ok (.goto (-12), 3) := by decide +kernel
theorem dX4_passes_17 : decode cX4_passes 17 = .ok (.return_, 1) := by decide +kernel
theorem dX4_minutes_0 : decode cX4_minutes 0 = .ok (.iload_n 1, 1) := by decide +kernel
theorem dX4_minutes_1 : decode cX4_minutes 1 = .ok (.iconst 1, 1) := by decide +kernel
theorem dX4_minutes_2 : decode cX4_minutes 2 = .ok (.sipush 200, 3) := by decide +kernel
theorem dX4_minutes_5 : decode cX4_minutes 5 = .ok (.invokestatic 45, 3) := by decide +kernel
theorem dX4_minutes_8 : decode cX4_minutes 8 = .ok (.ifCond .ne 10, 3) := by decide +kernel
theorem dX4_minutes_11 : decode cX4_minutes 11 = .ok (.aload_n 0, 1) := by decide +kernel
theorem dX4_minutes_12 : decode cX4_minutes 12 = .ok (.ldc 44, 2) := by decide +kernel
theorem dX4_minutes_14 : decode cX4_minutes 14 = .ok (.invokevirtual 53, 3) := by decide +kernel
theorem dX4_minutes_17 : decode cX4_minutes 17 = .ok (.ireturn, 1) := by decide +kernel
theorem dX4_minutes_18 : decode cX4_minutes 18 = .ok (.aload_n 0, 1) := by decide +kernel
theorem dX4_minutes_19 : decode cX4_minutes 19 = .ok (.getfield 7, 3) := by decide +kernel
theorem dX4_minutes_22 : decode cX4_minutes 22 = .ok (.iconst 0, 1) := by decide +kernel
theorem dX4_minutes_23 : decode cX4_minutes 23 = .ok (.iaload, 1) := by decide +kernel
theorem dX4_minutes_24 : decode cX4_minutes 24 = .ok (.iload_n 1, 1) := by decide +kernel
theorem dX4_minutes_25 : decode cX4_minutes 25 = .ok (.iadd, 1) := by decide +kernel
theorem dX4_minutes_26 : decode cX4_minutes 26 = .ok (.ldc 146, 2) := by decide +kernel
theorem dX4_minutes_28 : decode cX4_minutes 28 = .ok (.if_icmp .le 10, 3) := by decide +kernel
theorem dX4_minutes_31 : decode cX4_minutes 31 = .ok (.aload_n 0, 1) := by decide +kernel
theorem dX4_minutes_32 : decode cX4_minutes 32 = .ok (.ldc 147, 2) := by decide +kernel
theorem dX4_minutes_34 : decode cX4_minutes 34 = .ok (.invokevirtual 53, 3) := by decide +kernel
theorem dX4_minutes_37 : decode cX4_minutes 37 = .ok (.ireturn, 1) := by decide +kernel
theorem dX4_minutes_38 : decode cX4_minutes 38 = .ok (.aload_n 0, 1) := by decide +kernel
theorem dX4_minutes_39 : decode cX4_minutes 39 = .ok (.iload_n 1, 1) := by decide +kernel
theorem dX4_minutes_40 : decode cX4_minutes 40 = .ok (.invokevirtual 148, 3) := by decide +kernel
theorem dX4_minutes_43 : decode cX4_minutes 43 = .ok (.aload_n 0, 1) := by decide +kernel
theorem dX4_minutes_44 : decode cX4_minutes 44 = .ok (.iconst 1, 1) := by decide +kernel
theorem dX4_minutes_45 : decode cX4_minutes 45 = .ok (.invokevirtual 60, 3) := by decide +kernel
theorem dX4_minutes_48 : decode cX4_minutes 48 = .ok (.ireturn, 1) := by decide +kernel
theorem dX4_behind_0 : decode cX4_behind 0 = .ok (.aload_n 0, 1) := by decide +kernel
theorem dX4_behind_1 : decode cX4_behind 1 = .ok (.iload_n 1, 1) := by decide +kernel
theorem dX4_behind_2 : decode cX4_behind 2 = .ok (.invokevirtual 148, 3) := by decide +kernel
theorem dX4_behind_5 : decode cX4_behind 5 = .ok (.aload_n 0, 1) := by decide +kernel
theorem dX4_behind_6 : decode cX4_behind 6 = .ok (.getfield 7, 3) := by decide +kernel
theorem dX4_behind_9 : decode cX4_behind 9 = .ok (.iload_n 2, 1) := by decide +kernel
theorem dX4_behind_10 : decode cX4_behind 10 = .ok (.iaload, 1) := by decide +kernel
theorem dX4_behind_11 : decode cX4_behind 11 = .ok (.istore_n 3, 1) := by decide +kernel
theorem dX4_behind_12 : decode cX4_behind 12 = .ok (.aload_n 0, 1) := by decide +kernel
theorem dX4_behind_13 : decode cX4_behind 13 = .ok (.iconst 0, 1) := by decide +kernel
theorem dX4_behind_14 : decode cX4_behind 14 = .ok (.aload_n 0, 1) := by decide +kernel
theorem dX4_behind_15 : decode cX4_behind 15 = .ok (.getfield 16, 3) := by decide +kernel
theorem dX4_behind_18 : decode cX4_behind 18 = .ok (.invokevirtual 151, 3) := by decide +kernel
theorem dX4_behind_21 : decode cX4_behind 21 = .ok (.iload_n 3, 1) := by decide +kernel
theorem dX4_behind_22 : decode cX4_behind 22 = .ok (.ireturn, 1) := by decide +kernel
theorem dX4_on_0 : decode cX4_on 0 = .ok (.aload_n 0, 1) := by decide +kernel
theorem dX4_on_1 : decode cX4_on 1 = .ok (.iload_n 1, 1) := by decide +kernel
theorem dX4_on_2 : decode cX4_on 2 = .ok (.invokevirtual 98, 3) := by decide +kernel
theorem dX4_on_5 : decode cX4_on 5 = .ok (.ifCond .eq 23, 3) := by decide +kernel
theorem dX4_on_8 : decode cX4_on 8 = .ok (.iload_n 2, 1) := by decide +kernel
theorem dX4_on_9 : decode cX4_on 9 = .ok (.iconst 0, 1) := by decide +kernel
theorem dX4_on_10 : decode cX4_on 10 = .ok (.sipush 400, 3) := by decide +kernel
theorem dX4_on_13 : decode cX4_on 13 = .ok (.invokestatic 45, 3) := by decide +kernel
theorem dX4_on_16 : decode cX4_on 16 = .ok (.ifCond .eq 12, 3) := by decide +kernel
theorem dX4_on_19 : decode cX4_on 19 = .ok (.iload_n 3, 1) := by decide +kernel
theorem dX4_on_20 : decode cX4_on 20 = .ok (.iconst 0, 1) := by decide +kernel
theorem dX4_on_21 : decode cX4_on 21 = .ok (.iconst 1, 1) := by decide +kernel
theorem dX4_on_22 : decode cX4_on 22 = .ok (.invokestatic 45, 3) := by decide +kernel
theorem dX4_on_25 : decode cX4_on 25 = .ok (.ifCond .ne 10, 3) := by decide +kernel
theorem dX4_on_28 : decode cX4_on 28 = .ok (.aload_n 0, 1) := by decide +kernel
theorem dX4_on_29 : decode cX4_on 29 = .ok (.ldc 44, 2) := by decide +kernel
theorem dX4_on_31 : decode cX4_on 31 = .ok (.invokevirtual 53, 3) := by decide +kernel
theorem dX4_on_34 : decode cX4_on 34 = .ok (.ireturn, 1) := by decide +kernel
theorem dX4_on_35 : decode cX4_on 35 = .ok (.aload_n 0, 1) := by decide +kernel
theorem dX4_on_36 : decode cX4_on 36 = .ok (.iconst 1, 1) := by decide +kernel
theorem dX4_on_37 : decode cX4_on 37 = .ok (.aload_n 0, 1) := by decide +kernel
theorem dX4_on_38 : decode cX4_on 38 = .ok (.getfield 16, 3) := by decide +kernel
theorem dX4_on_41 : decode cX4_on 41 = .ok (.invokevirtual 151, 3) := by decide +kernel
theorem dX4_on_44 : decode cX4_on 44 = .ok (.aload_n 0, 1) := by decide +kernel
theorem dX4_on_45 : decode cX4_on 45 = .ok (.iload_n 2, 1) := by decide +kernel
theorem dX4_on_46 : decode cX4_on 46 = .ok (.iconst 3, 1) := by decide +kernel
theorem dX4_on_47 : decode cX4_on 47 = .ok (.iconst 4, 1) := by decide +kernel
theorem dX4_on_48 : decode cX4_on 48 = .ok (.iload_n 1, 1) := by decide +kernel
theorem dX4_on_49 : decode cX4_on 49 = .ok (.imul, 1) := by decide +kernel
theorem dX4_on_50 : decode cX4_on 50 = .ok (.iadd, 1) := by decide +kernel
theorem dX4_on_51 : decode cX4_on 51 = .ok (.iconst 1, 1) := by decide +kernel
theorem dX4_on_52 : decode cX4_on 52 = .ok (.iadd, 1) := by decide +kernel
theorem dX4_on_53 : decode cX4_on 53 = .ok (.iload_n 3, 1) := by decide +kernel
theorem dX4_on_54 : decode cX4_on 54 = .ok (.iadd, 1) := by decide +kernel
theorem dX4_on_55 : decode cX4_on 55 = .ok (.invokevirtual 155, 3) := by decide +kernel
theorem dX4_on_58 : decode cX4_on 58 = .ok (.ireturn, 1) := by decide +kernel
theorem dX4_owes_0 : decode cX4_owes 0 = .ok (.aload_n 0, 1) := by decide +kernel
theorem dX4_owes_1 : decode cX4_owes 1 = .ok (.iload_n 1, 1) := by decide +kernel
theorem dX4_owes_2 : decode cX4_owes 2 = .ok (.invokevirtual 98, 3) := by decide +kernel
theorem dX4_owes_5 : decode cX4_owes 5 = .ok (.ifCond .eq 14, 3) := by decide +kernel
theorem dX4_owes_8 : decode cX4_owes 8 = .ok (.iload_n 2, 1) := by decide +kernel
theorem dX4_owes_9 : decode cX4_owes 9 = .ok (.iconst 0, 1) := by decide +kernel
theorem dX4_owes_10 : decode cX4_owes 10 = .ok (.sipush 400, 3) := by decide +kernel
theorem dX4_owes_13 : decode cX4_owes 13 = .ok (.invokestatic 45, 3) := by decide +kernel
theorem dX4_owes_16 : decode cX4_owes 16 = .ok (.ifCond .ne 10, 3) := by decide +kernel
theorem dX4_owes_19 : decode cX4_owes 19 = .ok (.aload_n 0, 1) := by decide +kernel
theorem dX4_owes_20 : decode cX4_owes 20 = .ok (.ldc 44, 2) := by decide +kernel
theorem dX4_owes_22 : decode cX4_owes 22 = .ok (.invokevirtual 53, 3) := by decide +kernel
theorem dX4_owes_25 : decode cX4_owes 25 = .ok (.ireturn, 1) := by decide +kernel
theorem dX4_owes_26 : decode cX4_owes 26 = .ok (.aload_n 0, 1) := by decide +kernel
theorem dX4_owes_27 : decode cX4_owes 27 = .ok (.iconst 1, 1) := by decide +kernel
theorem dX4_owes_28 : decode cX4_owes 28 = .ok (.aload_n 0, 1) := by decide +kernel
theorem dX4_owes_29 : decode cX4_owes 29 = .ok (.getfield 16, 3) := by decide +kernel
theorem dX4_owes_32 : decode cX4_owes 32 = .ok (.invokevirtual 151, 3) := by decide +kernel
theorem dX4_owes_35 : decode cX4_owes 35 = .ok (.aload_n 0, 1) := by decide +kernel
theorem dX4_owes_36 : decode cX4_owes 36 = .ok (.iload_n 2, 1) := by decide +kernel
theorem dX4_owes_37 : decode cX4_owes 37 = .ok (.iconst 3, 1) := by decide +kernel
theorem dX4_owes_38 : decode cX4_owes 38 = .ok (.iconst 4, 1) := by decide +kernel
theorem dX4_owes_39 : decode cX4_owes 39 = .ok (.iload_n 1, 1) := by decide +kernel
theorem dX4_owes_40 : decode cX4_owes 40 = .ok (.imul, 1) := by decide +kernel
theorem dX4_owes_41 : decode cX4_owes 41 = .ok (.iadd, 1) := by decide +kernel
theorem dX4_owes_42 : decode cX4_owes 42 = .ok (.iconst 3, 1) := by decide +kernel
theorem dX4_owes_43 : decode cX4_owes 43 = .ok (.iadd, 1) := by decide +kernel
theorem dX4_owes_44 : decode cX4_owes 44 = .ok (.invokevirtual 155, 3) := by decide +kernel
theorem dX4_owes_47 : decode cX4_owes 47 = .ok (.ireturn, 1) := by decide +kernel
theorem dX4_level_0 : decode cX4_level 0 = .ok (.aload_n 0, 1) := by decide +kernel
theorem dX4_level_1 : decode cX4_level 1 = .ok (.iconst 1, 1) := by decide +kernel
theorem dX4_level_2 : decode cX4_level 2 = .ok (.aload_n 0, 1) := by decide +kernel
theorem dX4_level_3 : decode cX4_level 3 = .ok (.getfield 16, 3) := by decide +kernel
theorem dX4_level_6 : decode cX4_level 6 = .ok (.invokevirtual 151, 3) := by decide +kernel
theorem dX4_level_9 : decode cX4_level 9 = .ok (.iconst 0, 1) := by decide +kernel
theorem dX4_level_10 : decode cX4_level 10 = .ok (.istore_n 1, 1) := by decide +kernel
theorem dX4_level_11 : decode cX4_level 11 = .ok (.iload_n 1, 1) := by decide +kernel
theorem dX4_level_12 : decode cX4_level 12 = .ok (.sipush 400, 3) := by decide +kernel
theorem dX4_level_15 : decode cX4_level 15 = .ok (.if_icmp .gt 21, 3) := by decide +kernel
theorem dX4_level_18 : decode cX4_level 18 = .ok (.aload_n 0, 1) := by decide +kernel
theorem dX4_level_19 : decode cX4_level 19 = .ok (.invokevirtual 77, 3) := by decide +kernel
theorem dX4_level_22 : decode cX4_level 22 = .ok (.iconst 1, 1) := by decide +kernel
theorem dX4_level_23 : decode cX4_level 23 = .ok (.if_icmp .le 13, 3) := by decide +kernel
theorem dX4_level_26 : decode cX4_level 26 = .ok (.aload_n 0, 1) := by decide +kernel
theorem dX4_level_27 : decode cX4_level 27 = .ok (.invokevirtual 143, 3) := by decide +kernel
theorem dX4_level_30 : decode cX4_level 30 = .ok (.iinc 1 1, 3) := by decide +kernel
theorem dX4_level_33 : decode cX4_level 33 = .ok (.goto (-22), 3) := by decide +kernel
theorem dX4_level_36 : decode cX4_level 36 = .ok (.aload_n 0, 1) := by decide +kernel
theorem dX4_level_37 : decode cX4_level 37 = .ok (.iconst 0, 1) := by decide +kernel
theorem dX4_level_38 : decode cX4_level 38 = .ok (.aload_n 0, 1) := by decide +kernel
theorem dX4_level_39 : decode cX4_level 39 = .ok (.getfield 16, 3) := by decide +kernel
theorem dX4_level_42 : decode cX4_level 42 = .ok (.invokevirtual 151, 3) := by decide +kernel
theorem dX4_level_45 : decode cX4_level 45 = .ok (.iload_n 1, 1) := by decide +kernel
theorem dX4_level_46 : decode cX4_level 46 = .ok (.sipush 400, 3) := by decide +kernel
theorem dX4_level_49 : decode cX4_level 49 = .ok (.if_icmp .le 12, 3) := by decide +kernel
theorem dX4_level_52 : decode cX4_level 52 = .ok (.aload_n 0, 1) := by decide +kernel
theorem dX4_level_53 : decode cX4_level 53 = .ok (.ldc 158, 2) := by decide +kernel
theorem dX4_level_55 : decode cX4_level 55 = .ok (.invokevirtual 53, 3) := by decide +kernel
theorem dX4_level_58 : decode cX4_level 58 = .ok (.goto 4, 3) := by decide +kernel
theorem dX4_level_61 : decode cX4_level 61 = .ok (.iload_n 1, 1) := by decide +kernel
theorem dX4_level_62 : decode cX4_level 62 = .ok (.ireturn, 1) := by decide +kernel
theorem dX4_comes_0 : decode cX4_comes 0 = .ok (.aload_n 0, 1) := by decide +kernel
theorem dX4_comes_1 : decode cX4_comes 1 = .ok (.iload_n 1, 1) := by decide +kernel
theorem dX4_comes_2 : decode cX4_comes 2 = .ok (.invokevirtual 98, 3) := by decide +kernel
theorem dX4_comes_5 : decode cX4_comes 5 = .ok (.ifCond .eq 14, 3) := by decide +kernel
theorem dX4_comes_8 : decode cX4_comes 8 = .ok (.iload_n 2, 1) := by decide +kernel
theorem dX4_comes_9 : decode cX4_comes 9 = .ok (.iconst 0, 1) := by decide +kernel
theorem dX4_comes_10 : decode cX4_comes 10 = .ok (.sipush 200, 3) := by decide +kernel
theorem dX4_comes_13 : decode cX4_comes 13 = .ok (.invokestatic 45, 3) := by decide +kernel
theorem dX4_comes_16 : decode cX4_comes 16 = .ok (.ifCond .ne 10, 3) := by decide +kernel
theorem dX4_comes_19 : decode cX4_comes 19 = .ok (.aload_n 0, 1) := by decide +kernel
theorem dX4_comes_20 : decode cX4_comes 20 = .ok (.ldc 44, 2) := by decide +kernel
theorem dX4_comes_22 : decode cX4_comes 22 = .ok (.invokevirtual 53, 3) := by decide +kernel
theorem dX4_comes_25 : decode cX4_comes 25 = .ok (.ireturn, 1) := by decide +kernel
theorem dX4_comes_26 : decode cX4_comes 26 = .ok (.aload_n 0, 1) := by decide +kernel
theorem dX4_comes_27 : decode cX4_comes 27 = .ok (.iconst 1, 1) := by decide +kernel
theorem dX4_comes_28 : decode cX4_comes 28 = .ok (.aload_n 0, 1) := by decide +kernel
theorem dX4_comes_29 : decode cX4_comes 29 = .ok (.getfield 16, 3) := by decide +kernel
theorem dX4_comes_32 : decode cX4_comes 32 = .ok (.invokevirtual 151, 3) := by decide +kernel
theorem dX4_comes_35 : decode cX4_comes 35 = .ok (.iconst 0, 1) := by decide +kernel
theorem dX4_comes_36 : decode cX4_comes 36 = .ok (.istore_n 3, 1) := by decide +kernel
theorem dX4_comes_37 : decode cX4_comes 37 = .ok (.iload_n 3, 1) := by decide +kernel
theorem dX4_comes_38 : decode cX4_comes 38 = .ok (.sipush 400, 3) := by decide +kernel
theorem dX4_comes_41 : decode cX4_comes 41 = .ok (.if_icmp .gt 23, 3) := by decide +kernel
theorem dX4_comes_44 : decode cX4_comes 44 = .ok (.aload_n 0, 1) := by decide +kernel
theorem dX4_comes_45 : decode cX4_comes 45 = .ok (.iload_n 1, 1) := by decide +kernel
theorem dX4_comes_46 : decode cX4_comes 46 = .ok (.iconst 1, 1) := by decide +kernel
theorem dX4_comes_47 : decode cX4_comes 47 = .ok (.invokevirtual 57, 3) := by decide +kernel
theorem dX4_comes_50 : decode cX4_comes 50 = .ok (.iload_n 2, 1) := by decide +kernel
theorem dX4_comes_51 : decode cX4_comes 51 = .ok (.if_icmp .ge 13, 3) := by decide +kernel
theorem dX4_comes_54 : decode cX4_comes 54 = .ok (.aload_n 0, 1) := by decide +kernel
theorem dX4_comes_55 : decode cX4_comes 55 = .ok (.invokevirtual 143, 3) := by decide +kernel
theorem dX4_comes_58 : decode cX4_comes 58 = .ok (.iinc 3 1, 3) := by decide +kernel
theorem dX4_comes_61 : decode cX4_comes 61 = .ok (.goto (-24), 3) := by decide +kernel
theorem dX4_comes_64 : decode cX4_comes 64 = .ok (.aload_n 0, 1) := by decide +kernel
theorem dX4_comes_65 : decode cX4_comes 65 = .ok (.iconst 0, 1) := by decide +kernel
theorem dX4_comes_66 : decode cX4_comes 66 = .ok (.aload_n 0, 1) := by decide +kernel
theorem dX4_comes_67 : decode cX4_comes 67 = .ok (.getfield 16, 3) := by decide +kernel
theorem dX4_comes_70 : decode cX4_comes 70 = .ok (.invokevirtual 151, 3) := by decide +kernel
theorem dX4_comes_73 : decode cX4_comes 73 = .ok (.iload_n 3, 1) := by decide +kernel
theorem dX4_comes_74 : decode cX4_comes 74 = .ok (.sipush 400, 3) := by decide +kernel
theorem dX4_comes_77 : decode cX4_comes 77 = .ok (.if_icmp .le 12, 3) := by decide +kernel
theorem dX4_comes_80 : decode cX4_comes 80 = .ok (.aload_n 0, 1) := by decide +kernel
theorem dX4_comes_81 : decode cX4_comes 81 = .ok (.ldc 158, 2) := by decide +kernel
theorem dX4_comes_83 : decode cX4_comes 83 = .ok (.invokevirtual 53, 3) := by decide +kernel
theorem dX4_comes_86 : decode cX4_comes 86 = .ok (.goto 4, 3) := by decide +kernel
theorem dX4_comes_89 : decode cX4_comes 89 = .ok (.iload_n 3, 1) := by decide +kernel
theorem dX4_comes_90 : decode cX4_comes 90 = .ok (.ireturn, 1) := by decide +kernel
theorem dX4_dust_0 : decode cX4_dust 0 = .ok (.aload_n 0, 1) := by decide +kernel
theorem dX4_dust_1 : decode cX4_dust 1 = .ok (.iload_n 1, 1) := by decide +kernel
theorem dX4_dust_2 : decode cX4_dust 2 = .ok (.invokevirtual 98, 3) := by decide +kernel
theorem dX4_dust_5 : decode cX4_dust 5 = .ok (.ifCond .ne 10, 3) := by decide +kernel
theorem dX4_dust_8 : decode cX4_dust 8 = .ok (.aload_n 0, 1) := by decide +kernel
theorem dX4_dust_9 : decode cX4_dust 9 = .ok (.ldc 44, 2) := by decide +kernel
theorem dX4_dust_11 : decode cX4_dust 11 = .ok (.invokevirtual 53, 3) := by decide +kernel
theorem dX4_dust_14 : decode cX4_dust 14 = .ok (.ireturn, 1) := by decide +kernel
theorem dX4_dust_15 : decode cX4_dust 15 = .ok (.aload_n 0, 1) := by decide +kernel
theorem dX4_dust_16 : decode cX4_dust 16 = .ok (.iconst 1, 1) := by decide +kernel
theorem dX4_dust_17 : decode cX4_dust 17 = .ok (.aload_n 0, 1) := by decide +kernel
theorem dX4_dust_18 : decode cX4_dust 18 = .ok (.getfield 16, 3) := by decide +kernel
theorem dX4_dust_21 : decode cX4_dust 21 = .ok (.invokevirtual 151, 3) := by decide +kernel
theorem dX4_dust_24 : decode cX4_dust 24 = .ok (.iconst 0, 1) := by decide +kernel
theorem dX4_dust_25 : decode cX4_dust 25 = .ok (.istore_n 2, 1) := by decide +kernel
theorem dX4_dust_26 : decode cX4_dust 26 = .ok (.iload_n 2, 1) := by decide +kernel
theorem dX4_dust_27 : decode cX4_dust 27 = .ok (.sipush 400, 3) := by decide +kernel
theorem dX4_dust_30 : decode cX4_dust 30 = .ok (.if_icmp .gt 22, 3) := by decide +kernel
theorem dX4_dust_33 : decode cX4_dust 33 = .ok (.aload_n 0, 1) := by decide +kernel
theorem dX4_dust_34 : decode cX4_dust 34 = .ok (.iload_n 1, 1) := by decide +kernel
theorem dX4_dust_35 : decode cX4_dust 35 = .ok (.iconst 1, 1) := by decide +kernel
theorem dX4_dust_36 : decode cX4_dust 36 = .ok (.invokevirtual 57, 3) := by decide +kernel
theorem dX4_dust_39 : decode cX4_dust 39 = .ok (.ifCond .le 13, 3) := by decide +kernel
theorem dX4_dust_42 : decode cX4_dust 42 = .ok (.aload_n 0, 1) := by decide +kernel
theorem dX4_dust_43 : decode cX4_dust 43 = .ok (.invokevirtual 143, 3) := by decide +kernel
theorem dX4_dust_46 : decode cX4_dust 46 = .ok (.iinc 2 1, 3) := by decide +kernel
theorem dX4_dust_49 : decode cX4_dust 49 = .ok (.goto (-23), 3) := by decide +kernel
theorem dX4_dust_52 : decode cX4_dust 52 = .ok (.aload_n 0, 1) := by decide +kernel
theorem dX4_dust_53 : decode cX4_dust 53 = .ok (.iconst 0, 1) := by decide +kernel
theorem dX4_dust_54 : decode cX4_dust 54 = .ok (.aload_n 0, 1) := by decide +kernel
theorem dX4_dust_55 : decode cX4_dust 55 = .ok (.getfield 16, 3) := by decide +kernel
theorem dX4_dust_58 : decode cX4_dust 58 = .ok (.invokevirtual 151, 3) := by decide +kernel
theorem dX4_dust_61 : decode cX4_dust 61 = .ok (.iload_n 2, 1) := by decide +kernel
theorem dX4_dust_62 : decode cX4_dust 62 = .ok (.sipush 400, 3) := by decide +kernel
theorem dX4_dust_65 : decode cX4_dust 65 = .ok (.if_icmp .le 12, 3) := by decide +kernel
theorem dX4_dust_68 : decode cX4_dust 68 = .ok (.aload_n 0, 1) := by decide +kernel
theorem dX4_dust_69 : decode cX4_dust 69 = .ok (.ldc 158, 2) := by decide +kernel
theorem dX4_dust_71 : decode cX4_dust 71 = .ok (.invokevirtual 53, 3) := by decide +kernel
theorem dX4_dust_74 : decode cX4_dust 74 = .ok (.goto 4, 3) := by decide +kernel
theorem dX4_dust_77 : decode cX4_dust 77 = .ok (.iload_n 2, 1) := by decide +kernel
theorem dX4_dust_78 : decode cX4_dust 78 = .ok (.ireturn, 1) := by decide +kernel
theorem dX4_heightAt_0 : decode cX4_heightAt 0 = .ok (.iconst 3, 1) := by decide +kernel
theorem dX4_heightAt_1 : decode cX4_heightAt 1 = .ok (.iconst 4, 1) := by decide +kernel
theorem dX4_heightAt_2 : decode cX4_heightAt 2 = .ok (.iload_n 0, 1) := by decide +kernel
theorem dX4_heightAt_3 : decode cX4_heightAt 3 = .ok (.imul, 1) := by decide +kernel
theorem dX4_heightAt_4 : decode cX4_heightAt 4 = .ok (.iadd, 1) := by decide +kernel
theorem dX4_heightAt_5 : decode cX4_heightAt 5 = .ok (.iconst 1, 1) := by decide +kernel
theorem dX4_heightAt_6 : decode cX4_heightAt 6 = .ok (.iadd, 1) := by decide +kernel
theorem dX4_heightAt_7 : decode cX4_heightAt 7 = .ok (.ireturn, 1) := by decide +kernel
theorem dX4_place_0 : decode cX4_place 0 = .ok (.aload_n 0, 1) := by decide +kernel
theorem dX4_place_1 : decode cX4_place 1 = .ok (.iload_n 1, 1) := by decide +kernel
theorem dX4_place_2 : decode cX4_place 2 = .ok (.invokevirtual 98, 3) := by decide +kernel
theorem dX4_place_5 : decode cX4_place 5 = .ok (.ifCond .eq 13, 3) := by decide +kernel
theorem dX4_place_8 : decode cX4_place 8 = .ok (.iload_n 2, 1) := by decide +kernel
theorem dX4_place_9 : decode cX4_place 9 = .ok (.iconst 1, 1) := by decide +kernel
theorem dX4_place_10 : decode cX4_place 10 = .ok (.bipush 100, 2) := by decide +kernel
theorem dX4_place_12 : decode cX4_place 12 = .ok (.invokestatic 45, 3) := by decide +kernel
theorem dX4_place_15 : decode cX4_place 15 = .ok (.ifCond .ne 10, 3) := by decide +kernel
theorem dX4_place_18 : decode cX4_place 18 = .ok (.aload_n 0, 1) := by decide +kernel
theorem dX4_place_19 : decode cX4_place 19 = .ok (.ldc 44, 2) := by decide +kernel
theorem dX4_place_21 : decode cX4_place 21 = .ok (.invokevirtual 53, 3) := by decide +kernel
theorem dX4_place_24 : decode cX4_place 24 = .ok (.ireturn, 1) := by decide +kernel
theorem dX4_place_25 : decode cX4_place 25 = .ok (.aload_n 0, 1) := by decide +kernel
theorem dX4_place_26 : decode cX4_place 26 = .ok (.iconst 1, 1) := by decide +kernel
theorem dX4_place_27 : decode cX4_place 27 = .ok (.aload_n 0, 1) := by decide +kernel
theorem dX4_place_28 : decode cX4_place 28 = .ok (.getfield 16, 3) := by decide +kernel
theorem dX4_place_31 : decode cX4_place 31 = .ok (.invokevirtual 151, 3) := by decide +kernel
theorem dX4_place_34 : decode cX4_place 34 = .ok (.iconst (-1), 1) := by decide +kernel
theorem dX4_place_35 : decode cX4_place 35 = .ok (.istore_n 3, 1) := by decide +kernel
theorem dX4_place_36 : decode cX4_place 36 = .ok (.aload_n 0, 1) := by decide +kernel
theorem dX4_place_37 : decode cX4_place 37 = .ok (.iload_n 2, 1) := by decide +kernel
theorem dX4_place_38 : decode cX4_place 38 = .ok (.iload_n 1, 1) := by decide +kernel
theorem dX4_place_39 : decode cX4_place 39 = .ok (.invokestatic 159, 3) := by decide +kernel
theorem dX4_place_42 : decode cX4_place 42 = .ok (.invokevirtual 155, 3) := by decide +kernel
theorem dX4_place_45 : decode cX4_place 45 = .ok (.istore 4, 2) := by decide +kernel
theorem dX4_place_47 : decode cX4_place 47 = .ok (.iconst 0, 1) := by decide +kernel
theorem dX4_place_48 : decode cX4_place 48 = .ok (.istore 5, 2) := by decide +kernel
theorem dX4_place_50 : decode cX4_place 50 = .ok (.iload 5, 2) := by decide +kernel
theorem dX4_place_52 : decode cX4_place 52 = .ok (.aload_n 0, 1) := by decide +kernel
theorem dX4_place_53 : decode cX4_place 53 = .ok (.getfield 7, 3) := by decide +kernel
theorem dX4_place_56 : decode cX4_place 56 = .ok (.iconst 2, 1) := by decide +kernel
theorem dX4_place_57 : decode cX4_place 57 = .ok (.iaload, 1) := by decide +kernel
theorem dX4_place_58 : decode cX4_place 58 = .ok (.if_icmp .ge 64, 3) := by decide +kernel
theorem dX4_place_61 : decode cX4_place 61 = .ok (.iload 5, 2) := by decide +kernel
theorem dX4_place_63 : decode cX4_place 63 = .ok (.iload_n 1, 1) := by decide +kernel
theorem dX4_place_64 : decode cX4_place 64 = .ok (.if_icmp .eq 52, 3) := by decide +kernel
theorem dX4_place_67 : decode cX4_place 67 = .ok (.aload_n 0, 1) := by decide +kernel
theorem dX4_place_68 : decode cX4_place 68 = .ok (.iload_n 1, 1) := by decide +kernel
theorem dX4_place_69 : decode cX4_place 69 = .ok (.iload 5, 2) := by decide +kernel
theorem dX4_place_71 : decode cX4_place 71 = .ok (.invokevirtual 123, 3) := by decide +kernel
theorem dX4_place_74 : decode cX4_place 74 = .ok (.aload_n 0, 1) := by decide +kernel
theorem dX4_place_75 : decode cX4_place 75 = .ok (.iload_n 2, 1) := by decide +kernel
theorem dX4_place_76 : decode cX4_place 76 = .ok (.iload 5, 2) := by decide +kernel
theorem dX4_place_78 : decode cX4_place 78 = .ok (.invokestatic 159, 3) := by decide +kernel
theorem dX4_place_81 : decode cX4_place 81 = .ok (.invokevirtual 155, 3) := by decide +kernel
theorem dX4_place_84 : decode cX4_place 84 = .ok (.istore 6, 2) := by decide +kernel
theorem dX4_place_86 : decode cX4_place 86 = .ok (.iload 6, 2) := by decide +kernel
theorem dX4_place_88 : decode cX4_place 88 = .ok (.iload 4, 2) := by decide +kernel
theorem dX4_place_90 : decode cX4_place 90 = .ok (.if_icmp .le 8, 3) := by decide +kernel
theorem dX4_place_93 : decode cX4_place 93 = .ok (.iload 5, 2) := by decide +kernel
theorem dX4_place_95 : decode cX4_place 95 = .ok (.goto 4, 3) := by decide +kernel
theorem dX4_place_98 : decode cX4_place 98 = .ok (.iload_n 3, 1) := by decide +kernel
theorem dX4_place_99 : decode cX4_place 99 = .ok (.istore_n 3, 1) := by decide +kernel
theorem dX4_place_100 : decode cX4_place 100 = .ok (.iload 6, 2) := by decide +kernel
theorem dX4_place_102 : decode cX4_place 102 = .ok (.iload 4, 2) := by decide +kernel
theorem dX4_place_104 : decode cX4_place 104 = .ok (.if_icmp .le 8, 3) := by decide +kernel
theorem dX4_place_107 : decode cX4_place 107 = .ok (.iload 6, 2) := by decide +kernel
theorem dX4_place_109 : decode cX4_place 109 = .ok (.goto 5, 3) := by decide +kernel
theorem dX4_place_112 : decode cX4_place 112 = .ok (.iload 4, 2) := by decide +kernel
theorem dX4_place_114 : decode cX4_place 114 = .ok (.istore 4, 2) := by decide +kernel
theorem dX4_place_116 : decode cX4_place 116 = .ok (.iinc 5 1, 3) := by decide +kernel
theorem dX4_place_119 : decode cX4_place 119 = .ok (.goto (-69), 3) := by decide +kernel
theorem dX4_place_122 : decode cX4_place 122 = .ok (.iload_n 3, 1) := by decide +kernel
theorem dX4_place_123 : decode cX4_place 123 = .ok (.ifCond .ge 12, 3) := by decide +kernel
theorem dX4_place_126 : decode cX4_place 126 = .ok (.aload_n 0, 1) := by decide +kernel
theorem dX4_place_127 : decode cX4_place 127 = .ok (.ldc 158, 2) := by decide +kernel
theorem dX4_place_129 : decode cX4_place 129 = .ok (.invokevirtual 53, 3) := by decide +kernel
theorem dX4_place_132 : decode cX4_place 132 = .ok (.goto 4, 3) := by decide +kernel
theorem dX4_place_135 : decode cX4_place 135 = .ok (.iload_n 3, 1) := by decide +kernel
theorem dX4_place_136 : decode cX4_place 136 = .ok (.ireturn, 1) := by decide +kernel
theorem dX4_kind_0 : decode cX4_kind 0 = .ok (.aload_n 0, 1) := by decide +kernel
theorem dX4_kind_1 : decode cX4_kind 1 = .ok (.iload_n 1, 1) := by decide +kernel
theorem dX4_kind_2 : decode cX4_kind 2 = .ok (.invokevirtual 98, 3) := by decide +kernel
theorem dX4_kind_5 : decode cX4_kind 5 = .ok (.ifCond .eq 13, 3) := by decide +kernel
theorem dX4_kind_8 : decode cX4_kind 8 = .ok (.iload_n 2, 1) := by decide +kernel
theorem dX4_kind_9 : decode cX4_kind 9 = .ok (.iconst 1, 1) := by decide +kernel
theorem dX4_kind_10 : decode cX4_kind 10 = .ok (.bipush 100, 2) := by decide +kernel
theorem dX4_kind_12 : decode cX4_kind 12 = .ok (.invokestatic 45, 3) := by decide +kernel
theorem dX4_kind_15 : decode cX4_kind 15 = .ok (.ifCond .ne 10, 3) := by decide +kernel
theorem dX4_kind_18 : decode cX4_kind 18 = .ok (.aload_n 0, 1) := by decide +kernel
theorem dX4_kind_19 : decode cX4_kind 19 = .ok (.ldc 44, 2) := by decide +kernel
theorem dX4_kind_21 : decode cX4_kind 21 = .ok (.invokevirtual 53, 3) := by decide +kernel
theorem dX4_kind_24 : decode cX4_kind 24 = .ok (.ireturn, 1) := by decide +kernel
theorem dX4_kind_25 : decode cX4_kind 25 = .ok (.aload_n 0, 1) := by decide +kernel
theorem dX4_kind_26 : decode cX4_kind 26 = .ok (.iconst 1, 1) := by decide +kernel
theorem dX4_kind_27 : decode cX4_kind 27 = .ok (.aload_n 0, 1) := by decide +kernel
theorem dX4_kind_28 : decode cX4_kind 28 = .ok (.getfield 16, 3) := by decide +kernel
theorem dX4_kind_31 : decode cX4_kind 31 = .ok (.invokevirtual 151, 3) := by decide +kernel
theorem dX4_kind_34 : decode cX4_kind 34 = .ok (.iconst 0, 1) := by decide +kernel
theorem dX4_kind_35 : decode cX4_kind 35 = .ok (.istore_n 3, 1) := by decide +kernel
theorem dX4_kind_36 : decode cX4_kind 36 = .ok (.iconst (-1), 1) := by decide +kernel
theorem dX4_kind_37 : decode cX4_kind 37 = .ok (.istore 4, 2) := by decide +kernel
theorem dX4_kind_39 : decode cX4_kind 39 = .ok (.iconst 0, 1) := by decide +kernel
theorem dX4_kind_40 : decode cX4_kind 40 = .ok (.istore 5, 2) := by decide +kernel
theorem dX4_kind_42 : decode cX4_kind 42 = .ok (.iload 5, 2) := by decide +kernel
theorem dX4_kind_44 : decode cX4_kind 44 = .ok (.bipush 6, 2) := by decide +kernel
theorem dX4_kind_46 : decode cX4_kind 46 = .ok (.if_icmp .ge 58, 3) := by decide +kernel
theorem dX4_kind_49 : decode cX4_kind 49 = .ok (.aload_n 0, 1) := by decide +kernel
theorem dX4_kind_50 : decode cX4_kind 50 = .ok (.iload_n 1, 1) := by decide +kernel
theorem dX4_kind_51 : decode cX4_kind 51 = .ok (.iconst 0, 1) := by decide +kernel
theorem dX4_kind_52 : decode cX4_kind 52 = .ok (.iload 5, 2) := by decide +kernel
theorem dX4_kind_54 : decode cX4_kind 54 = .ok (.invokevirtual 86, 3) := by decide +kernel
theorem dX4_kind_57 : decode cX4_kind 57 = .ok (.aload_n 0, 1) := by decide +kernel
theorem dX4_kind_58 : decode cX4_kind 58 = .ok (.iload_n 2, 1) := by decide +kernel
theorem dX4_kind_59 : decode cX4_kind 59 = .ok (.iload_n 1, 1) := by decide +kernel
theorem dX4_kind_60 : decode cX4_kind 60 = .ok (.invokestatic 159, 3) := by decide +kernel
theorem dX4_kind_63 : decode cX4_kind 63 = .ok (.invokevirtual 155, 3) := by decide +kernel
theorem dX4_kind_66 : decode cX4_kind 66 = .ok (.istore 6, 2) := by decide +kernel
theorem dX4_kind_68 : decode cX4_kind 68 = .ok (.iload 6, 2) := by decide +kernel
theorem dX4_kind_70 : decode cX4_kind 70 = .ok (.iload 4, 2) := by decide +kernel
theorem dX4_kind_72 : decode cX4_kind 72 = .ok (.if_icmp .le 8, 3) := by decide +kernel
theorem dX4_kind_75 : decode cX4_kind 75 = .ok (.iload 5, 2) := by decide +kernel
theorem dX4_kind_77 : decode cX4_kind 77 = .ok (.goto 4, 3) := by decide +kernel
theorem dX4_kind_80 : decode cX4_kind 80 = .ok (.iload_n 3, 1) := by decide +kernel
theorem dX4_kind_81 : decode cX4_kind 81 = .ok (.istore_n 3, 1) := by decide +kernel
theorem dX4_kind_82 : decode cX4_kind 82 = .ok (.iload 6, 2) := by decide +kernel
theorem dX4_kind_84 : decode cX4_kind 84 = .ok (.iload 4, 2) := by decide +kernel
theorem dX4_kind_86 : decode cX4_kind 86 = .ok (.if_icmp .le 8, 3) := by decide +kernel
theorem dX4_kind_89 : decode cX4_kind 89 = .ok (.iload 6, 2) := by decide +kernel
theorem dX4_kind_91 : decode cX4_kind 91 = .ok (.goto 5, 3) := by decide +kernel
theorem dX4_kind_94 : decode cX4_kind 94 = .ok (.iload 4, 2) := by decide +kernel
theorem dX4_kind_96 : decode cX4_kind 96 = .ok (.istore 4, 2) := by decide +kernel
theorem dX4_kind_98 : decode cX4_kind 98 = .ok (.iinc 5 1, 3) := by decide +kernel
theorem dX4_kind_101 : decode cX4_kind 101 = .ok (.goto (-59), 3) := by decide +kernel
theorem dX4_kind_104 : decode cX4_kind 104 = .ok (.iload_n 3, 1) := by decide +kernel
theorem dX4_kind_105 : decode cX4_kind 105 = .ok (.ireturn, 1) := by decide +kernel
theorem dX4_marbles_0 : decode cX4_marbles 0 = .ok (.aload_n 0, 1) := by decide +kernel
theorem dX4_marbles_1 : decode cX4_marbles 1 = .ok (.iload_n 1, 1) := by decide +kernel
theorem dX4_marbles_2 : decode cX4_marbles 2 = .ok (.invokevirtual 98, 3) := by decide +kernel
theorem dX4_marbles_5 : decode cX4_marbles 5 = .ok (.ifCond .eq 24, 3) := by decide +kernel
theorem dX4_marbles_8 : decode cX4_marbles 8 = .ok (.iload_n 2, 1) := by decide +kernel
theorem dX4_marbles_9 : decode cX4_marbles 9 = .ok (.iconst 1, 1) := by decide +kernel
theorem dX4_marbles_10 : decode cX4_marbles 10 = .ok (.bipush 100, 2) := by decide +kernel
theorem dX4_marbles_12 : decode cX4_marbles 12 = .ok (.invokestatic 45, 3) := by decide +kernel
theorem dX4_marbles_15 : decode cX4_marbles 15 = .ok (.ifCond .eq 14, 3) := by decide +kernel
theorem dX4_marbles_18 : decode cX4_marbles 18 = .ok (.iload_n 3, 1) := by decide +kernel
theorem dX4_marbles_19 : decode cX4_marbles 19 = .ok (.iconst 0, 1) := by decide +kernel
theorem dX4_marbles_20 : decode cX4_marbles 20 = .ok (.sipush 200, 3) := by decide +kernel
theorem dX4_marbles_23 : decode cX4_marbles 23 = .ok (.invokestatic 45, 3) := by decide +kernel
theorem dX4_marbles_26 : decode cX4_marbles 26 = .ok (.ifCond .ne 10, 3) := by decide +kernel
theorem dX4_marbles_29 : decode cX4_marbles 29 = .ok (.aload_n 0, 1) := by decide +kernel
theorem dX4_marbles_30 : decode cX4_marbles 30 = .ok (.ldc 44, 2) := by decide +kernel
theorem dX4_marbles_32 : decode cX4_marbles 32 = .ok (.invokevirtual 53, 3) := by decide +kernel
theorem dX4_marbles_35 : decode cX4_marbles 35 = .ok (.ireturn, 1) := by decide +kernel
theorem dX4_marbles_36 : decode cX4_marbles 36 = .ok (.aload_n 0, 1) := by decide +kernel
theorem dX4_marbles_37 : decode cX4_marbles 37 = .ok (.iconst 1, 1) := by decide +kernel
theorem dX4_marbles_38 : decode cX4_marbles 38 = .ok (.aload_n 0, 1) := by decide +kernel
theorem dX4_marbles_39 : decode cX4_marbles 39 = .ok (.getfield 16, 3) := by decide +kernel
theorem dX4_marbles_42 : decode cX4_marbles 42 = .ok (.invokevirtual 151, 3) := by decide +kernel
theorem dX4_marbles_45 : decode cX4_marbles 45 = .ok (.iconst (-1), 1) := by decide +kernel
theorem dX4_marbles_46 : decode cX4_marbles 46 = .ok (.istore 4, 2) := by decide +kernel
theorem dX4_marbles_48 : decode cX4_marbles 48 = .ok (.iconst 0, 1) := by decide +kernel
theorem dX4_marbles_49 : decode cX4_marbles 49 = .ok (.istore 5, 2) := by decide +kernel
theorem dX4_marbles_51 : decode cX4_marbles 51 = .ok (.iload 4, 2) := by decide +kernel
theorem dX4_marbles_53 : decode cX4_marbles 53 = .ok (.bipush 99, 2) := by decide +kernel
theorem dX4_marbles_55 : decode cX4_marbles 55 = .ok (.if_icmp .ge 42, 3) := by decide +kernel
theorem dX4_marbles_58 : decode cX4_marbles 58 = .ok (.iload 5, 2) := by decide +kernel
theorem dX4_marbles_60 : decode cX4_marbles 60 = .ok (.ifCond .ne 37, 3) := by decide +kernel
theorem dX4_marbles_63 : decode cX4_marbles 63 = .ok (.iinc 4 1, 3) := by decide +kernel
theorem dX4_marbles_66 : decode cX4_marbles 66 = .ok (.aload_n 0, 1) := by decide +kernel
theorem dX4_marbles_67 : decode cX4_marbles 67 = .ok (.iload_n 1, 1) := by decide +kernel
theorem dX4_marbles_68 : decode cX4_marbles 68 = .ok (.iconst 2, 1) := by decide +kernel
theorem dX4_marbles_69 : decode cX4_marbles 69 = .ok (.iload 4, 2) := by decide +kernel
theorem dX4_marbles_71 : decode cX4_marbles 71 = .ok (.invokevirtual 86, 3) := by decide +kernel
theorem dX4_marbles_74 : decode cX4_marbles 74 = .ok (.aload_n 0, 1) := by decide +kernel
theorem dX4_marbles_75 : decode cX4_marbles 75 = .ok (.iload_n 2, 1) := by decide +kernel
theorem dX4_marbles_76 : decode cX4_marbles 76 = .ok (.iload_n 1, 1) := by decide +kernel
theorem dX4_marbles_77 : decode cX4_marbles 77 = .ok (.invokestatic 159, 3) := by decide +kernel
theorem dX4_marbles_80 : decode cX4_marbles 80 = .ok (.invokevirtual 155, 3) := by decide +kernel
theorem dX4_marbles_83 : decode cX4_marbles 83 = .ok (.iload_n 3, 1) := by decide +kernel
theorem dX4_marbles_84 : decode cX4_marbles 84 = .ok (.if_icmp .lt 7, 3) := by decide +kernel
theorem dX4_marbles_87 : decode cX4_marbles 87 = .ok (.iconst 1, 1) := by decide +kernel
theorem dX4_marbles_88 : decode cX4_marbles 88 = .ok (.goto 4, 3) := by decide +kernel
theorem dX4_marbles_91 : decode cX4_marbles 91 = .ok (.iconst 0, 1) := by decide +kernel
theorem dX4_marbles_92 : decode cX4_marbles 92 = .ok (.istore 5, 2) := by decide +kernel
theorem dX4_marbles_94 : decode cX4_marbles 94 = .ok (.goto (-43), 3) := by decide +kernel
theorem dX4_marbles_97 : decode cX4_marbles 97 = .ok (.iload 5, 2) := by decide +kernel
theorem dX4_marbles_99 : decode cX4_marbles 99 = .ok (.ifCond .eq 8, 3) := by decide +kernel
theorem dX4_marbles_102 : decode cX4_marbles 102 = .ok (.iload 4, 2) := by decide +kernel
theorem dX4_marbles_104 : decode cX4_marbles 104 = .ok (.goto 9, 3) := by decide +kernel
theorem dX4_marbles_107 : decode cX4_marbles 107 = .ok (.aload_n 0, 1) := by decide +kernel
theorem dX4_marbles_108 : decode cX4_marbles 108 = .ok (.ldc 158, 2) := by decide +kernel
theorem dX4_marbles_110 : decode cX4_marbles 110 = .ok (.invokevirtual 53, 3) := by decide +kernel
theorem dX4_marbles_113 : decode cX4_marbles 113 = .ok (.ireturn, 1) := by decide +kernel
theorem dX4_night_0 : decode cX4_night 0 = .ok (.iload_n 1, 1) := by decide +kernel
theorem dX4_night_1 : decode cX4_night 1 = .ok (.iconst 1, 1) := by decide +kernel
theorem dX4_night_2 : decode cX4_night 2 = .ok (.bipush 120, 2) := by decide +kernel
theorem dX4_night_4 : decode cX4_night 4 = .ok (.invokestatic 45, 3) := by decide +kernel
theorem dX4_night_7 : decode cX4_night 7 = .ok (.ifCond .ne 10, 3) := by decide +kernel
theorem dX4_night_10 : decode cX4_night 10 = .ok (.aload_n 0, 1) := by decide +kernel
theorem dX4_night_11 : decode cX4_night 11 = .ok (.ldc 44, 2) := by decide +kernel
theorem dX4_night_13 : decode cX4_night 13 = .ok (.invokevirtual 53, 3) := by decide +kernel
theorem dX4_night_16 : decode cX4_night 16 = .ok (.ireturn, 1) := by decide +kernel
theorem dX4_night_17 : decode cX4_night 17 = .ok (.iconst 0, 1) := by decide +kernel
theorem dX4_night_18 : decode cX4_night 18 = .ok (.istore_n 2, 1) := by decide +kernel
theorem dX4_night_19 : decode cX4_night 19 = .ok (.sipush 201, 3) := by decide +kernel
theorem dX4_night_22 : decode cX4_night 22 = .ok (.istore_n 3, 1) := by decide +kernel
theorem dX4_night_23 : decode cX4_night 23 = .ok (.aload_n 0, 1) := by decide +kernel
theorem dX4_night_24 : decode cX4_night 24 = .ok (.iconst 1, 1) := by decide +kernel
theorem dX4_night_25 : decode cX4_night 25 = .ok (.aload_n 0, 1) := by decide +kernel
theorem dX4_night_26 : decode cX4_night 26 = .ok (.getfield 16, 3) := by decide +kernel
theorem dX4_night_29 : decode cX4_night 29 = .ok (.invokevirtual 151, 3) := by decide +kernel
theorem dX4_night_32 : decode cX4_night 32 = .ok (.iconst 0, 1) := by decide +kernel
theorem dX4_night_33 : decode cX4_night 33 = .ok (.istore 4, 2) := by decide +kernel
theorem dX4_night_35 : decode cX4_night 35 = .ok (.iload 4, 2) := by decide +kernel
theorem dX4_night_37 : decode cX4_night 37 = .ok (.bipush 60, 2) := by decide +kernel
theorem dX4_night_39 : decode cX4_night 39 = .ok (.if_icmp .ge 63, 3) := by decide +kernel
theorem dX4_night_42 : decode cX4_night 42 = .ok (.aload_n 0, 1) := by decide +kernel
theorem dX4_night_43 : decode cX4_night 43 = .ok (.getfield 7, 3) := by decide +kernel
theorem dX4_night_46 : decode cX4_night 46 = .ok (.iconst 1, 1) := by decide +kernel
theorem dX4_night_47 : decode cX4_night 47 = .ok (.iload 4, 2) := by decide +kernel
theorem dX4_night_49 : decode cX4_night 49 = .ok (.iastore, 1) := by decide +kernel
theorem dX4_night_50 : decode cX4_night 50 = .ok (.aload_n 0, 1) := by decide +kernel
theorem dX4_night_51 : decode cX4_night 51 = .ok (.iload_n 1, 1) := by decide +kernel
theorem dX4_night_52 : decode cX4_night 52 = .ok (.invokevirtual 148, 3) := by decide +kernel
theorem dX4_night_55 : decode cX4_night 55 = .ok (.aload_n 0, 1) := by decide +kernel
theorem dX4_night_56 : decode cX4_night 56 = .ok (.invokevirtual 77, 3) := by decide +kernel
theorem dX4_night_59 : decode cX4_night 59 = .ok (.istore 5, 2) := by decide +kernel
theorem dX4_night_61 : decode cX4_night 61 = .ok (.aload_n 0, 1) := by decide +kernel
theorem dX4_night_62 : decode cX4_night 62 = .ok (.iconst 0, 1) := by decide +kernel
theorem dX4_night_63 : decode cX4_night 63 = .ok (.aload_n 0, 1) := by decide +kernel
theorem dX4_night_64 : decode cX4_night 64 = .ok (.getfield 16, 3) := by decide +kernel
theorem dX4_night_67 : decode cX4_night 67 = .ok (.invokevirtual 151, 3) := by decide +kernel
theorem dX4_night_70 : decode cX4_night 70 = .ok (.iload 5, 2) := by decide +kernel
theorem dX4_night_72 : decode cX4_night 72 = .ok (.iload_n 3, 1) := by decide +kernel
theorem dX4_night_73 : decode cX4_night 73 = .ok (.if_icmp .ge 8, 3) := by decide +kernel
theorem dX4_night_76 : decode cX4_night 76 = .ok (.iload 4, 2) := by decide +kernel
theorem dX4_night_78 : decode cX4_night 78 = .ok (.goto 4, 3) := by decide +kernel
theorem dX4_night_81 : decode cX4_night 81 = .ok (.iload_n 2, 1) := by decide +kernel
theorem dX4_night_82 : decode cX4_night 82 = .ok (.istore_n 2, 1) := by decide +kernel
theorem dX4_night_83 : decode cX4_night 83 = .ok (.iload 5, 2) := by decide +kernel
theorem dX4_night_85 : decode cX4_night 85 = .ok (.iload_n 3, 1) := by decide +kernel
theorem dX4_night_86 : decode cX4_night 86 = .ok (.if_icmp .ge 8, 3) := by decide +kernel
theorem dX4_night_89 : decode cX4_night 89 = .ok (.iload 5, 2) := by decide +kernel
theorem dX4_night_91 : decode cX4_night 91 = .ok (.goto 4, 3) := by decide +kernel
theorem dX4_night_94 : decode cX4_night 94 = .ok (.iload_n 3, 1) := by decide +kernel
theorem dX4_night_95 : decode cX4_night 95 = .ok (.istore_n 3, 1) := by decide +kernel
theorem dX4_night_96 : decode cX4_night 96 = .ok (.iinc 4 1, 3) := by decide +kernel
theorem dX4_night_99 : decode cX4_night 99 = .ok (.goto (-64), 3) := by decide +kernel
theorem dX4_night_102 : decode cX4_night 102 = .ok (.iload_n 2, 1) := by decide +kernel
theorem dX4_night_103 : decode cX4_night 103 = .ok (.ireturn, 1) := by decide +kernel
theorem dX4_enough_0 : decode cX4_enough 0 = .ok (.aload_n 0, 1) := by decide +kernel
theorem dX4_enough_1 : decode cX4_enough 1 = .ok (.iload_n 1, 1) := by decide +kernel
theorem dX4_enough_2 : decode cX4_enough 2 = .ok (.invokevirtual 98, 3) := by decide +kernel
theorem dX4_enough_5 : decode cX4_enough 5 = .ok (.ifCond .eq 24, 3) := by decide +kernel
theorem dX4_enough_8 : decode cX4_enough 8 = .ok (.iload_n 2, 1) := by decide +kernel
theorem dX4_enough_9 : decode cX4_enough 9 = .ok (.iconst 0, 1) := by decide +kernel
theorem dX4_enough_10 : decode cX4_enough 10 = .ok (.bipush 100, 2) := by decide +kernel
theorem dX4_enough_12 : decode cX4_enough 12 = .ok (.invokestatic 45, 3) := by decide +kernel
theorem dX4_enough_15 : decode cX4_enough 15 = .ok (.ifCond .eq 14, 3) := by decide +kernel
theorem dX4_enough_18 : decode cX4_enough 18 = .ok (.iload_n 3, 1) := by decide +kernel
theorem dX4_enough_19 : decode cX4_enough 19 = .ok (.iconst 0, 1) := by decide +kernel
theorem dX4_enough_20 : decode cX4_enough 20 = .ok (.sipush 200, 3) := by decide +kernel
theorem dX4_enough_23 : decode cX4_enough 23 = .ok (.invokestatic 45, 3) := by decide +kernel
theorem dX4_enough_26 : decode cX4_enough 26 = .ok (.ifCond .ne 10, 3) := by decide +kernel
theorem dX4_enough_29 : decode cX4_enough 29 = .ok (.aload_n 0, 1) := by decide +kernel
theorem dX4_enough_30 : decode cX4_enough 30 = .ok (.ldc 44, 2) := by decide +kernel
theorem dX4_enough_32 : decode cX4_enough 32 = .ok (.invokevirtual 53, 3) := by decide +kernel
theorem dX4_enough_35 : decode cX4_enough 35 = .ok (.ireturn, 1) := by decide +kernel
theorem dX4_enough_36 : decode cX4_enough 36 = .ok (.aload_n 0, 1) := by decide +kernel
theorem dX4_enough_37 : decode cX4_enough 37 = .ok (.iconst 1, 1) := by decide +kernel
theorem dX4_enough_38 : decode cX4_enough 38 = .ok (.aload_n 0, 1) := by decide +kernel
theorem dX4_enough_39 : decode cX4_enough 39 = .ok (.getfield 16, 3) := by decide +kernel
theorem dX4_enough_42 : decode cX4_enough 42 = .ok (.invokevirtual 151, 3) := by decide +kernel
theorem dX4_enough_45 : decode cX4_enough 45 = .ok (.iconst (-1), 1) := by decide +kernel
theorem dX4_enough_46 : decode cX4_enough 46 = .ok (.istore 4, 2) := by decide +kernel
theorem dX4_enough_48 : decode cX4_enough 48 = .ok (.iconst 0, 1) := by decide +kernel
theorem dX4_enough_49 : decode cX4_enough 49 = .ok (.istore 5, 2) := by decide +kernel
theorem dX4_enough_51 : decode cX4_enough 51 = .ok (.iload 4, 2) := by decide +kernel
theorem dX4_enough_53 : decode cX4_enough 53 = .ok (.bipush 99, 2) := by decide +kernel
theorem dX4_enough_55 : decode cX4_enough 55 = .ok (.if_icmp .ge 41, 3) := by decide +kernel
theorem dX4_enough_58 : decode cX4_enough 58 = .ok (.iload 5, 2) := by decide +kernel
theorem dX4_enough_60 : decode cX4_enough 60 = .ok (.ifCond .ne 36, 3) := by decide +kernel
theorem dX4_enough_63 : decode cX4_enough 63 = .ok (.iinc 4 1, 3) := by decide +kernel
theorem dX4_enough_66 : decode cX4_enough 66 = .ok (.aload_n 0, 1) := by decide +kernel
theorem dX4_enough_67 : decode cX4_enough 67 = .ok (.iload_n 1, 1) := by decide +kernel
theorem dX4_enough_68 : decode cX4_enough 68 = .ok (.iload 4, 2) := by decide +kernel
theorem dX4_enough_70 : decode cX4_enough 70 = .ok (.invokevirtual 119, 3) := by decide +kernel
theorem dX4_enough_73 : decode cX4_enough 73 = .ok (.aload_n 0, 1) := by decide +kernel
theorem dX4_enough_74 : decode cX4_enough 74 = .ok (.iload_n 2, 1) := by decide +kernel
theorem dX4_enough_75 : decode cX4_enough 75 = .ok (.iload_n 1, 1) := by decide +kernel
theorem dX4_enough_76 : decode cX4_enough 76 = .ok (.invokestatic 159, 3) := by decide +kernel
theorem dX4_enough_79 : decode cX4_enough 79 = .ok (.invokevirtual 155, 3) := by decide +kernel
theorem dX4_enough_82 : decode cX4_enough 82 = .ok (.iload_n 3, 1) := by decide +kernel
theorem dX4_enough_83 : decode cX4_enough 83 = .ok (.if_icmp .lt 7, 3) := by decide +kernel
theorem dX4_enough_86 : decode cX4_enough 86 = .ok (.iconst 1, 1) := by decide +kernel
theorem dX4_enough_87 : decode cX4_enough 87 = .ok (.goto 4, 3) := by decide +kernel
theorem dX4_enough_90 : decode cX4_enough 90 = .ok (.iconst 0, 1) := by decide +kernel
theorem dX4_enough_91 : decode cX4_enough 91 = .ok (.istore 5, 2) := by decide +kernel
theorem dX4_enough_93 : decode cX4_enough 93 = .ok (.goto (-42), 3) := by decide +kernel
theorem dX4_enough_96 : decode cX4_enough 96 = .ok (.iload 5, 2) := by decide +kernel
theorem dX4_enough_98 : decode cX4_enough 98 = .ok (.ifCond .eq 8, 3) := by decide +kernel
theorem dX4_enough_101 : decode cX4_enough 101 = .ok (.iload 4, 2) := by decide +kernel
theorem dX4_enough_103 : decode cX4_enough 103 = .ok (.goto 9, 3) := by decide +kernel
theorem dX4_enough_106 : decode cX4_enough 106 = .ok (.aload_n 0, 1) := by decide +kernel
theorem dX4_enough_107 : decode cX4_enough 107 = .ok (.ldc 158, 2) := by decide +kernel
theorem dX4_enough_109 : decode cX4_enough 109 = .ok (.invokevirtual 53, 3) := by decide +kernel
theorem dX4_enough_112 : decode cX4_enough 112 = .ok (.ireturn, 1) := by decide +kernel
theorem dX4_whom_0 : decode cX4_whom 0 = .ok (.iload_n 1, 1) := by decide +kernel
theorem dX4_whom_1 : decode cX4_whom 1 = .ok (.iconst 1, 1) := by decide +kernel
theorem dX4_whom_2 : decode cX4_whom 2 = .ok (.bipush 99, 2) := by decide +kernel
theorem dX4_whom_4 : decode cX4_whom 4 = .ok (.invokestatic 45, 3) := by decide +kernel
theorem dX4_whom_7 : decode cX4_whom 7 = .ok (.ifCond .eq 13, 3) := by decide +kernel
theorem dX4_whom_10 : decode cX4_whom 10 = .ok (.iload_n 2, 1) := by decide +kernel
theorem dX4_whom_11 : decode cX4_whom 11 = .ok (.iconst 0, 1) := by decide +kernel
theorem dX4_whom_12 : decode cX4_whom 12 = .ok (.bipush 100, 2) := by decide +kernel
theorem dX4_whom_14 : decode cX4_whom 14 = .ok (.invokestatic 45, 3) := by decide +kernel
theorem dX4_whom_17 : decode cX4_whom 17 = .ok (.ifCond .ne 10, 3) := by decide +kernel
theorem dX4_whom_20 : decode cX4_whom 20 = .ok (.aload_n 0, 1) := by decide +kernel
theorem dX4_whom_21 : decode cX4_whom 21 = .ok (.ldc 44, 2) := by decide +kernel
theorem dX4_whom_23 : decode cX4_whom 23 = .ok (.invokevirtual 53, 3) := by decide +kernel
theorem dX4_whom_26 : decode cX4_whom 26 = .ok (.ireturn, 1) := by decide +kernel
theorem dX4_whom_27 : decode cX4_whom 27 = .ok (.aload_n 0, 1) := by decide +kernel
theorem dX4_whom_28 : decode cX4_whom 28 = .ok (.iconst 1, 1) := by decide +kernel
theorem dX4_whom_29 : decode cX4_whom 29 = .ok (.aload_n 0, 1) := by decide +kernel
theorem dX4_whom_30 : decode cX4_whom 30 = .ok (.getfield 16, 3) := by decide +kernel
theorem dX4_whom_33 : decode cX4_whom 33 = .ok (.invokevirtual 151, 3) := by decide +kernel
theorem dX4_whom_36 : decode cX4_whom 36 = .ok (.iconst (-1), 1) := by decide +kernel
theorem dX4_whom_37 : decode cX4_whom 37 = .ok (.istore_n 3, 1) := by decide +kernel
theorem dX4_whom_38 : decode cX4_whom 38 = .ok (.iconst (-1), 1) := by decide +kernel
theorem dX4_whom_39 : decode cX4_whom 39 = .ok (.istore 4, 2) := by decide +kernel
theorem dX4_whom_41 : decode cX4_whom 41 = .ok (.iconst 0, 1) := by decide +kernel
theorem dX4_whom_42 : decode cX4_whom 42 = .ok (.istore 5, 2) := by decide +kernel
theorem dX4_whom_44 : decode cX4_whom 44 = .ok (.iload 5, 2) := by decide +kernel
theorem dX4_whom_46 : decode cX4_whom 46 = .ok (.aload_n 0, 1) := by decide +kernel
theorem dX4_whom_47 : decode cX4_whom 47 = .ok (.getfield 7, 3) := by decide +kernel
theorem dX4_whom_50 : decode cX4_whom 50 = .ok (.iconst 2, 1) := by decide +kernel
theorem dX4_whom_51 : decode cX4_whom 51 = .ok (.iaload, 1) := by decide +kernel
theorem dX4_whom_52 : decode cX4_whom 52 = .ok (.if_icmp .ge 58, 3) := by decide +kernel
theorem dX4_whom_55 : decode cX4_whom 55 = .ok (.aload_n 0, 1) := by decide +kernel
theorem dX4_whom_56 : decode cX4_whom 56 = .ok (.iload 5, 2) := by decide +kernel
theorem dX4_whom_58 : decode cX4_whom 58 = .ok (.iload_n 1, 1) := by decide +kernel
theorem dX4_whom_59 : decode cX4_whom 59 = .ok (.invokevirtual 119, 3) := by decide +kernel
theorem dX4_whom_62 : decode cX4_whom 62 = .ok (.aload_n 0, 1) := by decide +kernel
theorem dX4_whom_63 : decode cX4_whom 63 = .ok (.iload_n 2, 1) := by decide +kernel
theorem dX4_whom_64 : decode cX4_whom 64 = .ok (.iload 5, 2) := by decide +kernel
theorem dX4_whom_66 : decode cX4_whom 66 = .ok (.invokestatic 159, 3) := by decide +kernel
theorem dX4_whom_69 : decode cX4_whom 69 = .ok (.invokevirtual 155, 3) := by decide +kernel
theorem dX4_whom_72 : decode cX4_whom 72 = .ok (.istore 6, 2) := by decide +kernel
theorem dX4_whom_74 : decode cX4_whom 74 = .ok (.iload 6, 2) := by decide +kernel
theorem dX4_whom_76 : decode cX4_whom 76 = .ok (.iload 4, 2) := by decide +kernel
theorem dX4_whom_78 : decode cX4_whom 78 = .ok (.if_icmp .le 8, 3) := by decide +kernel
theorem dX4_whom_81 : decode cX4_whom 81 = .ok (.iload 5, 2) := by decide +kernel
theorem dX4_whom_83 : decode cX4_whom 83 = .ok (.goto 4, 3) := by decide +kernel
theorem dX4_whom_86 : decode cX4_whom 86 = .ok (.iload_n 3, 1) := by decide +kernel
theorem dX4_whom_87 : decode cX4_whom 87 = .ok (.istore_n 3, 1) := by decide +kernel
theorem dX4_whom_88 : decode cX4_whom 88 = .ok (.iload 6, 2) := by decide +kernel
theorem dX4_whom_90 : decode cX4_whom 90 = .ok (.iload 4, 2) := by decide +kernel
theorem dX4_whom_92 : decode cX4_whom 92 = .ok (.if_icmp .le 8, 3) := by decide +kernel
theorem dX4_whom_95 : decode cX4_whom 95 = .ok (.iload 6, 2) := by decide +kernel
theorem dX4_whom_97 : decode cX4_whom 97 = .ok (.goto 5, 3) := by decide +kernel
theorem dX4_whom_100 : decode cX4_whom 100 = .ok (.iload 4, 2) := by decide +kernel
theorem dX4_whom_102 : decode cX4_whom 102 = .ok (.istore 4, 2) := by decide +kernel
theorem dX4_whom_104 : decode cX4_whom 104 = .ok (.iinc 5 1, 3) := by decide +kernel
theorem dX4_whom_107 : decode cX4_whom 107 = .ok (.goto (-63), 3) := by decide +kernel
theorem dX4_whom_110 : decode cX4_whom 110 = .ok (.iload_n 3, 1) := by decide +kernel
theorem dX4_whom_111 : decode cX4_whom 111 = .ok (.ifCond .ge 12, 3) := by decide +kernel
theorem dX4_whom_114 : decode cX4_whom 114 = .ok (.aload_n 0, 1) := by decide +kernel
theorem dX4_whom_115 : decode cX4_whom 115 = .ok (.ldc 158, 2) := by decide +kernel
theorem dX4_whom_117 : decode cX4_whom 117 = .ok (.invokevirtual 53, 3) := by decide +kernel
theorem dX4_whom_120 : decode cX4_whom 120 = .ok (.goto 4, 3) := by decide +kernel
theorem dX4_whom_123 : decode cX4_whom 123 = .ok (.iload_n 3, 1) := by decide +kernel
theorem dX4_whom_124 : decode cX4_whom 124 = .ok (.ireturn, 1) := by decide +kernel
theorem dX4_debtor_0 : decode cX4_debtor 0 = .ok (.iload_n 1, 1) := by decide +kernel
theorem dX4_debtor_1 : decode cX4_debtor 1 = .ok (.iconst 0, 1) := by decide +kernel
theorem dX4_debtor_2 : decode cX4_debtor 2 = .ok (.sipush 400, 3) := by decide +kernel
theorem dX4_debtor_5 : decode cX4_debtor 5 = .ok (.invokestatic 45, 3) := by decide +kernel
theorem dX4_debtor_8 : decode cX4_debtor 8 = .ok (.ifCond .ne 10, 3) := by decide +kernel
theorem dX4_debtor_11 : decode cX4_debtor 11 = .ok (.aload_n 0, 1) := by decide +kernel
theorem dX4_debtor_12 : decode cX4_debtor 12 = .ok (.ldc 44, 2) := by decide +kernel
theorem dX4_debtor_14 : decode cX4_debtor 14 = .ok (.invokevirtual 53, 3) := by decide +kernel
theorem dX4_debtor_17 : decode cX4_debtor 17 = .ok (.ireturn, 1) := by decide +kernel
theorem dX4_debtor_18 : decode cX4_debtor 18 = .ok (.aload_n 0, 1) := by decide +kernel
theorem dX4_debtor_19 : decode cX4_debtor 19 = .ok (.iconst 1, 1) := by decide +kernel
theorem dX4_debtor_20 : decode cX4_debtor 20 = .ok (.aload_n 0, 1) := by decide +kernel
theorem dX4_debtor_21 : decode cX4_debtor 21 = .ok (.getfield 16, 3) := by decide +kernel
theorem dX4_debtor_24 : decode cX4_debtor 24 = .ok (.invokevirtual 151, 3) := by decide +kernel
theorem dX4_debtor_27 : decode cX4_debtor 27 = .ok (.aload_n 0, 1) := by decide +kernel
theorem dX4_debtor_28 : decode cX4_debtor 28 = .ok (.iload_n 1, 1) := by decide +kernel
theorem dX4_debtor_29 : decode cX4_debtor 29 = .ok (.invokevirtual 148, 3) := by decide +kernel
theorem dX4_debtor_32 : decode cX4_debtor 32 = .ok (.aload_n 0, 1) := by decide +kernel
theorem dX4_debtor_33 : decode cX4_debtor 33 = .ok (.iconst 3, 1) := by decide +kernel
theorem dX4_debtor_34 : decode cX4_debtor 34 = .ok (.invokevirtual 60, 3) := by decide +kernel
theorem dX4_debtor_37 : decode cX4_debtor 37 = .ok (.istore_n 2, 1) := by decide +kernel
theorem dX4_debtor_38 : decode cX4_debtor 38 = .ok (.aload_n 0, 1) := by decide +kernel
theorem dX4_debtor_39 : decode cX4_debtor 39 = .ok (.iconst 0, 1) := by decide +kernel
theorem dX4_debtor_40 : decode cX4_debtor 40 = .ok (.aload_n 0, 1) := by decide +kernel
theorem dX4_debtor_41 : decode cX4_debtor 41 = .ok (.getfield 16, 3) := by decide +kernel
theorem dX4_debtor_44 : decode cX4_debtor 44 = .ok (.invokevirtual 151, 3) := by decide +kernel
theorem dX4_debtor_47 : decode cX4_debtor 47 = .ok (.iload_n 2, 1) := by decide +kernel
theorem dX4_debtor_48 : decode cX4_debtor 48 = .ok (.ifCond .ge 12, 3) := by decide +kernel
theorem dX4_debtor_51 : decode cX4_debtor 51 = .ok (.aload_n 0, 1) := by decide +kernel
theorem dX4_debtor_52 : decode cX4_debtor 52 = .ok (.ldc 158, 2) := by decide +kernel
theorem dX4_debtor_54 : decode cX4_debtor 54 = .ok (.invokevirtual 53, 3) := by decide +kernel
theorem dX4_debtor_57 : decode cX4_debtor 57 = .ok (.goto 4, 3) := by decide +kernel
theorem dX4_debtor_60 : decode cX4_debtor 60 = .ok (.iload_n 2, 1) := by decide +kernel
theorem dX4_debtor_61 : decode cX4_debtor 61 = .ok (.ireturn, 1) := by decide +kernel
theorem dX4_feed_0 : decode cX4_feed 0 = .ok (.iload_n 2, 1) := by decide +kernel
theorem dX4_feed_1 : decode cX4_feed 1 = .ok (.iconst 1, 1) := by decide +kernel
theorem dX4_feed_2 : decode cX4_feed 2 = .ok (.iconst 4, 1) := by decide +kernel
theorem dX4_feed_3 : decode cX4_feed 3 = .ok (.invokestatic 45, 3) := by decide +kernel
theorem dX4_feed_6 : decode cX4_feed 6 = .ok (.ifCond .ne 10, 3) := by decide +kernel
theorem dX4_feed_9 : decode cX4_feed 9 = .ok (.aload_n 0, 1) := by decide +kernel
theorem dX4_feed_10 : decode cX4_feed 10 = .ok (.ldc 44, 2) := by decide +kernel
theorem dX4_feed_12 : decode cX4_feed 12 = .ok (.invokevirtual 53, 3) := by decide +kernel
theorem dX4_feed_15 : decode cX4_feed 15 = .ok (.ireturn, 1) := by decide +kernel
theorem dX4_feed_16 : decode cX4_feed 16 = .ok (.aload_n 0, 1) := by decide +kernel
theorem dX4_feed_17 : decode cX4_feed 17 = .ok (.getfield 162, 3) := by decide +kernel
theorem dX4_feed_20 : decode cX4_feed 20 = .ok (.iload_n 2, 1) := by decide +kernel
theorem dX4_feed_21 : decode cX4_feed 21 = .ok (.iadd, 1) := by decide +kernel
theorem dX4_feed_22 : decode cX4_feed 22 = .ok (.bipush 120, 2) := by decide +kernel
theorem dX4_feed_24 : decode cX4_feed 24 = .ok (.if_icmp .le 10, 3) := by decide +kernel
theorem dX4_feed_27 : decode cX4_feed 27 = .ok (.aload_n 0, 1) := by decide +kernel
theorem dX4_feed_28 : decode cX4_feed 28 = .ok (.ldc 94, 2) := by decide +kernel
theorem dX4_feed_30 : decode cX4_feed 30 = .ok (.invokevirtual 53, 3) := by decide +kernel
theorem dX4_feed_33 : decode cX4_feed 33 = .ok (.ireturn, 1) := by decide +kernel
theorem dX4_feed_34 : decode cX4_feed 34 = .ok (.iload_n 2, 1) := by decide +kernel
theorem dX4_feed_35 : decode cX4_feed 35 = .ok (.iconst 1, 1) := by decide +kernel
theorem dX4_feed_36 : decode cX4_feed 36 = .ok (.isub, 1) := by decide +kernel
theorem dX4_feed_37 : decode cX4_feed 37 = .ok (.istore_n 3, 1) := by decide +kernel
theorem dX4_feed_38 : decode cX4_feed 38 = .ok (.iload_n 3, 1) := by decide +kernel
theorem dX4_feed_39 : decode cX4_feed 39 = .ok (.ifCond .lt 38, 3) := by decide +kernel
theorem dX4_feed_42 : decode cX4_feed 42 = .ok (.aload_n 0, 1) := by decide +kernel
theorem dX4_feed_43 : decode cX4_feed 43 = .ok (.getfield 22, 3) := by decide +kernel
theorem dX4_feed_46 : decode cX4_feed 46 = .ok (.aload_n 0, 1) := by decide +kernel
theorem dX4_feed_47 : decode cX4_feed 47 = .ok (.getfield 162, 3) := by decide +kernel
theorem dX4_feed_50 : decode cX4_feed 50 = .ok (.iload_n 1, 1) := by decide +kernel
theorem dX4_feed_51 : decode cX4_feed 51 = .ok (.bipush 8, 2) := by decide +kernel
theorem dX4_feed_53 : decode cX4_feed 53 = .ok (.iload_n 3, 1) := by decide +kernel
theorem dX4_feed_54 : decode cX4_feed 54 = .ok (.imul, 1) := by decide +kernel
theorem dX4_feed_55 : decode cX4_feed 55 = .ok (.ishr, 1) := by decide +kernel
theorem dX4_feed_56 : decode cX4_feed 56 = .ok (.sipush 255, 3) := by decide +kernel
theorem dX4_feed_59 : decode cX4_feed 59 = .ok (.iand, 1) := by decide +kernel
theorem dX4_feed_60 : decode cX4_feed 60 = .ok (.iastore, 1) := by decide +kernel
theorem dX4_feed_61 : decode cX4_feed 61 = .ok (.aload_n 0, 1) := by decide +kernel
theorem dX4_feed_62 : decode cX4_feed 62 = .ok (.dup, 1) := by decide +kernel
theorem dX4_feed_63 : decode cX4_feed 63 = .ok (.getfield 162, 3) := by decide +kernel
theorem dX4_feed_66 : decode cX4_feed 66 = .ok (.iconst 1, 1) := by decide +kernel
theorem dX4_feed_67 : decode cX4_feed 67 = .ok (.iadd, 1) := by decide +kernel
theorem dX4_feed_68 : decode cX4_feed 68 = .ok (.putfield 162, 3) := by decide +kernel
theorem dX4_feed_71 : decode cX4_feed 71 = .ok (.iinc 3 (-1), 3) := by decide +kernel
theorem dX4_feed_74 : decode cX4_feed 74 = .ok (.goto (-36), 3) := by decide +kernel
theorem dX4_feed_77 : decode cX4_feed 77 = .ok (.aload_n 0, 1) := by decide +kernel
theorem dX4_feed_78 : decode cX4_feed 78 = .ok (.getfield 162, 3) := by decide +kernel
theorem dX4_feed_81 : decode cX4_feed 81 = .ok (.ireturn, 1) := by decide +kernel
theorem dX4_wipe_0 : decode cX4_wipe 0 = .ok (.aload_n 0, 1) := by decide +kernel
theorem dX4_wipe_1 : decode cX4_wipe 1 = .ok (.getfield 162, 3) := by decide +kernel
theorem dX4_wipe_4 : decode cX4_wipe 4 = .ok (.istore_n 1, 1) := by decide +kernel
theorem dX4_wipe_5 : decode cX4_wipe 5 = .ok (.aload_n 0, 1) := by decide +kernel
theorem dX4_wipe_6 : decode cX4_wipe 6 = .ok (.iconst 0, 1) := by decide +kernel
theorem dX4_wipe_7 : decode cX4_wipe 7 = .ok (.putfield 162, 3) := by decide +kernel
theorem dX4_wipe_10 : decode cX4_wipe 10 = .ok (.iload_n 1, 1) := by decide +kernel
theorem dX4_wipe_11 : decode cX4_wipe 11 = .ok (.ireturn, 1) := by decide +kernel
theorem dX4_byteAt_0 : decode cX4_byteAt 0 = .ok (.iload_n 1, 1) := by decide +kernel
theorem dX4_byteAt_1 : decode cX4_byteAt 1 = .ok (.aload_n 0, 1) := by decide +kernel
theorem dX4_byteAt_2 : decode cX4_byteAt 2 = .ok (.getfield 162, 3) := by decide +kernel
theorem dX4_byteAt_5 : decode cX4_byteAt 5 = .ok (.if_icmp .ge 12, 3) := by decide +kernel
theorem dX4_byteAt_8 : decode cX4_byteAt 8 = .ok (.aload_n 0, 1) := by decide +kernel
theorem dX4_byteAt_9 : decode cX4_byteAt 9 = .ok (.getfield 22, 3) := by decide +kernel
theorem dX4_byteAt_12 : decode cX4_byteAt 12 = .ok (.iload_n 1, 1) := by decide +kernel
theorem dX4_byteAt_13 : decode cX4_byteAt 13 = .ok (.iaload, 1) := by decide +kernel
theorem dX4_byteAt_14 : decode cX4_byteAt 14 = .ok (.goto 4, 3) := by decide +kernel
theorem dX4_byteAt_17 : decode cX4_byteAt 17 = .ok (.iconst (-1), 1) := by decide +kernel
theorem dX4_byteAt_18 : decode cX4_byteAt 18 = .ok (.ireturn, 1) := by decide +kernel
theorem dX4_isLetter_0 : decode cX4_isLetter 0 = .ok (.iload_n 0, 1) := by decide +kernel
theorem dX4_isLetter_1 : decode cX4_isLetter 1 = .ok (.bipush 97, 2) := by decide +kernel
theorem dX4_isLetter_3 : decode cX4_isLetter 3 = .ok (.bipush 122, 2) := by decide +kernel
theorem dX4_isLetter_5 : decode cX4_isLetter 5 = .ok (.invokestatic 45, 3) := by decide +kernel
theorem dX4_isLetter_8 : decode cX4_isLetter 8 = .ok (.ireturn, 1) := by decide +kernel
theorem dX4_isDigit_0 : decode cX4_isDigit 0 = .ok (.iload_n 0, 1) := by decide +kernel
theorem dX4_isDigit_1 : decode cX4_isDigit 1 = .ok (.bipush 48, 2) := by decide +kernel
theorem dX4_isDigit_3 : decode cX4_isDigit 3 = .ok (.bipush 57, 2) := by decide +kernel
theorem dX4_isDigit_5 : decode cX4_isDigit 5 = .ok (.invokestatic 45, 3) := by decide +kernel
theorem dX4_isDigit_8 : decode cX4_isDigit 8 = .ok (.ireturn, 1) := by decide +kernel
theorem dX4_advance_0 : decode cX4_advance 0 = .ok (.aload_n 0, 1) := by decide +kernel
theorem dX4_advance_1 : decode cX4_advance 1 = .ok (.aload_n 0, 1) := by decide +kernel
theorem dX4_advance_2 : decode cX4_advance 2 = .ok (.getfield 166, 3) := by decide +kernel
theorem dX4_advance_5 : decode cX4_advance 5 = .ok (.putfield 169, 3) := by decide +kernel
theorem dX4_advance_8 : decode cX4_advance 8 = .ok (.aload_n 0, 1) := by decide +kernel
theorem dX4_advance_9 : decode cX4_advance 9 = .ok (.aload_n 0, 1) := by decide +kernel
theorem dX4_advance_10 : decode cX4_advance 10 = .ok (.getfield 169, 3) := by decide +kernel
theorem dX4_advance_13 : decode cX4_advance 13 = .ok (.invokevirtual 172, 3) := by decide +kernel
theorem dX4_advance_16 : decode cX4_advance 16 = .ok (.bipush 32, 2) := by decide +kernel
theorem dX4_advance_18 : decode cX4_advance 18 = .ok (.if_icmp .ne 16, 3) := by decide +kernel
theorem dX4_advance_21 : decode cX4_advance 21 = .ok (.aload_n 0, 1) := by decide +kernel
theorem dX4_advance_22 : decode cX4_advance 22 = .ok (.dup, 1) := by decide +kernel
theorem dX4_advance_23 : decode cX4_advance 23 = .ok (.getfield 169, 3) := by decide +kernel
theorem dX4_advance_26 : decode cX4_advance 26 = .ok (.iconst 1, 1) := by decide +kernel
theorem dX4_advance_27 : decode cX4_advance 27 = .ok (.iadd, 1) := by decide +kernel
theorem dX4_advance_28 : decode cX4_advance 28 = .ok (.putfield 169, 3) := by decide +kernel
theorem dX4_advance_31 : decode cX4_advance 31 = .ok (.goto (-23), 3) := by decide +kernel
theorem dX4_advance_34 : decode cX4_advance 34 = .ok (.aload_n 0, 1) := by decide +kernel
theorem dX4_advance_35 : decode cX4_advance 35 = .ok (.aload_n 0, 1) := by decide +kernel
theorem dX4_advance_36 : decode cX4_advance 36 = .ok (.getfield 169, 3) := by decide +kernel
theorem dX4_advance_39 : decode cX4_advance 39 = .ok (.putfield 166, 3) := by decide +kernel
theorem dX4_advance_42 : decode cX4_advance 42 = .ok (.aload_n 0, 1) := by decide +kernel
theorem dX4_advance_43 : decode cX4_advance 43 = .ok (.aload_n 0, 1) := by decide +kernel
theorem dX4_advance_44 : decode cX4_advance 44 = .ok (.getfield 169, 3) := by decide +kernel
theorem dX4_advance_47 : decode cX4_advance 47 = .ok (.invokevirtual 172, 3) := by decide +kernel
theorem dX4_advance_50 : decode cX4_advance 50 = .ok (.istore_n 1, 1) := by decide +kernel
theorem dX4_advance_51 : decode cX4_advance 51 = .ok (.aload_n 0, 1) := by decide +kernel
theorem dX4_advance_52 : decode cX4_advance 52 = .ok (.iload_n 1, 1) := by decide +kernel
theorem dX4_advance_53 : decode cX4_advance 53 = .ok (.ifCond .ge 7, 3) := by decide +kernel
theorem dX4_advance_56 : decode cX4_advance 56 = .ok (.iconst 0, 1) := by decide +kernel
theorem dX4_advance_57 : decode cX4_advance 57 = .ok (.goto 26, 3) := by decide +kernel
theorem dX4_advance_60 : decode cX4_advance 60 = .ok (.iload_n 1, 1) := by decide +kernel
theorem dX4_advance_61 : decode cX4_advance 61 = .ok (.invokestatic 175, 3) := by decide +kernel
theorem dX4_advance_64 : decode cX4_advance 64 = .ok (.ifCond .eq 7, 3) := by decide +kernel
theorem dX4_advance_67 : decode cX4_advance 67 = .ok (.iconst 1, 1) := by decide +kernel
theorem dX4_advance_68 : decode cX4_advance 68 = .ok (.goto 15, 3) := by decide +kernel
theorem dX4_advance_71 : decode cX4_advance 71 = .ok (.iload_n 1, 1) := by decide +kernel
theorem dX4_advance_72 : decode cX4_advance 72 = .ok (.invokestatic 178, 3) := by decide +kernel
theorem dX4_advance_75 : decode cX4_advance 75 = .ok (.ifCond .eq 7, 3) := by decide +kernel
theorem dX4_advance_78 : decode cX4_advance 78 = .ok (.iconst 2, 1) := by decide +kernel
theorem dX4_advance_79 : decode cX4_advance 79 = .ok (.goto 4, 3) := by decide +kernel
theorem dX4_advance_82 : decode cX4_advance 82 = .ok (.iconst 3, 1) := by decide +kernel
theorem dX4_advance_83 : decode cX4_advance 83 = .ok (.putfield 181, 3) := by decide +kernel
theorem dX4_advance_86 : decode cX4_advance 86 = .ok (.aload_n 0, 1) := by decide +kernel
theorem dX4_advance_87 : decode cX4_advance 87 = .ok (.lconst 0, 1) := by decide +kernel
theorem dX4_advance_88 : decode cX4_advance 88 = .ok (.putfield 184, 3) := by decide +kernel
theorem dX4_advance_91 : decode cX4_advance 91 = .ok (.aload_n 0, 1) := by decide +kernel
theorem dX4_advance_92 : decode cX4_advance 92 = .ok (.aload_n 0, 1) := by decide +kernel
theorem dX4_advance_93 : decode cX4_advance 93 = .ok (.getfield 181, 3) := by decide +kernel
theorem dX4_advance_96 : decode cX4_advance 96 = .ok (.iconst 2, 1) := by decide +kernel
theorem dX4_advance_97 : decode cX4_advance 97 = .ok (.if_icmp .ne 7, 3) := by decide +kernel
theorem dX4_advance_100 : decode cX4_advance 100 = .ok (.iconst 0, 1) := by decide +kernel
theorem dX4_advance_101 : decode cX4_advance 101 = .ok (.goto 4, 3) := by decide +kernel
theorem dX4_advance_104 : decode cX4_advance 104 = .ok (.iload_n 1, 1) := by decide +kernel
theorem dX4_advance_105 : decode cX4_advance 105 = .ok (.putfield 188, 3) := by decide +kernel
theorem dX4_advance_108 : decode cX4_advance 108 = .ok (.aload_n 0, 1) := by decide +kernel
theorem dX4_advance_109 : decode cX4_advance 109 = .ok (.getfield 181, 3) := by decide +kernel
theorem dX4_advance_112 : decode cX4_advance 112 = .ok (.iconst 3, 1) := by decide +kernel
theorem dX4_advance_113 : decode cX4_advance 113 = .ok (.if_icmp .ne 13, 3) := by decide +kernel
theorem dX4_advance_116 : decode cX4_advance 116 = .ok (.aload_n 0, 1) := by decide +kernel
theorem dX4_advance_117 : decode cX4_advance 117 = .ok (.dup, 1) := by decide +kernel
theorem dX4_advance_118 : decode cX4_advance 118 = .ok (.getfield 166, 3) := by decide +kernel
theorem dX4_advance_121 : decode cX4_advance 121 = .ok (.iconst 1, 1) := by decide +kernel
theorem dX4_advance_122 : decode cX4_advance 122 = .ok (.iadd, 1) := by decide +kernel
theorem dX4_advance_123 : decode cX4_advance 123 = .ok (.putfield 166, 3) := by decide +kernel
theorem dX4_advance_126 : decode cX4_advance 126 = .ok (.aload_n 0, 1) := by decide +kernel
theorem dX4_advance_127 : decode cX4_advance 127 = .ok (.getfield 181, 3) := by decide +kernel
theorem dX4_advance_130 : decode cX4_advance 130 = .ok (.iconst 1, 1) := by decide +kernel
theorem dX4_advance_131 : decode cX4_advance 131 = .ok (.if_icmp .ne 76, 3) := by decide +kernel
theorem dX4_advance_134 : decode cX4_advance 134 = .ok (.aload_n 0, 1) := by decide +kernel
theorem dX4_advance_135 : decode cX4_advance 135 = .ok (.aload_n 0, 1) := by decide +kernel
theorem dX4_advance_136 : decode cX4_advance 136 = .ok (.getfield 166, 3) := by decide +kernel
theorem dX4_advance_139 : decode cX4_advance 139 = .ok (.invokevirtual 172, 3) := by decide +kernel
theorem dX4_advance_142 : decode cX4_advance 142 = .ok (.invokestatic 175, 3) := by decide +kernel
theorem dX4_advance_145 : decode cX4_advance 145 = .ok (.ifCond .eq 62, 3) := by decide +kernel
theorem dX4_advance_148 : decode cX4_advance 148 = .ok (.aload_n 0, 1) := by decide +kernel
theorem dX4_advance_149 : decode cX4_advance 149 = .ok (.aload_n 0, 1) := by decide +kernel
theorem dX4_advance_150 : decode cX4_advance 150 = .ok (.getfield 166, 3) := by decide +kernel
theorem dX4_advance_153 : decode cX4_advance 153 = .ok (.aload_n 0, 1) := by decide +kernel
theorem dX4_advance_154 : decode cX4_advance 154 = .ok (.getfield 169, 3) := by decide +kernel
theorem dX4_advance_157 : decode cX4_advance 157 = .ok (.isub, 1) := by decide +kernel
theorem dX4_advance_158 : decode cX4_advance 158 = .ok (.bipush 12, 2) := by decide +kernel
theorem dX4_advance_160 : decode cX4_advance 160 = .ok (.if_icmp .ge 28, 3) := by decide +kernel
theorem dX4_advance_163 : decode cX4_advance 163 = .ok (.ldc2_w 191, 3) := by decide +kernel
theorem dX4_advance_166 : decode cX4_advance 166 = .ok (.aload_n 0, 1) := by decide +kernel
theorem dX4_advance_167 : decode cX4_advance 167 = .ok (.getfield 184, 3) := by decide +kernel
theorem dX4_advance_170 : decode cX4_advance 170 = .ok (.lmul, 1) := by decide +kernel
theorem dX4_advance_171 : decode cX4_advance 171 = .ok (.aload_n 0, 1) := by decide +kernel
theorem dX4_advance_172 : decode cX4_advance 172 = .ok (.aload_n 0, 1) := by decide +kernel
theorem dX4_advance_173 : decode cX4_advance 173 = .ok (.getfield 166, 3) := by decide +kernel
theorem dX4_advance_176 : decode cX4_advance 176 = .ok (.invokevirtual 172, 3) := by decide +kernel
theorem dX4_advance_179 : decode cX4_advance 179 = .ok (.i2l, 1) := by decide +kernel
theorem dX4_advance_180 : decode cX4_advance 180 = .ok (.ladd, 1) := by decide +kernel
theorem dX4_advance_181 : decode cX4_advance 181 = .ok (.ldc2_w 193, 3) := by decide +kernel
theorem dX4_advance_184 : decode cX4_advance 184 = .ok (.lsub, 1) := by decide +kernel
theorem dX4_advance_185 : decode cX4_advance 185 = .ok (.goto 6, 3) := by decide +kernel
theorem dX4_advance_188 : decode cX4_advance 188 = .ok (.ldc2_w 195, 3) := by decide +kernel
theorem dX4_advance_191 : decode cX4_advance 191 = .ok (.putfield 184, 3) := by decide +kernel
theorem dX4_advance_194 : decode cX4_advance 194 = .ok (.aload_n 0, 1) := by decide +kernel
theorem dX4_advance_195 : decode cX4_advance 195 = .ok (.dup, 1) := by decide +kernel
theorem dX4_advance_196 : decode cX4_advance 196 = .ok (.getfield 166, 3) := by decide +kernel
theorem dX4_advance_199 : decode cX4_advance 199 = .ok (.iconst 1, 1) := by decide +kernel
theorem dX4_advance_200 : decode cX4_advance 200 = .ok (.iadd, 1) := by decide +kernel
theorem dX4_advance_201 : decode cX4_advance 201 = .ok (.putfield 166, 3) := by decide +kernel
theorem dX4_advance_204 : decode cX4_advance 204 = .ok (.goto (-78), 3) := by decide +kernel
theorem dX4_advance_207 : decode cX4_advance 207 = .ok (.aload_n 0, 1) := by decide +kernel
theorem dX4_advance_208 : decode cX4_advance 208 = .ok (.getfield 181, 3) := by decide +kernel
theorem dX4_advance_211 : decode cX4_advance 211 = .ok (.iconst 2, 1) := by decide +kernel
theorem dX4_advance_212 : decode cX4_advance 212 = .ok (.if_icmp .ne 69, 3) := by decide +kernel
theorem dX4_advance_215 : decode cX4_advance 215 = .ok (.aload_n 0, 1) := by decide +kernel
theorem dX4_advance_216 : decode cX4_advance 216 = .ok (.aload_n 0, 1) := by decide +kernel
theorem dX4_advance_217 : decode cX4_advance 217 = .ok (.getfield 166, 3) := by decide +kernel
theorem dX4_advance_220 : decode cX4_advance 220 = .ok (.invokevirtual 172, 3) := by decide +kernel
theorem dX4_advance_223 : decode cX4_advance 223 = .ok (.invokestatic 178, 3) := by decide +kernel
theorem dX4_advance_226 : decode cX4_advance 226 = .ok (.ifCond .eq 55, 3) := by decide +kernel
theorem dX4_advance_229 : decode cX4_advance 229 = .ok (.aload_n 0, 1) := by decide +kernel
theorem dX4_advance_230 : decode cX4_advance 230 = .ok (.aload_n 0, 1) := by decide +kernel
theorem dX4_advance_231 : decode cX4_advance 231 = .ok (.getfield 188, 3) := by decide +kernel
theorem dX4_advance_234 : decode cX4_advance 234 = .ok (.sipush 999, 3) := by decide +kernel
theorem dX4_advance_237 : decode cX4_advance 237 = .ok (.if_icmp .le 9, 3) := by decide +kernel
theorem dX4_advance_240 : decode cX4_advance 240 = .ok (.sipush 10000, 3) := by decide +kernel
theorem dX4_advance_243 : decode cX4_advance 243 = .ok (.goto 22, 3) := by decide +kernel
theorem dX4_advance_246 : decode cX4_advance 246 = .ok (.bipush 10, 2) := by decide +kernel
theorem dX4_advance_248 : decode cX4_advance 248 = .ok (.aload_n 0, 1) := by decide +kernel
theorem dX4_advance_249 : decode cX4_advance 249 = .ok (.getfield 188, 3) := by decide +kernel
theorem dX4_advance_252 : decode cX4_advance 252 = .ok (.imul, 1) := by decide +kernel
theorem dX4_advance_253 : decode cX4_advance 253 = .ok (.aload_n 0, 1) := by decide +kernel
theorem dX4_advance_254 : decode cX4_advance 254 = .ok (.aload_n 0, 1) := by decide +kernel
theorem dX4_advance_255 : decode cX4_advance 255 = .ok (.getfield 166, 3) := by decide +kernel
theorem dX4_advance_258 : decode cX4_advance 258 = .ok (.invokevirtual 172, 3) := by decide +kernel
theorem dX4_advance_261 : decode cX4_advance 261 = .ok (.iadd, 1) := by decide +kernel
theorem dX4_advance_262 : decode cX4_advance 262 = .ok (.bipush 48, 2) := by decide +kernel
theorem dX4_advance_264 : decode cX4_advance 264 = .ok (.isub, 1) := by decide +kernel
theorem dX4_advance_265 : decode cX4_advance 265 = .ok (.putfield 188, 3) := by decide +kernel
theorem dX4_advance_268 : decode cX4_advance 268 = .ok (.aload_n 0, 1) := by decide +kernel
theorem dX4_advance_269 : decode cX4_advance 269 = .ok (.dup, 1) := by decide +kernel
theorem dX4_advance_270 : decode cX4_advance 270 = .ok (.getfield 166, 3) := by decide +kernel
theorem dX4_advance_273 : decode cX4_advance 273 = .ok (.iconst 1, 1) := by decide +kernel
theorem dX4_advance_274 : decode cX4_advance 274 = .ok (.iadd, 1) := by decide +kernel
theorem dX4_advance_275 : decode cX4_advance 275 = .ok (.putfield 166, 3) := by decide +kernel
theorem dX4_advance_278 : decode cX4_advance 278 = .ok (.goto (-71), 3) := by decide +kernel
theorem dX4_advance_281 : decode cX4_advance 281 = .ok (.return_, 1) := by decide +kernel
theorem dX4_isWord_0 : decode cX4_isWord 0 = .ok (.aload_n 0, 1) := by decide +kernel
theorem dX4_isWord_1 : decode cX4_isWord 1 = .ok (.getfield 181, 3) := by decide +kernel
theorem dX4_isWord_4 : decode cX4_isWord 4 = .ok (.iconst 1, 1) := by decide +kernel
theorem dX4_isWord_5 : decode cX4_isWord 5 = .ok (.if_icmp .ne 16, 3) := by decide +kernel
theorem dX4_isWord_8 : decode cX4_isWord 8 = .ok (.aload_n 0, 1) := by decide +kernel
theorem dX4_isWord_9 : decode cX4_isWord 9 = .ok (.getfield 184, 3) := by decide +kernel
theorem dX4_isWord_12 : decode cX4_isWord 12 = .ok (.lload_n 1, 1) := by decide +kernel
theorem dX4_isWord_13 : decode cX4_isWord 13 = .ok (.lcmp, 1) := by decide +kernel
theorem dX4_isWord_14 : decode cX4_isWord 14 = .ok (.ifCond .ne 7, 3) := by decide +kernel
theorem dX4_isWord_17 : decode cX4_isWord 17 = .ok (.iconst 1, 1) := by decide +kernel
theorem dX4_isWord_18 : decode cX4_isWord 18 = .ok (.goto 4, 3) := by decide +kernel
theorem dX4_isWord_21 : decode cX4_isWord 21 = .ok (.iconst 0, 1) := by decide +kernel
theorem dX4_isWord_22 : decode cX4_isWord 22 = .ok (.ireturn, 1) := by decide +kernel
theorem dX4_kindHere_0 : decode cX4_kindHere 0 = .ok (.aload_n 0, 1) := by decide +kernel
theorem dX4_kindHere_1 : decode cX4_kindHere 1 = .ok (.ldc2_w 197, 3) := by decide +kernel
theorem dX4_kindHere_4 : decode cX4_kindHere 4 = .ok (.invokevirtual 199, 3) := by decide +kernel
theorem dX4_kindHere_7 : decode cX4_kindHere 7 = .ok (.ifCond .eq 7, 3) := by decide +kernel
theorem dX4_kindHere_10 : decode cX4_kindHere 10 = .ok (.iconst 0, 1) := by decide +kernel
theorem dX4_kindHere_11 : decode cX4_kindHere 11 = .ok (.goto 74, 3) := by decide +kernel
theorem dX4_kindHere_14 : decode cX4_kindHere 14 = .ok (.aload_n 0, 1) := by decide +kernel
theorem dX4_kindHere_15 : decode cX4_kindHere 15 = .ok (.ldc2_w 203, 3) := by decide +kernel
theorem dX4_kindHere_18 : decode cX4_kindHere 18 = .ok (.invokevirtual 199, 3) := by decide +kernel
theorem dX4_kindHere_21 : decode cX4_kindHere 21 = .ok (.ifCond .eq 7, 3) := by decide +kernel
theorem dX4_kindHere_24 : decode cX4_kindHere 24 = .ok (.iconst 1, 1) := by decide +kernel
theorem dX4_kindHere_25 : decode cX4_kindHere 25 = .ok (.goto 60, 3) := by decide +kernel
theorem dX4_kindHere_28 : decode cX4_kindHere 28 = .ok (.aload_n 0, 1) := by decide +kernel
theorem dX4_kindHere_29 : decode cX4_kindHere 29 = .ok (.ldc2_w 205, 3) := by decide +kernel
theorem dX4_kindHere_32 : decode cX4_kindHere 32 = .ok (.invokevirtual 199, 3) := by decide +kernel
theorem dX4_kindHere_35 : decode cX4_kindHere 35 = .ok (.ifCond .eq 7, 3) := by decide +kernel
theorem dX4_kindHere_38 : decode cX4_kindHere 38 = .ok (.iconst 2, 1) := by decide +kernel
theorem dX4_kindHere_39 : decode cX4_kindHere 39 = .ok (.goto 46, 3) := by decide +kernel
theorem dX4_kindHere_42 : decode cX4_kindHere 42 = .ok (.aload_n 0, 1) := by decide +kernel
theorem dX4_kindHere_43 : decode cX4_kindHere 43 = .ok (.ldc2_w 207, 3) := by decide +kernel
theorem dX4_kindHere_46 : decode cX4_kindHere 46 = .ok (.invokevirtual 199, 3) := by decide +kernel
theorem dX4_kindHere_49 : decode cX4_kindHere 49 = .ok (.ifCond .eq 7, 3) := by decide +kernel
theorem dX4_kindHere_52 : decode cX4_kindHere 52 = .ok (.iconst 3, 1) := by decide +kernel
theorem dX4_kindHere_53 : decode cX4_kindHere 53 = .ok (.goto 32, 3) := by decide +kernel
theorem dX4_kindHere_56 : decode cX4_kindHere 56 = .ok (.aload_n 0, 1) := by decide +kernel
theorem dX4_kindHere_57 : decode cX4_kindHere 57 = .ok (.ldc2_w 209, 3) := by decide +kernel
theorem dX4_kindHere_60 : decode cX4_kindHere 60 = .ok (.invokevirtual 199, 3) := by decide +kernel
theorem dX4_kindHere_63 : decode cX4_kindHere 63 = .ok (.ifCond .eq 7, 3) := by decide +kernel
theorem dX4_kindHere_66 : decode cX4_kindHere 66 = .ok (.iconst 4, 1) := by decide +kernel
theorem dX4_kindHere_67 : decode cX4_kindHere 67 = .ok (.goto 18, 3) := by decide +kernel
theorem dX4_kindHere_70 : decode cX4_kindHere 70 = .ok (.aload_n 0, 1) := by decide +kernel
theorem dX4_kindHere_71 : decode cX4_kindHere 71 = .ok (.ldc2_w 211, 3) := by decide +kernel
theorem dX4_kindHere_74 : decode cX4_kindHere 74 = .ok (.invokevirtual 199, 3) := by decide +kernel
theorem dX4_kindHere_77 : decode cX4_kindHere 77 = .ok (.ifCond .eq 7, 3) := by decide +kernel
theorem dX4_kindHere_80 : decode cX4_kindHere 80 = .ok (.iconst 5, 1) := by decide +kernel
theorem dX4_kindHere_81 : decode cX4_kindHere 81 = .ok (.goto 4, 3) := by decide +kernel
theorem dX4_kindHere_84 : decode cX4_kindHere 84 = .ok (.iconst (-1), 1) := by decide +kernel
theorem dX4_kindHere_85 : decode cX4_kindHere 85 = .ok (.ireturn, 1) := by decide +kernel
theorem dX4_wantNumber_0 : decode cX4_wantNumber 0 = .ok (.aload_n 0, 1) := by decide +kernel
theorem dX4_wantNumber_1 : decode cX4_wantNumber 1 = .ok (.getfield 188, 3) := by decide +kernel
theorem dX4_wantNumber_4 : decode cX4_wantNumber 4 = .ok (.istore_n 3, 1) := by decide +kernel
theorem dX4_wantNumber_5 : decode cX4_wantNumber 5 = .ok (.aload_n 0, 1) := by decide +kernel
theorem dX4_wantNumber_6 : decode cX4_wantNumber 6 = .ok (.aload_n 0, 1) := by decide +kernel
theorem dX4_wantNumber_7 : decode cX4_wantNumber 7 = .ok (.getfield 213, 3) := by decide +kernel
theorem dX4_wantNumber_10 : decode cX4_wantNumber 10 = .ok (.ifCond .eq 24, 3) := by decide +kernel
theorem dX4_wantNumber_13 : decode cX4_wantNumber 13 = .ok (.aload_n 0, 1) := by decide +kernel
theorem dX4_wantNumber_14 : decode cX4_wantNumber 14 = .ok (.getfield 181, 3) := by decide +kernel
theorem dX4_wantNumber_17 : decode cX4_wantNumber 17 = .ok (.iconst 2, 1) := by decide +kernel
theorem dX4_wantNumber_18 : decode cX4_wantNumber 18 = .ok (.if_icmp .ne 16, 3) := by decide +kernel
theorem dX4_wantNumber_21 : decode cX4_wantNumber 21 = .ok (.iload_n 3, 1) := by decide +kernel
theorem dX4_wantNumber_22 : decode cX4_wantNumber 22 = .ok (.iload_n 1, 1) := by decide +kernel
theorem dX4_wantNumber_23 : decode cX4_wantNumber 23 = .ok (.iload_n 2, 1) := by decide +kernel
theorem dX4_wantNumber_24 : decode cX4_wantNumber 24 = .ok (.invokestatic 45, 3) := by decide +kernel
theorem dX4_wantNumber_27 : decode cX4_wantNumber 27 = .ok (.ifCond .eq 7, 3) := by decide +kernel
theorem dX4_wantNumber_30 : decode cX4_wantNumber 30 = .ok (.iconst 1, 1) := by decide +kernel
theorem dX4_wantNumber_31 : decode cX4_wantNumber 31 = .ok (.goto 4, 3) := by decide +kernel
theorem dX4_wantNumber_34 : decode cX4_wantNumber 34 = .ok (.iconst 0, 1) := by decide +kernel
theorem dX4_wantNumber_35 : decode cX4_wantNumber 35 = .ok (.putfield 213, 3) := by decide +kernel
theorem dX4_wantNumber_38 : decode cX4_wantNumber 38 = .ok (.aload_n 0, 1) := by decide +kernel
theorem dX4_wantNumber_39 : decode cX4_wantNumber 39 = .ok (.getfield 213, 3) := by decide +kernel
theorem dX4_wantNumber_42 : decode cX4_wantNumber 42 = .ok (.ifCond .eq 7, 3) := by decide +kernel
theorem dX4_wantNumber_45 : decode cX4_wantNumber 45 = .ok (.aload_n 0, 1) := by decide +kernel
theorem dX4_wantNumber_46 : decode cX4_wantNumber 46 = .ok (.invokevirtual 217, 3) := by decide +kernel
theorem dX4_wantNumber_49 : decode cX4_wantNumber 49 = .ok (.iload_n 3, 1) := by decide +kernel
theorem dX4_wantNumber_50 : decode cX4_wantNumber 50 = .ok (.ireturn, 1) := by decide +kernel
theorem dX4_mayWant_0 : decode cX4_mayWant 0 = .ok (.aload_n 0, 1) := by decide +kernel
theorem dX4_mayWant_1 : decode cX4_mayWant 1 = .ok (.getfield 213, 3) := by decide +kernel
theorem dX4_mayWant_4 : decode cX4_mayWant 4 = .ok (.ifCond .eq 11, 3) := by decide +kernel
theorem dX4_mayWant_7 : decode cX4_mayWant 7 = .ok (.aload_n 0, 1) := by decide +kernel
theorem dX4_mayWant_8 : decode cX4_mayWant 8 = .ok (.lload_n 1, 1) := by decide +kernel
theorem dX4_mayWant_9 : decode cX4_mayWant 9 = .ok (.invokevirtual 199, 3) := by decide +kernel
theorem dX4_mayWant_12 : decode cX4_mayWant 12 = .ok (.ifCond .ne 6, 3) := by decide +kernel
theorem dX4_mayWant_15 : decode cX4_mayWant 15 = .ok (.iload 5, 2) := by decide +kernel
theorem dX4_mayWant_17 : decode cX4_mayWant 17 = .ok (.ireturn, 1) := by decide +kernel
theorem dX4_mayWant_18 : decode cX4_mayWant 18 = .ok (.aload_n 0, 1) := by decide +kernel
theorem dX4_mayWant_19 : decode cX4_mayWant 19 = .ok (.invokevirtual 217, 3) := by decide +kernel
theorem dX4_mayWant_22 : decode cX4_mayWant 22 = .ok (.aload_n 0, 1) := by decide +kernel
theorem dX4_mayWant_23 : decode cX4_mayWant 23 = .ok (.iload_n 3, 1) := by decide +kernel
theorem dX4_mayWant_24 : decode cX4_mayWant 24 = .ok (.iload 4, 2) := by decide +kernel
theorem dX4_mayWant_26 : decode cX4_mayWant 26 = .ok (.invokevirtual 220, 3) := by decide +kernel
theorem dX4_mayWant_29 : decode cX4_mayWant 29 = .ok (.ireturn, 1) := by decide +kernel
theorem dX4_wantOne_0 : decode cX4_wantOne 0 = .ok (.aload_n 0, 1) := by decide +kernel
theorem dX4_wantOne_1 : decode cX4_wantOne 1 = .ok (.aload_n 0, 1) := by decide +kernel
theorem dX4_wantOne_2 : decode cX4_wantOne 2 = .ok (.getfield 7, 3) := by decide +kernel
theorem dX4_wantOne_5 : decode cX4_wantOne 5 = .ok (.iconst 2, 1) := by decide +kernel
theorem dX4_wantOne_6 : decode cX4_wantOne 6 = .ok (.iaload, 1) := by decide +kernel
theorem dX4_wantOne_7 : decode cX4_wantOne 7 = .ok (.bipush 8, 2) := by decide +kernel
theorem dX4_wantOne_9 : decode cX4_wantOne 9 = .ok (.if_icmp .ge 7, 3) := by decide +kernel
theorem dX4_wantOne_12 : decode cX4_wantOne 12 = .ok (.iconst 1, 1) := by decide +kernel
theorem dX4_wantOne_13 : decode cX4_wantOne 13 = .ok (.goto 4, 3) := by decide +kernel
theorem dX4_wantOne_16 : decode cX4_wantOne 16 = .ok (.iconst 0, 1) := by decide +kernel
theorem dX4_wantOne_17 : decode cX4_wantOne 17 = .ok (.putfield 213, 3) := by decide +kernel
theorem dX4_wantOne_20 : decode cX4_wantOne 20 = .ok (.aload_n 0, 1) := by decide +kernel
theorem dX4_wantOne_21 : decode cX4_wantOne 21 = .ok (.getfield 213, 3) := by decide +kernel
theorem dX4_wantOne_24 : decode cX4_wantOne 24 = .ok (.ifCond .ne 4, 3) := by decide +kernel
theorem dX4_wantOne_27 : decode cX4_wantOne 27 = .ok (.return_, 1) := by decide +kernel
theorem dX4_wantOne_28 : decode cX4_wantOne 28 = .ok (.aload_n 0, 1) := by decide +kernel
theorem dX4_wantOne_29 : decode cX4_wantOne 29 = .ok (.invokevirtual 217, 3) := by decide +kernel
theorem dX4_wantOne_32 : decode cX4_wantOne 32 = .ok (.aload_n 0, 1) := by decide +kernel
theorem dX4_wantOne_33 : decode cX4_wantOne 33 = .ok (.ldc2_w 223, 3) := by decide +kernel
theorem dX4_wantOne_36 : decode cX4_wantOne 36 = .ok (.iconst 0, 1) := by decide +kernel
theorem dX4_wantOne_37 : decode cX4_wantOne 37 = .ok (.sipush 200, 3) := by decide +kernel
theorem dX4_wantOne_40 : decode cX4_wantOne 40 = .ok (.bipush 50, 2) := by decide +kernel
theorem dX4_wantOne_42 : decode cX4_wantOne 42 = .ok (.invokevirtual 225, 3) := by decide +kernel
theorem dX4_wantOne_45 : decode cX4_wantOne 45 = .ok (.istore_n 2, 1) := by decide +kernel
theorem dX4_wantOne_46 : decode cX4_wantOne 46 = .ok (.aload_n 0, 1) := by decide +kernel
theorem dX4_wantOne_47 : decode cX4_wantOne 47 = .ok (.ldc2_w 229, 3) := by decide +kernel
theorem dX4_wantOne_50 : decode cX4_wantOne 50 = .ok (.iconst 0, 1) := by decide +kernel
theorem dX4_wantOne_51 : decode cX4_wantOne 51 = .ok (.bipush 99, 2) := by decide +kernel
theorem dX4_wantOne_53 : decode cX4_wantOne 53 = .ok (.iconst 5, 1) := by decide +kernel
theorem dX4_wantOne_54 : decode cX4_wantOne 54 = .ok (.invokevirtual 225, 3) := by decide +kernel
theorem dX4_wantOne_57 : decode cX4_wantOne 57 = .ok (.istore_n 3, 1) := by decide +kernel
theorem dX4_wantOne_58 : decode cX4_wantOne 58 = .ok (.aload_n 0, 1) := by decide +kernel
theorem dX4_wantOne_59 : decode cX4_wantOne 59 = .ok (.getfield 213, 3) := by decide +kernel
theorem dX4_wantOne_62 : decode cX4_wantOne 62 = .ok (.ifCond .eq 10, 3) := by decide +kernel
theorem dX4_wantOne_65 : decode cX4_wantOne 65 = .ok (.aload_n 0, 1) := by decide +kernel
theorem dX4_wantOne_66 : decode cX4_wantOne 66 = .ok (.iload_n 1, 1) := by decide +kernel
theorem dX4_wantOne_67 : decode cX4_wantOne 67 = .ok (.iload_n 2, 1) := by decide +kernel
theorem dX4_wantOne_68 : decode cX4_wantOne 68 = .ok (.iload_n 3, 1) := by decide +kernel
theorem dX4_wantOne_69 : decode cX4_wantOne 69 = .ok (.invokevirtual 95, 3) := by decide +kernel
theorem dX4_wantOne_72 : decode cX4_wantOne 72 = .ok (.return_, 1) := by decide +kernel
theorem dX4_wantPush_0 : decode cX4_wantPush 0 = .ok (.aload_n 0, 1) := by decide +kernel
theorem dX4_wantPush_1 : decode cX4_wantPush 1 = .ok (.invokevirtual 217, 3) := by decide +kernel
theorem dX4_wantPush_4 : decode cX4_wantPush 4 = .ok (.aload_n 0, 1) := by decide +kernel
theorem dX4_wantPush_5 : decode cX4_wantPush 5 = .ok (.iconst 0, 1) := by decide +kernel
theorem dX4_wantPush_6 : decode cX4_wantPush 6 = .ok (.aload_n 0, 1) := by decide +kernel
theorem dX4_wantPush_7 : decode cX4_wantPush 7 = .ok (.getfield 7, 3) := by decide +kernel
theorem dX4_wantPush_10 : decode cX4_wantPush 10 = .ok (.iconst 2, 1) := by decide +kernel
theorem dX4_wantPush_11 : decode cX4_wantPush 11 = .ok (.iaload, 1) := by decide +kernel
theorem dX4_wantPush_12 : decode cX4_wantPush 12 = .ok (.iconst 1, 1) := by decide +kernel
theorem dX4_wantPush_13 : decode cX4_wantPush 13 = .ok (.isub, 1) := by decide +kernel
theorem dX4_wantPush_14 : decode cX4_wantPush 14 = .ok (.invokevirtual 220, 3) := by decide +kernel
theorem dX4_wantPush_17 : decode cX4_wantPush 17 = .ok (.istore_n 1, 1) := by decide +kernel
theorem dX4_wantPush_18 : decode cX4_wantPush 18 = .ok (.aload_n 0, 1) := by decide +kernel
theorem dX4_wantPush_19 : decode cX4_wantPush 19 = .ok (.getfield 213, 3) := by decide +kernel
theorem dX4_wantPush_22 : decode cX4_wantPush 22 = .ok (.ifCond .eq 13, 3) := by decide +kernel
theorem dX4_wantPush_25 : decode cX4_wantPush 25 = .ok (.aload_n 0, 1) := by decide +kernel
theorem dX4_wantPush_26 : decode cX4_wantPush 26 = .ok (.iconst 1, 1) := by decide +kernel
theorem dX4_wantPush_27 : decode cX4_wantPush 27 = .ok (.bipush 99, 2) := by decide +kernel
theorem dX4_wantPush_29 : decode cX4_wantPush 29 = .ok (.invokevirtual 220, 3) := by decide +kernel
theorem dX4_wantPush_32 : decode cX4_wantPush 32 = .ok (.goto 4, 3) := by decide +kernel
theorem dX4_wantPush_35 : decode cX4_wantPush 35 = .ok (.iconst 0, 1) := by decide +kernel
theorem dX4_wantPush_36 : decode cX4_wantPush 36 = .ok (.istore_n 2, 1) := by decide +kernel
theorem dX4_wantPush_37 : decode cX4_wantPush 37 = .ok (.aload_n 0, 1) := by decide +kernel
theorem dX4_wantPush_38 : decode cX4_wantPush 38 = .ok (.getfield 213, 3) := by decide +kernel
theorem dX4_wantPush_41 : decode cX4_wantPush 41 = .ok (.ifCond .eq 9, 3) := by decide +kernel
theorem dX4_wantPush_44 : decode cX4_wantPush 44 = .ok (.aload_n 0, 1) := by decide +kernel
theorem dX4_wantPush_45 : decode cX4_wantPush 45 = .ok (.iload_n 1, 1) := by decide +kernel
theorem dX4_wantPush_46 : decode cX4_wantPush 46 = .ok (.iload_n 2, 1) := by decide +kernel
theorem dX4_wantPush_47 : decode cX4_wantPush 47 = .ok (.invokevirtual 119, 3) := by decide +kernel
theorem dX4_wantPush_50 : decode cX4_wantPush 50 = .ok (.return_, 1) := by decide +kernel
theorem dX4_wantItem_0 : decode cX4_wantItem 0 = .ok (.aload_n 0, 1) := by decide +kernel
theorem dX4_wantItem_1 : decode cX4_wantItem 1 = .ok (.invokevirtual 231, 3) := by decide +kernel
theorem dX4_wantItem_4 : decode cX4_wantItem 4 = .ok (.ifCond .lt 14, 3) := by decide +kernel
theorem dX4_wantItem_7 : decode cX4_wantItem 7 = .ok (.aload_n 0, 1) := by decide +kernel
theorem dX4_wantItem_8 : decode cX4_wantItem 8 = .ok (.aload_n 0, 1) := by decide +kernel
theorem dX4_wantItem_9 : decode cX4_wantItem 9 = .ok (.invokevirtual 231, 3) := by decide +kernel
theorem dX4_wantItem_12 : decode cX4_wantItem 12 = .ok (.invokevirtual 234, 3) := by decide +kernel
theorem dX4_wantItem_15 : decode cX4_wantItem 15 = .ok (.goto 73, 3) := by decide +kernel
theorem dX4_wantItem_18 : decode cX4_wantItem 18 = .ok (.aload_n 0, 1) := by decide +kernel
theorem dX4_wantItem_19 : decode cX4_wantItem 19 = .ok (.ldc2_w 237, 3) := by decide +kernel
theorem dX4_wantItem_22 : decode cX4_wantItem 22 = .ok (.invokevirtual 199, 3) := by decide +kernel
theorem dX4_wantItem_25 : decode cX4_wantItem 25 = .ok (.ifCond .eq 10, 3) := by decide +kernel
theorem dX4_wantItem_28 : decode cX4_wantItem 28 = .ok (.aload_n 0, 1) := by decide +kernel
theorem dX4_wantItem_29 : decode cX4_wantItem 29 = .ok (.invokevirtual 239, 3) := by decide +kernel
theorem dX4_wantItem_32 : decode cX4_wantItem 32 = .ok (.goto 56, 3) := by decide +kernel
theorem dX4_wantItem_35 : decode cX4_wantItem 35 = .ok (.aload_n 0, 1) := by decide +kernel
theorem dX4_wantItem_36 : decode cX4_wantItem 36 = .ok (.ldc2_w 242, 3) := by decide +kernel
theorem dX4_wantItem_39 : decode cX4_wantItem 39 = .ok (.invokevirtual 199, 3) := by decide +kernel
theorem dX4_wantItem_42 : decode cX4_wantItem 42 = .ok (.ifCond .eq 41, 3) := by decide +kernel
theorem dX4_wantItem_45 : decode cX4_wantItem 45 = .ok (.aload_n 0, 1) := by decide +kernel
theorem dX4_wantItem_46 : decode cX4_wantItem 46 = .ok (.invokevirtual 217, 3) := by decide +kernel
theorem dX4_wantItem_49 : decode cX4_wantItem 49 = .ok (.aload_n 0, 1) := by decide +kernel
theorem dX4_wantItem_50 : decode cX4_wantItem 50 = .ok (.iconst 0, 1) := by decide +kernel
theorem dX4_wantItem_51 : decode cX4_wantItem 51 = .ok (.bipush 59, 2) := by decide +kernel
theorem dX4_wantItem_53 : decode cX4_wantItem 53 = .ok (.invokevirtual 220, 3) := by decide +kernel
theorem dX4_wantItem_56 : decode cX4_wantItem 56 = .ok (.istore_n 1, 1) := by decide +kernel
theorem dX4_wantItem_57 : decode cX4_wantItem 57 = .ok (.aload_n 0, 1) := by decide +kernel
theorem dX4_wantItem_58 : decode cX4_wantItem 58 = .ok (.getfield 7, 3) := by decide +kernel
theorem dX4_wantItem_61 : decode cX4_wantItem 61 = .ok (.iconst 1, 1) := by decide +kernel
theorem dX4_wantItem_62 : decode cX4_wantItem 62 = .ok (.aload_n 0, 1) := by decide +kernel
theorem dX4_wantItem_63 : decode cX4_wantItem 63 = .ok (.getfield 213, 3) := by decide +kernel
theorem dX4_wantItem_66 : decode cX4_wantItem 66 = .ok (.ifCond .eq 7, 3) := by decide +kernel
theorem dX4_wantItem_69 : decode cX4_wantItem 69 = .ok (.iload_n 1, 1) := by decide +kernel
theorem dX4_wantItem_70 : decode cX4_wantItem 70 = .ok (.goto 9, 3) := by decide +kernel
theorem dX4_wantItem_73 : decode cX4_wantItem 73 = .ok (.aload_n 0, 1) := by decide +kernel
theorem dX4_wantItem_74 : decode cX4_wantItem 74 = .ok (.getfield 7, 3) := by decide +kernel
theorem dX4_wantItem_77 : decode cX4_wantItem 77 = .ok (.iconst 1, 1) := by decide +kernel
theorem dX4_wantItem_78 : decode cX4_wantItem 78 = .ok (.iaload, 1) := by decide +kernel
theorem dX4_wantItem_79 : decode cX4_wantItem 79 = .ok (.iastore, 1) := by decide +kernel
theorem dX4_wantItem_80 : decode cX4_wantItem 80 = .ok (.goto 8, 3) := by decide +kernel
theorem dX4_wantItem_83 : decode cX4_wantItem 83 = .ok (.aload_n 0, 1) := by decide +kernel
theorem dX4_wantItem_84 : decode cX4_wantItem 84 = .ok (.iconst 0, 1) := by decide +kernel
theorem dX4_wantItem_85 : decode cX4_wantItem 85 = .ok (.putfield 213, 3) := by decide +kernel
theorem dX4_wantItem_88 : decode cX4_wantItem 88 = .ok (.return_, 1) := by decide +kernel
theorem dX4_ground_0 : decode cX4_ground 0 = .ok (.aload_n 0, 1) := by decide +kernel
theorem dX4_ground_1 : decode cX4_ground 1 = .ok (.iconst 1, 1) := by decide +kernel
theorem dX4_ground_2 : decode cX4_ground 2 = .ok (.aload_n 0, 1) := by decide +kernel
theorem dX4_ground_3 : decode cX4_ground 3 = .ok (.getfield 41, 3) := by decide +kernel
theorem dX4_ground_6 : decode cX4_ground 6 = .ok (.invokevirtual 151, 3) := by decide +kernel
theorem dX4_ground_9 : decode cX4_ground 9 = .ok (.aload_n 0, 1) := by decide +kernel
theorem dX4_ground_10 : decode cX4_ground 10 = .ok (.iconst 0, 1) := by decide +kernel
theorem dX4_ground_11 : decode cX4_ground 11 = .ok (.putfield 166, 3) := by decide +kernel
theorem dX4_ground_14 : decode cX4_ground 14 = .ok (.aload_n 0, 1) := by decide +kernel
theorem dX4_ground_15 : decode cX4_ground 15 = .ok (.iconst 1, 1) := by decide +kernel
theorem dX4_ground_16 : decode cX4_ground 16 = .ok (.putfield 213, 3) := by decide +kernel
theorem dX4_ground_19 : decode cX4_ground 19 = .ok (.iconst 0, 1) := by decide +kernel
theorem dX4_ground_20 : decode cX4_ground 20 = .ok (.istore_n 1, 1) := by decide +kernel
theorem dX4_ground_21 : decode cX4_ground 21 = .ok (.iconst 1, 1) := by decide +kernel
theorem dX4_ground_22 : decode cX4_ground 22 = .ok (.istore_n 2, 1) := by decide +kernel
theorem dX4_ground_23 : decode cX4_ground 23 = .ok (.iload_n 2, 1) := by decide +kernel
theorem dX4_ground_24 : decode cX4_ground 24 = .ok (.ifCond .eq 47, 3) := by decide +kernel
theorem dX4_ground_27 : decode cX4_ground 27 = .ok (.aload_n 0, 1) := by decide +kernel
theorem dX4_ground_28 : decode cX4_ground 28 = .ok (.invokevirtual 217, 3) := by decide +kernel
theorem dX4_ground_31 : decode cX4_ground 31 = .ok (.aload_n 0, 1) := by decide +kernel
theorem dX4_ground_32 : decode cX4_ground 32 = .ok (.invokevirtual 244, 3) := by decide +kernel
theorem dX4_ground_35 : decode cX4_ground 35 = .ok (.iinc 1 1, 3) := by decide +kernel
theorem dX4_ground_38 : decode cX4_ground 38 = .ok (.aload_n 0, 1) := by decide +kernel
theorem dX4_ground_39 : decode cX4_ground 39 = .ok (.getfield 213, 3) := by decide +kernel
theorem dX4_ground_42 : decode cX4_ground 42 = .ok (.ifCond .eq 24, 3) := by decide +kernel
theorem dX4_ground_45 : decode cX4_ground 45 = .ok (.aload_n 0, 1) := by decide +kernel
theorem dX4_ground_46 : decode cX4_ground 46 = .ok (.getfield 181, 3) := by decide +kernel
theorem dX4_ground_49 : decode cX4_ground 49 = .ok (.iconst 3, 1) := by decide +kernel
theorem dX4_ground_50 : decode cX4_ground 50 = .ok (.if_icmp .ne 16, 3) := by decide +kernel
theorem dX4_ground_53 : decode cX4_ground 53 = .ok (.aload_n 0, 1) := by decide +kernel
theorem dX4_ground_54 : decode cX4_ground 54 = .ok (.getfield 188, 3) := by decide +kernel
theorem dX4_ground_57 : decode cX4_ground 57 = .ok (.bipush 59, 2) := by decide +kernel
theorem dX4_ground_59 : decode cX4_ground 59 = .ok (.if_icmp .ne 7, 3) := by decide +kernel
theorem dX4_ground_62 : decode cX4_ground 62 = .ok (.iconst 1, 1) := by decide +kernel
theorem dX4_ground_63 : decode cX4_ground 63 = .ok (.goto 4, 3) := by decide +kernel
theorem dX4_ground_66 : decode cX4_ground 66 = .ok (.iconst 0, 1) := by decide +kernel
theorem dX4_ground_67 : decode cX4_ground 67 = .ok (.istore_n 2, 1) := by decide +kernel
theorem dX4_ground_68 : decode cX4_ground 68 = .ok (.goto (-45), 3) := by decide +kernel
theorem dX4_ground_71 : decode cX4_ground 71 = .ok (.aload_n 0, 1) := by decide +kernel
theorem dX4_ground_72 : decode cX4_ground 72 = .ok (.aload_n 0, 1) := by decide +kernel
theorem dX4_ground_73 : decode cX4_ground 73 = .ok (.getfield 213, 3) := by decide +kernel
theorem dX4_ground_76 : decode cX4_ground 76 = .ok (.ifCond .eq 14, 3) := by decide +kernel
theorem dX4_ground_79 : decode cX4_ground 79 = .ok (.aload_n 0, 1) := by decide +kernel
theorem dX4_ground_80 : decode cX4_ground 80 = .ok (.getfield 181, 3) := by decide +kernel
theorem dX4_ground_83 : decode cX4_ground 83 = .ok (.ifCond .ne 7, 3) := by decide +kernel
theorem dX4_ground_86 : decode cX4_ground 86 = .ok (.iconst 1, 1) := by decide +kernel
theorem dX4_ground_87 : decode cX4_ground 87 = .ok (.goto 4, 3) := by decide +kernel
theorem dX4_ground_90 : decode cX4_ground 90 = .ok (.iconst 0, 1) := by decide +kernel
theorem dX4_ground_91 : decode cX4_ground 91 = .ok (.putfield 213, 3) := by decide +kernel
theorem dX4_ground_94 : decode cX4_ground 94 = .ok (.aload_n 0, 1) := by decide +kernel
theorem dX4_ground_95 : decode cX4_ground 95 = .ok (.iconst 0, 1) := by decide +kernel
theorem dX4_ground_96 : decode cX4_ground 96 = .ok (.putfield 162, 3) := by decide +kernel
theorem dX4_ground_99 : decode cX4_ground 99 = .ok (.aload_n 0, 1) := by decide +kernel
theorem dX4_ground_100 : decode cX4_ground 100 = .ok (.getfield 213, 3) := by decide +kernel
theorem dX4_ground_103 : decode cX4_ground 103 = .ok (.ifCond .ne 19, 3) := by decide +kernel
theorem dX4_ground_106 : decode cX4_ground 106 = .ok (.aload_n 0, 1) := by decide +kernel
theorem dX4_ground_107 : decode cX4_ground 107 = .ok (.iconst 0, 1) := by decide +kernel
theorem dX4_ground_108 : decode cX4_ground 108 = .ok (.aload_n 0, 1) := by decide +kernel
theorem dX4_ground_109 : decode cX4_ground 109 = .ok (.getfield 41, 3) := by decide +kernel
theorem dX4_ground_112 : decode cX4_ground 112 = .ok (.invokevirtual 151, 3) := by decide +kernel
theorem dX4_ground_115 : decode cX4_ground 115 = .ok (.iconst (-1), 1) := by decide +kernel
theorem dX4_ground_116 : decode cX4_ground 116 = .ok (.aload_n 0, 1) := by decide +kernel
theorem dX4_ground_117 : decode cX4_ground 117 = .ok (.getfield 169, 3) := by decide +kernel
theorem dX4_ground_120 : decode cX4_ground 120 = .ok (.isub, 1) := by decide +kernel
theorem dX4_ground_121 : decode cX4_ground 121 = .ok (.ireturn, 1) := by decide +kernel
theorem dX4_ground_122 : decode cX4_ground 122 = .ok (.iload_n 1, 1) := by decide +kernel
theorem dX4_ground_123 : decode cX4_ground 123 = .ok (.ireturn, 1) := by decide +kernel
theorem dX4_isSheet_0 : decode cX4_isSheet 0 = .ok (.iload_n 0, 1) := by decide +kernel
theorem dX4_isSheet_1 : decode cX4_isSheet 1 = .ok (.iconst 0, 1) := by decide +kernel
theorem dX4_isSheet_2 : decode cX4_isSheet 2 = .ok (.iconst 3, 1) := by decide +kernel
theorem dX4_isSheet_3 : decode cX4_isSheet 3 = .ok (.invokestatic 45, 3) := by decide +kernel
theorem dX4_isSheet_6 : decode cX4_isSheet 6 = .ok (.ireturn, 1) := by decide +kernel
theorem dX4_narrow_0 : decode cX4_narrow 0 = .ok (.iload_n 0, 1) := by decide +kernel
theorem dX4_narrow_1 : decode cX4_narrow 1 = .ok (.bipush 8, 2) := by decide +kernel
theorem dX4_narrow_3 : decode cX4_narrow 3 = .ok (.if_icmp .ne 13, 3) := by decide +kernel
theorem dX4_narrow_6 : decode cX4_narrow 6 = .ok (.lload_n 1, 1) := by decide +kernel
theorem dX4_narrow_7 : decode cX4_narrow 7 = .ok (.bipush 56, 2) := by decide +kernel
theorem dX4_narrow_9 : decode cX4_narrow 9 = .ok (.lshl, 1) := by decide +kernel
theorem dX4_narrow_10 : decode cX4_narrow 10 = .ok (.bipush 56, 2) := by decide +kernel
theorem dX4_narrow_12 : decode cX4_narrow 12 = .ok (.lshr, 1) := by decide +kernel
theorem dX4_narrow_13 : decode cX4_narrow 13 = .ok (.goto 20, 3) := by decide +kernel
theorem dX4_narrow_16 : decode cX4_narrow 16 = .ok (.iload_n 0, 1) := by decide +kernel
theorem dX4_narrow_17 : decode cX4_narrow 17 = .ok (.bipush 16, 2) := by decide +kernel
theorem dX4_narrow_19 : decode cX4_narrow 19 = .ok (.if_icmp .ne 13, 3) := by decide +kernel
theorem dX4_narrow_22 : decode cX4_narrow 22 = .ok (.lload_n 1, 1) := by decide +kernel
theorem dX4_narrow_23 : decode cX4_narrow 23 = .ok (.bipush 48, 2) := by decide +kernel
theorem dX4_narrow_25 : decode cX4_narrow 25 = .ok (.lshl, 1) := by decide +kernel
theorem dX4_narrow_26 : decode cX4_narrow 26 = .ok (.bipush 48, 2) := by decide +kernel
theorem dX4_narrow_28 : decode cX4_narrow 28 = .ok (.lshr, 1) := by decide +kernel
theorem dX4_narrow_29 : decode cX4_narrow 29 = .ok (.goto 4, 3) := by decide +kernel
theorem dX4_narrow_32 : decode cX4_narrow 32 = .ok (.lload_n 1, 1) := by decide +kernel
theorem dX4_narrow_33 : decode cX4_narrow 33 = .ok (.lreturn, 1) := by decide +kernel
theorem dX4_sheet_0 : decode cX4_sheet 0 = .ok (.iload_n 1, 1) := by decide +kernel
theorem dX4_sheet_1 : decode cX4_sheet 1 = .ok (.invokestatic 247, 3) := by decide +kernel
theorem dX4_sheet_4 : decode cX4_sheet 4 = .ok (.ifCond .eq 25, 3) := by decide +kernel
theorem dX4_sheet_7 : decode cX4_sheet 7 = .ok (.iload_n 2, 1) := by decide +kernel
theorem dX4_sheet_8 : decode cX4_sheet 8 = .ok (.ifCond .eq 28, 3) := by decide +kernel
theorem dX4_sheet_11 : decode cX4_sheet 11 = .ok (.iload_n 2, 1) := by decide +kernel
theorem dX4_sheet_12 : decode cX4_sheet 12 = .ok (.bipush 8, 2) := by decide +kernel
theorem dX4_sheet_14 : decode cX4_sheet 14 = .ok (.if_icmp .eq 22, 3) := by decide +kernel
theorem dX4_sheet_17 : decode cX4_sheet 17 = .ok (.iload_n 2, 1) := by decide +kernel
theorem dX4_sheet_18 : decode cX4_sheet 18 = .ok (.bipush 16, 2) := by decide +kernel
theorem dX4_sheet_20 : decode cX4_sheet 20 = .ok (.if_icmp .eq 16, 3) := by decide +kernel
theorem dX4_sheet_23 : decode cX4_sheet 23 = .ok (.iload_n 2, 1) := by decide +kernel
theorem dX4_sheet_24 : decode cX4_sheet 24 = .ok (.bipush 64, 2) := by decide +kernel
theorem dX4_sheet_26 : decode cX4_sheet 26 = .ok (.if_icmp .eq 10, 3) := by decide +kernel
theorem dX4_sheet_29 : decode cX4_sheet 29 = .ok (.aload_n 0, 1) := by decide +kernel
theorem dX4_sheet_30 : decode cX4_sheet 30 = .ok (.ldc 44, 2) := by decide +kernel
theorem dX4_sheet_32 : decode cX4_sheet 32 = .ok (.invokevirtual 53, 3) := by decide +kernel
theorem dX4_sheet_35 : decode cX4_sheet 35 = .ok (.ireturn, 1) := by decide +kernel
theorem dX4_sheet_36 : decode cX4_sheet 36 = .ok (.iload_n 3, 1) := by decide +kernel
theorem dX4_sheet_37 : decode cX4_sheet 37 = .ok (.ifCond .ge 10, 3) := by decide +kernel
theorem dX4_sheet_40 : decode cX4_sheet 40 = .ok (.aload_n 0, 1) := by decide +kernel
theorem dX4_sheet_41 : decode cX4_sheet 41 = .ok (.ldc 250, 2) := by decide +kernel
theorem dX4_sheet_43 : decode cX4_sheet 43 = .ok (.invokevirtual 53, 3) := by decide +kernel
theorem dX4_sheet_46 : decode cX4_sheet 46 = .ok (.ireturn, 1) := by decide +kernel
theorem dX4_sheet_47 : decode cX4_sheet 47 = .ok (.iload_n 3, 1) := by decide +kernel
theorem dX4_sheet_48 : decode cX4_sheet 48 = .ok (.bipush 40, 2) := by decide +kernel
theorem dX4_sheet_50 : decode cX4_sheet 50 = .ok (.if_icmp .le 10, 3) := by decide +kernel
theorem dX4_sheet_53 : decode cX4_sheet 53 = .ok (.aload_n 0, 1) := by decide +kernel
theorem dX4_sheet_54 : decode cX4_sheet 54 = .ok (.ldc 44, 2) := by decide +kernel
theorem dX4_sheet_56 : decode cX4_sheet 56 = .ok (.invokevirtual 53, 3) := by decide +kernel
theorem dX4_sheet_59 : decode cX4_sheet 59 = .ok (.ireturn, 1) := by decide +kernel
theorem dX4_sheet_60 : decode cX4_sheet 60 = .ok (.aload_n 0, 1) := by decide +kernel
theorem dX4_sheet_61 : decode cX4_sheet 61 = .ok (.getfield 25, 3) := by decide +kernel
theorem dX4_sheet_64 : decode cX4_sheet 64 = .ok (.iload_n 1, 1) := by decide +kernel
theorem dX4_sheet_65 : decode cX4_sheet 65 = .ok (.iload_n 2, 1) := by decide +kernel
theorem dX4_sheet_66 : decode cX4_sheet 66 = .ok (.iastore, 1) := by decide +kernel
theorem dX4_sheet_67 : decode cX4_sheet 67 = .ok (.aload_n 0, 1) := by decide +kernel
theorem dX4_sheet_68 : decode cX4_sheet 68 = .ok (.getfield 28, 3) := by decide +kernel
theorem dX4_sheet_71 : decode cX4_sheet 71 = .ok (.iload_n 1, 1) := by decide +kernel
theorem dX4_sheet_72 : decode cX4_sheet 72 = .ok (.iload_n 2, 1) := by decide +kernel
theorem dX4_sheet_73 : decode cX4_sheet 73 = .ok (.ifCond .ne 7, 3) := by decide +kernel
theorem dX4_sheet_76 : decode cX4_sheet 76 = .ok (.iconst 0, 1) := by decide +kernel
theorem dX4_sheet_77 : decode cX4_sheet 77 = .ok (.goto 4, 3) := by decide +kernel
theorem dX4_sheet_80 : decode cX4_sheet 80 = .ok (.iload_n 3, 1) := by decide +kernel
theorem dX4_sheet_81 : decode cX4_sheet 81 = .ok (.iastore, 1) := by decide +kernel
theorem dX4_sheet_82 : decode cX4_sheet 82 = .ok (.iconst 0, 1) := by decide +kernel
theorem dX4_sheet_83 : decode cX4_sheet 83 = .ok (.istore 4, 2) := by decide +kernel
theorem dX4_sheet_85 : decode cX4_sheet 85 = .ok (.iload 4, 2) := by decide +kernel
theorem dX4_sheet_87 : decode cX4_sheet 87 = .ok (.bipush 40, 2) := by decide +kernel
theorem dX4_sheet_89 : decode cX4_sheet 89 = .ok (.if_icmp .ge 22, 3) := by decide +kernel
theorem dX4_sheet_92 : decode cX4_sheet 92 = .ok (.aload_n 0, 1) := by decide +kernel
theorem dX4_sheet_93 : decode cX4_sheet 93 = .ok (.getfield 31, 3) := by decide +kernel
theorem dX4_sheet_96 : decode cX4_sheet 96 = .ok (.bipush 40, 2) := by decide +kernel
theorem dX4_sheet_98 : decode cX4_sheet 98 = .ok (.iload_n 1, 1) := by decide +kernel
theorem dX4_sheet_99 : decode cX4_sheet 99 = .ok (.imul, 1) := by decide +kernel
theorem dX4_sheet_100 : decode cX4_sheet 100 = .ok (.iload 4, 2) := by decide +kernel
theorem dX4_sheet_102 : decode cX4_sheet 102 = .ok (.iadd, 1) := by decide +kernel
theorem dX4_sheet_103 : decode cX4_sheet 103 = .ok (.lconst 0, 1) := by decide +kernel
theorem dX4_sheet_104 : decode cX4_sheet 104 = .ok (.lastore, 1) := by decide +kernel
theorem dX4_sheet_105 : decode cX4_sheet 105 = .ok (.iinc 4 1, 3) := by decide +kernel
theorem dX4_sheet_108 : decode cX4_sheet 108 = .ok (.goto (-23), 3) := by decide +kernel
theorem dX4_sheet_111 : decode cX4_sheet 111 = .ok (.aload_n 0, 1) := by decide +kernel
theorem dX4_sheet_112 : decode cX4_sheet 112 = .ok (.getfield 28, 3) := by decide +kernel
theorem dX4_sheet_115 : decode cX4_sheet 115 = .ok (.iload_n 1, 1) := by decide +kernel
theorem dX4_sheet_116 : decode cX4_sheet 116 = .ok (.iaload, 1) := by decide +kernel
theorem dX4_sheet_117 : decode cX4_sheet 117 = .ok (.ireturn, 1) := by decide +kernel
end
section
theorem dX4_write_0 : decode cX4_write 0 = .ok (.iload_n 1, 1) := by decide +kernel
theorem dX4_write_1 : decode cX4_write 1 = .ok (.invokestatic 247, 3) := by decide +kernel
theorem dX4_write_4 : decode cX4_write 4 = .ok (.ifCond .ne 11, 3) := by decide +kernel
theorem dX4_write_7 : decode cX4_write 7 = .ok (.aload_n 0, 1) := by decide +kernel
theorem dX4_write_8 : decode cX4_write 8 = .ok (.ldc 44, 2) := by decide +kernel
theorem dX4_write_10 : decode cX4_write 10 = .ok (.invokevirtual 53, 3) := by decide +kernel
theorem dX4_write_13 : decode cX4_write 13 = .ok (.i2l, 1) := by decide +kernel
theorem dX4_write_14 : decode cX4_write 14 = .ok (.lreturn, 1) := by decide +kernel
theorem dX4_write_15 : decode cX4_write 15 = .ok (.aload_n 0, 1) := by decide +kernel
theorem dX4_write_16 : decode cX4_write 16 = .ok (.getfield 25, 3) := by decide +kernel
theorem dX4_write_19 : decode cX4_write 19 = .ok (.iload_n 1, 1) := by decide +kernel
theorem dX4_write_20 : decode cX4_write 20 = .ok (.iaload, 1) := by decide +kernel
theorem dX4_write_21 : decode cX4_write 21 = .ok (.ifCond .ne 11, 3) := by decide +kernel
theorem dX4_write_24 : decode cX4_write 24 = .ok (.aload_n 0, 1) := by decide +kernel
theorem dX4_write_25 : decode cX4_write 25 = .ok (.ldc 251, 2) := by decide +kernel
theorem dX4_write_27 : decode cX4_write 27 = .ok (.invokevirtual 53, 3) := by decide +kernel
theorem dX4_write_30 : decode cX4_write 30 = .ok (.i2l, 1) := by decide +kernel
theorem dX4_write_31 : decode cX4_write 31 = .ok (.lreturn, 1) := by decide +kernel
theorem dX4_write_32 : decode cX4_write 32 = .ok (.iload_n 2, 1) := by decide +kernel
theorem dX4_write_33 : decode cX4_write 33 = .ok (.iconst 0, 1) := by decide +kernel
theorem dX4_write_34 : decode cX4_write 34 = .ok (.aload_n 0, 1) := by decide +kernel
theorem dX4_write_35 : decode cX4_write 35 = .ok (.getfield 28, 3) := by decide +kernel
theorem dX4_write_38 : decode cX4_write 38 = .ok (.iload_n 1, 1) := by decide +kernel
theorem dX4_write_39 : decode cX4_write 39 = .ok (.iaload, 1) := by decide +kernel
theorem dX4_write_40 : decode cX4_write 40 = .ok (.iconst 1, 1) := by decide +kernel
theorem dX4_write_41 : decode cX4_write 41 = .ok (.isub, 1) := by decide +kernel
theorem dX4_write_42 : decode cX4_write 42 = .ok (.invokestatic 45, 3) := by decide +kernel
theorem dX4_write_45 : decode cX4_write 45 = .ok (.ifCond .ne 11, 3) := by decide +kernel
theorem dX4_write_48 : decode cX4_write 48 = .ok (.aload_n 0, 1) := by decide +kernel
theorem dX4_write_49 : decode cX4_write 49 = .ok (.ldc 44, 2) := by decide +kernel
theorem dX4_write_51 : decode cX4_write 51 = .ok (.invokevirtual 53, 3) := by decide +kernel
theorem dX4_write_54 : decode cX4_write 54 = .ok (.i2l, 1) := by decide +kernel
theorem dX4_write_55 : decode cX4_write 55 = .ok (.lreturn, 1) := by decide +kernel
theorem dX4_write_56 : decode cX4_write 56 = .ok (.aload_n 0, 1) := by decide +kernel
theorem dX4_write_57 : decode cX4_write 57 = .ok (.getfield 31, 3) := by decide +kernel
theorem dX4_write_60 : decode cX4_write 60 = .ok (.bipush 40, 2) := by decide +kernel
theorem dX4_write_62 : decode cX4_write 62 = .ok (.iload_n 1, 1) := by decide +kernel
theorem dX4_write_63 : decode cX4_write 63 = .ok (.imul, 1) := by decide +kernel
theorem dX4_write_64 : decode cX4_write 64 = .ok (.iload_n 2, 1) := by decide +kernel
theorem dX4_write_65 : decode cX4_write 65 = .ok (.iadd, 1) := by decide +kernel
theorem dX4_write_66 : decode cX4_write 66 = .ok (.laload, 1) := by decide +kernel
theorem dX4_write_67 : decode cX4_write 67 = .ok (.lstore 5, 2) := by decide +kernel
theorem dX4_write_69 : decode cX4_write 69 = .ok (.aload_n 0, 1) := by decide +kernel
theorem dX4_write_70 : decode cX4_write 70 = .ok (.getfield 31, 3) := by decide +kernel
theorem dX4_write_73 : decode cX4_write 73 = .ok (.bipush 40, 2) := by decide +kernel
theorem dX4_write_75 : decode cX4_write 75 = .ok (.iload_n 1, 1) := by decide +kernel
theorem dX4_write_76 : decode cX4_write 76 = .ok (.imul, 1) := by decide +kernel
theorem dX4_write_77 : decode cX4_write 77 = .ok (.iload_n 2, 1) := by decide +kernel
theorem dX4_write_78 : decode cX4_write 78 = .ok (.iadd, 1) := by decide +kernel
theorem dX4_write_79 : decode cX4_write 79 = .ok (.aload_n 0, 1) := by decide +kernel
theorem dX4_write_80 : decode cX4_write 80 = .ok (.getfield 25, 3) := by decide +kernel
theorem dX4_write_83 : decode cX4_write 83 = .ok (.iload_n 1, 1) := by decide +kernel
theorem dX4_write_84 : decode cX4_write 84 = .ok (.iaload, 1) := by decide +kernel
theorem dX4_write_85 : decode cX4_write 85 = .ok (.lload_n 3, 1) := by decide +kernel
theorem dX4_write_86 : decode cX4_write 86 = .ok (.invokestatic 252, 3) := by decide +kernel
theorem dX4_write_89 : decode cX4_write 89 = .ok (.lastore, 1) := by decide +kernel
theorem dX4_write_90 : decode cX4_write 90 = .ok (.lload 5, 2) := by decide +kernel
theorem dX4_write_92 : decode cX4_write 92 = .ok (.lreturn, 1) := by decide +kernel
theorem dX4_isPart__0 : decode cX4_isPart_ 0 = .ok (.iload_n 2, 1) := by decide +kernel
theorem dX4_isPart__1 : decode cX4_isPart_ 1 = .ok (.ifCond .lt 33, 3) := by decide +kernel
theorem dX4_isPart__4 : decode cX4_isPart_ 4 = .ok (.iload_n 3, 1) := by decide +kernel
theorem dX4_isPart__5 : decode cX4_isPart_ 5 = .ok (.ifCond .lt 29, 3) := by decide +kernel
theorem dX4_isPart__8 : decode cX4_isPart_ 8 = .ok (.iload_n 3, 1) := by decide +kernel
theorem dX4_isPart__9 : decode cX4_isPart_ 9 = .ok (.aload_n 0, 1) := by decide +kernel
theorem dX4_isPart__10 : decode cX4_isPart_ 10 = .ok (.getfield 28, 3) := by decide +kernel
theorem dX4_isPart__13 : decode cX4_isPart_ 13 = .ok (.iload_n 1, 1) := by decide +kernel
theorem dX4_isPart__14 : decode cX4_isPart_ 14 = .ok (.iaload, 1) := by decide +kernel
theorem dX4_isPart__15 : decode cX4_isPart_ 15 = .ok (.if_icmp .gt 19, 3) := by decide +kernel
theorem dX4_isPart__18 : decode cX4_isPart_ 18 = .ok (.iload_n 2, 1) := by decide +kernel
theorem dX4_isPart__19 : decode cX4_isPart_ 19 = .ok (.aload_n 0, 1) := by decide +kernel
theorem dX4_isPart__20 : decode cX4_isPart_ 20 = .ok (.getfield 28, 3) := by decide +kernel
theorem dX4_isPart__23 : decode cX4_isPart_ 23 = .ok (.iload_n 1, 1) := by decide +kernel
theorem dX4_isPart__24 : decode cX4_isPart_ 24 = .ok (.iaload, 1) := by decide +kernel
theorem dX4_isPart__25 : decode cX4_isPart_ 25 = .ok (.iload_n 3, 1) := by decide +kernel
theorem dX4_isPart__26 : decode cX4_isPart_ 26 = .ok (.isub, 1) := by decide +kernel
theorem dX4_isPart__27 : decode cX4_isPart_ 27 = .ok (.if_icmp .gt 7, 3) := by decide +kernel
theorem dX4_isPart__30 : decode cX4_isPart_ 30 = .ok (.iconst 1, 1) := by decide +kernel
theorem dX4_isPart__31 : decode cX4_isPart_ 31 = .ok (.goto 4, 3) := by decide +kernel
theorem dX4_isPart__34 : decode cX4_isPart_ 34 = .ok (.iconst 0, 1) := by decide +kernel
theorem dX4_isPart__35 : decode cX4_isPart_ 35 = .ok (.ireturn, 1) := by decide +kernel
theorem dX4_copy_0 : decode cX4_copy 0 = .ok (.iload_n 1, 1) := by decide +kernel
theorem dX4_copy_1 : decode cX4_copy 1 = .ok (.invokestatic 247, 3) := by decide +kernel
theorem dX4_copy_4 : decode cX4_copy 4 = .ok (.ifCond .eq 10, 3) := by decide +kernel
theorem dX4_copy_7 : decode cX4_copy 7 = .ok (.iload_n 3, 1) := by decide +kernel
theorem dX4_copy_8 : decode cX4_copy 8 = .ok (.invokestatic 247, 3) := by decide +kernel
theorem dX4_copy_11 : decode cX4_copy 11 = .ok (.ifCond .ne 10, 3) := by decide +kernel
theorem dX4_copy_14 : decode cX4_copy 14 = .ok (.aload_n 0, 1) := by decide +kernel
theorem dX4_copy_15 : decode cX4_copy 15 = .ok (.ldc 44, 2) := by decide +kernel
theorem dX4_copy_17 : decode cX4_copy 17 = .ok (.invokevirtual 53, 3) := by decide +kernel
theorem dX4_copy_20 : decode cX4_copy 20 = .ok (.ireturn, 1) := by decide +kernel
theorem dX4_copy_21 : decode cX4_copy 21 = .ok (.aload_n 0, 1) := by decide +kernel
theorem dX4_copy_22 : decode cX4_copy 22 = .ok (.getfield 25, 3) := by decide +kernel
theorem dX4_copy_25 : decode cX4_copy 25 = .ok (.iload_n 1, 1) := by decide +kernel
theorem dX4_copy_26 : decode cX4_copy 26 = .ok (.iaload, 1) := by decide +kernel
theorem dX4_copy_27 : decode cX4_copy 27 = .ok (.ifCond .eq 12, 3) := by decide +kernel
theorem dX4_copy_30 : decode cX4_copy 30 = .ok (.aload_n 0, 1) := by decide +kernel
theorem dX4_copy_31 : decode cX4_copy 31 = .ok (.getfield 25, 3) := by decide +kernel
theorem dX4_copy_34 : decode cX4_copy 34 = .ok (.iload_n 3, 1) := by decide +kernel
theorem dX4_copy_35 : decode cX4_copy 35 = .ok (.iaload, 1) := by decide +kernel
theorem dX4_copy_36 : decode cX4_copy 36 = .ok (.ifCond .ne 10, 3) := by decide +kernel
theorem dX4_copy_39 : decode cX4_copy 39 = .ok (.aload_n 0, 1) := by decide +kernel
theorem dX4_copy_40 : decode cX4_copy 40 = .ok (.ldc 251, 2) := by decide +kernel
theorem dX4_copy_42 : decode cX4_copy 42 = .ok (.invokevirtual 53, 3) := by decide +kernel
theorem dX4_copy_45 : decode cX4_copy 45 = .ok (.ireturn, 1) := by decide +kernel
theorem dX4_copy_46 : decode cX4_copy 46 = .ok (.aload_n 0, 1) := by decide +kernel
theorem dX4_copy_47 : decode cX4_copy 47 = .ok (.getfield 25, 3) := by decide +kernel
theorem dX4_copy_50 : decode cX4_copy 50 = .ok (.iload_n 1, 1) := by decide +kernel
theorem dX4_copy_51 : decode cX4_copy 51 = .ok (.iaload, 1) := by decide +kernel
theorem dX4_copy_52 : decode cX4_copy 52 = .ok (.aload_n 0, 1) := by decide +kernel
theorem dX4_copy_53 : decode cX4_copy 53 = .ok (.getfield 25, 3) := by decide +kernel
theorem dX4_copy_56 : decode cX4_copy 56 = .ok (.iload_n 3, 1) := by decide +kernel
theorem dX4_copy_57 : decode cX4_copy 57 = .ok (.iaload, 1) := by decide +kernel
theorem dX4_copy_58 : decode cX4_copy 58 = .ok (.if_icmp .eq 10, 3) := by decide +kernel
theorem dX4_copy_61 : decode cX4_copy 61 = .ok (.aload_n 0, 1) := by decide +kernel
theorem dX4_copy_62 : decode cX4_copy 62 = .ok (.ldc 115, 2) := by decide +kernel
theorem dX4_copy_64 : decode cX4_copy 64 = .ok (.invokevirtual 53, 3) := by decide +kernel
theorem dX4_copy_67 : decode cX4_copy 67 = .ok (.ireturn, 1) := by decide +kernel
theorem dX4_copy_68 : decode cX4_copy 68 = .ok (.aload_n 0, 1) := by decide +kernel
theorem dX4_copy_69 : decode cX4_copy 69 = .ok (.iload_n 1, 1) := by decide +kernel
theorem dX4_copy_70 : decode cX4_copy 70 = .ok (.iload_n 2, 1) := by decide +kernel
theorem dX4_copy_71 : decode cX4_copy 71 = .ok (.iload 5, 2) := by decide +kernel
theorem dX4_copy_73 : decode cX4_copy 73 = .ok (.invokevirtual 256, 3) := by decide +kernel
theorem dX4_copy_76 : decode cX4_copy 76 = .ok (.ifCond .eq 15, 3) := by decide +kernel
theorem dX4_copy_79 : decode cX4_copy 79 = .ok (.aload_n 0, 1) := by decide +kernel
theorem dX4_copy_80 : decode cX4_copy 80 = .ok (.iload_n 3, 1) := by decide +kernel
theorem dX4_copy_81 : decode cX4_copy 81 = .ok (.iload 4, 2) := by decide +kernel
theorem dX4_copy_83 : decode cX4_copy 83 = .ok (.iload 5, 2) := by decide +kernel
theorem dX4_copy_85 : decode cX4_copy 85 = .ok (.invokevirtual 256, 3) := by decide +kernel
theorem dX4_copy_88 : decode cX4_copy 88 = .ok (.ifCond .ne 10, 3) := by decide +kernel
theorem dX4_copy_91 : decode cX4_copy 91 = .ok (.aload_n 0, 1) := by decide +kernel
theorem dX4_copy_92 : decode cX4_copy 92 = .ok (.ldc 44, 2) := by decide +kernel
theorem dX4_copy_94 : decode cX4_copy 94 = .ok (.invokevirtual 53, 3) := by decide +kernel
theorem dX4_copy_97 : decode cX4_copy 97 = .ok (.ireturn, 1) := by decide +kernel
theorem dX4_copy_98 : decode cX4_copy 98 = .ok (.iconst 0, 1) := by decide +kernel
theorem dX4_copy_99 : decode cX4_copy 99 = .ok (.istore 6, 2) := by decide +kernel
theorem dX4_copy_101 : decode cX4_copy 101 = .ok (.iload 6, 2) := by decide +kernel
theorem dX4_copy_103 : decode cX4_copy 103 = .ok (.iload 5, 2) := by decide +kernel
theorem dX4_copy_105 : decode cX4_copy 105 = .ok (.if_icmp .ge 30, 3) := by decide +kernel
theorem dX4_copy_108 : decode cX4_copy 108 = .ok (.aload_n 0, 1) := by decide +kernel
theorem dX4_copy_109 : decode cX4_copy 109 = .ok (.getfield 35, 3) := by decide +kernel
theorem dX4_copy_112 : decode cX4_copy 112 = .ok (.iload 6, 2) := by decide +kernel
theorem dX4_copy_114 : decode cX4_copy 114 = .ok (.aload_n 0, 1) := by decide +kernel
theorem dX4_copy_115 : decode cX4_copy 115 = .ok (.getfield 31, 3) := by decide +kernel
theorem dX4_copy_118 : decode cX4_copy 118 = .ok (.bipush 40, 2) := by decide +kernel
theorem dX4_copy_120 : decode cX4_copy 120 = .ok (.iload_n 1, 1) := by decide +kernel
theorem dX4_copy_121 : decode cX4_copy 121 = .ok (.imul, 1) := by decide +kernel
theorem dX4_copy_122 : decode cX4_copy 122 = .ok (.iload_n 2, 1) := by decide +kernel
theorem dX4_copy_123 : decode cX4_copy 123 = .ok (.iadd, 1) := by decide +kernel
theorem dX4_copy_124 : decode cX4_copy 124 = .ok (.iload 6, 2) := by decide +kernel
theorem dX4_copy_126 : decode cX4_copy 126 = .ok (.iadd, 1) := by decide +kernel
theorem dX4_copy_127 : decode cX4_copy 127 = .ok (.laload, 1) := by decide +kernel
theorem dX4_copy_128 : decode cX4_copy 128 = .ok (.lastore, 1) := by decide +kernel
theorem dX4_copy_129 : decode cX4_copy 129 = .ok (.iinc 6 1, 3) := by decide +kernel
theorem dX4_copy_132 : decode cX4_copy 132 = .ok (.goto (-31), 3) := by decide +kernel
theorem dX4_copy_135 : decode cX4_copy 135 = .ok (.iconst 0, 1) := by decide +kernel
theorem dX4_copy_136 : decode cX4_copy 136 = .ok (.istore 6, 2) := by decide +kernel
theorem dX4_copy_138 : decode cX4_copy 138 = .ok (.iload 6, 2) := by decide +kernel
theorem dX4_copy_140 : decode cX4_copy 140 = .ok (.iload 5, 2) := by decide +kernel
theorem dX4_copy_142 : decode cX4_copy 142 = .ok (.if_icmp .ge 31, 3) := by decide +kernel
theorem dX4_copy_145 : decode cX4_copy 145 = .ok (.aload_n 0, 1) := by decide +kernel
theorem dX4_copy_146 : decode cX4_copy 146 = .ok (.getfield 31, 3) := by decide +kernel
theorem dX4_copy_149 : decode cX4_copy 149 = .ok (.bipush 40, 2) := by decide +kernel
theorem dX4_copy_151 : decode cX4_copy 151 = .ok (.iload_n 3, 1) := by decide +kernel
theorem dX4_copy_152 : decode cX4_copy 152 = .ok (.imul, 1) := by decide +kernel
theorem dX4_copy_153 : decode cX4_copy 153 = .ok (.iload 4, 2) := by decide +kernel
theorem dX4_copy_155 : decode cX4_copy 155 = .ok (.iadd, 1) := by decide +kernel
theorem dX4_copy_156 : decode cX4_copy 156 = .ok (.iload 6, 2) := by decide +kernel
theorem dX4_copy_158 : decode cX4_copy 158 = .ok (.iadd, 1) := by decide +kernel
theorem dX4_copy_159 : decode cX4_copy 159 = .ok (.aload_n 0, 1) := by decide +kernel
theorem dX4_copy_160 : decode cX4_copy 160 = .ok (.getfield 35, 3) := by decide +kernel
theorem dX4_copy_163 : decode cX4_copy 163 = .ok (.iload 6, 2) := by decide +kernel
theorem dX4_copy_165 : decode cX4_copy 165 = .ok (.laload, 1) := by decide +kernel
theorem dX4_copy_166 : decode cX4_copy 166 = .ok (.lastore, 1) := by decide +kernel
theorem dX4_copy_167 : decode cX4_copy 167 = .ok (.iinc 6 1, 3) := by decide +kernel
theorem dX4_copy_170 : decode cX4_copy 170 = .ok (.goto (-32), 3) := by decide +kernel
theorem dX4_copy_173 : decode cX4_copy 173 = .ok (.iload 5, 2) := by decide +kernel
theorem dX4_copy_175 : decode cX4_copy 175 = .ok (.ireturn, 1) := by decide +kernel
theorem dX4_badSheet_0 : decode cX4_badSheet 0 = .ok (.iload_n 1, 1) := by decide +kernel
theorem dX4_badSheet_1 : decode cX4_badSheet 1 = .ok (.invokestatic 247, 3) := by decide +kernel
theorem dX4_badSheet_4 : decode cX4_badSheet 4 = .ok (.ifCond .ne 8, 3) := by decide +kernel
theorem dX4_badSheet_7 : decode cX4_badSheet 7 = .ok (.ldc 44, 2) := by decide +kernel
theorem dX4_badSheet_9 : decode cX4_badSheet 9 = .ok (.goto 18, 3) := by decide +kernel
theorem dX4_badSheet_12 : decode cX4_badSheet 12 = .ok (.aload_n 0, 1) := by decide +kernel
theorem dX4_badSheet_13 : decode cX4_badSheet 13 = .ok (.getfield 25, 3) := by decide +kernel
theorem dX4_badSheet_16 : decode cX4_badSheet 16 = .ok (.iload_n 1, 1) := by decide +kernel
theorem dX4_badSheet_17 : decode cX4_badSheet 17 = .ok (.iaload, 1) := by decide +kernel
theorem dX4_badSheet_18 : decode cX4_badSheet 18 = .ok (.ifCond .ne 8, 3) := by decide +kernel
theorem dX4_badSheet_21 : decode cX4_badSheet 21 = .ok (.ldc 251, 2) := by decide +kernel
theorem dX4_badSheet_23 : decode cX4_badSheet 23 = .ok (.goto 4, 3) := by decide +kernel
theorem dX4_badSheet_26 : decode cX4_badSheet 26 = .ok (.iconst 0, 1) := by decide +kernel
theorem dX4_badSheet_27 : decode cX4_badSheet 27 = .ok (.ireturn, 1) := by decide +kernel
theorem dX4_lays_0 : decode cX4_lays 0 = .ok (.aload_n 0, 1) := by decide +kernel
theorem dX4_lays_1 : decode cX4_lays 1 = .ok (.iload_n 1, 1) := by decide +kernel
theorem dX4_lays_2 : decode cX4_lays 2 = .ok (.invokevirtual 258, 3) := by decide +kernel
theorem dX4_lays_5 : decode cX4_lays 5 = .ok (.istore_n 2, 1) := by decide +kernel
theorem dX4_lays_6 : decode cX4_lays 6 = .ok (.iload_n 2, 1) := by decide +kernel
theorem dX4_lays_7 : decode cX4_lays 7 = .ok (.ifCond .eq 9, 3) := by decide +kernel
theorem dX4_lays_10 : decode cX4_lays 10 = .ok (.aload_n 0, 1) := by decide +kernel
theorem dX4_lays_11 : decode cX4_lays 11 = .ok (.iload_n 2, 1) := by decide +kernel
theorem dX4_lays_12 : decode cX4_lays 12 = .ok (.invokevirtual 53, 3) := by decide +kernel
theorem dX4_lays_15 : decode cX4_lays 15 = .ok (.ireturn, 1) := by decide +kernel
theorem dX4_lays_16 : decode cX4_lays 16 = .ok (.iconst 0, 1) := by decide +kernel
theorem dX4_lays_17 : decode cX4_lays 17 = .ok (.istore_n 3, 1) := by decide +kernel
theorem dX4_lays_18 : decode cX4_lays 18 = .ok (.iconst 0, 1) := by decide +kernel
theorem dX4_lays_19 : decode cX4_lays 19 = .ok (.istore 4, 2) := by decide +kernel
theorem dX4_lays_21 : decode cX4_lays 21 = .ok (.iload 4, 2) := by decide +kernel
theorem dX4_lays_23 : decode cX4_lays 23 = .ok (.aload_n 0, 1) := by decide +kernel
theorem dX4_lays_24 : decode cX4_lays 24 = .ok (.getfield 28, 3) := by decide +kernel
theorem dX4_lays_27 : decode cX4_lays 27 = .ok (.iload_n 1, 1) := by decide +kernel
theorem dX4_lays_28 : decode cX4_lays 28 = .ok (.iaload, 1) := by decide +kernel
theorem dX4_lays_29 : decode cX4_lays 29 = .ok (.if_icmp .ge 63, 3) := by decide +kernel
theorem dX4_lays_32 : decode cX4_lays 32 = .ok (.iload 4, 2) := by decide +kernel
theorem dX4_lays_34 : decode cX4_lays 34 = .ok (.aload_n 0, 1) := by decide +kernel
theorem dX4_lays_35 : decode cX4_lays 35 = .ok (.getfield 7, 3) := by decide +kernel
theorem dX4_lays_38 : decode cX4_lays 38 = .ok (.iconst 2, 1) := by decide +kernel
theorem dX4_lays_39 : decode cX4_lays 39 = .ok (.iaload, 1) := by decide +kernel
theorem dX4_lays_40 : decode cX4_lays 40 = .ok (.if_icmp .ge 52, 3) := by decide +kernel
theorem dX4_lays_43 : decode cX4_lays 43 = .ok (.aload_n 0, 1) := by decide +kernel
theorem dX4_lays_44 : decode cX4_lays 44 = .ok (.getfield 31, 3) := by decide +kernel
theorem dX4_lays_47 : decode cX4_lays 47 = .ok (.bipush 40, 2) := by decide +kernel
theorem dX4_lays_49 : decode cX4_lays 49 = .ok (.iload_n 1, 1) := by decide +kernel
theorem dX4_lays_50 : decode cX4_lays 50 = .ok (.imul, 1) := by decide +kernel
theorem dX4_lays_51 : decode cX4_lays 51 = .ok (.iload 4, 2) := by decide +kernel
theorem dX4_lays_53 : decode cX4_lays 53 = .ok (.iadd, 1) := by decide +kernel
theorem dX4_lays_54 : decode cX4_lays 54 = .ok (.laload, 1) := by decide +kernel
theorem dX4_lays_55 : decode cX4_lays 55 = .ok (.lstore 5, 2) := by decide +kernel
theorem dX4_lays_57 : decode cX4_lays 57 = .ok (.lload 5, 2) := by decide +kernel
theorem dX4_lays_59 : decode cX4_lays 59 = .ok (.lconst 0, 1) := by decide +kernel
theorem dX4_lays_60 : decode cX4_lays 60 = .ok (.lcmp, 1) := by decide +kernel
theorem dX4_lays_61 : decode cX4_lays 61 = .ok (.ifCond .lt 25, 3) := by decide +kernel
theorem dX4_lays_64 : decode cX4_lays 64 = .ok (.lload 5, 2) := by decide +kernel
theorem dX4_lays_66 : decode cX4_lays 66 = .ok (.ldc2_w 261, 3) := by decide +kernel
theorem dX4_lays_69 : decode cX4_lays 69 = .ok (.lcmp, 1) := by decide +kernel
theorem dX4_lays_70 : decode cX4_lays 70 = .ok (.ifCond .gt 16, 3) := by decide +kernel
theorem dX4_lays_73 : decode cX4_lays 73 = .ok (.aload_n 0, 1) := by decide +kernel
theorem dX4_lays_74 : decode cX4_lays 74 = .ok (.iload 4, 2) := by decide +kernel
theorem dX4_lays_76 : decode cX4_lays 76 = .ok (.iconst 1, 1) := by decide +kernel
theorem dX4_lays_77 : decode cX4_lays 77 = .ok (.lload 5, 2) := by decide +kernel
theorem dX4_lays_79 : decode cX4_lays 79 = .ok (.l2i, 1) := by decide +kernel
theorem dX4_lays_80 : decode cX4_lays 80 = .ok (.invokevirtual 86, 3) := by decide +kernel
theorem dX4_lays_83 : decode cX4_lays 83 = .ok (.iinc 3 1, 3) := by decide +kernel
theorem dX4_lays_86 : decode cX4_lays 86 = .ok (.iinc 4 1, 3) := by decide +kernel
theorem dX4_lays_89 : decode cX4_lays 89 = .ok (.goto (-68), 3) := by decide +kernel
theorem dX4_lays_92 : decode cX4_lays 92 = .ok (.iload_n 3, 1) := by decide +kernel
theorem dX4_lays_93 : decode cX4_lays 93 = .ok (.ireturn, 1) := by decide +kernel
theorem dX4_book_0 : decode cX4_book 0 = .ok (.aload_n 0, 1) := by decide +kernel
theorem dX4_book_1 : decode cX4_book 1 = .ok (.iload_n 1, 1) := by decide +kernel
theorem dX4_book_2 : decode cX4_book 2 = .ok (.invokevirtual 258, 3) := by decide +kernel
theorem dX4_book_5 : decode cX4_book 5 = .ok (.istore_n 3, 1) := by decide +kernel
theorem dX4_book_6 : decode cX4_book 6 = .ok (.iload_n 3, 1) := by decide +kernel
theorem dX4_book_7 : decode cX4_book 7 = .ok (.ifCond .eq 9, 3) := by decide +kernel
theorem dX4_book_10 : decode cX4_book 10 = .ok (.aload_n 0, 1) := by decide +kernel
theorem dX4_book_11 : decode cX4_book 11 = .ok (.iload_n 3, 1) := by decide +kernel
theorem dX4_book_12 : decode cX4_book 12 = .ok (.invokevirtual 53, 3) := by decide +kernel
theorem dX4_book_15 : decode cX4_book 15 = .ok (.ireturn, 1) := by decide +kernel
theorem dX4_book_16 : decode cX4_book 16 = .ok (.aload_n 0, 1) := by decide +kernel
theorem dX4_book_17 : decode cX4_book 17 = .ok (.iload_n 2, 1) := by decide +kernel
theorem dX4_book_18 : decode cX4_book 18 = .ok (.invokevirtual 98, 3) := by decide +kernel
theorem dX4_book_21 : decode cX4_book 21 = .ok (.ifCond .ne 10, 3) := by decide +kernel
theorem dX4_book_24 : decode cX4_book 24 = .ok (.aload_n 0, 1) := by decide +kernel
theorem dX4_book_25 : decode cX4_book 25 = .ok (.ldc 44, 2) := by decide +kernel
theorem dX4_book_27 : decode cX4_book 27 = .ok (.invokevirtual 53, 3) := by decide +kernel
theorem dX4_book_30 : decode cX4_book 30 = .ok (.ireturn, 1) := by decide +kernel
theorem dX4_book_31 : decode cX4_book 31 = .ok (.aload_n 0, 1) := by decide +kernel
theorem dX4_book_32 : decode cX4_book 32 = .ok (.iconst 1, 1) := by decide +kernel
theorem dX4_book_33 : decode cX4_book 33 = .ok (.aload_n 0, 1) := by decide +kernel
theorem dX4_book_34 : decode cX4_book 34 = .ok (.getfield 16, 3) := by decide +kernel
theorem dX4_book_37 : decode cX4_book 37 = .ok (.invokevirtual 151, 3) := by decide +kernel
theorem dX4_book_40 : decode cX4_book 40 = .ok (.iconst 0, 1) := by decide +kernel
theorem dX4_book_41 : decode cX4_book 41 = .ok (.istore 4, 2) := by decide +kernel
theorem dX4_book_43 : decode cX4_book 43 = .ok (.iload 4, 2) := by decide +kernel
theorem dX4_book_45 : decode cX4_book 45 = .ok (.aload_n 0, 1) := by decide +kernel
theorem dX4_book_46 : decode cX4_book 46 = .ok (.getfield 28, 3) := by decide +kernel
theorem dX4_book_49 : decode cX4_book 49 = .ok (.iload_n 1, 1) := by decide +kernel
theorem dX4_book_50 : decode cX4_book 50 = .ok (.iaload, 1) := by decide +kernel
theorem dX4_book_51 : decode cX4_book 51 = .ok (.if_icmp .ge 41, 3) := by decide +kernel
theorem dX4_book_54 : decode cX4_book 54 = .ok (.aload_n 0, 1) := by decide +kernel
theorem dX4_book_55 : decode cX4_book 55 = .ok (.getfield 31, 3) := by decide +kernel
theorem dX4_book_58 : decode cX4_book 58 = .ok (.bipush 40, 2) := by decide +kernel
theorem dX4_book_60 : decode cX4_book 60 = .ok (.iload_n 1, 1) := by decide +kernel
theorem dX4_book_61 : decode cX4_book 61 = .ok (.imul, 1) := by decide +kernel
theorem dX4_book_62 : decode cX4_book 62 = .ok (.iload 4, 2) := by decide +kernel
theorem dX4_book_64 : decode cX4_book 64 = .ok (.iadd, 1) := by decide +kernel
theorem dX4_book_65 : decode cX4_book 65 = .ok (.aload_n 0, 1) := by decide +kernel
theorem dX4_book_66 : decode cX4_book 66 = .ok (.getfield 25, 3) := by decide +kernel
theorem dX4_book_69 : decode cX4_book 69 = .ok (.iload_n 1, 1) := by decide +kernel
theorem dX4_book_70 : decode cX4_book 70 = .ok (.iaload, 1) := by decide +kernel
theorem dX4_book_71 : decode cX4_book 71 = .ok (.aload_n 0, 1) := by decide +kernel
theorem dX4_book_72 : decode cX4_book 72 = .ok (.iload_n 2, 1) := by decide +kernel
theorem dX4_book_73 : decode cX4_book 73 = .ok (.iconst 1, 1) := by decide +kernel
theorem dX4_book_74 : decode cX4_book 74 = .ok (.invokevirtual 57, 3) := by decide +kernel
theorem dX4_book_77 : decode cX4_book 77 = .ok (.i2l, 1) := by decide +kernel
theorem dX4_book_78 : decode cX4_book 78 = .ok (.invokestatic 252, 3) := by decide +kernel
theorem dX4_book_81 : decode cX4_book 81 = .ok (.lastore, 1) := by decide +kernel
theorem dX4_book_82 : decode cX4_book 82 = .ok (.aload_n 0, 1) := by decide +kernel
theorem dX4_book_83 : decode cX4_book 83 = .ok (.invokevirtual 143, 3) := by decide +kernel
theorem dX4_book_86 : decode cX4_book 86 = .ok (.iinc 4 1, 3) := by decide +kernel
theorem dX4_book_89 : decode cX4_book 89 = .ok (.goto (-46), 3) := by decide +kernel
theorem dX4_book_92 : decode cX4_book 92 = .ok (.aload_n 0, 1) := by decide +kernel
theorem dX4_book_93 : decode cX4_book 93 = .ok (.iconst 0, 1) := by decide +kernel
theorem dX4_book_94 : decode cX4_book 94 = .ok (.aload_n 0, 1) := by decide +kernel
theorem dX4_book_95 : decode cX4_book 95 = .ok (.getfield 16, 3) := by decide +kernel
theorem dX4_book_98 : decode cX4_book 98 = .ok (.invokevirtual 151, 3) := by decide +kernel
theorem dX4_book_101 : decode cX4_book 101 = .ok (.aload_n 0, 1) := by decide +kernel
theorem dX4_book_102 : decode cX4_book 102 = .ok (.getfield 28, 3) := by decide +kernel
theorem dX4_book_105 : decode cX4_book 105 = .ok (.iload_n 1, 1) := by decide +kernel
theorem dX4_book_106 : decode cX4_book 106 = .ok (.iaload, 1) := by decide +kernel
theorem dX4_book_107 : decode cX4_book 107 = .ok (.ireturn, 1) := by decide +kernel
theorem dX4_isSo_0 : decode cX4_isSo 0 = .ok (.iconst 1, 1) := by decide +kernel
theorem dX4_isSo_1 : decode cX4_isSo 1 = .ok (.istore_n 3, 1) := by decide +kernel
theorem dX4_isSo_2 : decode cX4_isSo 2 = .ok (.iconst 0, 1) := by decide +kernel
theorem dX4_isSo_3 : decode cX4_isSo 3 = .ok (.istore 4, 2) := by decide +kernel
theorem dX4_isSo_5 : decode cX4_isSo 5 = .ok (.iload 4, 2) := by decide +kernel
theorem dX4_isSo_7 : decode cX4_isSo 7 = .ok (.aload_n 0, 1) := by decide +kernel
theorem dX4_isSo_8 : decode cX4_isSo 8 = .ok (.getfield 28, 3) := by decide +kernel
theorem dX4_isSo_11 : decode cX4_isSo 11 = .ok (.iload_n 1, 1) := by decide +kernel
theorem dX4_isSo_12 : decode cX4_isSo 12 = .ok (.iaload, 1) := by decide +kernel
theorem dX4_isSo_13 : decode cX4_isSo 13 = .ok (.if_icmp .ge 46, 3) := by decide +kernel
theorem dX4_isSo_16 : decode cX4_isSo 16 = .ok (.iload_n 3, 1) := by decide +kernel
theorem dX4_isSo_17 : decode cX4_isSo 17 = .ok (.ifCond .eq 42, 3) := by decide +kernel
theorem dX4_isSo_20 : decode cX4_isSo 20 = .ok (.aload_n 0, 1) := by decide +kernel
theorem dX4_isSo_21 : decode cX4_isSo 21 = .ok (.getfield 31, 3) := by decide +kernel
theorem dX4_isSo_24 : decode cX4_isSo 24 = .ok (.bipush 40, 2) := by decide +kernel
theorem dX4_isSo_26 : decode cX4_isSo 26 = .ok (.iload_n 1, 1) := by decide +kernel
theorem dX4_isSo_27 : decode cX4_isSo 27 = .ok (.imul, 1) := by decide +kernel
theorem dX4_isSo_28 : decode cX4_isSo 28 = .ok (.iload 4, 2) := by decide +kernel
theorem dX4_isSo_30 : decode cX4_isSo 30 = .ok (.iadd, 1) := by decide +kernel
theorem dX4_isSo_31 : decode cX4_isSo 31 = .ok (.laload, 1) := by decide +kernel
theorem dX4_isSo_32 : decode cX4_isSo 32 = .ok (.aload_n 0, 1) := by decide +kernel
theorem dX4_isSo_33 : decode cX4_isSo 33 = .ok (.iload_n 2, 1) := by decide +kernel
theorem dX4_isSo_34 : decode cX4_isSo 34 = .ok (.iconst 1, 1) := by decide +kernel
theorem dX4_isSo_35 : decode cX4_isSo 35 = .ok (.invokevirtual 57, 3) := by decide +kernel
theorem dX4_isSo_38 : decode cX4_isSo 38 = .ok (.i2l, 1) := by decide +kernel
theorem dX4_isSo_39 : decode cX4_isSo 39 = .ok (.lcmp, 1) := by decide +kernel
theorem dX4_isSo_40 : decode cX4_isSo 40 = .ok (.ifCond .ne 7, 3) := by decide +kernel
theorem dX4_isSo_43 : decode cX4_isSo 43 = .ok (.iconst 1, 1) := by decide +kernel
theorem dX4_isSo_44 : decode cX4_isSo 44 = .ok (.goto 4, 3) := by decide +kernel
theorem dX4_isSo_47 : decode cX4_isSo 47 = .ok (.iconst 0, 1) := by decide +kernel
theorem dX4_isSo_48 : decode cX4_isSo 48 = .ok (.istore_n 3, 1) := by decide +kernel
theorem dX4_isSo_49 : decode cX4_isSo 49 = .ok (.aload_n 0, 1) := by decide +kernel
theorem dX4_isSo_50 : decode cX4_isSo 50 = .ok (.invokevirtual 143, 3) := by decide +kernel
theorem dX4_isSo_53 : decode cX4_isSo 53 = .ok (.iinc 4 1, 3) := by decide +kernel
theorem dX4_isSo_56 : decode cX4_isSo 56 = .ok (.goto (-51), 3) := by decide +kernel
theorem dX4_isSo_59 : decode cX4_isSo 59 = .ok (.iload_n 3, 1) := by decide +kernel
theorem dX4_isSo_60 : decode cX4_isSo 60 = .ok (.ireturn, 1) := by decide +kernel
theorem dX4_read_0 : decode cX4_read 0 = .ok (.aload_n 0, 1) := by decide +kernel
theorem dX4_read_1 : decode cX4_read 1 = .ok (.iload_n 1, 1) := by decide +kernel
theorem dX4_read_2 : decode cX4_read 2 = .ok (.invokevirtual 258, 3) := by decide +kernel
theorem dX4_read_5 : decode cX4_read 5 = .ok (.istore 4, 2) := by decide +kernel
theorem dX4_read_7 : decode cX4_read 7 = .ok (.iload 4, 2) := by decide +kernel
theorem dX4_read_9 : decode cX4_read 9 = .ok (.ifCond .eq 10, 3) := by decide +kernel
theorem dX4_read_12 : decode cX4_read 12 = .ok (.aload_n 0, 1) := by decide +kernel
theorem dX4_read_13 : decode cX4_read 13 = .ok (.iload 4, 2) := by decide +kernel
theorem dX4_read_15 : decode cX4_read 15 = .ok (.invokevirtual 53, 3) := by decide +kernel
theorem dX4_read_18 : decode cX4_read 18 = .ok (.ireturn, 1) := by decide +kernel
theorem dX4_read_19 : decode cX4_read 19 = .ok (.aload_n 0, 1) := by decide +kernel
theorem dX4_read_20 : decode cX4_read 20 = .ok (.iload_n 2, 1) := by decide +kernel
theorem dX4_read_21 : decode cX4_read 21 = .ok (.invokevirtual 98, 3) := by decide +kernel
theorem dX4_read_24 : decode cX4_read 24 = .ok (.ifCond .eq 16, 3) := by decide +kernel
theorem dX4_read_27 : decode cX4_read 27 = .ok (.aload_n 0, 1) := by decide +kernel
theorem dX4_read_28 : decode cX4_read 28 = .ok (.iload_n 3, 1) := by decide +kernel
theorem dX4_read_29 : decode cX4_read 29 = .ok (.invokevirtual 98, 3) := by decide +kernel
theorem dX4_read_32 : decode cX4_read 32 = .ok (.ifCond .eq 8, 3) := by decide +kernel
theorem dX4_read_35 : decode cX4_read 35 = .ok (.iload_n 2, 1) := by decide +kernel
theorem dX4_read_36 : decode cX4_read 36 = .ok (.iload_n 3, 1) := by decide +kernel
theorem dX4_read_37 : decode cX4_read 37 = .ok (.if_icmp .ne 10, 3) := by decide +kernel
theorem dX4_read_40 : decode cX4_read 40 = .ok (.aload_n 0, 1) := by decide +kernel
theorem dX4_read_41 : decode cX4_read 41 = .ok (.ldc 44, 2) := by decide +kernel
theorem dX4_read_43 : decode cX4_read 43 = .ok (.invokevirtual 53, 3) := by decide +kernel
theorem dX4_read_46 : decode cX4_read 46 = .ok (.ireturn, 1) := by decide +kernel
theorem dX4_read_47 : decode cX4_read 47 = .ok (.iconst 0, 1) := by decide +kernel
theorem dX4_read_48 : decode cX4_read 48 = .ok (.istore 5, 2) := by decide +kernel
theorem dX4_read_50 : decode cX4_read 50 = .ok (.aload_n 0, 1) := by decide +kernel
theorem dX4_read_51 : decode cX4_read 51 = .ok (.iconst 1, 1) := by decide +kernel
theorem dX4_read_52 : decode cX4_read 52 = .ok (.aload_n 0, 1) := by decide +kernel
theorem dX4_read_53 : decode cX4_read 53 = .ok (.getfield 19, 3) := by decide +kernel
theorem dX4_read_56 : decode cX4_read 56 = .ok (.invokevirtual 151, 3) := by decide +kernel
theorem dX4_read_59 : decode cX4_read 59 = .ok (.iconst 0, 1) := by decide +kernel
theorem dX4_read_60 : decode cX4_read 60 = .ok (.istore 6, 2) := by decide +kernel
theorem dX4_read_62 : decode cX4_read 62 = .ok (.iload 6, 2) := by decide +kernel
theorem dX4_read_64 : decode cX4_read 64 = .ok (.bipush 36, 2) := by decide +kernel
theorem dX4_read_66 : decode cX4_read 66 = .ok (.if_icmp .ge 59, 3) := by decide +kernel
theorem dX4_read_69 : decode cX4_read 69 = .ok (.aload_n 0, 1) := by decide +kernel
theorem dX4_read_70 : decode cX4_read 70 = .ok (.iload_n 2, 1) := by decide +kernel
theorem dX4_read_71 : decode cX4_read 71 = .ok (.iconst 0, 1) := by decide +kernel
theorem dX4_read_72 : decode cX4_read 72 = .ok (.iload 6, 2) := by decide +kernel
theorem dX4_read_74 : decode cX4_read 74 = .ok (.bipush 6, 2) := by decide +kernel
theorem dX4_read_76 : decode cX4_read 76 = .ok (.idiv, 1) := by decide +kernel
theorem dX4_read_77 : decode cX4_read 77 = .ok (.invokevirtual 86, 3) := by decide +kernel
theorem dX4_read_80 : decode cX4_read 80 = .ok (.aload_n 0, 1) := by decide +kernel
theorem dX4_read_81 : decode cX4_read 81 = .ok (.iload_n 3, 1) := by decide +kernel
theorem dX4_read_82 : decode cX4_read 82 = .ok (.iconst 0, 1) := by decide +kernel
theorem dX4_read_83 : decode cX4_read 83 = .ok (.iload 6, 2) := by decide +kernel
theorem dX4_read_85 : decode cX4_read 85 = .ok (.bipush 6, 2) := by decide +kernel
theorem dX4_read_87 : decode cX4_read 87 = .ok (.irem, 1) := by decide +kernel
theorem dX4_read_88 : decode cX4_read 88 = .ok (.invokevirtual 86, 3) := by decide +kernel
theorem dX4_read_91 : decode cX4_read 91 = .ok (.iload 5, 2) := by decide +kernel
theorem dX4_read_93 : decode cX4_read 93 = .ok (.aload_n 0, 1) := by decide +kernel
theorem dX4_read_94 : decode cX4_read 94 = .ok (.iload_n 1, 1) := by decide +kernel
theorem dX4_read_95 : decode cX4_read 95 = .ok (.iload_n 2, 1) := by decide +kernel
theorem dX4_read_96 : decode cX4_read 96 = .ok (.invokevirtual 263, 3) := by decide +kernel
theorem dX4_read_99 : decode cX4_read 99 = .ok (.ifCond .eq 7, 3) := by decide +kernel
theorem dX4_read_102 : decode cX4_read 102 = .ok (.iconst 1, 1) := by decide +kernel
theorem dX4_read_103 : decode cX4_read 103 = .ok (.goto 4, 3) := by decide +kernel
theorem dX4_read_106 : decode cX4_read 106 = .ok (.iconst 0, 1) := by decide +kernel
theorem dX4_read_107 : decode cX4_read 107 = .ok (.iadd, 1) := by decide +kernel
theorem dX4_read_108 : decode cX4_read 108 = .ok (.istore 5, 2) := by decide +kernel
theorem dX4_read_110 : decode cX4_read 110 = .ok (.aload_n 0, 1) := by decide +kernel
theorem dX4_read_111 : decode cX4_read 111 = .ok (.iconst 0, 1) := by decide +kernel
theorem dX4_read_112 : decode cX4_read 112 = .ok (.aload_n 0, 1) := by decide +kernel
theorem dX4_read_113 : decode cX4_read 113 = .ok (.getfield 19, 3) := by decide +kernel
theorem dX4_read_116 : decode cX4_read 116 = .ok (.invokevirtual 151, 3) := by decide +kernel
theorem dX4_read_119 : decode cX4_read 119 = .ok (.iinc 6 1, 3) := by decide +kernel
theorem dX4_read_122 : decode cX4_read 122 = .ok (.goto (-60), 3) := by decide +kernel
theorem dX4_read_125 : decode cX4_read 125 = .ok (.iload 5, 2) := by decide +kernel
theorem dX4_read_127 : decode cX4_read 127 = .ok (.ireturn, 1) := by decide +kernel
theorem dX4_moveAll_0 : decode cX4_moveAll 0 = .ok (.iconst 0, 1) := by decide +kernel
theorem dX4_moveAll_1 : decode cX4_moveAll 1 = .ok (.istore_n 3, 1) := by decide +kernel
theorem dX4_moveAll_2 : decode cX4_moveAll 2 = .ok (.iload_n 3, 1) := by decide +kernel
theorem dX4_moveAll_3 : decode cX4_moveAll 3 = .ok (.bipush 35, 2) := by decide +kernel
theorem dX4_moveAll_5 : decode cX4_moveAll 5 = .ok (.if_icmp .ge 34, 3) := by decide +kernel
theorem dX4_moveAll_8 : decode cX4_moveAll 8 = .ok (.iload_n 1, 1) := by decide +kernel
theorem dX4_moveAll_9 : decode cX4_moveAll 9 = .ok (.ifCond .eq 15, 3) := by decide +kernel
theorem dX4_moveAll_12 : decode cX4_moveAll 12 = .ok (.aload_n 2, 1) := by decide +kernel
theorem dX4_moveAll_13 : decode cX4_moveAll 13 = .ok (.iload_n 3, 1) := by decide +kernel
theorem dX4_moveAll_14 : decode cX4_moveAll 14 = .ok (.aload_n 0, 1) := by decide +kernel
theorem dX4_moveAll_15 : decode cX4_moveAll 15 = .ok (.getfield 7, 3) := by decide +kernel
theorem dX4_moveAll_18 : decode cX4_moveAll 18 = .ok (.iload_n 3, 1) := by decide +kernel
theorem dX4_moveAll_19 : decode cX4_moveAll 19 = .ok (.iaload, 1) := by decide +kernel
theorem dX4_moveAll_20 : decode cX4_moveAll 20 = .ok (.iastore, 1) := by decide +kernel
theorem dX4_moveAll_21 : decode cX4_moveAll 21 = .ok (.goto 12, 3) := by decide +kernel
theorem dX4_moveAll_24 : decode cX4_moveAll 24 = .ok (.aload_n 0, 1) := by decide +kernel
theorem dX4_moveAll_25 : decode cX4_moveAll 25 = .ok (.getfield 7, 3) := by decide +kernel
theorem dX4_moveAll_28 : decode cX4_moveAll 28 = .ok (.iload_n 3, 1) := by decide +kernel
theorem dX4_moveAll_29 : decode cX4_moveAll 29 = .ok (.aload_n 2, 1) := by decide +kernel
theorem dX4_moveAll_30 : decode cX4_moveAll 30 = .ok (.iload_n 3, 1) := by decide +kernel
theorem dX4_moveAll_31 : decode cX4_moveAll 31 = .ok (.iaload, 1) := by decide +kernel
theorem dX4_moveAll_32 : decode cX4_moveAll 32 = .ok (.iastore, 1) := by decide +kernel
theorem dX4_moveAll_33 : decode cX4_moveAll 33 = .ok (.iinc 3 1, 3) := by decide +kernel
theorem dX4_moveAll_36 : decode cX4_moveAll 36 = .ok (.goto (-34), 3) := by decide +kernel
theorem dX4_moveAll_39 : decode cX4_moveAll 39 = .ok (.return_, 1) := by decide +kernel
theorem dX4_image_0 : decode cX4_image 0 = .ok (.aload_n 0, 1) := by decide +kernel
theorem dX4_image_1 : decode cX4_image 1 = .ok (.iconst 1, 1) := by decide +kernel
theorem dX4_image_2 : decode cX4_image 2 = .ok (.aload_n 0, 1) := by decide +kernel
theorem dX4_image_3 : decode cX4_image 3 = .ok (.getfield 38, 3) := by decide +kernel
theorem dX4_image_6 : decode cX4_image 6 = .ok (.invokevirtual 151, 3) := by decide +kernel
theorem dX4_image_9 : decode cX4_image 9 = .ok (.aload_n 0, 1) := by decide +kernel
theorem dX4_image_10 : decode cX4_image 10 = .ok (.iconst 1, 1) := by decide +kernel
theorem dX4_image_11 : decode cX4_image 11 = .ok (.putfield 266, 3) := by decide +kernel
theorem dX4_image_14 : decode cX4_image 14 = .ok (.iconst 1, 1) := by decide +kernel
theorem dX4_image_15 : decode cX4_image 15 = .ok (.ireturn, 1) := by decide +kernel
theorem dX4_undo_0 : decode cX4_undo 0 = .ok (.aload_n 0, 1) := by decide +kernel
theorem dX4_undo_1 : decode cX4_undo 1 = .ok (.getfield 266, 3) := by decide +kernel
theorem dX4_undo_4 : decode cX4_undo 4 = .ok (.ifCond .ne 10, 3) := by decide +kernel
theorem dX4_undo_7 : decode cX4_undo 7 = .ok (.aload_n 0, 1) := by decide +kernel
theorem dX4_undo_8 : decode cX4_undo 8 = .ok (.ldc 158, 2) := by decide +kernel
theorem dX4_undo_10 : decode cX4_undo 10 = .ok (.invokevirtual 53, 3) := by decide +kernel
theorem dX4_undo_13 : decode cX4_undo 13 = .ok (.ireturn, 1) := by decide +kernel
theorem dX4_undo_14 : decode cX4_undo 14 = .ok (.aload_n 0, 1) := by decide +kernel
theorem dX4_undo_15 : decode cX4_undo 15 = .ok (.iconst 0, 1) := by decide +kernel
theorem dX4_undo_16 : decode cX4_undo 16 = .ok (.aload_n 0, 1) := by decide +kernel
theorem dX4_undo_17 : decode cX4_undo 17 = .ok (.getfield 38, 3) := by decide +kernel
theorem dX4_undo_20 : decode cX4_undo 20 = .ok (.invokevirtual 151, 3) := by decide +kernel
theorem dX4_undo_23 : decode cX4_undo 23 = .ok (.aload_n 0, 1) := by decide +kernel
theorem dX4_undo_24 : decode cX4_undo 24 = .ok (.getfield 7, 3) := by decide +kernel
theorem dX4_undo_27 : decode cX4_undo 27 = .ok (.iconst 2, 1) := by decide +kernel
theorem dX4_undo_28 : decode cX4_undo 28 = .ok (.iaload, 1) := by decide +kernel
theorem dX4_undo_29 : decode cX4_undo 29 = .ok (.ireturn, 1) := by decide +kernel
theorem dX4_tear_0 : decode cX4_tear 0 = .ok (.aload_n 0, 1) := by decide +kernel
theorem dX4_tear_1 : decode cX4_tear 1 = .ok (.getfield 266, 3) := by decide +kernel
theorem dX4_tear_4 : decode cX4_tear 4 = .ok (.ifCond .eq 7, 3) := by decide +kernel
theorem dX4_tear_7 : decode cX4_tear 7 = .ok (.iconst 1, 1) := by decide +kernel
theorem dX4_tear_8 : decode cX4_tear 8 = .ok (.goto 4, 3) := by decide +kernel
theorem dX4_tear_11 : decode cX4_tear 11 = .ok (.iconst 0, 1) := by decide +kernel
theorem dX4_tear_12 : decode cX4_tear 12 = .ok (.istore_n 1, 1) := by decide +kernel
theorem dX4_tear_13 : decode cX4_tear 13 = .ok (.aload_n 0, 1) := by decide +kernel
theorem dX4_tear_14 : decode cX4_tear 14 = .ok (.iconst 0, 1) := by decide +kernel
theorem dX4_tear_15 : decode cX4_tear 15 = .ok (.putfield 266, 3) := by decide +kernel
theorem dX4_tear_18 : decode cX4_tear 18 = .ok (.iload_n 1, 1) := by decide +kernel
theorem dX4_tear_19 : decode cX4_tear 19 = .ok (.ireturn, 1) := by decide +kernel
theorem dX4_count_0 : decode cX4_count 0 = .ok (.iload_n 1, 1) := by decide +kernel
theorem dX4_count_1 : decode cX4_count 1 = .ok (.tableswitch 58 0 3 #[31, 38, 43, 49], 31) := by decide +kernel
theorem dX4_count_32 : decode cX4_count 32 = .ok (.aload_n 0, 1) := by decide +kernel
theorem dX4_count_33 : decode cX4_count 33 = .ok (.getfield 7, 3) := by decide +kernel
theorem dX4_count_36 : decode cX4_count 36 = .ok (.iconst 2, 1) := by decide +kernel
theorem dX4_count_37 : decode cX4_count 37 = .ok (.iaload, 1) := by decide +kernel
theorem dX4_count_38 : decode cX4_count 38 = .ok (.ireturn, 1) := by decide +kernel
theorem dX4_count_39 : decode cX4_count 39 = .ok (.aload_n 0, 1) := by decide +kernel
theorem dX4_count_40 : decode cX4_count 40 = .ok (.getfield 162, 3) := by decide +kernel
theorem dX4_count_43 : decode cX4_count 43 = .ok (.ireturn, 1) := by decide +kernel
theorem dX4_count_44 : decode cX4_count 44 = .ok (.aload_n 0, 1) := by decide +kernel
theorem dX4_count_45 : decode cX4_count 45 = .ok (.iconst 2, 1) := by decide +kernel
theorem dX4_count_46 : decode cX4_count 46 = .ok (.invokevirtual 74, 3) := by decide +kernel
theorem dX4_count_49 : decode cX4_count 49 = .ok (.ireturn, 1) := by decide +kernel
theorem dX4_count_50 : decode cX4_count 50 = .ok (.ldc 101, 2) := by decide +kernel
theorem dX4_count_52 : decode cX4_count 52 = .ok (.aload_n 0, 1) := by decide +kernel
theorem dX4_count_53 : decode cX4_count 53 = .ok (.iconst 3, 1) := by decide +kernel
theorem dX4_count_54 : decode cX4_count 54 = .ok (.invokevirtual 74, 3) := by decide +kernel
theorem dX4_count_57 : decode cX4_count 57 = .ok (.iadd, 1) := by decide +kernel
theorem dX4_count_58 : decode cX4_count 58 = .ok (.ireturn, 1) := by decide +kernel
theorem dX4_count_59 : decode cX4_count 59 = .ok (.aload_n 0, 1) := by decide +kernel
theorem dX4_count_60 : decode cX4_count 60 = .ok (.ldc 44, 2) := by decide +kernel
theorem dX4_count_62 : decode cX4_count 62 = .ok (.invokevirtual 53, 3) := by decide +kernel
theorem dX4_count_65 : decode cX4_count 65 = .ok (.ireturn, 1) := by decide +kernel
theorem dX4_status_0 : decode cX4_status 0 = .ok (.iload_n 1, 1) := by decide +kernel
theorem dX4_status_1 : decode cX4_status 1 = .ok (.iconst (-1), 1) := by decide +kernel
theorem dX4_status_2 : decode cX4_status 2 = .ok (.bipush 6, 2) := by decide +kernel
theorem dX4_status_4 : decode cX4_status 4 = .ok (.invokestatic 45, 3) := by decide +kernel
theorem dX4_status_7 : decode cX4_status 7 = .ok (.ifCond .ne 10, 3) := by decide +kernel
theorem dX4_status_10 : decode cX4_status 10 = .ok (.aload_n 0, 1) := by decide +kernel
theorem dX4_status_11 : decode cX4_status 11 = .ok (.ldc 44, 2) := by decide +kernel
theorem dX4_status_13 : decode cX4_status 13 = .ok (.invokevirtual 53, 3) := by decide +kernel
theorem dX4_status_16 : decode cX4_status 16 = .ok (.ireturn, 1) := by decide +kernel
theorem dX4_status_17 : decode cX4_status 17 = .ok (.iconst 0, 1) := by decide +kernel
theorem dX4_status_18 : decode cX4_status 18 = .ok (.istore_n 2, 1) := by decide +kernel
theorem dX4_status_19 : decode cX4_status 19 = .ok (.iconst 0, 1) := by decide +kernel
theorem dX4_status_20 : decode cX4_status 20 = .ok (.istore_n 3, 1) := by decide +kernel
theorem dX4_status_21 : decode cX4_status 21 = .ok (.iload_n 3, 1) := by decide +kernel
theorem dX4_status_22 : decode cX4_status 22 = .ok (.bipush 7, 2) := by decide +kernel
theorem dX4_status_24 : decode cX4_status 24 = .ok (.if_icmp .ge 18, 3) := by decide +kernel
theorem dX4_status_27 : decode cX4_status 27 = .ok (.iload_n 2, 1) := by decide +kernel
theorem dX4_status_28 : decode cX4_status 28 = .ok (.aload_n 0, 1) := by decide +kernel
theorem dX4_status_29 : decode cX4_status 29 = .ok (.getfield 13, 3) := by decide +kernel
theorem dX4_status_32 : decode cX4_status 32 = .ok (.iload_n 3, 1) := by decide +kernel
theorem dX4_status_33 : decode cX4_status 33 = .ok (.iaload, 1) := by decide +kernel
theorem dX4_status_34 : decode cX4_status 34 = .ok (.iadd, 1) := by decide +kernel
theorem dX4_status_35 : decode cX4_status 35 = .ok (.istore_n 2, 1) := by decide +kernel
theorem dX4_status_36 : decode cX4_status 36 = .ok (.iinc 3 1, 3) := by decide +kernel
theorem dX4_status_39 : decode cX4_status 39 = .ok (.goto (-18), 3) := by decide +kernel
theorem dX4_status_42 : decode cX4_status 42 = .ok (.iload_n 1, 1) := by decide +kernel
theorem dX4_status_43 : decode cX4_status 43 = .ok (.ifCond .ge 7, 3) := by decide +kernel
theorem dX4_status_46 : decode cX4_status 46 = .ok (.iload_n 2, 1) := by decide +kernel
theorem dX4_status_47 : decode cX4_status 47 = .ok (.goto 17, 3) := by decide +kernel
theorem dX4_status_50 : decode cX4_status 50 = .ok (.aload_n 0, 1) := by decide +kernel
theorem dX4_status_51 : decode cX4_status 51 = .ok (.getfield 13, 3) := by decide +kernel
theorem dX4_status_54 : decode cX4_status 54 = .ok (.iload_n 1, 1) := by decide +kernel
theorem dX4_status_55 : decode cX4_status 55 = .ok (.ifCond .ge 7, 3) := by decide +kernel
theorem dX4_status_58 : decode cX4_status 58 = .ok (.iconst 0, 1) := by decide +kernel
theorem dX4_status_59 : decode cX4_status 59 = .ok (.goto 4, 3) := by decide +kernel
theorem dX4_status_62 : decode cX4_status 62 = .ok (.iload_n 1, 1) := by decide +kernel
theorem dX4_status_63 : decode cX4_status 63 = .ok (.iaload, 1) := by decide +kernel
theorem dX4_status_64 : decode cX4_status 64 = .ok (.ireturn, 1) := by decide +kernel
theorem dJ9_max_7cf53_0 : decode cJ9_max_7cf53 0 = .ok (.iload_n 0, 1) := by decide +kernel
theorem dJ9_max_7cf53_1 : decode cJ9_max_7cf53 1 = .ok (.iload_n 1, 1) := by decide +kernel
theorem dJ9_max_7cf53_2 : decode cJ9_max_7cf53 2 = .ok (.if_icmp .lt 7, 3) := by decide +kernel
theorem dJ9_max_7cf53_5 : decode cJ9_max_7cf53 5 = .ok (.iload_n 0, 1) := by decide +kernel
theorem dJ9_max_7cf53_6 : decode cJ9_max_7cf53 6 = .ok (.goto 4, 3) := by decide +kernel
theorem dJ9_max_7cf53_9 : decode cJ9_max_7cf53 9 = .ok (.iload_n 1, 1) := by decide +kernel
theorem dJ9_max_7cf53_10 : decode cJ9_max_7cf53 10 = .ok (.ireturn, 1) := by decide +kernel
theorem dJ9_min_7cf53_0 : decode cJ9_min_7cf53 0 = .ok (.iload_n 0, 1) := by decide +kernel
theorem dJ9_min_7cf53_1 : decode cJ9_min_7cf53 1 = .ok (.iload_n 1, 1) := by decide +kernel
theorem dJ9_min_7cf53_2 : decode cJ9_min_7cf53 2 = .ok (.if_icmp .gt 7, 3) := by decide +kernel
theorem dJ9_min_7cf53_5 : decode cJ9_min_7cf53 5 = .ok (.iload_n 0, 1) := by decide +kernel
theorem dJ9_min_7cf53_6 : decode cJ9_min_7cf53 6 = .ok (.goto 4, 3) := by decide +kernel
theorem dJ9_min_7cf53_9 : decode cJ9_min_7cf53 9 = .ok (.iload_n 1, 1) := by decide +kernel
theorem dJ9_min_7cf53_10 : decode cJ9_min_7cf53 10 = .ok (.ireturn, 1) := by decide +kernel
theorem dJ0_length_8abf5_0 : decode cJ0_length_8abf5 0 = .ok (.aload_n 0, 1) := by decide +kernel
theorem dJ0_length_8abf5_1 : decode cJ0_length_8abf5 1 = .ok (.getfield 9, 3) := by decide +kernel
theorem dJ0_length_8abf5_4 : decode cJ0_length_8abf5 4 = .ok (.arraylength, 1) := by decide +kernel
theorem dJ0_length_8abf5_5 : decode cJ0_length_8abf5 5 = .ok (.aload_n 0, 1) := by decide +kernel
theorem dJ0_length_8abf5_6 : decode cJ0_length_8abf5 6 = .ok (.invokevirtual 335, 3) := by decide +kernel
theorem dJ0_length_8abf5_9 : decode cJ0_length_8abf5 9 = .ok (.ishr, 1) := by decide +kernel
theorem dJ0_length_8abf5_10 : decode cJ0_length_8abf5 10 = .ok (.ireturn, 1) := by decide +kernel
theorem dJ0_charAt_5068e_0 : decode cJ0_charAt_5068e 0 = .ok (.aload_n 0, 1) := by decide +kernel
theorem dJ0_charAt_5068e_1 : decode cJ0_charAt_5068e 1 = .ok (.invokevirtual 492, 3) := by decide +kernel
theorem dJ0_charAt_5068e_4 : decode cJ0_charAt_5068e 4 = .ok (.ifCond .eq 12, 3) := by decide +kernel
theorem dJ0_charAt_5068e_7 : decode cJ0_charAt_5068e 7 = .ok (.aload_n 0, 1) := by decide +kernel
theorem dJ0_charAt_5068e_8 : decode cJ0_charAt_5068e 8 = .ok (.getfield 9, 3) := by decide +kernel
theorem dJ0_charAt_5068e_11 : decode cJ0_charAt_5068e 11 = .ok (.iload_n 1, 1) := by decide +kernel
theorem dJ0_charAt_5068e_12 : decode cJ0_charAt_5068e 12 = .ok (.invokestatic 495, 3) := by decide +kernel
theorem dJ0_charAt_5068e_15 : decode cJ0_charAt_5068e 15 = .ok (.ireturn, 1) := by decide +kernel
theorem dJ0_charAt_5068e_16 : decode cJ0_charAt_5068e 16 = .ok (.aload_n 0, 1) := by decide +kernel
theorem dJ0_charAt_5068e_17 : decode cJ0_charAt_5068e 17 = .ok (.getfield 9, 3) := by decide +kernel
theorem dJ0_charAt_5068e_20 : decode cJ0_charAt_5068e 20 = .ok (.iload_n 1, 1) := by decide +kernel
theorem dJ0_charAt_5068e_21 : decode cJ0_charAt_5068e 21 = .ok (.invokestatic 498, 3) := by decide +kernel
theorem dJ0_charAt_5068e_24 : decode cJ0_charAt_5068e 24 = .ok (.ireturn, 1) := by decide +kernel
theorem dJ0_coder_7d493_0 : decode cJ0_coder_7d493 0 = .ok (.getstatic 38, 3) := by decide +kernel
theorem dJ0_coder_7d493_3 : decode cJ0_coder_7d493 3 = .ok (.ifCond .eq 10, 3) := by decide +kernel
theorem dJ0_coder_7d493_6 : decode cJ0_coder_7d493 6 = .ok (.aload_n 0, 1) := by decide +kernel
theorem dJ0_coder_7d493_7 : decode cJ0_coder_7d493 7 = .ok (.getfield 15, 3) := by decide +kernel
theorem dJ0_coder_7d493_10 : decode cJ0_coder_7d493 10 = .ok (.goto 4, 3) := by decide +kernel
theorem dJ0_coder_7d493_13 : decode cJ0_coder_7d493 13 = .ok (.iconst 1, 1) := by decide +kernel
theorem dJ0_coder_7d493_14 : decode cJ0_coder_7d493 14 = .ok (.ireturn, 1) := by decide +kernel
theorem dJ0_isLatin1_aae02_0 : decode cJ0_isLatin1_aae02 0 = .ok (.getstatic 38, 3) := by decide +kernel
theorem dJ0_isLatin1_aae02_3 : decode cJ0_isLatin1_aae02 3 = .ok (.ifCond .eq 14, 3) := by decide +kernel
theorem dJ0_isLatin1_aae02_6 : decode cJ0_isLatin1_aae02 6 = .ok (.aload_n 0, 1) := by decide +kernel
theorem dJ0_isLatin1_aae02_7 : decode cJ0_isLatin1_aae02 7 = .ok (.getfield 15, 3) := by decide +kernel
theorem dJ0_isLatin1_aae02_10 : decode cJ0_isLatin1_aae02 10 = .ok (.ifCond .ne 7, 3) := by decide +kernel
theorem dJ0_isLatin1_aae02_13 : decode cJ0_isLatin1_aae02 13 = .ok (.iconst 1, 1) := by decide +kernel
theorem dJ0_isLatin1_aae02_14 : decode cJ0_isLatin1_aae02 14 = .ok (.goto 4, 3) := by decide +kernel
theorem dJ0_isLatin1_aae02_17 : decode cJ0_isLatin1_aae02 17 = .ok (.iconst 0, 1) := by decide +kernel
theorem dJ0_isLatin1_aae02_18 : decode cJ0_isLatin1_aae02 18 = .ok (.ireturn, 1) := by decide +kernel
theorem dJ0_checkIndex_df160_0 : decode cJ0_checkIndex_df160 0 = .ok (.iload_n 0, 1) := by decide +kernel
theorem dJ0_checkIndex_df160_1 : decode cJ0_checkIndex_df160 1 = .ok (.iload_n 1, 1) := by decide +kernel
theorem dJ0_checkIndex_df160_2 : decode cJ0_checkIndex_df160 2 = .ok (.getstatic 1053, 3) := by decide +kernel
theorem dJ0_checkIndex_df160_5 : decode cJ0_checkIndex_df160 5 = .ok (.invokestatic 1059, 3) := by decide +kernel
theorem dJ0_checkIndex_df160_8 : decode cJ0_checkIndex_df160 8 = .ok (.pop, 1) := by decide +kernel
theorem dJ0_checkIndex_df160_9 : decode cJ0_checkIndex_df160 9 = .ok (.return_, 1) := by decide +kernel
theorem dJ1_charAt_3b067_0 : decode cJ1_charAt_3b067 0 = .ok (.iload_n 1, 1) := by decide +kernel
theorem dJ1_charAt_3b067_1 : decode cJ1_charAt_3b067 1 = .ok (.aload_n 0, 1) := by decide +kernel
theorem dJ1_charAt_3b067_2 : decode cJ1_charAt_3b067 2 = .ok (.arraylength, 1) := by decide +kernel
theorem dJ1_charAt_3b067_3 : decode cJ1_charAt_3b067 3 = .ok (.invokestatic 9, 3) := by decide +kernel
theorem dJ1_charAt_3b067_6 : decode cJ1_charAt_3b067 6 = .ok (.aload_n 0, 1) := by decide +kernel
theorem dJ1_charAt_3b067_7 : decode cJ1_charAt_3b067 7 = .ok (.iload_n 1, 1) := by decide +kernel
theorem dJ1_charAt_3b067_8 : decode cJ1_charAt_3b067 8 = .ok (.baload, 1) := by decide +kernel
theorem dJ1_charAt_3b067_9 : decode cJ1_charAt_3b067 9 = .ok (.sipush 255, 3) := by decide +kernel
theorem dJ1_charAt_3b067_12 : decode cJ1_charAt_3b067 12 = .ok (.iand, 1) := by decide +kernel
theorem dJ1_charAt_3b067_13 : decode cJ1_charAt_3b067 13 = .ok (.i2c, 1) := by decide +kernel
theorem dJ1_charAt_3b067_14 : decode cJ1_charAt_3b067 14 = .ok (.ireturn, 1) := by decide +kernel
theorem dJ2_getChar_3b067_0 : decode cJ2_getChar_3b067 0 = .ok (.getstatic 44, 3) := by decide +kernel
theorem dJ2_getChar_3b067_3 : decode cJ2_getChar_3b067 3 = .ok (.ifCond .ne 25, 3) := by decide +kernel
theorem dJ2_getChar_3b067_6 : decode cJ2_getChar_3b067 6 = .ok (.iload_n 1, 1) := by decide +kernel
theorem dJ2_getChar_3b067_7 : decode cJ2_getChar_3b067 7 = .ok (.ifCond .lt 11, 3) := by decide +kernel
theorem dJ2_getChar_3b067_10 : decode cJ2_getChar_3b067 10 = .ok (.iload_n 1, 1) := by decide +kernel
theorem dJ2_getChar_3b067_11 : decode cJ2_getChar_3b067 11 = .ok (.aload_n 0, 1) := by decide +kernel
theorem dJ2_getChar_3b067_12 : decode cJ2_getChar_3b067 12 = .ok (.invokestatic 48, 3) := by decide +kernel
theorem dJ2_getChar_3b067_15 : decode cJ2_getChar_3b067 15 = .ok (.if_icmp .lt 13, 3) := by decide +kernel
theorem dJ2_getChar_3b067_18 : decode cJ2_getChar_3b067 18 = .ok (.new 52, 3) := by decide +kernel
theorem dJ2_getChar_3b067_21 : decode cJ2_getChar_3b067 21 = .ok (.dup, 1) := by decide +kernel
theorem dJ2_getChar_3b067_22 : decode cJ2_getChar_3b067 22 = .ok (.ldc 54, 2) := by decide +kernel
theorem dJ2_getChar_3b067_24 : decode cJ2_getChar_3b067 24 = .ok (.invokespecial 56, 3) := by decide +kernel
theorem dJ2_getChar_3b067_27 : decode cJ2_getChar_3b067 27 = .ok (.athrow, 1) := by decide +kernel
theorem dJ2_getChar_3b067_28 : decode cJ2_getChar_3b067 28 = .ok (.iload_n 1, 1) := by decide +kernel
theorem dJ2_getChar_3b067_29 : decode cJ2_getChar_3b067 29 = .ok (.iconst 1, 1) := by decide +kernel
theorem dJ2_getChar_3b067_30 : decode cJ2_getChar_3b067 30 = .ok (.ishl, 1) := by decide +kernel
theorem dJ2_getChar_3b067_31 : decode cJ2_getChar_3b067 31 = .ok (.istore_n 1, 1) := by decide +kernel
theorem dJ2_getChar_3b067_32 : decode cJ2_getChar_3b067 32 = .ok (.aload_n 0, 1) := by decide +kernel
theorem dJ2_getChar_3b067_33 : decode cJ2_getChar_3b067 33 = .ok (.iload_n 1, 1) := by decide +kernel
theorem dJ2_getChar_3b067_34 : decode cJ2_getChar_3b067 34 = .ok (.iinc 1 1, 3) := by decide +kernel
theorem dJ2_getChar_3b067_37 : decode cJ2_getChar_3b067 37 = .ok (.baload, 1) := by decide +kernel
theorem dJ2_getChar_3b067_38 : decode cJ2_getChar_3b067 38 = .ok (.sipush 255, 3) := by decide +kernel
theorem dJ2_getChar_3b067_41 : decode cJ2_getChar_3b067 41 = .ok (.iand, 1) := by decide +kernel
theorem dJ2_getChar_3b067_42 : decode cJ2_getChar_3b067 42 = .ok (.getstatic 59, 3) := by decide +kernel
theorem dJ2_getChar_3b067_45 : decode cJ2_getChar_3b067 45 = .ok (.ishl, 1) := by decide +kernel
theorem dJ2_getChar_3b067_46 : decode cJ2_getChar_3b067 46 = .ok (.aload_n 0, 1) := by decide +kernel
theorem dJ2_getChar_3b067_47 : decode cJ2_getChar_3b067 47 = .ok (.iload_n 1, 1) := by decide +kernel
theorem dJ2_getChar_3b067_48 : decode cJ2_getChar_3b067 48 = .ok (.baload, 1) := by decide +kernel
theorem dJ2_getChar_3b067_49 : decode cJ2_getChar_3b067 49 = .ok (.sipush 255, 3) := by decide +kernel
theorem dJ2_getChar_3b067_52 : decode cJ2_getChar_3b067 52 = .ok (.iand, 1) := by decide +kernel
theorem dJ2_getChar_3b067_53 : decode cJ2_getChar_3b067 53 = .ok (.getstatic 63, 3) := by decide +kernel
theorem dJ2_getChar_3b067_56 : decode cJ2_getChar_3b067 56 = .ok (.ishl, 1) := by decide +kernel
theorem dJ2_getChar_3b067_57 : decode cJ2_getChar_3b067 57 = .ok (.ior, 1) := by decide +kernel
theorem dJ2_getChar_3b067_58 : decode cJ2_getChar_3b067 58 = .ok (.i2c, 1) := by decide +kernel
theorem dJ2_getChar_3b067_59 : decode cJ2_getChar_3b067 59 = .ok (.ireturn, 1) := by decide +kernel
theorem dJ2_length_9d52b_0 : decode cJ2_length_9d52b 0 = .ok (.aload_n 0, 1) := by decide +kernel
theorem dJ2_length_9d52b_1 : decode cJ2_length_9d52b 1 = .ok (.arraylength, 1) := by decide +kernel
theorem dJ2_length_9d52b_2 : decode cJ2_length_9d52b 2 = .ok (.iconst 1, 1) := by decide +kernel
theorem dJ2_length_9d52b_3 : decode cJ2_length_9d52b 3 = .ok (.ishr, 1) := by decide +kernel
theorem dJ2_length_9d52b_4 : decode cJ2_length_9d52b 4 = .ok (.ireturn, 1) := by decide +kernel
theorem dJ2_charAt_3b067_0 : decode cJ2_charAt_3b067 0 = .ok (.iload_n 1, 1) := by decide +kernel
theorem dJ2_charAt_3b067_1 : decode cJ2_charAt_3b067 1 = .ok (.aload_n 0, 1) := by decide +kernel
theorem dJ2_charAt_3b067_2 : decode cJ2_charAt_3b067 2 = .ok (.invokestatic 67, 3) := by decide +kernel
theorem dJ2_charAt_3b067_5 : decode cJ2_charAt_3b067 5 = .ok (.aload_n 0, 1) := by decide +kernel
theorem dJ2_charAt_3b067_6 : decode cJ2_charAt_3b067 6 = .ok (.iload_n 1, 1) := by decide +kernel
theorem dJ2_charAt_3b067_7 : decode cJ2_charAt_3b067 7 = .ok (.invokestatic 71, 3) := by decide +kernel
theorem dJ2_charAt_3b067_10 : decode cJ2_charAt_3b067 10 = .ok (.ireturn, 1) := by decide +kernel
theorem dJ2_checkIndex_2214a_0 : decode cJ2_checkIndex_2214a 0 = .ok (.iload_n 0, 1) := by decide +kernel
theorem dJ2_checkIndex_2214a_1 : decode cJ2_checkIndex_2214a 1 = .ok (.aload_n 1, 1) := by decide +kernel
theorem dJ2_checkIndex_2214a_2 : decode cJ2_checkIndex_2214a 2 = .ok (.invokestatic 48, 3) := by decide +kernel
theorem dJ2_checkIndex_2214a_5 : decode cJ2_checkIndex_2214a 5 = .ok (.invokestatic 414, 3) := by decide +kernel
theorem dJ2_checkIndex_2214a_8 : decode cJ2_checkIndex_2214a 8 = .ok (.return_, 1) := by decide +kernel
theorem dJ7_fill_d0a16_0 : decode cJ7_fill_d0a16 0 = .ok (.iconst 0, 1) := by decide +kernel
theorem dJ7_fill_d0a16_1 : decode cJ7_fill_d0a16 1 = .ok (.istore_n 3, 1) := by decide +kernel
theorem dJ7_fill_d0a16_2 : decode cJ7_fill_d0a16 2 = .ok (.aload_n 0, 1) := by decide +kernel
theorem dJ7_fill_d0a16_3 : decode cJ7_fill_d0a16 3 = .ok (.arraylength, 1) := by decide +kernel
theorem dJ7_fill_d0a16_4 : decode cJ7_fill_d0a16 4 = .ok (.istore 4, 2) := by decide +kernel
theorem dJ7_fill_d0a16_6 : decode cJ7_fill_d0a16 6 = .ok (.iload_n 3, 1) := by decide +kernel
theorem dJ7_fill_d0a16_7 : decode cJ7_fill_d0a16 7 = .ok (.iload 4, 2) := by decide +kernel
theorem dJ7_fill_d0a16_9 : decode cJ7_fill_d0a16 9 = .ok (.if_icmp .ge 13, 3) := by decide +kernel
theorem dJ7_fill_d0a16_12 : decode cJ7_fill_d0a16 12 = .ok (.aload_n 0, 1) := by decide +kernel
theorem dJ7_fill_d0a16_13 : decode cJ7_fill_d0a16 13 = .ok (.iload_n 3, 1) := by decide +kernel
theorem dJ7_fill_d0a16_14 : decode cJ7_fill_d0a16 14 = .ok (.lload_n 1, 1) := by decide +kernel
theorem dJ7_fill_d0a16_15 : decode cJ7_fill_d0a16 15 = .ok (.lastore, 1) := by decide +kernel
theorem dJ7_fill_d0a16_16 : decode cJ7_fill_d0a16 16 = .ok (.iinc 3 1, 3) := by decide +kernel
theorem dJ7_fill_d0a16_19 : decode cJ7_fill_d0a16 19 = .ok (.goto (-13), 3) := by decide +kernel
theorem dJ7_fill_d0a16_22 : decode cJ7_fill_d0a16 22 = .ok (.return_, 1) := by decide +kernel
theorem dJ3_checkIndex_8e157_0 : decode cJ3_checkIndex_8e157 0 = .ok (.iload_n 0, 1) := by decide +kernel
theorem dJ3_checkIndex_8e157_1 : decode cJ3_checkIndex_8e157 1 = .ok (.ifCond .lt 8, 3) := by decide +kernel
theorem dJ3_checkIndex_8e157_4 : decode cJ3_checkIndex_8e157 4 = .ok (.iload_n 0, 1) := by decide +kernel
theorem dJ3_checkIndex_8e157_5 : decode cJ3_checkIndex_8e157 5 = .ok (.iload_n 1, 1) := by decide +kernel
theorem dJ3_checkIndex_8e157_6 : decode cJ3_checkIndex_8e157 6 = .ok (.if_icmp .lt 10, 3) := by decide +kernel
theorem dJ3_checkIndex_8e157_9 : decode cJ3_checkIndex_8e157 9 = .ok (.aload_n 2, 1) := by decide +kernel
theorem dJ3_checkIndex_8e157_10 : decode cJ3_checkIndex_8e157 10 = .ok (.iload_n 0, 1) := by decide +kernel
theorem dJ3_checkIndex_8e157_11 : decode cJ3_checkIndex_8e157 11 = .ok (.iload_n 1, 1) := by decide +kernel
theorem dJ3_checkIndex_8e157_12 : decode cJ3_checkIndex_8e157 12 = .ok (.invokestatic 95, 3) := by decide +kernel
theorem dJ3_checkIndex_8e157_15 : decode cJ3_checkIndex_8e157 15 = .ok (.athrow, 1) := by decide +kernel
theorem dJ3_checkIndex_8e157_16 : decode cJ3_checkIndex_8e157 16 = .ok (.iload_n 0, 1) := by decide +kernel
theorem dJ3_checkIndex_8e157_17 : decode cJ3_checkIndex_8e157 17 = .ok (.ireturn, 1) := by decide +kernel
theorem dL_law_0 : decode cL_law 0 = .ok (.new 7, 3) := by decide +kernel
theorem dL_law_3 : decode cL_law 3 = .ok (.dup, 1) := by decide +kernel
theorem dL_law_4 : decode cL_law 4 = .ok (.invokespecial 9, 3) := by decide +kernel
theorem dL_law_7 : decode cL_law 7 = .ok (.astore_n 1, 1) := by decide +kernel
theorem dL_law_8 : decode cL_law 8 = .ok (.new 10, 3) := by decide +kernel
theorem dL_law_11 : decode cL_law 11 = .ok (.dup, 1) := by decide +kernel
theorem dL_law_12 : decode cL_law 12 = .ok (.invokespecial 12, 3) := by decide +kernel
theorem dL_law_15 : decode cL_law 15 = .ok (.astore_n 2, 1) := by decide +kernel
theorem dL_law_16 : decode cL_law 16 = .ok (.iconst 0, 1) := by decide +kernel
theorem dL_law_17 : decode cL_law 17 = .ok (.istore_n 3, 1) := by decide +kernel
theorem dL_law_18 : decode cL_law 18 = .ok (.iload_n 3, 1) := by decide +kernel
theorem dL_law_19 : decode cL_law 19 = .ok (.aload_n 0, 1) := by decide +kernel
theorem dL_law_20 : decode cL_law 20 = .ok (.arraylength, 1) := by decide +kernel
theorem dL_law_21 : decode cL_law 21 = .ok (.bipush 6, 2) := by decide +kernel
theorem dL_law_23 : decode cL_law 23 = .ok (.isub, 1) := by decide +kernel
theorem dL_law_24 : decode cL_law 24 = .ok (.if_icmp .gt 1273, 3) := by decide +kernel
theorem dL_law_27 : decode cL_law 27 = .ok (.aload_n 0, 1) := by decide +kernel
theorem dL_law_28 : decode cL_law 28 = .ok (.iload_n 3, 1) := by decide +kernel
theorem dL_law_29 : decode cL_law 29 = .ok (.iaload, 1) := by decide +kernel
theorem dL_law_30 : decode cL_law 30 = .ok (.bipush 63, 2) := by decide +kernel
theorem dL_law_32 : decode cL_law 32 = .ok (.iand, 1) := by decide +kernel
theorem dL_law_33 : decode cL_law 33 = .ok (.tableswitch 1258 0 35 #[159, 182, 205, 228, 261, 304, 337, 370, 403, 436, 459, 502, 535, 548, 581, 604, 637, 670, 713, 736, 779, 812, 835, 868, 881, 894, 937, 1011, 1074, 1097, 1130, 1173, 1186, 1199, 1212, 1235], 159) := by decide +kernel
theorem dL_law_192 : decode cL_law 192 = .ok (.aload_n 1, 1) := by decide +kernel
theorem dL_law_193 : decode cL_law 193 = .ok (.aload_n 0, 1) := by decide +kernel
theorem dL_law_194 : decode cL_law 194 = .ok (.iload_n 3, 1) := by decide +kernel
theorem dL_law_195 : decode cL_law 195 = .ok (.iconst 1, 1) := by decide +kernel
theorem dL_law_196 : decode cL_law 196 = .ok (.iadd, 1) := by decide +kernel
theorem dL_law_197 : decode cL_law 197 = .ok (.iaload, 1) := by decide +kernel
theorem dL_law_198 : decode cL_law 198 = .ok (.invokevirtual 13, 3) := by decide +kernel
theorem dL_law_201 : decode cL_law 201 = .ok (.aload_n 2, 1) := by decide +kernel
theorem dL_law_202 : decode cL_law 202 = .ok (.aload_n 0, 1) := by decide +kernel
theorem dL_law_203 : decode cL_law 203 = .ok (.iload_n 3, 1) := by decide +kernel
theorem dL_law_204 : decode cL_law 204 = .ok (.iconst 1, 1) := by decide +kernel
theorem dL_law_205 : decode cL_law 205 = .ok (.iadd, 1) := by decide +kernel
theorem dL_law_206 : decode cL_law 206 = .ok (.iaload, 1) := by decide +kernel
theorem dL_law_207 : decode cL_law 207 = .ok (.invokevirtual 17, 3) := by decide +kernel
theorem dL_law_210 : decode cL_law 210 = .ok (.if_icmp .eq 1081, 3) := by decide +kernel
theorem dL_law_213 : decode cL_law 213 = .ok (.iconst 0, 1) := by decide +kernel
theorem dL_law_214 : decode cL_law 214 = .ok (.ireturn, 1) := by decide +kernel
theorem dL_law_215 : decode cL_law 215 = .ok (.aload_n 1, 1) := by decide +kernel
theorem dL_law_216 : decode cL_law 216 = .ok (.aload_n 0, 1) := by decide +kernel
theorem dL_law_217 : decode cL_law 217 = .ok (.iload_n 3, 1) := by decide +kernel
theorem dL_law_218 : decode cL_law 218 = .ok (.iconst 1, 1) := by decide +kernel
theorem dL_law_219 : decode cL_law 219 = .ok (.iadd, 1) := by decide +kernel
theorem dL_law_220 : decode cL_law 220 = .ok (.iaload, 1) := by decide +kernel
theorem dL_law_221 : decode cL_law 221 = .ok (.invokevirtual 18, 3) := by decide +kernel
theorem dL_law_224 : decode cL_law 224 = .ok (.aload_n 2, 1) := by decide +kernel
theorem dL_law_225 : decode cL_law 225 = .ok (.aload_n 0, 1) := by decide +kernel
theorem dL_law_226 : decode cL_law 226 = .ok (.iload_n 3, 1) := by decide +kernel
theorem dL_law_227 : decode cL_law 227 = .ok (.iconst 1, 1) := by decide +kernel
theorem dL_law_228 : decode cL_law 228 = .ok (.iadd, 1) := by decide +kernel
theorem dL_law_229 : decode cL_law 229 = .ok (.iaload, 1) := by decide +kernel
theorem dL_law_230 : decode cL_law 230 = .ok (.invokevirtual 21, 3) := by decide +kernel
theorem dL_law_233 : decode cL_law 233 = .ok (.if_icmp .eq 1058, 3) := by decide +kernel
theorem dL_law_236 : decode cL_law 236 = .ok (.iconst 0, 1) := by decide +kernel
theorem dL_law_237 : decode cL_law 237 = .ok (.ireturn, 1) := by decide +kernel
theorem dL_law_238 : decode cL_law 238 = .ok (.aload_n 1, 1) := by decide +kernel
theorem dL_law_239 : decode cL_law 239 = .ok (.aload_n 0, 1) := by decide +kernel
theorem dL_law_240 : decode cL_law 240 = .ok (.iload_n 3, 1) := by decide +kernel
theorem dL_law_241 : decode cL_law 241 = .ok (.iconst 1, 1) := by decide +kernel
theorem dL_law_242 : decode cL_law 242 = .ok (.iadd, 1) := by decide +kernel
theorem dL_law_243 : decode cL_law 243 = .ok (.iaload, 1) := by decide +kernel
theorem dL_law_244 : decode cL_law 244 = .ok (.invokevirtual 22, 3) := by decide +kernel
theorem dL_law_247 : decode cL_law 247 = .ok (.aload_n 2, 1) := by decide +kernel
theorem dL_law_248 : decode cL_law 248 = .ok (.aload_n 0, 1) := by decide +kernel
theorem dL_law_249 : decode cL_law 249 = .ok (.iload_n 3, 1) := by decide +kernel
theorem dL_law_250 : decode cL_law 250 = .ok (.iconst 1, 1) := by decide +kernel
theorem dL_law_251 : decode cL_law 251 = .ok (.iadd, 1) := by decide +kernel
theorem dL_law_252 : decode cL_law 252 = .ok (.iaload, 1) := by decide +kernel
theorem dL_law_253 : decode cL_law 253 = .ok (.invokevirtual 25, 3) := by decide +kernel
theorem dL_law_256 : decode cL_law 256 = .ok (.if_icmp .eq 1035, 3) := by decide +kernel
theorem dL_law_259 : decode cL_law 259 = .ok (.iconst 0, 1) := by decide +kernel
theorem dL_law_260 : decode cL_law 260 = .ok (.ireturn, 1) := by decide +kernel
theorem dL_law_261 : decode cL_law 261 = .ok (.aload_n 1, 1) := by decide +kernel
theorem dL_law_262 : decode cL_law 262 = .ok (.aload_n 0, 1) := by decide +kernel
theorem dL_law_263 : decode cL_law 263 = .ok (.iload_n 3, 1) := by decide +kernel
theorem dL_law_264 : decode cL_law 264 = .ok (.iconst 1, 1) := by decide +kernel
theorem dL_law_265 : decode cL_law 265 = .ok (.iadd, 1) := by decide +kernel
theorem dL_law_266 : decode cL_law 266 = .ok (.iaload, 1) := by decide +kernel
theorem dL_law_267 : decode cL_law 267 = .ok (.aload_n 0, 1) := by decide +kernel
theorem dL_law_268 : decode cL_law 268 = .ok (.iload_n 3, 1) := by decide +kernel
theorem dL_law_269 : decode cL_law 269 = .ok (.iconst 2, 1) := by decide +kernel
theorem dL_law_270 : decode cL_law 270 = .ok (.iadd, 1) := by decide +kernel
theorem dL_law_271 : decode cL_law 271 = .ok (.iaload, 1) := by decide +kernel
theorem dL_law_272 : decode cL_law 272 = .ok (.invokevirtual 26, 3) := by decide +kernel
theorem dL_law_275 : decode cL_law 275 = .ok (.aload_n 2, 1) := by decide +kernel
theorem dL_law_276 : decode cL_law 276 = .ok (.aload_n 0, 1) := by decide +kernel
theorem dL_law_277 : decode cL_law 277 = .ok (.iload_n 3, 1) := by decide +kernel
theorem dL_law_278 : decode cL_law 278 = .ok (.iconst 1, 1) := by decide +kernel
theorem dL_law_279 : decode cL_law 279 = .ok (.iadd, 1) := by decide +kernel
theorem dL_law_280 : decode cL_law 280 = .ok (.iaload, 1) := by decide +kernel
theorem dL_law_281 : decode cL_law 281 = .ok (.aload_n 0, 1) := by decide +kernel
theorem dL_law_282 : decode cL_law 282 = .ok (.iload_n 3, 1) := by decide +kernel
theorem dL_law_283 : decode cL_law 283 = .ok (.iconst 2, 1) := by decide +kernel
theorem dL_law_284 : decode cL_law 284 = .ok (.iadd, 1) := by decide +kernel
theorem dL_law_285 : decode cL_law 285 = .ok (.iaload, 1) := by decide +kernel
theorem dL_law_286 : decode cL_law 286 = .ok (.invokevirtual 30, 3) := by decide +kernel
theorem dL_law_289 : decode cL_law 289 = .ok (.if_icmp .eq 1002, 3) := by decide +kernel
theorem dL_law_292 : decode cL_law 292 = .ok (.iconst 0, 1) := by decide +kernel
theorem dL_law_293 : decode cL_law 293 = .ok (.ireturn, 1) := by decide +kernel
theorem dL_law_294 : decode cL_law 294 = .ok (.aload_n 1, 1) := by decide +kernel
theorem dL_law_295 : decode cL_law 295 = .ok (.aload_n 0, 1) := by decide +kernel
theorem dL_law_296 : decode cL_law 296 = .ok (.iload_n 3, 1) := by decide +kernel
theorem dL_law_297 : decode cL_law 297 = .ok (.iconst 1, 1) := by decide +kernel
theorem dL_law_298 : decode cL_law 298 = .ok (.iadd, 1) := by decide +kernel
theorem dL_law_299 : decode cL_law 299 = .ok (.iaload, 1) := by decide +kernel
theorem dL_law_300 : decode cL_law 300 = .ok (.aload_n 0, 1) := by decide +kernel
theorem dL_law_301 : decode cL_law 301 = .ok (.iload_n 3, 1) := by decide +kernel
theorem dL_law_302 : decode cL_law 302 = .ok (.iconst 2, 1) := by decide +kernel
theorem dL_law_303 : decode cL_law 303 = .ok (.iadd, 1) := by decide +kernel
theorem dL_law_304 : decode cL_law 304 = .ok (.iaload, 1) := by decide +kernel
theorem dL_law_305 : decode cL_law 305 = .ok (.aload_n 0, 1) := by decide +kernel
theorem dL_law_306 : decode cL_law 306 = .ok (.iload_n 3, 1) := by decide +kernel
theorem dL_law_307 : decode cL_law 307 = .ok (.iconst 3, 1) := by decide +kernel
theorem dL_law_308 : decode cL_law 308 = .ok (.iadd, 1) := by decide +kernel
theorem dL_law_309 : decode cL_law 309 = .ok (.iaload, 1) := by decide +kernel
theorem dL_law_310 : decode cL_law 310 = .ok (.invokevirtual 31, 3) := by decide +kernel
theorem dL_law_313 : decode cL_law 313 = .ok (.aload_n 2, 1) := by decide +kernel
theorem dL_law_314 : decode cL_law 314 = .ok (.aload_n 0, 1) := by decide +kernel
theorem dL_law_315 : decode cL_law 315 = .ok (.iload_n 3, 1) := by decide +kernel
theorem dL_law_316 : decode cL_law 316 = .ok (.iconst 1, 1) := by decide +kernel
theorem dL_law_317 : decode cL_law 317 = .ok (.iadd, 1) := by decide +kernel
theorem dL_law_318 : decode cL_law 318 = .ok (.iaload, 1) := by decide +kernel
theorem dL_law_319 : decode cL_law 319 = .ok (.aload_n 0, 1) := by decide +kernel
theorem dL_law_320 : decode cL_law 320 = .ok (.iload_n 3, 1) := by decide +kernel
theorem dL_law_321 : decode cL_law 321 = .ok (.iconst 2, 1) := by decide +kernel
theorem dL_law_322 : decode cL_law 322 = .ok (.iadd, 1) := by decide +kernel
theorem dL_law_323 : decode cL_law 323 = .ok (.iaload, 1) := by decide +kernel
theorem dL_law_324 : decode cL_law 324 = .ok (.aload_n 0, 1) := by decide +kernel
theorem dL_law_325 : decode cL_law 325 = .ok (.iload_n 3, 1) := by decide +kernel
theorem dL_law_326 : decode cL_law 326 = .ok (.iconst 3, 1) := by decide +kernel
theorem dL_law_327 : decode cL_law 327 = .ok (.iadd, 1) := by decide +kernel
theorem dL_law_328 : decode cL_law 328 = .ok (.iaload, 1) := by decide +kernel
theorem dL_law_329 : decode cL_law 329 = .ok (.invokevirtual 35, 3) := by decide +kernel
theorem dL_law_332 : decode cL_law 332 = .ok (.if_icmp .eq 959, 3) := by decide +kernel
theorem dL_law_335 : decode cL_law 335 = .ok (.iconst 0, 1) := by decide +kernel
theorem dL_law_336 : decode cL_law 336 = .ok (.ireturn, 1) := by decide +kernel
theorem dL_law_337 : decode cL_law 337 = .ok (.aload_n 1, 1) := by decide +kernel
theorem dL_law_338 : decode cL_law 338 = .ok (.aload_n 0, 1) := by decide +kernel
theorem dL_law_339 : decode cL_law 339 = .ok (.iload_n 3, 1) := by decide +kernel
theorem dL_law_340 : decode cL_law 340 = .ok (.iconst 1, 1) := by decide +kernel
theorem dL_law_341 : decode cL_law 341 = .ok (.iadd, 1) := by decide +kernel
theorem dL_law_342 : decode cL_law 342 = .ok (.iaload, 1) := by decide +kernel
theorem dL_law_343 : decode cL_law 343 = .ok (.aload_n 0, 1) := by decide +kernel
theorem dL_law_344 : decode cL_law 344 = .ok (.iload_n 3, 1) := by decide +kernel
theorem dL_law_345 : decode cL_law 345 = .ok (.iconst 2, 1) := by decide +kernel
theorem dL_law_346 : decode cL_law 346 = .ok (.iadd, 1) := by decide +kernel
theorem dL_law_347 : decode cL_law 347 = .ok (.iaload, 1) := by decide +kernel
theorem dL_law_348 : decode cL_law 348 = .ok (.invokevirtual 36, 3) := by decide +kernel
theorem dL_law_351 : decode cL_law 351 = .ok (.aload_n 2, 1) := by decide +kernel
theorem dL_law_352 : decode cL_law 352 = .ok (.aload_n 0, 1) := by decide +kernel
theorem dL_law_353 : decode cL_law 353 = .ok (.iload_n 3, 1) := by decide +kernel
theorem dL_law_354 : decode cL_law 354 = .ok (.iconst 1, 1) := by decide +kernel
theorem dL_law_355 : decode cL_law 355 = .ok (.iadd, 1) := by decide +kernel
theorem dL_law_356 : decode cL_law 356 = .ok (.iaload, 1) := by decide +kernel
theorem dL_law_357 : decode cL_law 357 = .ok (.aload_n 0, 1) := by decide +kernel
theorem dL_law_358 : decode cL_law 358 = .ok (.iload_n 3, 1) := by decide +kernel
theorem dL_law_359 : decode cL_law 359 = .ok (.iconst 2, 1) := by decide +kernel
theorem dL_law_360 : decode cL_law 360 = .ok (.iadd, 1) := by decide +kernel
theorem dL_law_361 : decode cL_law 361 = .ok (.iaload, 1) := by decide +kernel
theorem dL_law_362 : decode cL_law 362 = .ok (.invokevirtual 39, 3) := by decide +kernel
theorem dL_law_365 : decode cL_law 365 = .ok (.if_icmp .eq 926, 3) := by decide +kernel
theorem dL_law_368 : decode cL_law 368 = .ok (.iconst 0, 1) := by decide +kernel
theorem dL_law_369 : decode cL_law 369 = .ok (.ireturn, 1) := by decide +kernel
theorem dL_law_370 : decode cL_law 370 = .ok (.aload_n 1, 1) := by decide +kernel
theorem dL_law_371 : decode cL_law 371 = .ok (.aload_n 0, 1) := by decide +kernel
theorem dL_law_372 : decode cL_law 372 = .ok (.iload_n 3, 1) := by decide +kernel
theorem dL_law_373 : decode cL_law 373 = .ok (.iconst 1, 1) := by decide +kernel
theorem dL_law_374 : decode cL_law 374 = .ok (.iadd, 1) := by decide +kernel
theorem dL_law_375 : decode cL_law 375 = .ok (.iaload, 1) := by decide +kernel
theorem dL_law_376 : decode cL_law 376 = .ok (.aload_n 0, 1) := by decide +kernel
theorem dL_law_377 : decode cL_law 377 = .ok (.iload_n 3, 1) := by decide +kernel
theorem dL_law_378 : decode cL_law 378 = .ok (.iconst 2, 1) := by decide +kernel
theorem dL_law_379 : decode cL_law 379 = .ok (.iadd, 1) := by decide +kernel
theorem dL_law_380 : decode cL_law 380 = .ok (.iaload, 1) := by decide +kernel
theorem dL_law_381 : decode cL_law 381 = .ok (.invokevirtual 40, 3) := by decide +kernel
theorem dL_law_384 : decode cL_law 384 = .ok (.aload_n 2, 1) := by decide +kernel
theorem dL_law_385 : decode cL_law 385 = .ok (.aload_n 0, 1) := by decide +kernel
theorem dL_law_386 : decode cL_law 386 = .ok (.iload_n 3, 1) := by decide +kernel
theorem dL_law_387 : decode cL_law 387 = .ok (.iconst 1, 1) := by decide +kernel
theorem dL_law_388 : decode cL_law 388 = .ok (.iadd, 1) := by decide +kernel
theorem dL_law_389 : decode cL_law 389 = .ok (.iaload, 1) := by decide +kernel
theorem dL_law_390 : decode cL_law 390 = .ok (.aload_n 0, 1) := by decide +kernel
theorem dL_law_391 : decode cL_law 391 = .ok (.iload_n 3, 1) := by decide +kernel
theorem dL_law_392 : decode cL_law 392 = .ok (.iconst 2, 1) := by decide +kernel
theorem dL_law_393 : decode cL_law 393 = .ok (.iadd, 1) := by decide +kernel
theorem dL_law_394 : decode cL_law 394 = .ok (.iaload, 1) := by decide +kernel
theorem dL_law_395 : decode cL_law 395 = .ok (.invokevirtual 43, 3) := by decide +kernel
theorem dL_law_398 : decode cL_law 398 = .ok (.if_icmp .eq 893, 3) := by decide +kernel
theorem dL_law_401 : decode cL_law 401 = .ok (.iconst 0, 1) := by decide +kernel
theorem dL_law_402 : decode cL_law 402 = .ok (.ireturn, 1) := by decide +kernel
theorem dL_law_403 : decode cL_law 403 = .ok (.aload_n 1, 1) := by decide +kernel
theorem dL_law_404 : decode cL_law 404 = .ok (.aload_n 0, 1) := by decide +kernel
theorem dL_law_405 : decode cL_law 405 = .ok (.iload_n 3, 1) := by decide +kernel
theorem dL_law_406 : decode cL_law 406 = .ok (.iconst 1, 1) := by decide +kernel
theorem dL_law_407 : decode cL_law 407 = .ok (.iadd, 1) := by decide +kernel
theorem dL_law_408 : decode cL_law 408 = .ok (.iaload, 1) := by decide +kernel
theorem dL_law_409 : decode cL_law 409 = .ok (.aload_n 0, 1) := by decide +kernel
theorem dL_law_410 : decode cL_law 410 = .ok (.iload_n 3, 1) := by decide +kernel
theorem dL_law_411 : decode cL_law 411 = .ok (.iconst 2, 1) := by decide +kernel
theorem dL_law_412 : decode cL_law 412 = .ok (.iadd, 1) := by decide +kernel
theorem dL_law_413 : decode cL_law 413 = .ok (.iaload, 1) := by decide +kernel
theorem dL_law_414 : decode cL_law 414 = .ok (.invokevirtual 44, 3) := by decide +kernel
theorem dL_law_417 : decode cL_law 417 = .ok (.aload_n 2, 1) := by decide +kernel
theorem dL_law_418 : decode cL_law 418 = .ok (.aload_n 0, 1) := by decide +kernel
theorem dL_law_419 : decode cL_law 419 = .ok (.iload_n 3, 1) := by decide +kernel
theorem dL_law_420 : decode cL_law 420 = .ok (.iconst 1, 1) := by decide +kernel
theorem dL_law_421 : decode cL_law 421 = .ok (.iadd, 1) := by decide +kernel
theorem dL_law_422 : decode cL_law 422 = .ok (.iaload, 1) := by decide +kernel
theorem dL_law_423 : decode cL_law 423 = .ok (.aload_n 0, 1) := by decide +kernel
theorem dL_law_424 : decode cL_law 424 = .ok (.iload_n 3, 1) := by decide +kernel
theorem dL_law_425 : decode cL_law 425 = .ok (.iconst 2, 1) := by decide +kernel
theorem dL_law_426 : decode cL_law 426 = .ok (.iadd, 1) := by decide +kernel
theorem dL_law_427 : decode cL_law 427 = .ok (.iaload, 1) := by decide +kernel
theorem dL_law_428 : decode cL_law 428 = .ok (.invokevirtual 47, 3) := by decide +kernel
theorem dL_law_431 : decode cL_law 431 = .ok (.if_icmp .eq 860, 3) := by decide +kernel
theorem dL_law_434 : decode cL_law 434 = .ok (.iconst 0, 1) := by decide +kernel
theorem dL_law_435 : decode cL_law 435 = .ok (.ireturn, 1) := by decide +kernel
theorem dL_law_436 : decode cL_law 436 = .ok (.aload_n 1, 1) := by decide +kernel
theorem dL_law_437 : decode cL_law 437 = .ok (.aload_n 0, 1) := by decide +kernel
theorem dL_law_438 : decode cL_law 438 = .ok (.iload_n 3, 1) := by decide +kernel
theorem dL_law_439 : decode cL_law 439 = .ok (.iconst 1, 1) := by decide +kernel
theorem dL_law_440 : decode cL_law 440 = .ok (.iadd, 1) := by decide +kernel
theorem dL_law_441 : decode cL_law 441 = .ok (.iaload, 1) := by decide +kernel
theorem dL_law_442 : decode cL_law 442 = .ok (.aload_n 0, 1) := by decide +kernel
theorem dL_law_443 : decode cL_law 443 = .ok (.iload_n 3, 1) := by decide +kernel
theorem dL_law_444 : decode cL_law 444 = .ok (.iconst 2, 1) := by decide +kernel
theorem dL_law_445 : decode cL_law 445 = .ok (.iadd, 1) := by decide +kernel
theorem dL_law_446 : decode cL_law 446 = .ok (.iaload, 1) := by decide +kernel
theorem dL_law_447 : decode cL_law 447 = .ok (.invokevirtual 48, 3) := by decide +kernel
theorem dL_law_450 : decode cL_law 450 = .ok (.aload_n 2, 1) := by decide +kernel
theorem dL_law_451 : decode cL_law 451 = .ok (.aload_n 0, 1) := by decide +kernel
theorem dL_law_452 : decode cL_law 452 = .ok (.iload_n 3, 1) := by decide +kernel
theorem dL_law_453 : decode cL_law 453 = .ok (.iconst 1, 1) := by decide +kernel
theorem dL_law_454 : decode cL_law 454 = .ok (.iadd, 1) := by decide +kernel
theorem dL_law_455 : decode cL_law 455 = .ok (.iaload, 1) := by decide +kernel
theorem dL_law_456 : decode cL_law 456 = .ok (.aload_n 0, 1) := by decide +kernel
theorem dL_law_457 : decode cL_law 457 = .ok (.iload_n 3, 1) := by decide +kernel
theorem dL_law_458 : decode cL_law 458 = .ok (.iconst 2, 1) := by decide +kernel
theorem dL_law_459 : decode cL_law 459 = .ok (.iadd, 1) := by decide +kernel
theorem dL_law_460 : decode cL_law 460 = .ok (.iaload, 1) := by decide +kernel
theorem dL_law_461 : decode cL_law 461 = .ok (.invokevirtual 51, 3) := by decide +kernel
theorem dL_law_464 : decode cL_law 464 = .ok (.if_icmp .eq 827, 3) := by decide +kernel
theorem dL_law_467 : decode cL_law 467 = .ok (.iconst 0, 1) := by decide +kernel
theorem dL_law_468 : decode cL_law 468 = .ok (.ireturn, 1) := by decide +kernel
theorem dL_law_469 : decode cL_law 469 = .ok (.aload_n 1, 1) := by decide +kernel
theorem dL_law_470 : decode cL_law 470 = .ok (.aload_n 0, 1) := by decide +kernel
theorem dL_law_471 : decode cL_law 471 = .ok (.iload_n 3, 1) := by decide +kernel
theorem dL_law_472 : decode cL_law 472 = .ok (.iconst 1, 1) := by decide +kernel
theorem dL_law_473 : decode cL_law 473 = .ok (.iadd, 1) := by decide +kernel
theorem dL_law_474 : decode cL_law 474 = .ok (.iaload, 1) := by decide +kernel
theorem dL_law_475 : decode cL_law 475 = .ok (.invokevirtual 52, 3) := by decide +kernel
theorem dL_law_478 : decode cL_law 478 = .ok (.aload_n 2, 1) := by decide +kernel
theorem dL_law_479 : decode cL_law 479 = .ok (.aload_n 0, 1) := by decide +kernel
theorem dL_law_480 : decode cL_law 480 = .ok (.iload_n 3, 1) := by decide +kernel
theorem dL_law_481 : decode cL_law 481 = .ok (.iconst 1, 1) := by decide +kernel
theorem dL_law_482 : decode cL_law 482 = .ok (.iadd, 1) := by decide +kernel
theorem dL_law_483 : decode cL_law 483 = .ok (.iaload, 1) := by decide +kernel
theorem dL_law_484 : decode cL_law 484 = .ok (.invokevirtual 55, 3) := by decide +kernel
theorem dL_law_487 : decode cL_law 487 = .ok (.if_icmp .eq 804, 3) := by decide +kernel
theorem dL_law_490 : decode cL_law 490 = .ok (.iconst 0, 1) := by decide +kernel
theorem dL_law_491 : decode cL_law 491 = .ok (.ireturn, 1) := by decide +kernel
theorem dL_law_492 : decode cL_law 492 = .ok (.aload_n 1, 1) := by decide +kernel
theorem dL_law_493 : decode cL_law 493 = .ok (.aload_n 0, 1) := by decide +kernel
theorem dL_law_494 : decode cL_law 494 = .ok (.iload_n 3, 1) := by decide +kernel
theorem dL_law_495 : decode cL_law 495 = .ok (.iconst 1, 1) := by decide +kernel
theorem dL_law_496 : decode cL_law 496 = .ok (.iadd, 1) := by decide +kernel
theorem dL_law_497 : decode cL_law 497 = .ok (.iaload, 1) := by decide +kernel
theorem dL_law_498 : decode cL_law 498 = .ok (.aload_n 0, 1) := by decide +kernel
theorem dL_law_499 : decode cL_law 499 = .ok (.iload_n 3, 1) := by decide +kernel
theorem dL_law_500 : decode cL_law 500 = .ok (.iconst 2, 1) := by decide +kernel
theorem dL_law_501 : decode cL_law 501 = .ok (.iadd, 1) := by decide +kernel
theorem dL_law_502 : decode cL_law 502 = .ok (.iaload, 1) := by decide +kernel
theorem dL_law_503 : decode cL_law 503 = .ok (.aload_n 0, 1) := by decide +kernel
theorem dL_law_504 : decode cL_law 504 = .ok (.iload_n 3, 1) := by decide +kernel
theorem dL_law_505 : decode cL_law 505 = .ok (.iconst 3, 1) := by decide +kernel
theorem dL_law_506 : decode cL_law 506 = .ok (.iadd, 1) := by decide +kernel
theorem dL_law_507 : decode cL_law 507 = .ok (.iaload, 1) := by decide +kernel
theorem dL_law_508 : decode cL_law 508 = .ok (.invokevirtual 56, 3) := by decide +kernel
theorem dL_law_511 : decode cL_law 511 = .ok (.aload_n 2, 1) := by decide +kernel
theorem dL_law_512 : decode cL_law 512 = .ok (.aload_n 0, 1) := by decide +kernel
theorem dL_law_513 : decode cL_law 513 = .ok (.iload_n 3, 1) := by decide +kernel
theorem dL_law_514 : decode cL_law 514 = .ok (.iconst 1, 1) := by decide +kernel
theorem dL_law_515 : decode cL_law 515 = .ok (.iadd, 1) := by decide +kernel
theorem dL_law_516 : decode cL_law 516 = .ok (.iaload, 1) := by decide +kernel
theorem dL_law_517 : decode cL_law 517 = .ok (.aload_n 0, 1) := by decide +kernel
theorem dL_law_518 : decode cL_law 518 = .ok (.iload_n 3, 1) := by decide +kernel
theorem dL_law_519 : decode cL_law 519 = .ok (.iconst 2, 1) := by decide +kernel
theorem dL_law_520 : decode cL_law 520 = .ok (.iadd, 1) := by decide +kernel
theorem dL_law_521 : decode cL_law 521 = .ok (.iaload, 1) := by decide +kernel
theorem dL_law_522 : decode cL_law 522 = .ok (.aload_n 0, 1) := by decide +kernel
theorem dL_law_523 : decode cL_law 523 = .ok (.iload_n 3, 1) := by decide +kernel
theorem dL_law_524 : decode cL_law 524 = .ok (.iconst 3, 1) := by decide +kernel
theorem dL_law_525 : decode cL_law 525 = .ok (.iadd, 1) := by decide +kernel
theorem dL_law_526 : decode cL_law 526 = .ok (.iaload, 1) := by decide +kernel
theorem dL_law_527 : decode cL_law 527 = .ok (.invokevirtual 59, 3) := by decide +kernel
theorem dL_law_530 : decode cL_law 530 = .ok (.if_icmp .eq 761, 3) := by decide +kernel
theorem dL_law_533 : decode cL_law 533 = .ok (.iconst 0, 1) := by decide +kernel
theorem dL_law_534 : decode cL_law 534 = .ok (.ireturn, 1) := by decide +kernel
theorem dL_law_535 : decode cL_law 535 = .ok (.aload_n 1, 1) := by decide +kernel
theorem dL_law_536 : decode cL_law 536 = .ok (.aload_n 0, 1) := by decide +kernel
theorem dL_law_537 : decode cL_law 537 = .ok (.iload_n 3, 1) := by decide +kernel
theorem dL_law_538 : decode cL_law 538 = .ok (.iconst 1, 1) := by decide +kernel
theorem dL_law_539 : decode cL_law 539 = .ok (.iadd, 1) := by decide +kernel
theorem dL_law_540 : decode cL_law 540 = .ok (.iaload, 1) := by decide +kernel
theorem dL_law_541 : decode cL_law 541 = .ok (.aload_n 0, 1) := by decide +kernel
theorem dL_law_542 : decode cL_law 542 = .ok (.iload_n 3, 1) := by decide +kernel
theorem dL_law_543 : decode cL_law 543 = .ok (.iconst 2, 1) := by decide +kernel
theorem dL_law_544 : decode cL_law 544 = .ok (.iadd, 1) := by decide +kernel
theorem dL_law_545 : decode cL_law 545 = .ok (.iaload, 1) := by decide +kernel
theorem dL_law_546 : decode cL_law 546 = .ok (.invokevirtual 60, 3) := by decide +kernel
theorem dL_law_549 : decode cL_law 549 = .ok (.aload_n 2, 1) := by decide +kernel
theorem dL_law_550 : decode cL_law 550 = .ok (.aload_n 0, 1) := by decide +kernel
theorem dL_law_551 : decode cL_law 551 = .ok (.iload_n 3, 1) := by decide +kernel
theorem dL_law_552 : decode cL_law 552 = .ok (.iconst 1, 1) := by decide +kernel
theorem dL_law_553 : decode cL_law 553 = .ok (.iadd, 1) := by decide +kernel
theorem dL_law_554 : decode cL_law 554 = .ok (.iaload, 1) := by decide +kernel
theorem dL_law_555 : decode cL_law 555 = .ok (.aload_n 0, 1) := by decide +kernel
theorem dL_law_556 : decode cL_law 556 = .ok (.iload_n 3, 1) := by decide +kernel
theorem dL_law_557 : decode cL_law 557 = .ok (.iconst 2, 1) := by decide +kernel
theorem dL_law_558 : decode cL_law 558 = .ok (.iadd, 1) := by decide +kernel
theorem dL_law_559 : decode cL_law 559 = .ok (.iaload, 1) := by decide +kernel
theorem dL_law_560 : decode cL_law 560 = .ok (.invokevirtual 63, 3) := by decide +kernel
theorem dL_law_563 : decode cL_law 563 = .ok (.if_icmp .eq 728, 3) := by decide +kernel
theorem dL_law_566 : decode cL_law 566 = .ok (.iconst 0, 1) := by decide +kernel
theorem dL_law_567 : decode cL_law 567 = .ok (.ireturn, 1) := by decide +kernel
theorem dL_law_568 : decode cL_law 568 = .ok (.aload_n 1, 1) := by decide +kernel
theorem dL_law_569 : decode cL_law 569 = .ok (.invokevirtual 64, 3) := by decide +kernel
theorem dL_law_572 : decode cL_law 572 = .ok (.aload_n 2, 1) := by decide +kernel
theorem dL_law_573 : decode cL_law 573 = .ok (.invokevirtual 68, 3) := by decide +kernel
theorem dL_law_576 : decode cL_law 576 = .ok (.if_icmp .eq 715, 3) := by decide +kernel
theorem dL_law_579 : decode cL_law 579 = .ok (.iconst 0, 1) := by decide +kernel
theorem dL_law_580 : decode cL_law 580 = .ok (.ireturn, 1) := by decide +kernel
theorem dL_law_581 : decode cL_law 581 = .ok (.aload_n 1, 1) := by decide +kernel
theorem dL_law_582 : decode cL_law 582 = .ok (.aload_n 0, 1) := by decide +kernel
theorem dL_law_583 : decode cL_law 583 = .ok (.iload_n 3, 1) := by decide +kernel
theorem dL_law_584 : decode cL_law 584 = .ok (.iconst 1, 1) := by decide +kernel
theorem dL_law_585 : decode cL_law 585 = .ok (.iadd, 1) := by decide +kernel
theorem dL_law_586 : decode cL_law 586 = .ok (.iaload, 1) := by decide +kernel
theorem dL_law_587 : decode cL_law 587 = .ok (.aload_n 0, 1) := by decide +kernel
theorem dL_law_588 : decode cL_law 588 = .ok (.iload_n 3, 1) := by decide +kernel
theorem dL_law_589 : decode cL_law 589 = .ok (.iconst 2, 1) := by decide +kernel
theorem dL_law_590 : decode cL_law 590 = .ok (.iadd, 1) := by decide +kernel
theorem dL_law_591 : decode cL_law 591 = .ok (.iaload, 1) := by decide +kernel
theorem dL_law_592 : decode cL_law 592 = .ok (.invokevirtual 69, 3) := by decide +kernel
theorem dL_law_595 : decode cL_law 595 = .ok (.aload_n 2, 1) := by decide +kernel
theorem dL_law_596 : decode cL_law 596 = .ok (.aload_n 0, 1) := by decide +kernel
theorem dL_law_597 : decode cL_law 597 = .ok (.iload_n 3, 1) := by decide +kernel
theorem dL_law_598 : decode cL_law 598 = .ok (.iconst 1, 1) := by decide +kernel
theorem dL_law_599 : decode cL_law 599 = .ok (.iadd, 1) := by decide +kernel
theorem dL_law_600 : decode cL_law 600 = .ok (.iaload, 1) := by decide +kernel
theorem dL_law_601 : decode cL_law 601 = .ok (.aload_n 0, 1) := by decide +kernel
theorem dL_law_602 : decode cL_law 602 = .ok (.iload_n 3, 1) := by decide +kernel
theorem dL_law_603 : decode cL_law 603 = .ok (.iconst 2, 1) := by decide +kernel
theorem dL_law_604 : decode cL_law 604 = .ok (.iadd, 1) := by decide +kernel
theorem dL_law_605 : decode cL_law 605 = .ok (.iaload, 1) := by decide +kernel
theorem dL_law_606 : decode cL_law 606 = .ok (.invokevirtual 72, 3) := by decide +kernel
theorem dL_law_609 : decode cL_law 609 = .ok (.if_icmp .eq 682, 3) := by decide +kernel
theorem dL_law_612 : decode cL_law 612 = .ok (.iconst 0, 1) := by decide +kernel
theorem dL_law_613 : decode cL_law 613 = .ok (.ireturn, 1) := by decide +kernel
theorem dL_law_614 : decode cL_law 614 = .ok (.aload_n 1, 1) := by decide +kernel
theorem dL_law_615 : decode cL_law 615 = .ok (.aload_n 0, 1) := by decide +kernel
theorem dL_law_616 : decode cL_law 616 = .ok (.iload_n 3, 1) := by decide +kernel
theorem dL_law_617 : decode cL_law 617 = .ok (.iconst 1, 1) := by decide +kernel
theorem dL_law_618 : decode cL_law 618 = .ok (.iadd, 1) := by decide +kernel
theorem dL_law_619 : decode cL_law 619 = .ok (.iaload, 1) := by decide +kernel
theorem dL_law_620 : decode cL_law 620 = .ok (.invokevirtual 73, 3) := by decide +kernel
theorem dL_law_623 : decode cL_law 623 = .ok (.aload_n 2, 1) := by decide +kernel
theorem dL_law_624 : decode cL_law 624 = .ok (.aload_n 0, 1) := by decide +kernel
theorem dL_law_625 : decode cL_law 625 = .ok (.iload_n 3, 1) := by decide +kernel
theorem dL_law_626 : decode cL_law 626 = .ok (.iconst 1, 1) := by decide +kernel
theorem dL_law_627 : decode cL_law 627 = .ok (.iadd, 1) := by decide +kernel
theorem dL_law_628 : decode cL_law 628 = .ok (.iaload, 1) := by decide +kernel
theorem dL_law_629 : decode cL_law 629 = .ok (.invokevirtual 76, 3) := by decide +kernel
theorem dL_law_632 : decode cL_law 632 = .ok (.if_icmp .eq 659, 3) := by decide +kernel
theorem dL_law_635 : decode cL_law 635 = .ok (.iconst 0, 1) := by decide +kernel
theorem dL_law_636 : decode cL_law 636 = .ok (.ireturn, 1) := by decide +kernel
theorem dL_law_637 : decode cL_law 637 = .ok (.aload_n 1, 1) := by decide +kernel
theorem dL_law_638 : decode cL_law 638 = .ok (.aload_n 0, 1) := by decide +kernel
theorem dL_law_639 : decode cL_law 639 = .ok (.iload_n 3, 1) := by decide +kernel
theorem dL_law_640 : decode cL_law 640 = .ok (.iconst 1, 1) := by decide +kernel
theorem dL_law_641 : decode cL_law 641 = .ok (.iadd, 1) := by decide +kernel
theorem dL_law_642 : decode cL_law 642 = .ok (.iaload, 1) := by decide +kernel
theorem dL_law_643 : decode cL_law 643 = .ok (.aload_n 0, 1) := by decide +kernel
theorem dL_law_644 : decode cL_law 644 = .ok (.iload_n 3, 1) := by decide +kernel
theorem dL_law_645 : decode cL_law 645 = .ok (.iconst 2, 1) := by decide +kernel
theorem dL_law_646 : decode cL_law 646 = .ok (.iadd, 1) := by decide +kernel
theorem dL_law_647 : decode cL_law 647 = .ok (.iaload, 1) := by decide +kernel
theorem dL_law_648 : decode cL_law 648 = .ok (.invokevirtual 77, 3) := by decide +kernel
theorem dL_law_651 : decode cL_law 651 = .ok (.aload_n 2, 1) := by decide +kernel
theorem dL_law_652 : decode cL_law 652 = .ok (.aload_n 0, 1) := by decide +kernel
theorem dL_law_653 : decode cL_law 653 = .ok (.iload_n 3, 1) := by decide +kernel
theorem dL_law_654 : decode cL_law 654 = .ok (.iconst 1, 1) := by decide +kernel
theorem dL_law_655 : decode cL_law 655 = .ok (.iadd, 1) := by decide +kernel
theorem dL_law_656 : decode cL_law 656 = .ok (.iaload, 1) := by decide +kernel
theorem dL_law_657 : decode cL_law 657 = .ok (.aload_n 0, 1) := by decide +kernel
theorem dL_law_658 : decode cL_law 658 = .ok (.iload_n 3, 1) := by decide +kernel
theorem dL_law_659 : decode cL_law 659 = .ok (.iconst 2, 1) := by decide +kernel
theorem dL_law_660 : decode cL_law 660 = .ok (.iadd, 1) := by decide +kernel
theorem dL_law_661 : decode cL_law 661 = .ok (.iaload, 1) := by decide +kernel
theorem dL_law_662 : decode cL_law 662 = .ok (.invokevirtual 80, 3) := by decide +kernel
theorem dL_law_665 : decode cL_law 665 = .ok (.if_icmp .eq 626, 3) := by decide +kernel
theorem dL_law_668 : decode cL_law 668 = .ok (.iconst 0, 1) := by decide +kernel
theorem dL_law_669 : decode cL_law 669 = .ok (.ireturn, 1) := by decide +kernel
theorem dL_law_670 : decode cL_law 670 = .ok (.aload_n 1, 1) := by decide +kernel
theorem dL_law_671 : decode cL_law 671 = .ok (.aload_n 0, 1) := by decide +kernel
theorem dL_law_672 : decode cL_law 672 = .ok (.iload_n 3, 1) := by decide +kernel
theorem dL_law_673 : decode cL_law 673 = .ok (.iconst 1, 1) := by decide +kernel
theorem dL_law_674 : decode cL_law 674 = .ok (.iadd, 1) := by decide +kernel
theorem dL_law_675 : decode cL_law 675 = .ok (.iaload, 1) := by decide +kernel
theorem dL_law_676 : decode cL_law 676 = .ok (.aload_n 0, 1) := by decide +kernel
theorem dL_law_677 : decode cL_law 677 = .ok (.iload_n 3, 1) := by decide +kernel
theorem dL_law_678 : decode cL_law 678 = .ok (.iconst 2, 1) := by decide +kernel
theorem dL_law_679 : decode cL_law 679 = .ok (.iadd, 1) := by decide +kernel
theorem dL_law_680 : decode cL_law 680 = .ok (.iaload, 1) := by decide +kernel
theorem dL_law_681 : decode cL_law 681 = .ok (.invokevirtual 81, 3) := by decide +kernel
theorem dL_law_684 : decode cL_law 684 = .ok (.aload_n 2, 1) := by decide +kernel
theorem dL_law_685 : decode cL_law 685 = .ok (.aload_n 0, 1) := by decide +kernel
theorem dL_law_686 : decode cL_law 686 = .ok (.iload_n 3, 1) := by decide +kernel
theorem dL_law_687 : decode cL_law 687 = .ok (.iconst 1, 1) := by decide +kernel
theorem dL_law_688 : decode cL_law 688 = .ok (.iadd, 1) := by decide +kernel
theorem dL_law_689 : decode cL_law 689 = .ok (.iaload, 1) := by decide +kernel
theorem dL_law_690 : decode cL_law 690 = .ok (.aload_n 0, 1) := by decide +kernel
theorem dL_law_691 : decode cL_law 691 = .ok (.iload_n 3, 1) := by decide +kernel
theorem dL_law_692 : decode cL_law 692 = .ok (.iconst 2, 1) := by decide +kernel
theorem dL_law_693 : decode cL_law 693 = .ok (.iadd, 1) := by decide +kernel
theorem dL_law_694 : decode cL_law 694 = .ok (.iaload, 1) := by decide +kernel
theorem dL_law_695 : decode cL_law 695 = .ok (.invokevirtual 84, 3) := by decide +kernel
theorem dL_law_698 : decode cL_law 698 = .ok (.if_icmp .eq 593, 3) := by decide +kernel
theorem dL_law_701 : decode cL_law 701 = .ok (.iconst 0, 1) := by decide +kernel
theorem dL_law_702 : decode cL_law 702 = .ok (.ireturn, 1) := by decide +kernel
theorem dL_law_703 : decode cL_law 703 = .ok (.aload_n 1, 1) := by decide +kernel
theorem dL_law_704 : decode cL_law 704 = .ok (.aload_n 0, 1) := by decide +kernel
theorem dL_law_705 : decode cL_law 705 = .ok (.iload_n 3, 1) := by decide +kernel
theorem dL_law_706 : decode cL_law 706 = .ok (.iconst 1, 1) := by decide +kernel
theorem dL_law_707 : decode cL_law 707 = .ok (.iadd, 1) := by decide +kernel
theorem dL_law_708 : decode cL_law 708 = .ok (.iaload, 1) := by decide +kernel
theorem dL_law_709 : decode cL_law 709 = .ok (.aload_n 0, 1) := by decide +kernel
theorem dL_law_710 : decode cL_law 710 = .ok (.iload_n 3, 1) := by decide +kernel
theorem dL_law_711 : decode cL_law 711 = .ok (.iconst 2, 1) := by decide +kernel
theorem dL_law_712 : decode cL_law 712 = .ok (.iadd, 1) := by decide +kernel
theorem dL_law_713 : decode cL_law 713 = .ok (.iaload, 1) := by decide +kernel
theorem dL_law_714 : decode cL_law 714 = .ok (.aload_n 0, 1) := by decide +kernel
theorem dL_law_715 : decode cL_law 715 = .ok (.iload_n 3, 1) := by decide +kernel
theorem dL_law_716 : decode cL_law 716 = .ok (.iconst 3, 1) := by decide +kernel
theorem dL_law_717 : decode cL_law 717 = .ok (.iadd, 1) := by decide +kernel
theorem dL_law_718 : decode cL_law 718 = .ok (.iaload, 1) := by decide +kernel
theorem dL_law_719 : decode cL_law 719 = .ok (.invokevirtual 85, 3) := by decide +kernel
theorem dL_law_722 : decode cL_law 722 = .ok (.aload_n 2, 1) := by decide +kernel
theorem dL_law_723 : decode cL_law 723 = .ok (.aload_n 0, 1) := by decide +kernel
theorem dL_law_724 : decode cL_law 724 = .ok (.iload_n 3, 1) := by decide +kernel
theorem dL_law_725 : decode cL_law 725 = .ok (.iconst 1, 1) := by decide +kernel
theorem dL_law_726 : decode cL_law 726 = .ok (.iadd, 1) := by decide +kernel
theorem dL_law_727 : decode cL_law 727 = .ok (.iaload, 1) := by decide +kernel
theorem dL_law_728 : decode cL_law 728 = .ok (.aload_n 0, 1) := by decide +kernel
theorem dL_law_729 : decode cL_law 729 = .ok (.iload_n 3, 1) := by decide +kernel
theorem dL_law_730 : decode cL_law 730 = .ok (.iconst 2, 1) := by decide +kernel
theorem dL_law_731 : decode cL_law 731 = .ok (.iadd, 1) := by decide +kernel
theorem dL_law_732 : decode cL_law 732 = .ok (.iaload, 1) := by decide +kernel
theorem dL_law_733 : decode cL_law 733 = .ok (.aload_n 0, 1) := by decide +kernel
theorem dL_law_734 : decode cL_law 734 = .ok (.iload_n 3, 1) := by decide +kernel
theorem dL_law_735 : decode cL_law 735 = .ok (.iconst 3, 1) := by decide +kernel
theorem dL_law_736 : decode cL_law 736 = .ok (.iadd, 1) := by decide +kernel
theorem dL_law_737 : decode cL_law 737 = .ok (.iaload, 1) := by decide +kernel
theorem dL_law_738 : decode cL_law 738 = .ok (.invokevirtual 88, 3) := by decide +kernel
theorem dL_law_741 : decode cL_law 741 = .ok (.if_icmp .eq 550, 3) := by decide +kernel
theorem dL_law_744 : decode cL_law 744 = .ok (.iconst 0, 1) := by decide +kernel
theorem dL_law_745 : decode cL_law 745 = .ok (.ireturn, 1) := by decide +kernel
theorem dL_law_746 : decode cL_law 746 = .ok (.aload_n 1, 1) := by decide +kernel
theorem dL_law_747 : decode cL_law 747 = .ok (.aload_n 0, 1) := by decide +kernel
theorem dL_law_748 : decode cL_law 748 = .ok (.iload_n 3, 1) := by decide +kernel
theorem dL_law_749 : decode cL_law 749 = .ok (.iconst 1, 1) := by decide +kernel
theorem dL_law_750 : decode cL_law 750 = .ok (.iadd, 1) := by decide +kernel
theorem dL_law_751 : decode cL_law 751 = .ok (.iaload, 1) := by decide +kernel
theorem dL_law_752 : decode cL_law 752 = .ok (.invokevirtual 89, 3) := by decide +kernel
theorem dL_law_755 : decode cL_law 755 = .ok (.aload_n 2, 1) := by decide +kernel
theorem dL_law_756 : decode cL_law 756 = .ok (.aload_n 0, 1) := by decide +kernel
theorem dL_law_757 : decode cL_law 757 = .ok (.iload_n 3, 1) := by decide +kernel
theorem dL_law_758 : decode cL_law 758 = .ok (.iconst 1, 1) := by decide +kernel
theorem dL_law_759 : decode cL_law 759 = .ok (.iadd, 1) := by decide +kernel
theorem dL_law_760 : decode cL_law 760 = .ok (.iaload, 1) := by decide +kernel
theorem dL_law_761 : decode cL_law 761 = .ok (.invokevirtual 92, 3) := by decide +kernel
theorem dL_law_764 : decode cL_law 764 = .ok (.if_icmp .eq 527, 3) := by decide +kernel
theorem dL_law_767 : decode cL_law 767 = .ok (.iconst 0, 1) := by decide +kernel
theorem dL_law_768 : decode cL_law 768 = .ok (.ireturn, 1) := by decide +kernel
theorem dL_law_769 : decode cL_law 769 = .ok (.aload_n 1, 1) := by decide +kernel
theorem dL_law_770 : decode cL_law 770 = .ok (.aload_n 0, 1) := by decide +kernel
theorem dL_law_771 : decode cL_law 771 = .ok (.iload_n 3, 1) := by decide +kernel
theorem dL_law_772 : decode cL_law 772 = .ok (.iconst 1, 1) := by decide +kernel
theorem dL_law_773 : decode cL_law 773 = .ok (.iadd, 1) := by decide +kernel
theorem dL_law_774 : decode cL_law 774 = .ok (.iaload, 1) := by decide +kernel
theorem dL_law_775 : decode cL_law 775 = .ok (.aload_n 0, 1) := by decide +kernel
theorem dL_law_776 : decode cL_law 776 = .ok (.iload_n 3, 1) := by decide +kernel
theorem dL_law_777 : decode cL_law 777 = .ok (.iconst 2, 1) := by decide +kernel
theorem dL_law_778 : decode cL_law 778 = .ok (.iadd, 1) := by decide +kernel
theorem dL_law_779 : decode cL_law 779 = .ok (.iaload, 1) := by decide +kernel
theorem dL_law_780 : decode cL_law 780 = .ok (.aload_n 0, 1) := by decide +kernel
theorem dL_law_781 : decode cL_law 781 = .ok (.iload_n 3, 1) := by decide +kernel
theorem dL_law_782 : decode cL_law 782 = .ok (.iconst 3, 1) := by decide +kernel
theorem dL_law_783 : decode cL_law 783 = .ok (.iadd, 1) := by decide +kernel
theorem dL_law_784 : decode cL_law 784 = .ok (.iaload, 1) := by decide +kernel
theorem dL_law_785 : decode cL_law 785 = .ok (.invokevirtual 93, 3) := by decide +kernel
theorem dL_law_788 : decode cL_law 788 = .ok (.aload_n 2, 1) := by decide +kernel
theorem dL_law_789 : decode cL_law 789 = .ok (.aload_n 0, 1) := by decide +kernel
theorem dL_law_790 : decode cL_law 790 = .ok (.iload_n 3, 1) := by decide +kernel
theorem dL_law_791 : decode cL_law 791 = .ok (.iconst 1, 1) := by decide +kernel
theorem dL_law_792 : decode cL_law 792 = .ok (.iadd, 1) := by decide +kernel
theorem dL_law_793 : decode cL_law 793 = .ok (.iaload, 1) := by decide +kernel
theorem dL_law_794 : decode cL_law 794 = .ok (.aload_n 0, 1) := by decide +kernel
theorem dL_law_795 : decode cL_law 795 = .ok (.iload_n 3, 1) := by decide +kernel
theorem dL_law_796 : decode cL_law 796 = .ok (.iconst 2, 1) := by decide +kernel
theorem dL_law_797 : decode cL_law 797 = .ok (.iadd, 1) := by decide +kernel
theorem dL_law_798 : decode cL_law 798 = .ok (.iaload, 1) := by decide +kernel
theorem dL_law_799 : decode cL_law 799 = .ok (.aload_n 0, 1) := by decide +kernel
theorem dL_law_800 : decode cL_law 800 = .ok (.iload_n 3, 1) := by decide +kernel
theorem dL_law_801 : decode cL_law 801 = .ok (.iconst 3, 1) := by decide +kernel
theorem dL_law_802 : decode cL_law 802 = .ok (.iadd, 1) := by decide +kernel
theorem dL_law_803 : decode cL_law 803 = .ok (.iaload, 1) := by decide +kernel
theorem dL_law_804 : decode cL_law 804 = .ok (.invokevirtual 96, 3) := by decide +kernel
theorem dL_law_807 : decode cL_law 807 = .ok (.if_icmp .eq 484, 3) := by decide +kernel
theorem dL_law_810 : decode cL_law 810 = .ok (.iconst 0, 1) := by decide +kernel
theorem dL_law_811 : decode cL_law 811 = .ok (.ireturn, 1) := by decide +kernel
theorem dL_law_812 : decode cL_law 812 = .ok (.aload_n 1, 1) := by decide +kernel
theorem dL_law_813 : decode cL_law 813 = .ok (.aload_n 0, 1) := by decide +kernel
theorem dL_law_814 : decode cL_law 814 = .ok (.iload_n 3, 1) := by decide +kernel
theorem dL_law_815 : decode cL_law 815 = .ok (.iconst 1, 1) := by decide +kernel
theorem dL_law_816 : decode cL_law 816 = .ok (.iadd, 1) := by decide +kernel
theorem dL_law_817 : decode cL_law 817 = .ok (.iaload, 1) := by decide +kernel
theorem dL_law_818 : decode cL_law 818 = .ok (.aload_n 0, 1) := by decide +kernel
theorem dL_law_819 : decode cL_law 819 = .ok (.iload_n 3, 1) := by decide +kernel
theorem dL_law_820 : decode cL_law 820 = .ok (.iconst 2, 1) := by decide +kernel
theorem dL_law_821 : decode cL_law 821 = .ok (.iadd, 1) := by decide +kernel
theorem dL_law_822 : decode cL_law 822 = .ok (.iaload, 1) := by decide +kernel
theorem dL_law_823 : decode cL_law 823 = .ok (.invokevirtual 97, 3) := by decide +kernel
theorem dL_law_826 : decode cL_law 826 = .ok (.aload_n 2, 1) := by decide +kernel
theorem dL_law_827 : decode cL_law 827 = .ok (.aload_n 0, 1) := by decide +kernel
theorem dL_law_828 : decode cL_law 828 = .ok (.iload_n 3, 1) := by decide +kernel
theorem dL_law_829 : decode cL_law 829 = .ok (.iconst 1, 1) := by decide +kernel
theorem dL_law_830 : decode cL_law 830 = .ok (.iadd, 1) := by decide +kernel
theorem dL_law_831 : decode cL_law 831 = .ok (.iaload, 1) := by decide +kernel
theorem dL_law_832 : decode cL_law 832 = .ok (.aload_n 0, 1) := by decide +kernel
theorem dL_law_833 : decode cL_law 833 = .ok (.iload_n 3, 1) := by decide +kernel
theorem dL_law_834 : decode cL_law 834 = .ok (.iconst 2, 1) := by decide +kernel
theorem dL_law_835 : decode cL_law 835 = .ok (.iadd, 1) := by decide +kernel
theorem dL_law_836 : decode cL_law 836 = .ok (.iaload, 1) := by decide +kernel
theorem dL_law_837 : decode cL_law 837 = .ok (.invokevirtual 100, 3) := by decide +kernel
theorem dL_law_840 : decode cL_law 840 = .ok (.if_icmp .eq 451, 3) := by decide +kernel
theorem dL_law_843 : decode cL_law 843 = .ok (.iconst 0, 1) := by decide +kernel
theorem dL_law_844 : decode cL_law 844 = .ok (.ireturn, 1) := by decide +kernel
theorem dL_law_845 : decode cL_law 845 = .ok (.aload_n 1, 1) := by decide +kernel
theorem dL_law_846 : decode cL_law 846 = .ok (.aload_n 0, 1) := by decide +kernel
theorem dL_law_847 : decode cL_law 847 = .ok (.iload_n 3, 1) := by decide +kernel
theorem dL_law_848 : decode cL_law 848 = .ok (.iconst 1, 1) := by decide +kernel
theorem dL_law_849 : decode cL_law 849 = .ok (.iadd, 1) := by decide +kernel
theorem dL_law_850 : decode cL_law 850 = .ok (.iaload, 1) := by decide +kernel
theorem dL_law_851 : decode cL_law 851 = .ok (.invokevirtual 101, 3) := by decide +kernel
theorem dL_law_854 : decode cL_law 854 = .ok (.aload_n 2, 1) := by decide +kernel
theorem dL_law_855 : decode cL_law 855 = .ok (.aload_n 0, 1) := by decide +kernel
theorem dL_law_856 : decode cL_law 856 = .ok (.iload_n 3, 1) := by decide +kernel
theorem dL_law_857 : decode cL_law 857 = .ok (.iconst 1, 1) := by decide +kernel
theorem dL_law_858 : decode cL_law 858 = .ok (.iadd, 1) := by decide +kernel
theorem dL_law_859 : decode cL_law 859 = .ok (.iaload, 1) := by decide +kernel
theorem dL_law_860 : decode cL_law 860 = .ok (.invokevirtual 104, 3) := by decide +kernel
theorem dL_law_863 : decode cL_law 863 = .ok (.if_icmp .eq 428, 3) := by decide +kernel
theorem dL_law_866 : decode cL_law 866 = .ok (.iconst 0, 1) := by decide +kernel
theorem dL_law_867 : decode cL_law 867 = .ok (.ireturn, 1) := by decide +kernel
theorem dL_law_868 : decode cL_law 868 = .ok (.aload_n 1, 1) := by decide +kernel
theorem dL_law_869 : decode cL_law 869 = .ok (.aload_n 0, 1) := by decide +kernel
theorem dL_law_870 : decode cL_law 870 = .ok (.iload_n 3, 1) := by decide +kernel
theorem dL_law_871 : decode cL_law 871 = .ok (.iconst 1, 1) := by decide +kernel
theorem dL_law_872 : decode cL_law 872 = .ok (.iadd, 1) := by decide +kernel
theorem dL_law_873 : decode cL_law 873 = .ok (.iaload, 1) := by decide +kernel
theorem dL_law_874 : decode cL_law 874 = .ok (.aload_n 0, 1) := by decide +kernel
theorem dL_law_875 : decode cL_law 875 = .ok (.iload_n 3, 1) := by decide +kernel
theorem dL_law_876 : decode cL_law 876 = .ok (.iconst 2, 1) := by decide +kernel
theorem dL_law_877 : decode cL_law 877 = .ok (.iadd, 1) := by decide +kernel
theorem dL_law_878 : decode cL_law 878 = .ok (.iaload, 1) := by decide +kernel
theorem dL_law_879 : decode cL_law 879 = .ok (.invokevirtual 105, 3) := by decide +kernel
theorem dL_law_882 : decode cL_law 882 = .ok (.aload_n 2, 1) := by decide +kernel
theorem dL_law_883 : decode cL_law 883 = .ok (.aload_n 0, 1) := by decide +kernel
theorem dL_law_884 : decode cL_law 884 = .ok (.iload_n 3, 1) := by decide +kernel
theorem dL_law_885 : decode cL_law 885 = .ok (.iconst 1, 1) := by decide +kernel
theorem dL_law_886 : decode cL_law 886 = .ok (.iadd, 1) := by decide +kernel
theorem dL_law_887 : decode cL_law 887 = .ok (.iaload, 1) := by decide +kernel
theorem dL_law_888 : decode cL_law 888 = .ok (.aload_n 0, 1) := by decide +kernel
theorem dL_law_889 : decode cL_law 889 = .ok (.iload_n 3, 1) := by decide +kernel
theorem dL_law_890 : decode cL_law 890 = .ok (.iconst 2, 1) := by decide +kernel
theorem dL_law_891 : decode cL_law 891 = .ok (.iadd, 1) := by decide +kernel
theorem dL_law_892 : decode cL_law 892 = .ok (.iaload, 1) := by decide +kernel
theorem dL_law_893 : decode cL_law 893 = .ok (.invokevirtual 108, 3) := by decide +kernel
theorem dL_law_896 : decode cL_law 896 = .ok (.if_icmp .eq 395, 3) := by decide +kernel
theorem dL_law_899 : decode cL_law 899 = .ok (.iconst 0, 1) := by decide +kernel
theorem dL_law_900 : decode cL_law 900 = .ok (.ireturn, 1) := by decide +kernel
theorem dL_law_901 : decode cL_law 901 = .ok (.aload_n 1, 1) := by decide +kernel
theorem dL_law_902 : decode cL_law 902 = .ok (.invokevirtual 109, 3) := by decide +kernel
theorem dL_law_905 : decode cL_law 905 = .ok (.aload_n 2, 1) := by decide +kernel
theorem dL_law_906 : decode cL_law 906 = .ok (.invokevirtual 112, 3) := by decide +kernel
theorem dL_law_909 : decode cL_law 909 = .ok (.if_icmp .eq 382, 3) := by decide +kernel
theorem dL_law_912 : decode cL_law 912 = .ok (.iconst 0, 1) := by decide +kernel
theorem dL_law_913 : decode cL_law 913 = .ok (.ireturn, 1) := by decide +kernel
theorem dL_law_914 : decode cL_law 914 = .ok (.aload_n 1, 1) := by decide +kernel
theorem dL_law_915 : decode cL_law 915 = .ok (.invokevirtual 113, 3) := by decide +kernel
theorem dL_law_918 : decode cL_law 918 = .ok (.aload_n 2, 1) := by decide +kernel
theorem dL_law_919 : decode cL_law 919 = .ok (.invokevirtual 116, 3) := by decide +kernel
theorem dL_law_922 : decode cL_law 922 = .ok (.if_icmp .eq 369, 3) := by decide +kernel
theorem dL_law_925 : decode cL_law 925 = .ok (.iconst 0, 1) := by decide +kernel
theorem dL_law_926 : decode cL_law 926 = .ok (.ireturn, 1) := by decide +kernel
theorem dL_law_927 : decode cL_law 927 = .ok (.aload_n 1, 1) := by decide +kernel
theorem dL_law_928 : decode cL_law 928 = .ok (.aload_n 0, 1) := by decide +kernel
theorem dL_law_929 : decode cL_law 929 = .ok (.iload_n 3, 1) := by decide +kernel
theorem dL_law_930 : decode cL_law 930 = .ok (.iconst 1, 1) := by decide +kernel
theorem dL_law_931 : decode cL_law 931 = .ok (.iadd, 1) := by decide +kernel
theorem dL_law_932 : decode cL_law 932 = .ok (.iaload, 1) := by decide +kernel
theorem dL_law_933 : decode cL_law 933 = .ok (.aload_n 0, 1) := by decide +kernel
theorem dL_law_934 : decode cL_law 934 = .ok (.iload_n 3, 1) := by decide +kernel
theorem dL_law_935 : decode cL_law 935 = .ok (.iconst 2, 1) := by decide +kernel
theorem dL_law_936 : decode cL_law 936 = .ok (.iadd, 1) := by decide +kernel
theorem dL_law_937 : decode cL_law 937 = .ok (.iaload, 1) := by decide +kernel
theorem dL_law_938 : decode cL_law 938 = .ok (.aload_n 0, 1) := by decide +kernel
theorem dL_law_939 : decode cL_law 939 = .ok (.iload_n 3, 1) := by decide +kernel
theorem dL_law_940 : decode cL_law 940 = .ok (.iconst 3, 1) := by decide +kernel
theorem dL_law_941 : decode cL_law 941 = .ok (.iadd, 1) := by decide +kernel
theorem dL_law_942 : decode cL_law 942 = .ok (.iaload, 1) := by decide +kernel
theorem dL_law_943 : decode cL_law 943 = .ok (.invokevirtual 117, 3) := by decide +kernel
theorem dL_law_946 : decode cL_law 946 = .ok (.aload_n 2, 1) := by decide +kernel
theorem dL_law_947 : decode cL_law 947 = .ok (.aload_n 0, 1) := by decide +kernel
theorem dL_law_948 : decode cL_law 948 = .ok (.iload_n 3, 1) := by decide +kernel
theorem dL_law_949 : decode cL_law 949 = .ok (.iconst 1, 1) := by decide +kernel
theorem dL_law_950 : decode cL_law 950 = .ok (.iadd, 1) := by decide +kernel
theorem dL_law_951 : decode cL_law 951 = .ok (.iaload, 1) := by decide +kernel
theorem dL_law_952 : decode cL_law 952 = .ok (.aload_n 0, 1) := by decide +kernel
theorem dL_law_953 : decode cL_law 953 = .ok (.iload_n 3, 1) := by decide +kernel
theorem dL_law_954 : decode cL_law 954 = .ok (.iconst 2, 1) := by decide +kernel
theorem dL_law_955 : decode cL_law 955 = .ok (.iadd, 1) := by decide +kernel
theorem dL_law_956 : decode cL_law 956 = .ok (.iaload, 1) := by decide +kernel
theorem dL_law_957 : decode cL_law 957 = .ok (.aload_n 0, 1) := by decide +kernel
theorem dL_law_958 : decode cL_law 958 = .ok (.iload_n 3, 1) := by decide +kernel
theorem dL_law_959 : decode cL_law 959 = .ok (.iconst 3, 1) := by decide +kernel
theorem dL_law_960 : decode cL_law 960 = .ok (.iadd, 1) := by decide +kernel
theorem dL_law_961 : decode cL_law 961 = .ok (.iaload, 1) := by decide +kernel
theorem dL_law_962 : decode cL_law 962 = .ok (.invokevirtual 120, 3) := by decide +kernel
theorem dL_law_965 : decode cL_law 965 = .ok (.if_icmp .eq 326, 3) := by decide +kernel
theorem dL_law_968 : decode cL_law 968 = .ok (.iconst 0, 1) := by decide +kernel
theorem dL_law_969 : decode cL_law 969 = .ok (.ireturn, 1) := by decide +kernel
theorem dL_law_970 : decode cL_law 970 = .ok (.aload_n 1, 1) := by decide +kernel
theorem dL_law_971 : decode cL_law 971 = .ok (.aload_n 0, 1) := by decide +kernel
theorem dL_law_972 : decode cL_law 972 = .ok (.iload_n 3, 1) := by decide +kernel
theorem dL_law_973 : decode cL_law 973 = .ok (.iconst 1, 1) := by decide +kernel
theorem dL_law_974 : decode cL_law 974 = .ok (.iadd, 1) := by decide +kernel
theorem dL_law_975 : decode cL_law 975 = .ok (.iaload, 1) := by decide +kernel
theorem dL_law_976 : decode cL_law 976 = .ok (.aload_n 0, 1) := by decide +kernel
theorem dL_law_977 : decode cL_law 977 = .ok (.iload_n 3, 1) := by decide +kernel
theorem dL_law_978 : decode cL_law 978 = .ok (.iconst 2, 1) := by decide +kernel
theorem dL_law_979 : decode cL_law 979 = .ok (.iadd, 1) := by decide +kernel
theorem dL_law_980 : decode cL_law 980 = .ok (.iaload, 1) := by decide +kernel
theorem dL_law_981 : decode cL_law 981 = .ok (.aload_n 0, 1) := by decide +kernel
theorem dL_law_982 : decode cL_law 982 = .ok (.iload_n 3, 1) := by decide +kernel
theorem dL_law_983 : decode cL_law 983 = .ok (.iconst 3, 1) := by decide +kernel
theorem dL_law_984 : decode cL_law 984 = .ok (.iadd, 1) := by decide +kernel
theorem dL_law_985 : decode cL_law 985 = .ok (.iaload, 1) := by decide +kernel
theorem dL_law_986 : decode cL_law 986 = .ok (.i2l, 1) := by decide +kernel
theorem dL_law_987 : decode cL_law 987 = .ok (.bipush 32, 2) := by decide +kernel
theorem dL_law_989 : decode cL_law 989 = .ok (.lshl, 1) := by decide +kernel
theorem dL_law_990 : decode cL_law 990 = .ok (.aload_n 0, 1) := by decide +kernel
theorem dL_law_991 : decode cL_law 991 = .ok (.iload_n 3, 1) := by decide +kernel
theorem dL_law_992 : decode cL_law 992 = .ok (.iconst 4, 1) := by decide +kernel
theorem dL_law_993 : decode cL_law 993 = .ok (.iadd, 1) := by decide +kernel
theorem dL_law_994 : decode cL_law 994 = .ok (.iaload, 1) := by decide +kernel
theorem dL_law_995 : decode cL_law 995 = .ok (.i2l, 1) := by decide +kernel
theorem dL_law_996 : decode cL_law 996 = .ok (.ldc2_w 121, 3) := by decide +kernel
theorem dL_law_999 : decode cL_law 999 = .ok (.land, 1) := by decide +kernel
theorem dL_law_1000 : decode cL_law 1000 = .ok (.lor, 1) := by decide +kernel
theorem dL_law_1001 : decode cL_law 1001 = .ok (.invokevirtual 123, 3) := by decide +kernel
theorem dL_law_1004 : decode cL_law 1004 = .ok (.aload_n 2, 1) := by decide +kernel
theorem dL_law_1005 : decode cL_law 1005 = .ok (.aload_n 0, 1) := by decide +kernel
theorem dL_law_1006 : decode cL_law 1006 = .ok (.iload_n 3, 1) := by decide +kernel
theorem dL_law_1007 : decode cL_law 1007 = .ok (.iconst 1, 1) := by decide +kernel
theorem dL_law_1008 : decode cL_law 1008 = .ok (.iadd, 1) := by decide +kernel
theorem dL_law_1009 : decode cL_law 1009 = .ok (.iaload, 1) := by decide +kernel
theorem dL_law_1010 : decode cL_law 1010 = .ok (.aload_n 0, 1) := by decide +kernel
theorem dL_law_1011 : decode cL_law 1011 = .ok (.iload_n 3, 1) := by decide +kernel
theorem dL_law_1012 : decode cL_law 1012 = .ok (.iconst 2, 1) := by decide +kernel
theorem dL_law_1013 : decode cL_law 1013 = .ok (.iadd, 1) := by decide +kernel
theorem dL_law_1014 : decode cL_law 1014 = .ok (.iaload, 1) := by decide +kernel
theorem dL_law_1015 : decode cL_law 1015 = .ok (.aload_n 0, 1) := by decide +kernel
theorem dL_law_1016 : decode cL_law 1016 = .ok (.iload_n 3, 1) := by decide +kernel
theorem dL_law_1017 : decode cL_law 1017 = .ok (.iconst 3, 1) := by decide +kernel
theorem dL_law_1018 : decode cL_law 1018 = .ok (.iadd, 1) := by decide +kernel
theorem dL_law_1019 : decode cL_law 1019 = .ok (.iaload, 1) := by decide +kernel
theorem dL_law_1020 : decode cL_law 1020 = .ok (.i2l, 1) := by decide +kernel
theorem dL_law_1021 : decode cL_law 1021 = .ok (.bipush 32, 2) := by decide +kernel
theorem dL_law_1023 : decode cL_law 1023 = .ok (.lshl, 1) := by decide +kernel
theorem dL_law_1024 : decode cL_law 1024 = .ok (.aload_n 0, 1) := by decide +kernel
theorem dL_law_1025 : decode cL_law 1025 = .ok (.iload_n 3, 1) := by decide +kernel
theorem dL_law_1026 : decode cL_law 1026 = .ok (.iconst 4, 1) := by decide +kernel
theorem dL_law_1027 : decode cL_law 1027 = .ok (.iadd, 1) := by decide +kernel
theorem dL_law_1028 : decode cL_law 1028 = .ok (.iaload, 1) := by decide +kernel
theorem dL_law_1029 : decode cL_law 1029 = .ok (.i2l, 1) := by decide +kernel
theorem dL_law_1030 : decode cL_law 1030 = .ok (.ldc2_w 121, 3) := by decide +kernel
theorem dL_law_1033 : decode cL_law 1033 = .ok (.land, 1) := by decide +kernel
theorem dL_law_1034 : decode cL_law 1034 = .ok (.lor, 1) := by decide +kernel
theorem dL_law_1035 : decode cL_law 1035 = .ok (.invokevirtual 127, 3) := by decide +kernel
theorem dL_law_1038 : decode cL_law 1038 = .ok (.lcmp, 1) := by decide +kernel
theorem dL_law_1039 : decode cL_law 1039 = .ok (.ifCond .eq 252, 3) := by decide +kernel
theorem dL_law_1042 : decode cL_law 1042 = .ok (.iconst 0, 1) := by decide +kernel
theorem dL_law_1043 : decode cL_law 1043 = .ok (.ireturn, 1) := by decide +kernel
theorem dL_law_1044 : decode cL_law 1044 = .ok (.aload_n 1, 1) := by decide +kernel
theorem dL_law_1045 : decode cL_law 1045 = .ok (.aload_n 0, 1) := by decide +kernel
theorem dL_law_1046 : decode cL_law 1046 = .ok (.iload_n 3, 1) := by decide +kernel
theorem dL_law_1047 : decode cL_law 1047 = .ok (.iconst 1, 1) := by decide +kernel
theorem dL_law_1048 : decode cL_law 1048 = .ok (.iadd, 1) := by decide +kernel
theorem dL_law_1049 : decode cL_law 1049 = .ok (.iaload, 1) := by decide +kernel
theorem dL_law_1050 : decode cL_law 1050 = .ok (.aload_n 0, 1) := by decide +kernel
theorem dL_law_1051 : decode cL_law 1051 = .ok (.iload_n 3, 1) := by decide +kernel
theorem dL_law_1052 : decode cL_law 1052 = .ok (.iconst 2, 1) := by decide +kernel
theorem dL_law_1053 : decode cL_law 1053 = .ok (.iadd, 1) := by decide +kernel
theorem dL_law_1054 : decode cL_law 1054 = .ok (.iaload, 1) := by decide +kernel
theorem dL_law_1055 : decode cL_law 1055 = .ok (.aload_n 0, 1) := by decide +kernel
theorem dL_law_1056 : decode cL_law 1056 = .ok (.iload_n 3, 1) := by decide +kernel
theorem dL_law_1057 : decode cL_law 1057 = .ok (.iconst 3, 1) := by decide +kernel
theorem dL_law_1058 : decode cL_law 1058 = .ok (.iadd, 1) := by decide +kernel
theorem dL_law_1059 : decode cL_law 1059 = .ok (.iaload, 1) := by decide +kernel
theorem dL_law_1060 : decode cL_law 1060 = .ok (.aload_n 0, 1) := by decide +kernel
theorem dL_law_1061 : decode cL_law 1061 = .ok (.iload_n 3, 1) := by decide +kernel
theorem dL_law_1062 : decode cL_law 1062 = .ok (.iconst 4, 1) := by decide +kernel
theorem dL_law_1063 : decode cL_law 1063 = .ok (.iadd, 1) := by decide +kernel
theorem dL_law_1064 : decode cL_law 1064 = .ok (.iaload, 1) := by decide +kernel
theorem dL_law_1065 : decode cL_law 1065 = .ok (.aload_n 0, 1) := by decide +kernel
theorem dL_law_1066 : decode cL_law 1066 = .ok (.iload_n 3, 1) := by decide +kernel
theorem dL_law_1067 : decode cL_law 1067 = .ok (.iconst 5, 1) := by decide +kernel
theorem dL_law_1068 : decode cL_law 1068 = .ok (.iadd, 1) := by decide +kernel
theorem dL_law_1069 : decode cL_law 1069 = .ok (.iaload, 1) := by decide +kernel
theorem dL_law_1070 : decode cL_law 1070 = .ok (.invokevirtual 128, 3) := by decide +kernel
theorem dL_law_1073 : decode cL_law 1073 = .ok (.aload_n 2, 1) := by decide +kernel
theorem dL_law_1074 : decode cL_law 1074 = .ok (.aload_n 0, 1) := by decide +kernel
theorem dL_law_1075 : decode cL_law 1075 = .ok (.iload_n 3, 1) := by decide +kernel
theorem dL_law_1076 : decode cL_law 1076 = .ok (.iconst 1, 1) := by decide +kernel
theorem dL_law_1077 : decode cL_law 1077 = .ok (.iadd, 1) := by decide +kernel
theorem dL_law_1078 : decode cL_law 1078 = .ok (.iaload, 1) := by decide +kernel
theorem dL_law_1079 : decode cL_law 1079 = .ok (.aload_n 0, 1) := by decide +kernel
theorem dL_law_1080 : decode cL_law 1080 = .ok (.iload_n 3, 1) := by decide +kernel
theorem dL_law_1081 : decode cL_law 1081 = .ok (.iconst 2, 1) := by decide +kernel
theorem dL_law_1082 : decode cL_law 1082 = .ok (.iadd, 1) := by decide +kernel
theorem dL_law_1083 : decode cL_law 1083 = .ok (.iaload, 1) := by decide +kernel
theorem dL_law_1084 : decode cL_law 1084 = .ok (.aload_n 0, 1) := by decide +kernel
theorem dL_law_1085 : decode cL_law 1085 = .ok (.iload_n 3, 1) := by decide +kernel
theorem dL_law_1086 : decode cL_law 1086 = .ok (.iconst 3, 1) := by decide +kernel
theorem dL_law_1087 : decode cL_law 1087 = .ok (.iadd, 1) := by decide +kernel
theorem dL_law_1088 : decode cL_law 1088 = .ok (.iaload, 1) := by decide +kernel
theorem dL_law_1089 : decode cL_law 1089 = .ok (.aload_n 0, 1) := by decide +kernel
theorem dL_law_1090 : decode cL_law 1090 = .ok (.iload_n 3, 1) := by decide +kernel
theorem dL_law_1091 : decode cL_law 1091 = .ok (.iconst 4, 1) := by decide +kernel
theorem dL_law_1092 : decode cL_law 1092 = .ok (.iadd, 1) := by decide +kernel
theorem dL_law_1093 : decode cL_law 1093 = .ok (.iaload, 1) := by decide +kernel
theorem dL_law_1094 : decode cL_law 1094 = .ok (.aload_n 0, 1) := by decide +kernel
theorem dL_law_1095 : decode cL_law 1095 = .ok (.iload_n 3, 1) := by decide +kernel
theorem dL_law_1096 : decode cL_law 1096 = .ok (.iconst 5, 1) := by decide +kernel
theorem dL_law_1097 : decode cL_law 1097 = .ok (.iadd, 1) := by decide +kernel
theorem dL_law_1098 : decode cL_law 1098 = .ok (.iaload, 1) := by decide +kernel
theorem dL_law_1099 : decode cL_law 1099 = .ok (.invokevirtual 132, 3) := by decide +kernel
theorem dL_law_1102 : decode cL_law 1102 = .ok (.if_icmp .eq 189, 3) := by decide +kernel
theorem dL_law_1105 : decode cL_law 1105 = .ok (.iconst 0, 1) := by decide +kernel
theorem dL_law_1106 : decode cL_law 1106 = .ok (.ireturn, 1) := by decide +kernel
theorem dL_law_1107 : decode cL_law 1107 = .ok (.aload_n 1, 1) := by decide +kernel
theorem dL_law_1108 : decode cL_law 1108 = .ok (.aload_n 0, 1) := by decide +kernel
theorem dL_law_1109 : decode cL_law 1109 = .ok (.iload_n 3, 1) := by decide +kernel
theorem dL_law_1110 : decode cL_law 1110 = .ok (.iconst 1, 1) := by decide +kernel
theorem dL_law_1111 : decode cL_law 1111 = .ok (.iadd, 1) := by decide +kernel
theorem dL_law_1112 : decode cL_law 1112 = .ok (.iaload, 1) := by decide +kernel
theorem dL_law_1113 : decode cL_law 1113 = .ok (.invokevirtual 133, 3) := by decide +kernel
theorem dL_law_1116 : decode cL_law 1116 = .ok (.aload_n 2, 1) := by decide +kernel
theorem dL_law_1117 : decode cL_law 1117 = .ok (.aload_n 0, 1) := by decide +kernel
theorem dL_law_1118 : decode cL_law 1118 = .ok (.iload_n 3, 1) := by decide +kernel
theorem dL_law_1119 : decode cL_law 1119 = .ok (.iconst 1, 1) := by decide +kernel
theorem dL_law_1120 : decode cL_law 1120 = .ok (.iadd, 1) := by decide +kernel
theorem dL_law_1121 : decode cL_law 1121 = .ok (.iaload, 1) := by decide +kernel
theorem dL_law_1122 : decode cL_law 1122 = .ok (.invokevirtual 136, 3) := by decide +kernel
theorem dL_law_1125 : decode cL_law 1125 = .ok (.if_icmp .eq 166, 3) := by decide +kernel
theorem dL_law_1128 : decode cL_law 1128 = .ok (.iconst 0, 1) := by decide +kernel
theorem dL_law_1129 : decode cL_law 1129 = .ok (.ireturn, 1) := by decide +kernel
theorem dL_law_1130 : decode cL_law 1130 = .ok (.aload_n 1, 1) := by decide +kernel
theorem dL_law_1131 : decode cL_law 1131 = .ok (.aload_n 0, 1) := by decide +kernel
theorem dL_law_1132 : decode cL_law 1132 = .ok (.iload_n 3, 1) := by decide +kernel
theorem dL_law_1133 : decode cL_law 1133 = .ok (.iconst 1, 1) := by decide +kernel
theorem dL_law_1134 : decode cL_law 1134 = .ok (.iadd, 1) := by decide +kernel
theorem dL_law_1135 : decode cL_law 1135 = .ok (.iaload, 1) := by decide +kernel
theorem dL_law_1136 : decode cL_law 1136 = .ok (.aload_n 0, 1) := by decide +kernel
theorem dL_law_1137 : decode cL_law 1137 = .ok (.iload_n 3, 1) := by decide +kernel
theorem dL_law_1138 : decode cL_law 1138 = .ok (.iconst 2, 1) := by decide +kernel
theorem dL_law_1139 : decode cL_law 1139 = .ok (.iadd, 1) := by decide +kernel
theorem dL_law_1140 : decode cL_law 1140 = .ok (.iaload, 1) := by decide +kernel
theorem dL_law_1141 : decode cL_law 1141 = .ok (.invokevirtual 137, 3) := by decide +kernel
theorem dL_law_1144 : decode cL_law 1144 = .ok (.aload_n 2, 1) := by decide +kernel
theorem dL_law_1145 : decode cL_law 1145 = .ok (.aload_n 0, 1) := by decide +kernel
theorem dL_law_1146 : decode cL_law 1146 = .ok (.iload_n 3, 1) := by decide +kernel
theorem dL_law_1147 : decode cL_law 1147 = .ok (.iconst 1, 1) := by decide +kernel
theorem dL_law_1148 : decode cL_law 1148 = .ok (.iadd, 1) := by decide +kernel
theorem dL_law_1149 : decode cL_law 1149 = .ok (.iaload, 1) := by decide +kernel
theorem dL_law_1150 : decode cL_law 1150 = .ok (.aload_n 0, 1) := by decide +kernel
theorem dL_law_1151 : decode cL_law 1151 = .ok (.iload_n 3, 1) := by decide +kernel
theorem dL_law_1152 : decode cL_law 1152 = .ok (.iconst 2, 1) := by decide +kernel
theorem dL_law_1153 : decode cL_law 1153 = .ok (.iadd, 1) := by decide +kernel
theorem dL_law_1154 : decode cL_law 1154 = .ok (.iaload, 1) := by decide +kernel
theorem dL_law_1155 : decode cL_law 1155 = .ok (.invokevirtual 140, 3) := by decide +kernel
theorem dL_law_1158 : decode cL_law 1158 = .ok (.if_icmp .eq 133, 3) := by decide +kernel
theorem dL_law_1161 : decode cL_law 1161 = .ok (.iconst 0, 1) := by decide +kernel
theorem dL_law_1162 : decode cL_law 1162 = .ok (.ireturn, 1) := by decide +kernel
theorem dL_law_1163 : decode cL_law 1163 = .ok (.aload_n 1, 1) := by decide +kernel
theorem dL_law_1164 : decode cL_law 1164 = .ok (.aload_n 0, 1) := by decide +kernel
theorem dL_law_1165 : decode cL_law 1165 = .ok (.iload_n 3, 1) := by decide +kernel
theorem dL_law_1166 : decode cL_law 1166 = .ok (.iconst 1, 1) := by decide +kernel
theorem dL_law_1167 : decode cL_law 1167 = .ok (.iadd, 1) := by decide +kernel
theorem dL_law_1168 : decode cL_law 1168 = .ok (.iaload, 1) := by decide +kernel
theorem dL_law_1169 : decode cL_law 1169 = .ok (.aload_n 0, 1) := by decide +kernel
theorem dL_law_1170 : decode cL_law 1170 = .ok (.iload_n 3, 1) := by decide +kernel
theorem dL_law_1171 : decode cL_law 1171 = .ok (.iconst 2, 1) := by decide +kernel
theorem dL_law_1172 : decode cL_law 1172 = .ok (.iadd, 1) := by decide +kernel
theorem dL_law_1173 : decode cL_law 1173 = .ok (.iaload, 1) := by decide +kernel
theorem dL_law_1174 : decode cL_law 1174 = .ok (.aload_n 0, 1) := by decide +kernel
theorem dL_law_1175 : decode cL_law 1175 = .ok (.iload_n 3, 1) := by decide +kernel
theorem dL_law_1176 : decode cL_law 1176 = .ok (.iconst 3, 1) := by decide +kernel
theorem dL_law_1177 : decode cL_law 1177 = .ok (.iadd, 1) := by decide +kernel
theorem dL_law_1178 : decode cL_law 1178 = .ok (.iaload, 1) := by decide +kernel
theorem dL_law_1179 : decode cL_law 1179 = .ok (.invokevirtual 141, 3) := by decide +kernel
theorem dL_law_1182 : decode cL_law 1182 = .ok (.aload_n 2, 1) := by decide +kernel
theorem dL_law_1183 : decode cL_law 1183 = .ok (.aload_n 0, 1) := by decide +kernel
theorem dL_law_1184 : decode cL_law 1184 = .ok (.iload_n 3, 1) := by decide +kernel
theorem dL_law_1185 : decode cL_law 1185 = .ok (.iconst 1, 1) := by decide +kernel
theorem dL_law_1186 : decode cL_law 1186 = .ok (.iadd, 1) := by decide +kernel
theorem dL_law_1187 : decode cL_law 1187 = .ok (.iaload, 1) := by decide +kernel
theorem dL_law_1188 : decode cL_law 1188 = .ok (.aload_n 0, 1) := by decide +kernel
theorem dL_law_1189 : decode cL_law 1189 = .ok (.iload_n 3, 1) := by decide +kernel
theorem dL_law_1190 : decode cL_law 1190 = .ok (.iconst 2, 1) := by decide +kernel
theorem dL_law_1191 : decode cL_law 1191 = .ok (.iadd, 1) := by decide +kernel
theorem dL_law_1192 : decode cL_law 1192 = .ok (.iaload, 1) := by decide +kernel
theorem dL_law_1193 : decode cL_law 1193 = .ok (.aload_n 0, 1) := by decide +kernel
theorem dL_law_1194 : decode cL_law 1194 = .ok (.iload_n 3, 1) := by decide +kernel
theorem dL_law_1195 : decode cL_law 1195 = .ok (.iconst 3, 1) := by decide +kernel
theorem dL_law_1196 : decode cL_law 1196 = .ok (.iadd, 1) := by decide +kernel
theorem dL_law_1197 : decode cL_law 1197 = .ok (.iaload, 1) := by decide +kernel
theorem dL_law_1198 : decode cL_law 1198 = .ok (.invokevirtual 144, 3) := by decide +kernel
theorem dL_law_1201 : decode cL_law 1201 = .ok (.if_icmp .eq 90, 3) := by decide +kernel
theorem dL_law_1204 : decode cL_law 1204 = .ok (.iconst 0, 1) := by decide +kernel
theorem dL_law_1205 : decode cL_law 1205 = .ok (.ireturn, 1) := by decide +kernel
theorem dL_law_1206 : decode cL_law 1206 = .ok (.aload_n 1, 1) := by decide +kernel
theorem dL_law_1207 : decode cL_law 1207 = .ok (.invokevirtual 145, 3) := by decide +kernel
theorem dL_law_1210 : decode cL_law 1210 = .ok (.aload_n 2, 1) := by decide +kernel
theorem dL_law_1211 : decode cL_law 1211 = .ok (.invokevirtual 148, 3) := by decide +kernel
theorem dL_law_1214 : decode cL_law 1214 = .ok (.if_icmp .eq 77, 3) := by decide +kernel
theorem dL_law_1217 : decode cL_law 1217 = .ok (.iconst 0, 1) := by decide +kernel
theorem dL_law_1218 : decode cL_law 1218 = .ok (.ireturn, 1) := by decide +kernel
theorem dL_law_1219 : decode cL_law 1219 = .ok (.aload_n 1, 1) := by decide +kernel
theorem dL_law_1220 : decode cL_law 1220 = .ok (.invokevirtual 149, 3) := by decide +kernel
theorem dL_law_1223 : decode cL_law 1223 = .ok (.aload_n 2, 1) := by decide +kernel
theorem dL_law_1224 : decode cL_law 1224 = .ok (.invokevirtual 152, 3) := by decide +kernel
theorem dL_law_1227 : decode cL_law 1227 = .ok (.if_icmp .eq 64, 3) := by decide +kernel
theorem dL_law_1230 : decode cL_law 1230 = .ok (.iconst 0, 1) := by decide +kernel
theorem dL_law_1231 : decode cL_law 1231 = .ok (.ireturn, 1) := by decide +kernel
theorem dL_law_1232 : decode cL_law 1232 = .ok (.aload_n 1, 1) := by decide +kernel
theorem dL_law_1233 : decode cL_law 1233 = .ok (.invokevirtual 153, 3) := by decide +kernel
theorem dL_law_1236 : decode cL_law 1236 = .ok (.aload_n 2, 1) := by decide +kernel
theorem dL_law_1237 : decode cL_law 1237 = .ok (.invokevirtual 156, 3) := by decide +kernel
theorem dL_law_1240 : decode cL_law 1240 = .ok (.if_icmp .eq 51, 3) := by decide +kernel
theorem dL_law_1243 : decode cL_law 1243 = .ok (.iconst 0, 1) := by decide +kernel
theorem dL_law_1244 : decode cL_law 1244 = .ok (.ireturn, 1) := by decide +kernel
theorem dL_law_1245 : decode cL_law 1245 = .ok (.aload_n 1, 1) := by decide +kernel
theorem dL_law_1246 : decode cL_law 1246 = .ok (.aload_n 0, 1) := by decide +kernel
theorem dL_law_1247 : decode cL_law 1247 = .ok (.iload_n 3, 1) := by decide +kernel
theorem dL_law_1248 : decode cL_law 1248 = .ok (.iconst 1, 1) := by decide +kernel
theorem dL_law_1249 : decode cL_law 1249 = .ok (.iadd, 1) := by decide +kernel
theorem dL_law_1250 : decode cL_law 1250 = .ok (.iaload, 1) := by decide +kernel
theorem dL_law_1251 : decode cL_law 1251 = .ok (.invokevirtual 157, 3) := by decide +kernel
theorem dL_law_1254 : decode cL_law 1254 = .ok (.aload_n 2, 1) := by decide +kernel
theorem dL_law_1255 : decode cL_law 1255 = .ok (.aload_n 0, 1) := by decide +kernel
theorem dL_law_1256 : decode cL_law 1256 = .ok (.iload_n 3, 1) := by decide +kernel
theorem dL_law_1257 : decode cL_law 1257 = .ok (.iconst 1, 1) := by decide +kernel
theorem dL_law_1258 : decode cL_law 1258 = .ok (.iadd, 1) := by decide +kernel
theorem dL_law_1259 : decode cL_law 1259 = .ok (.iaload, 1) := by decide +kernel
theorem dL_law_1260 : decode cL_law 1260 = .ok (.invokevirtual 160, 3) := by decide +kernel
theorem dL_law_1263 : decode cL_law 1263 = .ok (.if_icmp .eq 28, 3) := by decide +kernel
theorem dL_law_1266 : decode cL_law 1266 = .ok (.iconst 0, 1) := by decide +kernel
theorem dL_law_1267 : decode cL_law 1267 = .ok (.ireturn, 1) := by decide +kernel
theorem dL_law_1268 : decode cL_law 1268 = .ok (.aload_n 1, 1) := by decide +kernel
theorem dL_law_1269 : decode cL_law 1269 = .ok (.aload_n 0, 1) := by decide +kernel
theorem dL_law_1270 : decode cL_law 1270 = .ok (.iload_n 3, 1) := by decide +kernel
theorem dL_law_1271 : decode cL_law 1271 = .ok (.iconst 1, 1) := by decide +kernel
theorem dL_law_1272 : decode cL_law 1272 = .ok (.iadd, 1) := by decide +kernel
theorem dL_law_1273 : decode cL_law 1273 = .ok (.iaload, 1) := by decide +kernel
theorem dL_law_1274 : decode cL_law 1274 = .ok (.invokevirtual 161, 3) := by decide +kernel
theorem dL_law_1277 : decode cL_law 1277 = .ok (.aload_n 2, 1) := by decide +kernel
theorem dL_law_1278 : decode cL_law 1278 = .ok (.aload_n 0, 1) := by decide +kernel
theorem dL_law_1279 : decode cL_law 1279 = .ok (.iload_n 3, 1) := by decide +kernel
theorem dL_law_1280 : decode cL_law 1280 = .ok (.iconst 1, 1) := by decide +kernel
theorem dL_law_1281 : decode cL_law 1281 = .ok (.iadd, 1) := by decide +kernel
theorem dL_law_1282 : decode cL_law 1282 = .ok (.iaload, 1) := by decide +kernel
theorem dL_law_1283 : decode cL_law 1283 = .ok (.invokevirtual 164, 3) := by decide +kernel
theorem dL_law_1286 : decode cL_law 1286 = .ok (.if_icmp .eq 5, 3) := by decide +kernel
theorem dL_law_1289 : decode cL_law 1289 = .ok (.iconst 0, 1) := by decide +kernel
theorem dL_law_1290 : decode cL_law 1290 = .ok (.ireturn, 1) := by decide +kernel
theorem dL_law_1291 : decode cL_law 1291 = .ok (.iinc 3 6, 3) := by decide +kernel
theorem dL_law_1294 : decode cL_law 1294 = .ok (.goto (-1276), 3) := by decide +kernel
theorem dL_law_1297 : decode cL_law 1297 = .ok (.iconst 1, 1) := by decide +kernel
theorem dL_law_1298 : decode cL_law 1298 = .ok (.ireturn, 1) := by decide +kernel
end
section
theorem va_D.sameA {A : Nat → Prop} {ws ws2 : va_W} (h : ws2.map Prod.fst = ws.map Prod.fst) (hD : va_D A ws) : va_D A ws2 := by
  have key : ∀ (k : Nat) (q : Nat × va_E), ws2[k]? = some q → ∃ q0, ws[k]? = some q0 ∧ q0.1 = q.1 := by
    intro k q hk
    have h1 : (ws2.map Prod.fst)[k]? = some q.1 := by rw [List.getElem?_map, hk]; rfl
    rw [h, List.getElem?_map] at h1
    cases h2 : ws[k]? with
    | none => rw [h2] at h1; cases h1
    | some q0 => rw [h2] at h1; exact ⟨q0, rfl, Option.some.inj h1⟩
  refine ⟨fun i j x y hi hj hxy => ?_, fun k q hk => ?_⟩
  · obtain ⟨x0, h1, h2⟩ := key i x hi
    obtain ⟨y0, h3, h4⟩ := key j y hj
    exact hD.1 i j x0 y0 h1 h3 (h2.trans (hxy.trans h4.symm))
  · obtain ⟨q0, h1, h2⟩ := key k q hk
    rw [← h2]
    exact hD.2 k q0 h1
/-! numbers: an int by its Int -/
def iI (z : Int) : Int32 := Int32.ofInt z
abbrev inr (z : Int) : Prop := -2147483648 ≤ z ∧ z < 2147483648
def bI (P : Prop) [Decidable P] : Int32 := if P then iI 1 else iI 0
theorem iI_toInt {z : Int} (h : inr z) : (iI z).toInt = z := by
  unfold iI
  rw [Int32.toInt_ofInt]
  have hsz : (Int32.size : Int) = 4294967296 := rfl
  exact Int.bmod_eq_of_le (by omega) (by omega)
theorem iI_of (x : Int32) : iI x.toInt = x := by
  unfold iI
  exact Int32.ofInt_toInt x
theorem inr_of (x : Int32) : inr x.toInt := ⟨by have := Int32.le_toInt x; omega, by have := Int32.toInt_lt x; omega⟩
theorem iI_add (a b : Int) : iI a + iI b = iI (a + b) := by unfold iI; exact (Int32.ofInt_add a b).symm
theorem iI_sub (a b : Int) : iI a - iI b = iI (a - b) := by unfold iI; exact (Int32.ofInt_sub a b).symm
theorem iI_mul (a b : Int) : iI a * iI b = iI (a * b) := by unfold iI; exact (Int32.ofInt_mul a b).symm
theorem iI_neg (a : Int) : - iI a = iI (-a) := by unfold iI; exact (Int32.ofInt_neg a).symm
theorem iI_lt {a b : Int} (ha : inr a) (hb : inr b) : iI a < iI b ↔ a < b := by rw [Int32.lt_iff_toInt_lt, iI_toInt ha, iI_toInt hb]
theorem iI_le {a b : Int} (ha : inr a) (hb : inr b) : iI a ≤ iI b ↔ a ≤ b := by rw [Int32.le_iff_toInt_le, iI_toInt ha, iI_toInt hb]
theorem iI_eq {a b : Int} (ha : inr a) (hb : inr b) : iI a = iI b ↔ a = b := ⟨fun h => by rw [← iI_toInt ha, h, iI_toInt hb], fun h => by rw [h]⟩
theorem iI_0 : iI 0 = 0 := by decide
theorem iI_nat (n : Nat) : iI (n : Int) = nI n := by first | rfl | (apply Int32.toInt_inj.mp; unfold iI nI; rw [Int32.toInt_ofInt, Int32.toInt_ofNat])
theorem iI_clamp {z : Int} (h : 0 ≤ z) (h2 : z < 2147483648) : (iI z).toNatClampNeg = z.toNat := by
  show (iI z).toInt.toNat = z.toNat
  rw [iI_toInt ⟨by omega, h2⟩]
theorem iI_in {z : Int} {n : Nat} (h : 0 ≤ z) (h2 : z < n) (hn : n ≤ 2147483648) : vp_in (iI z) n := by
  rw [vp_in_iff, iI_toInt ⟨by omega, by omega⟩]; exact ⟨h, h2⟩
theorem iI_div {a b : Int} (ha : 0 ≤ a) (ha2 : a < 2147483648) (hb : 0 < b) (hb2 : b < 2147483648) : iI a / iI b = iI (a / b) := by
  obtain ⟨x, rfl⟩ := Int.eq_ofNat_of_zero_le ha
  obtain ⟨y, rfl⟩ := Int.eq_ofNat_of_zero_le (Int.le_of_lt hb)
  rw [iI_nat, iI_nat, pk_div (by omega) (by omega) (by omega), ← iI_nat]; rfl
theorem iI_rem {a b : Int} (ha : 0 ≤ a) (ha2 : a < 2147483648) (hb : 0 < b) (hb2 : b < 2147483648) : iI a - iI a / iI b * iI b = iI (a % b) := by
  obtain ⟨x, rfl⟩ := Int.eq_ofNat_of_zero_le ha
  obtain ⟨y, rfl⟩ := Int.eq_ofNat_of_zero_le (Int.le_of_lt hb)
  rw [iI_nat, iI_nat, pk_rem (by omega) (by omega) (by omega), ← iI_nat]; rfl
theorem bI_t {P : Prop} [Decidable P] (h : P) : bI P = iI 1 := by unfold bI; rw [if_pos h]
theorem bI_f {P : Prop} [Decidable P] (h : ¬ P) : bI P = iI 0 := by unfold bI; rw [if_neg h]
theorem bI_t' {P : Prop} [Decidable P] (h : P) : iI 1 = bI P := (bI_t h).symm
theorem bI_f' {P : Prop} [Decidable P] (h : ¬ P) : iI 0 = bI P := (bI_f h).symm
theorem bI_c {P P2 : Prop} [Decidable P] [Decidable P2] (h : P ↔ P2) : bI P = bI P2 := by
  by_cases q : P
  · rw [bI_t q, bI_t (h.mp q)]
  · rw [bI_f q, bI_f (fun z => q (h.mpr z))]
theorem bI_n0 {P : Prop} [Decidable P] : bI P = 0 ↔ ¬ P := by
  by_cases q : P
  · rw [bI_t q]; exact ⟨fun h => absurd h (by decide), fun h => absurd q h⟩
  · rw [bI_f q]; exact ⟨fun _ => q, fun _ => iI_0⟩
theorem bI_nar (P : Prop) [Decidable P] : narrow .boolean (.int (bI P)) = .int (bI P) := by
  by_cases q : P
  · rw [bI_t q]; decide
  · rw [bI_f q]; decide
theorem bI_fit (P : Prop) [Decidable P] : fits .boolean (.int (bI P)) = true := by
  by_cases q : P
  · rw [bI_t q]; decide
  · rw [bI_f q]; decide
/-! the words that stay -/
def gt : List Cond := lw_tbl.filter goodWord
theorem gt_in {w : Cond} (h : w ∈ lw_tbl) (g : goodWord w = true) : w ∈ gt := List.mem_filter.mpr ⟨h, g⟩
theorem gt_at (i : Nat) {w : Cond} (h : lw_tbl[i]? = some w) (g : goodWord w = true) : w ∈ gt := gt_in (List.mem_of_getElem? h) g
theorem gt_good {w : Cond} (h : w ∈ gt) : (w.onTables && w.keeps) = true ∨ ∃ ty, w = .arrayClass ty := good_of_word (List.mem_filter.mp h).2
theorem gt_GoodIn {w : Cond} (h : w ∈ gt) : GoodIn gt (w :: gt) := fun x hx => by
  rcases List.mem_cons.mp hx with rfl | hx
  · exact ⟨h, gt_good h⟩
  · exact ⟨hx, gt_good hx⟩
/-! what lies outside: statics and texts -/
def xsI : List Nat := [38, 47, 103, 105, 107, 109, 111, 113, 84, 94]
def xsT : List String := ["push", "dark", "big", "small", "kind", "queen", "baby", "child", "high", "marbles"]
def xsL : List Nat := [4, 4, 3, 5, 4, 5, 4, 5, 4, 7]
def xsB : List (List Int32) := [[112, 117, 115, 104], [100, 97, 114, 107], [98, 105, 103], [115, 109, 97, 108, 108], [107, 105, 110, 100], [113, 117, 101, 101, 110], [98, 97, 98, 121], [99, 104, 105, 108, 100], [104, 105, 103, 104], [109, 97, 114, 98, 108, 101, 115]]
abbrev XA : Type := Nat × (Nat → Nat) × (Nat → Nat)
def xKA : Nat → Value := fun j => .int (([-1, 0, 0, 0, 1, 2] : List Int32).getD j 0)
def XF (xa : XA) (A : Nat → Prop) (U : State) (H : Heap) : Prop :=
  va_Z "OwingSwings$Ground" "KIND_ABOVE" "[I" (.ref xa.1) A U H ∧ va_T .int xa.1 6 xKA A U H ∧ vk_S 10 xsL xsB xa.2.1 xa.2.2 A U H ∧ (∀ i : Nat, i < 10 → vk_R "OwingSwings$Tape" (xsI.getD i 0) (xsT.getD i "") (xa.2.1 i) U) ∧ va_Z "java/lang/String" "COMPACT_STRINGS" "Z" (.int 1) A U H
theorem XF.go {xa : XA} {A B : Nat → Prop} {s U : State} {H : Heap} {locs : List Loc} (h : XF xa A s s.heap) (hS : va_S A s.heap H locs) (hW : s.WarmedH U.vm) (hAB : ∀ q, B q → A q) : XF xa B U H :=
  ⟨((h.1.moved hW.alike).kept hS.2.1).narrow hAB, ((h.2.1.moved hW.alike).kept hS.2.1).narrow hAB, ((h.2.2.1.moved hW.alike).kept hS.2.1).narrow hAB, fun i hi => (h.2.2.2.1 i hi).warm hW, ((h.2.2.2.2.moved hW.alike).kept hS.2.1).narrow hAB⟩
theorem XF.eq {xa : XA} {A : Nat → Prop} {u U : State} {H : Heap} (hv : U.vm = u.vm) (h : XF xa A u H) : XF xa A U H := by
  have al : u.vm.Alike U.vm := by rw [hv]; exact Vm.Alike.refl u.vm
  exact ⟨h.1.moved al, h.2.1.moved al, h.2.2.1.moved al, fun i hi => vk_R.same hv (h.2.2.2.1 i hi), h.2.2.2.2.moved al⟩
abbrev TY (cI cJ cB cS : ClassId) : List (ClassId × FieldType) := [(cI, .int), (cJ, .long), (cB, .byte), (cS, .object "OwingSwings$Sheet")]
/-! the calculus -/
def Fx (p : Program) (R : Room) (s : State) (m : MethodId) (args : Array Value) (meth : Method) (c : Code) (cells slots : Nat) (cc : ByteArray) (own : String) (nL : Nat) (rt : Option FieldType) (D : va_G) (cI cJ cB cS : ClassId) (xa : XA) (A : Nat → Prop) : Prop :=
  p.tables.exec = Jvm.exec ∧ c.code = cc ∧ c.maxLocals = nL ∧ s.vm.findClass own = some m.cls ∧ (∀ w ∈ gt, w.before args s = true) ∧ va_K D vwCl (TY cI cJ cB cS) s ∧ meth.locks = false ∧ meth.sig.returnType = rt ∧ XF xa A s s.heap ∧ cells ≤ R.cells ∧ slots ≤ R.slots
def Z (p : Program) (l : Launch) (e : Env) (R : Room) (s : State) (m : MethodId) (args : Array Value) (below : List Frame) (meth : Method) (c : Code) (cells slots : Nat) (Q : State → Prop) (cc : ByteArray) (own : String) (nL : Nat) (rt : Option FieldType) (D : va_G) (cI cJ cB cS : ClassId) (xa : XA) (A : Nat → Prop) (ws : va_W) (lv : List (Nat × Value)) (pc : Nat) (st : List Value) : Prop :=
  Fx p R s m args meth c cells slots cc own nL rt D cI cJ cB cS xa A → ∀ (H : Heap) (locs : List Loc) (ls : Array Slot), va_P D vwCl ws H → va_D A ws → va_S A s.heap H locs → lv_has ls nL lv → W p l e R s m args below meth c H locs cells slots Q (F0 m pc ls st)
section ZK
variable {p : Program} {l : Launch} {e : Env} {R : Room} {s : State} {m : MethodId} {args : Array Value} {below : List Frame} {meth : Method} {c : Code} {cells slots : Nat} {Q : State → Prop} {cc : ByteArray} {own : String} {nL : Nat} {rt : Option FieldType} {D : va_G} {cI cJ cB cS : ClassId} {xa : XA} {A : Nat → Prop} {ws ws2 : va_W} {lv lv2 : List (Nat × Value)} {pc : Nat} {st : List Value}
theorem z_iconst {n : Int} (hdg : decode cc pc = .ok (.iconst n, 1)) (k : Z p l e R s m args below meth c cells slots Q cc own nL rt D cI cJ cB cS xa A ws (lv) (pc + 1) (.int (iI n) :: st)) : Z p l e R s m args below meth c cells slots Q cc own nL rt D cI cJ cB cS xa A ws (lv) (pc) (st) := by
  intro F H locs ls hP hD hS hl
  obtain ⟨hx, hb, hml, hown, hts, hK, hlk, hrt, hXF, hce, hsl⟩ := id F
  exact lv_iconst hx hb hdg rfl (k F H locs ls hP hD hS hl)
theorem z_bipush {n : Int} (hdg : decode cc pc = .ok (.bipush n, 2)) (hv : (Int8.ofInt n).toInt32 = iI n) (k : Z p l e R s m args below meth c cells slots Q cc own nL rt D cI cJ cB cS xa A ws (lv) (pc + 2) (.int (iI n) :: st)) : Z p l e R s m args below meth c cells slots Q cc own nL rt D cI cJ cB cS xa A ws (lv) (pc) (st) := by
  intro F H locs ls hP hD hS hl
  obtain ⟨hx, hb, hml, hown, hts, hK, hlk, hrt, hXF, hce, hsl⟩ := id F
  exact lv_bipush hx hb hdg hv (k F H locs ls hP hD hS hl)
theorem z_sipush {n : Int} (hdg : decode cc pc = .ok (.sipush n, 3)) (hv : (Int16.ofInt n).toInt32 = iI n) (k : Z p l e R s m args below meth c cells slots Q cc own nL rt D cI cJ cB cS xa A ws (lv) (pc + 3) (.int (iI n) :: st)) : Z p l e R s m args below meth c cells slots Q cc own nL rt D cI cJ cB cS xa A ws (lv) (pc) (st) := by
  intro F H locs ls hP hD hS hl
  obtain ⟨hx, hb, hml, hown, hts, hK, hlk, hrt, hXF, hce, hsl⟩ := id F
  exact lv_sipush hx hb hdg hv (k F H locs ls hP hD hS hl)
theorem z_ldc {index : Nat} {v : Int32} {n : Int} (hc : Cond.constant own index v ∈ gt) (hdg : decode cc pc = .ok (.ldc index, 2)) (hv : v = iI n) (k : Z p l e R s m args below meth c cells slots Q cc own nL rt D cI cJ cB cS xa A ws (lv) (pc + 2) (.int (iI n) :: st)) : Z p l e R s m args below meth c cells slots Q cc own nL rt D cI cJ cB cS xa A ws (lv) (pc) (st) := by
  intro F H locs ls hP hD hS hl
  obtain ⟨hx, hb, hml, hown, hts, hK, hlk, hrt, hXF, hce, hsl⟩ := id F
  subst hv
  exact lv_ldc hx hb hown (hts _ hc) hdg (k F H locs ls hP hD hS hl)
theorem z_ldc2 {index : Nat} {v : Int64} (hc : Cond.constantLong own index v ∈ gt) (hdg : decode cc pc = .ok (.ldc2_w index, 3)) (k : Z p l e R s m args below meth c cells slots Q cc own nL rt D cI cJ cB cS xa A ws (lv) (pc + 3) (.long v :: st)) : Z p l e R s m args below meth c cells slots Q cc own nL rt D cI cJ cB cS xa A ws (lv) (pc) (st) := by
  intro F H locs ls hP hD hS hl
  obtain ⟨hx, hb, hml, hown, hts, hK, hlk, hrt, hXF, hce, hsl⟩ := id F
  exact lv_ldc2 hx hb hown (hts _ hc) hdg (k F H locs ls hP hD hS hl)
theorem z_lconst {n : Fin 2} {v : Int64} (hdg : decode cc pc = .ok (.lconst n, 1)) (hv : Int64.ofNat (n : Nat) = v) (k : Z p l e R s m args below meth c cells slots Q cc own nL rt D cI cJ cB cS xa A ws (lv) (pc + 1) (.long v :: st)) : Z p l e R s m args below meth c cells slots Q cc own nL rt D cI cJ cB cS xa A ws (lv) (pc) (st) := by
  intro F H locs ls hP hD hS hl
  obtain ⟨hx, hb, hml, hown, hts, hK, hlk, hrt, hXF, hce, hsl⟩ := id F
  exact lv_lconst hx hb hdg hv (k F H locs ls hP hD hS hl)
theorem z_iload_n {kk : Fin 4} {x : Int32} (hdg : decode cc pc = .ok (.iload_n kk, 1)) (j : Nat) (hj : lv[j]? = some ((kk : Nat), .int x)) (k : Z p l e R s m args below meth c cells slots Q cc own nL rt D cI cJ cB cS xa A ws (lv) (pc + 1) (.int x :: st)) : Z p l e R s m args below meth c cells slots Q cc own nL rt D cI cJ cB cS xa A ws (lv) (pc) (st) := by
  intro F H locs ls hP hD hS hl
  obtain ⟨hx, hb, hml, hown, hts, hK, hlk, hrt, hXF, hce, hsl⟩ := id F
  exact lv_iload_n hx hb hdg rfl (lv_at hl j hj) (k F H locs ls hP hD hS hl)
theorem z_iload {i : Nat} {x : Int32} (hdg : decode cc pc = .ok (.iload i, 2)) (j : Nat) (hj : lv[j]? = some (i, .int x)) (k : Z p l e R s m args below meth c cells slots Q cc own nL rt D cI cJ cB cS xa A ws (lv) (pc + 2) (.int x :: st)) : Z p l e R s m args below meth c cells slots Q cc own nL rt D cI cJ cB cS xa A ws (lv) (pc) (st) := by
  intro F H locs ls hP hD hS hl
  obtain ⟨hx, hb, hml, hown, hts, hK, hlk, hrt, hXF, hce, hsl⟩ := id F
  exact lv_iload hx hb hdg (lv_at hl j hj) (k F H locs ls hP hD hS hl)
theorem z_istore_n {kk : Fin 4} {i : Nat} {x : Int32} (hdg : decode cc pc = .ok (.istore_n kk, 1)) (hi : (kk : Nat) = i) (hn : i < nL) (hl2 : (i, Value.int x) :: lv.filter (fun q => !(q.1 == i) && !(q.1 + 1 == i && q.2.category == 2)) = lv2) (k : Z p l e R s m args below meth c cells slots Q cc own nL rt D cI cJ cB cS xa A ws (lv2) (pc + 1) (st)) : Z p l e R s m args below meth c cells slots Q cc own nL rt D cI cJ cB cS xa A ws (lv) (pc) (.int x :: st) := by
  intro F H locs ls hP hD hS hl
  obtain ⟨hx, hb, hml, hown, hts, hK, hlk, hrt, hXF, hce, hsl⟩ := id F
  exact lv_istore_n hx hb hdg hi hl hn hl2 (fun ls hl => k F H locs ls hP hD hS hl)
theorem z_istore {i : Nat} {x : Int32} (hdg : decode cc pc = .ok (.istore i, 2)) (hn : i < nL) (hl2 : (i, Value.int x) :: lv.filter (fun q => !(q.1 == i) && !(q.1 + 1 == i && q.2.category == 2)) = lv2) (k : Z p l e R s m args below meth c cells slots Q cc own nL rt D cI cJ cB cS xa A ws (lv2) (pc + 2) (st)) : Z p l e R s m args below meth c cells slots Q cc own nL rt D cI cJ cB cS xa A ws (lv) (pc) (.int x :: st) := by
  intro F H locs ls hP hD hS hl
  obtain ⟨hx, hb, hml, hown, hts, hK, hlk, hrt, hXF, hce, hsl⟩ := id F
  exact lv_istore hx hb hdg hl hn hl2 (fun ls hl => k F H locs ls hP hD hS hl)
theorem z_aload_n {kk : Fin 4} {x : Nat} (hdg : decode cc pc = .ok (.aload_n kk, 1)) (j : Nat) (hj : lv[j]? = some ((kk : Nat), .ref x)) (k : Z p l e R s m args below meth c cells slots Q cc own nL rt D cI cJ cB cS xa A ws (lv) (pc + 1) (.ref x :: st)) : Z p l e R s m args below meth c cells slots Q cc own nL rt D cI cJ cB cS xa A ws (lv) (pc) (st) := by
  intro F H locs ls hP hD hS hl
  obtain ⟨hx, hb, hml, hown, hts, hK, hlk, hrt, hXF, hce, hsl⟩ := id F
  exact lv_aload_n hx hb hdg rfl (lv_at hl j hj) (k F H locs ls hP hD hS hl)
theorem z_aload {i : Nat} {x : Nat} (hdg : decode cc pc = .ok (.aload i, 2)) (j : Nat) (hj : lv[j]? = some (i, .ref x)) (k : Z p l e R s m args below meth c cells slots Q cc own nL rt D cI cJ cB cS xa A ws (lv) (pc + 2) (.ref x :: st)) : Z p l e R s m args below meth c cells slots Q cc own nL rt D cI cJ cB cS xa A ws (lv) (pc) (st) := by
  intro F H locs ls hP hD hS hl
  obtain ⟨hx, hb, hml, hown, hts, hK, hlk, hrt, hXF, hce, hsl⟩ := id F
  exact lv_aload hx hb hdg (lv_at hl j hj) (k F H locs ls hP hD hS hl)
theorem z_astore_n {kk : Fin 4} {i : Nat} {x : Nat} (hdg : decode cc pc = .ok (.astore_n kk, 1)) (hi : (kk : Nat) = i) (hn : i < nL) (hl2 : (i, Value.ref x) :: lv.filter (fun q => !(q.1 == i) && !(q.1 + 1 == i && q.2.category == 2)) = lv2) (k : Z p l e R s m args below meth c cells slots Q cc own nL rt D cI cJ cB cS xa A ws (lv2) (pc + 1) (st)) : Z p l e R s m args below meth c cells slots Q cc own nL rt D cI cJ cB cS xa A ws (lv) (pc) (.ref x :: st) := by
  intro F H locs ls hP hD hS hl
  obtain ⟨hx, hb, hml, hown, hts, hK, hlk, hrt, hXF, hce, hsl⟩ := id F
  exact lv_astore_n hx hb hdg hi hl hn hl2 (fun ls hl => k F H locs ls hP hD hS hl)
theorem z_astore {i : Nat} {x : Nat} (hdg : decode cc pc = .ok (.astore i, 2)) (hn : i < nL) (hl2 : (i, Value.ref x) :: lv.filter (fun q => !(q.1 == i) && !(q.1 + 1 == i && q.2.category == 2)) = lv2) (k : Z p l e R s m args below meth c cells slots Q cc own nL rt D cI cJ cB cS xa A ws (lv2) (pc + 2) (st)) : Z p l e R s m args below meth c cells slots Q cc own nL rt D cI cJ cB cS xa A ws (lv) (pc) (.ref x :: st) := by
  intro F H locs ls hP hD hS hl
  obtain ⟨hx, hb, hml, hown, hts, hK, hlk, hrt, hXF, hce, hsl⟩ := id F
  exact lv_astore hx hb hdg hl hn hl2 (fun ls hl => k F H locs ls hP hD hS hl)
theorem z_lload_n {kk : Fin 4} {x : Int64} (hdg : decode cc pc = .ok (.lload_n kk, 1)) (j : Nat) (hj : lv[j]? = some ((kk : Nat), .long x)) (k : Z p l e R s m args below meth c cells slots Q cc own nL rt D cI cJ cB cS xa A ws (lv) (pc + 1) (.long x :: st)) : Z p l e R s m args below meth c cells slots Q cc own nL rt D cI cJ cB cS xa A ws (lv) (pc) (st) := by
  intro F H locs ls hP hD hS hl
  obtain ⟨hx, hb, hml, hown, hts, hK, hlk, hrt, hXF, hce, hsl⟩ := id F
  exact lv_lload_n hx hb hdg rfl (lv_at hl j hj) (k F H locs ls hP hD hS hl)
theorem z_lload {i : Nat} {x : Int64} (hdg : decode cc pc = .ok (.lload i, 2)) (j : Nat) (hj : lv[j]? = some (i, .long x)) (k : Z p l e R s m args below meth c cells slots Q cc own nL rt D cI cJ cB cS xa A ws (lv) (pc + 2) (.long x :: st)) : Z p l e R s m args below meth c cells slots Q cc own nL rt D cI cJ cB cS xa A ws (lv) (pc) (st) := by
  intro F H locs ls hP hD hS hl
  obtain ⟨hx, hb, hml, hown, hts, hK, hlk, hrt, hXF, hce, hsl⟩ := id F
  exact lv_lload hx hb hdg (lv_at hl j hj) (k F H locs ls hP hD hS hl)
theorem z_lstore_n {kk : Fin 4} {i : Nat} {x : Int64} (hdg : decode cc pc = .ok (.lstore_n kk, 1)) (hi : (kk : Nat) = i) (hn : i + 1 < nL) (hl2 : (i, Value.long x) :: lv.filter (fun q => !(q.1 == i) && (!(q.1 == i + 1) && !(q.1 + 1 == i && q.2.category == 2))) = lv2) (k : Z p l e R s m args below meth c cells slots Q cc own nL rt D cI cJ cB cS xa A ws (lv2) (pc + 1) (st)) : Z p l e R s m args below meth c cells slots Q cc own nL rt D cI cJ cB cS xa A ws (lv) (pc) (.long x :: st) := by
  intro F H locs ls hP hD hS hl
  obtain ⟨hx, hb, hml, hown, hts, hK, hlk, hrt, hXF, hce, hsl⟩ := id F
  exact lv_lstore_n hx hb hdg hi hl hn hl2 (fun ls hl => k F H locs ls hP hD hS hl)
theorem z_lstore {i : Nat} {x : Int64} (hdg : decode cc pc = .ok (.lstore i, 2)) (hn : i + 1 < nL) (hl2 : (i, Value.long x) :: lv.filter (fun q => !(q.1 == i) && (!(q.1 == i + 1) && !(q.1 + 1 == i && q.2.category == 2))) = lv2) (k : Z p l e R s m args below meth c cells slots Q cc own nL rt D cI cJ cB cS xa A ws (lv2) (pc + 2) (st)) : Z p l e R s m args below meth c cells slots Q cc own nL rt D cI cJ cB cS xa A ws (lv) (pc) (.long x :: st) := by
  intro F H locs ls hP hD hS hl
  obtain ⟨hx, hb, hml, hown, hts, hK, hlk, hrt, hXF, hce, hsl⟩ := id F
  exact lv_lstore hx hb hdg hl hn hl2 (fun ls hl => k F H locs ls hP hD hS hl)
theorem z_iinc {i : Nat} {n x : Int} (hdg : decode cc pc = .ok (.iinc i n, 3)) (j : Nat) (hj : lv[j]? = some (i, .int (iI x))) (hn : i < nL) (hl2 : (i, Value.int (iI (x + n))) :: lv.filter (fun q => !(q.1 == i) && !(q.1 + 1 == i && q.2.category == 2)) = lv2) (k : Z p l e R s m args below meth c cells slots Q cc own nL rt D cI cJ cB cS xa A ws (lv2) (pc + 3) (st)) : Z p l e R s m args below meth c cells slots Q cc own nL rt D cI cJ cB cS xa A ws (lv) (pc) (st) := by
  intro F H locs ls hP hD hS hl
  obtain ⟨hx, hb, hml, hown, hts, hK, hlk, hrt, hXF, hce, hsl⟩ := id F
  exact lv_iinc hx hb hdg hl hj (iI_add x n) hn hl2 (fun ls hl => k F H locs ls hP hD hS hl)
theorem z_lv (ks : List Nat) (h : lv_pick lv ks = lv2) (k : Z p l e R s m args below meth c cells slots Q cc own nL rt D cI cJ cB cS xa A ws (lv2) (pc) (st)) : Z p l e R s m args below meth c cells slots Q cc own nL rt D cI cJ cB cS xa A ws (lv) (pc) (st) := fun F H locs ls hP hD hS hl => k F H locs ls hP hD hS (lv_sub hl ks h)
theorem z_st {st2 : List Value} (h : st2 = st) (k : Z p l e R s m args below meth c cells slots Q cc own nL rt D cI cJ cB cS xa A ws (lv) (pc) (st2)) : Z p l e R s m args below meth c cells slots Q cc own nL rt D cI cJ cB cS xa A ws (lv) (pc) (st) := h ▸ k
theorem z_ws (h : ws2 = ws) (k : Z p l e R s m args below meth c cells slots Q cc own nL rt D cI cJ cB cS xa A ws2 (lv) (pc) (st)) : Z p l e R s m args below meth c cells slots Q cc own nL rt D cI cJ cB cS xa A ws (lv) (pc) (st) := h ▸ k
theorem z_wsP (h : ∀ H, va_P D vwCl ws H → va_P D vwCl ws2 H) (h2 : ws2.map Prod.fst = ws.map Prod.fst) (k : Z p l e R s m args below meth c cells slots Q cc own nL rt D cI cJ cB cS xa A ws2 (lv) (pc) (st)) : Z p l e R s m args below meth c cells slots Q cc own nL rt D cI cJ cB cS xa A ws (lv) (pc) (st) := fun F H locs ls hP hD hS hl => k F H locs ls (h H hP) (va_D.sameA h2 hD) hS hl
theorem z_iadd {x y : Int} (hdg : decode cc pc = .ok (.iadd, 1)) (k : Z p l e R s m args below meth c cells slots Q cc own nL rt D cI cJ cB cS xa A ws (lv) (pc + 1) (.int (iI (x + y)) :: st)) : Z p l e R s m args below meth c cells slots Q cc own nL rt D cI cJ cB cS xa A ws (lv) (pc) (.int (iI y) :: .int (iI x) :: st) := by
  intro F H locs ls hP hD hS hl
  obtain ⟨hx, hb, hml, hown, hts, hK, hlk, hrt, hXF, hce, hsl⟩ := id F
  refine lv_iadd hx hb hdg ?_
  rw [iI_add]
  exact k F H locs ls hP hD hS hl
theorem z_isub {x y : Int} (hdg : decode cc pc = .ok (.isub, 1)) (k : Z p l e R s m args below meth c cells slots Q cc own nL rt D cI cJ cB cS xa A ws (lv) (pc + 1) (.int (iI (x - y)) :: st)) : Z p l e R s m args below meth c cells slots Q cc own nL rt D cI cJ cB cS xa A ws (lv) (pc) (.int (iI y) :: .int (iI x) :: st) := by
  intro F H locs ls hP hD hS hl
  obtain ⟨hx, hb, hml, hown, hts, hK, hlk, hrt, hXF, hce, hsl⟩ := id F
  refine lv_isub hx hb hdg ?_
  rw [iI_sub]
  exact k F H locs ls hP hD hS hl
theorem z_imul {x y : Int} (hdg : decode cc pc = .ok (.imul, 1)) (k : Z p l e R s m args below meth c cells slots Q cc own nL rt D cI cJ cB cS xa A ws (lv) (pc + 1) (.int (iI (x * y)) :: st)) : Z p l e R s m args below meth c cells slots Q cc own nL rt D cI cJ cB cS xa A ws (lv) (pc) (.int (iI y) :: .int (iI x) :: st) := by
  intro F H locs ls hP hD hS hl
  obtain ⟨hx, hb, hml, hown, hts, hK, hlk, hrt, hXF, hce, hsl⟩ := id F
  refine lv_imul hx hb hdg ?_
  rw [iI_mul]
  exact k F H locs ls hP hD hS hl
theorem z_idiv {x y : Int} (hdg : decode cc pc = .ok (.idiv, 1)) (h : 0 ≤ x ∧ x < 2147483648 ∧ 0 < y ∧ y < 2147483648) (k : Z p l e R s m args below meth c cells slots Q cc own nL rt D cI cJ cB cS xa A ws (lv) (pc + 1) (.int (iI (x / y)) :: st)) : Z p l e R s m args below meth c cells slots Q cc own nL rt D cI cJ cB cS xa A ws (lv) (pc) (.int (iI y) :: .int (iI x) :: st) := by
  intro F H locs ls hP hD hS hl
  obtain ⟨hx, hb, hml, hown, hts, hK, hlk, hrt, hXF, hce, hsl⟩ := id F
  refine lv_idiv hx hb hdg (fun q => ?_) ?_
  · rw [← iI_0, iI_eq (by omega) (by omega)] at q; omega
  · rw [iI_div h.1 h.2.1 h.2.2.1 h.2.2.2]; exact k F H locs ls hP hD hS hl
theorem z_irem {x y : Int} (hdg : decode cc pc = .ok (.irem, 1)) (h : 0 ≤ x ∧ x < 2147483648 ∧ 0 < y ∧ y < 2147483648) (k : Z p l e R s m args below meth c cells slots Q cc own nL rt D cI cJ cB cS xa A ws (lv) (pc + 1) (.int (iI (x % y)) :: st)) : Z p l e R s m args below meth c cells slots Q cc own nL rt D cI cJ cB cS xa A ws (lv) (pc) (.int (iI y) :: .int (iI x) :: st) := by
  intro F H locs ls hP hD hS hl
  obtain ⟨hx, hb, hml, hown, hts, hK, hlk, hrt, hXF, hce, hsl⟩ := id F
  refine lv_irem hx hb hdg (fun q => ?_) ?_
  · rw [← iI_0, iI_eq (by omega) (by omega)] at q; omega
  · rw [iI_rem h.1 h.2.1 h.2.2.1 h.2.2.2]; exact k F H locs ls hP hD hS hl
theorem z_ineg {x : Int} (hdg : decode cc pc = .ok (.ineg, 1)) (k : Z p l e R s m args below meth c cells slots Q cc own nL rt D cI cJ cB cS xa A ws (lv) (pc + 1) (.int (iI (-x)) :: st)) : Z p l e R s m args below meth c cells slots Q cc own nL rt D cI cJ cB cS xa A ws (lv) (pc) (.int (iI x) :: st) := by
  intro F H locs ls hP hD hS hl
  obtain ⟨hx, hb, hml, hown, hts, hK, hlk, hrt, hXF, hce, hsl⟩ := id F
  refine lv_ineg hx hb hdg ?_
  rw [iI_neg]
  exact k F H locs ls hP hD hS hl
theorem z_ior {x y : Int32} (hdg : decode cc pc = .ok (.ior, 1)) (k : Z p l e R s m args below meth c cells slots Q cc own nL rt D cI cJ cB cS xa A ws (lv) (pc + 1) (.int (x ||| y) :: st)) : Z p l e R s m args below meth c cells slots Q cc own nL rt D cI cJ cB cS xa A ws (lv) (pc) (.int y :: .int x :: st) := by
  intro F H locs ls hP hD hS hl
  obtain ⟨hx, hb, hml, hown, hts, hK, hlk, hrt, hXF, hce, hsl⟩ := id F
  exact lv_ior hx hb hdg (k F H locs ls hP hD hS hl)
theorem z_iand {x y : Int32} (hdg : decode cc pc = .ok (.iand, 1)) (k : Z p l e R s m args below meth c cells slots Q cc own nL rt D cI cJ cB cS xa A ws (lv) (pc + 1) (.int (x &&& y) :: st)) : Z p l e R s m args below meth c cells slots Q cc own nL rt D cI cJ cB cS xa A ws (lv) (pc) (.int y :: .int x :: st) := by
  intro F H locs ls hP hD hS hl
  obtain ⟨hx, hb, hml, hown, hts, hK, hlk, hrt, hXF, hce, hsl⟩ := id F
  exact lv_iand hx hb hdg (k F H locs ls hP hD hS hl)
theorem z_ishl {x y : Int32} (hdg : decode cc pc = .ok (.ishl, 1)) (k : Z p l e R s m args below meth c cells slots Q cc own nL rt D cI cJ cB cS xa A ws (lv) (pc + 1) (.int (x <<< (y &&& 31)) :: st)) : Z p l e R s m args below meth c cells slots Q cc own nL rt D cI cJ cB cS xa A ws (lv) (pc) (.int y :: .int x :: st) := by
  intro F H locs ls hP hD hS hl
  obtain ⟨hx, hb, hml, hown, hts, hK, hlk, hrt, hXF, hce, hsl⟩ := id F
  exact lv_ishl hx hb hdg (k F H locs ls hP hD hS hl)
theorem z_ishr {x y : Int32} (hdg : decode cc pc = .ok (.ishr, 1)) (k : Z p l e R s m args below meth c cells slots Q cc own nL rt D cI cJ cB cS xa A ws (lv) (pc + 1) (.int (x >>> (y &&& 31)) :: st)) : Z p l e R s m args below meth c cells slots Q cc own nL rt D cI cJ cB cS xa A ws (lv) (pc) (.int y :: .int x :: st) := by
  intro F H locs ls hP hD hS hl
  obtain ⟨hx, hb, hml, hown, hts, hK, hlk, hrt, hXF, hce, hsl⟩ := id F
  exact lv_ishr hx hb hdg (k F H locs ls hP hD hS hl)
theorem z_ladd {x y : Int64} (hdg : decode cc pc = .ok (.ladd, 1)) (k : Z p l e R s m args below meth c cells slots Q cc own nL rt D cI cJ cB cS xa A ws (lv) (pc + 1) (.long (x + y) :: st)) : Z p l e R s m args below meth c cells slots Q cc own nL rt D cI cJ cB cS xa A ws (lv) (pc) (.long y :: .long x :: st) := by
  intro F H locs ls hP hD hS hl
  obtain ⟨hx, hb, hml, hown, hts, hK, hlk, hrt, hXF, hce, hsl⟩ := id F
  exact lv_ladd hx hb hdg (k F H locs ls hP hD hS hl)
theorem z_lsub {x y : Int64} (hdg : decode cc pc = .ok (.lsub, 1)) (k : Z p l e R s m args below meth c cells slots Q cc own nL rt D cI cJ cB cS xa A ws (lv) (pc + 1) (.long (x - y) :: st)) : Z p l e R s m args below meth c cells slots Q cc own nL rt D cI cJ cB cS xa A ws (lv) (pc) (.long y :: .long x :: st) := by
  intro F H locs ls hP hD hS hl
  obtain ⟨hx, hb, hml, hown, hts, hK, hlk, hrt, hXF, hce, hsl⟩ := id F
  exact lv_lsub hx hb hdg (k F H locs ls hP hD hS hl)
theorem z_lmul {x y : Int64} (hdg : decode cc pc = .ok (.lmul, 1)) (k : Z p l e R s m args below meth c cells slots Q cc own nL rt D cI cJ cB cS xa A ws (lv) (pc + 1) (.long (x * y) :: st)) : Z p l e R s m args below meth c cells slots Q cc own nL rt D cI cJ cB cS xa A ws (lv) (pc) (.long y :: .long x :: st) := by
  intro F H locs ls hP hD hS hl
  obtain ⟨hx, hb, hml, hown, hts, hK, hlk, hrt, hXF, hce, hsl⟩ := id F
  exact lv_lmul hx hb hdg (k F H locs ls hP hD hS hl)
theorem z_land {x y : Int64} (hdg : decode cc pc = .ok (.land, 1)) (k : Z p l e R s m args below meth c cells slots Q cc own nL rt D cI cJ cB cS xa A ws (lv) (pc + 1) (.long (x &&& y) :: st)) : Z p l e R s m args below meth c cells slots Q cc own nL rt D cI cJ cB cS xa A ws (lv) (pc) (.long y :: .long x :: st) := by
  intro F H locs ls hP hD hS hl
  obtain ⟨hx, hb, hml, hown, hts, hK, hlk, hrt, hXF, hce, hsl⟩ := id F
  exact lv_land hx hb hdg (k F H locs ls hP hD hS hl)
theorem z_lor {x y : Int64} (hdg : decode cc pc = .ok (.lor, 1)) (k : Z p l e R s m args below meth c cells slots Q cc own nL rt D cI cJ cB cS xa A ws (lv) (pc + 1) (.long (x ||| y) :: st)) : Z p l e R s m args below meth c cells slots Q cc own nL rt D cI cJ cB cS xa A ws (lv) (pc) (.long y :: .long x :: st) := by
  intro F H locs ls hP hD hS hl
  obtain ⟨hx, hb, hml, hown, hts, hK, hlk, hrt, hXF, hce, hsl⟩ := id F
  exact lv_lor hx hb hdg (k F H locs ls hP hD hS hl)
theorem z_lshl {x : Int64} {y : Int32} (hdg : decode cc pc = .ok (.lshl, 1)) (k : Z p l e R s m args below meth c cells slots Q cc own nL rt D cI cJ cB cS xa A ws (lv) (pc + 1) (.long (x <<< (y.toInt64 &&& 63)) :: st)) : Z p l e R s m args below meth c cells slots Q cc own nL rt D cI cJ cB cS xa A ws (lv) (pc) (.int y :: .long x :: st) := by
  intro F H locs ls hP hD hS hl
  obtain ⟨hx, hb, hml, hown, hts, hK, hlk, hrt, hXF, hce, hsl⟩ := id F
  exact lv_lshl hx hb hdg rfl (k F H locs ls hP hD hS hl)
theorem z_lshr {x : Int64} {y : Int32} (hdg : decode cc pc = .ok (.lshr, 1)) (k : Z p l e R s m args below meth c cells slots Q cc own nL rt D cI cJ cB cS xa A ws (lv) (pc + 1) (.long (x >>> (y.toInt64 &&& 63)) :: st)) : Z p l e R s m args below meth c cells slots Q cc own nL rt D cI cJ cB cS xa A ws (lv) (pc) (.int y :: .long x :: st) := by
  intro F H locs ls hP hD hS hl
  obtain ⟨hx, hb, hml, hown, hts, hK, hlk, hrt, hXF, hce, hsl⟩ := id F
  exact lv_lshr hx hb hdg rfl (k F H locs ls hP hD hS hl)
theorem z_lcmp {x y : Int64} (hdg : decode cc pc = .ok (.lcmp, 1)) (k : Z p l e R s m args below meth c cells slots Q cc own nL rt D cI cJ cB cS xa A ws (lv) (pc + 1) (.int (lg_cmp x y) :: st)) : Z p l e R s m args below meth c cells slots Q cc own nL rt D cI cJ cB cS xa A ws (lv) (pc) (.long y :: .long x :: st) := by
  intro F H locs ls hP hD hS hl
  obtain ⟨hx, hb, hml, hown, hts, hK, hlk, hrt, hXF, hce, hsl⟩ := id F
  exact W.lcmp hx hb hdg (k F H locs ls hP hD hS hl)
theorem z_i2l {x : Int32} (hdg : decode cc pc = .ok (.i2l, 1)) (k : Z p l e R s m args below meth c cells slots Q cc own nL rt D cI cJ cB cS xa A ws (lv) (pc + 1) (.long x.toInt64 :: st)) : Z p l e R s m args below meth c cells slots Q cc own nL rt D cI cJ cB cS xa A ws (lv) (pc) (.int x :: st) := by
  intro F H locs ls hP hD hS hl
  obtain ⟨hx, hb, hml, hown, hts, hK, hlk, hrt, hXF, hce, hsl⟩ := id F
  exact lv_i2l hx hb hdg rfl (k F H locs ls hP hD hS hl)
theorem z_l2i {x : Int64} (hdg : decode cc pc = .ok (.l2i, 1)) (k : Z p l e R s m args below meth c cells slots Q cc own nL rt D cI cJ cB cS xa A ws (lv) (pc + 1) (.int x.toInt32 :: st)) : Z p l e R s m args below meth c cells slots Q cc own nL rt D cI cJ cB cS xa A ws (lv) (pc) (.long x :: st) := by
  intro F H locs ls hP hD hS hl
  obtain ⟨hx, hb, hml, hown, hts, hK, hlk, hrt, hXF, hce, hsl⟩ := id F
  exact lv_l2i hx hb hdg rfl (k F H locs ls hP hD hS hl)
theorem z_i2b {x : Int32} (hdg : decode cc pc = .ok (.i2b, 1)) (k : Z p l e R s m args below meth c cells slots Q cc own nL rt D cI cJ cB cS xa A ws (lv) (pc + 1) (.int x.toInt8.toInt32 :: st)) : Z p l e R s m args below meth c cells slots Q cc own nL rt D cI cJ cB cS xa A ws (lv) (pc) (.int x :: st) := by
  intro F H locs ls hP hD hS hl
  obtain ⟨hx, hb, hml, hown, hts, hK, hlk, hrt, hXF, hce, hsl⟩ := id F
  exact lv_i2b hx hb hdg rfl (k F H locs ls hP hD hS hl)
theorem z_i2s {x : Int32} (hdg : decode cc pc = .ok (.i2s, 1)) (k : Z p l e R s m args below meth c cells slots Q cc own nL rt D cI cJ cB cS xa A ws (lv) (pc + 1) (.int x.toInt16.toInt32 :: st)) : Z p l e R s m args below meth c cells slots Q cc own nL rt D cI cJ cB cS xa A ws (lv) (pc) (.int x :: st) := by
  intro F H locs ls hP hD hS hl
  obtain ⟨hx, hb, hml, hown, hts, hK, hlk, hrt, hXF, hce, hsl⟩ := id F
  exact lv_i2s hx hb hdg rfl (k F H locs ls hP hD hS hl)
theorem z_dup {v : Value} (hdg : decode cc pc = .ok (.dup, 1)) (hv : v.category = 1) (k : Z p l e R s m args below meth c cells slots Q cc own nL rt D cI cJ cB cS xa A ws (lv) (pc + 1) (v :: v :: st)) : Z p l e R s m args below meth c cells slots Q cc own nL rt D cI cJ cB cS xa A ws (lv) (pc) (v :: st) := by
  intro F H locs ls hP hD hS hl
  obtain ⟨hx, hb, hml, hown, hts, hK, hlk, hrt, hXF, hce, hsl⟩ := id F
  exact lv_dup hx hb hdg hv (k F H locs ls hP hD hS hl)
theorem z_dup2 {v w : Value} (hdg : decode cc pc = .ok (.dup2, 1)) (hv : v.category = 1) (hw : w.category = 1) (k : Z p l e R s m args below meth c cells slots Q cc own nL rt D cI cJ cB cS xa A ws (lv) (pc + 1) (v :: w :: v :: w :: st)) : Z p l e R s m args below meth c cells slots Q cc own nL rt D cI cJ cB cS xa A ws (lv) (pc) (v :: w :: st) := by
  intro F H locs ls hP hD hS hl
  obtain ⟨hx, hb, hml, hown, hts, hK, hlk, hrt, hXF, hce, hsl⟩ := id F
  exact lv_dup2_11 hx hb hdg hv hw (k F H locs ls hP hD hS hl)
theorem z_pop {v : Value} (hdg : decode cc pc = .ok (.pop, 1)) (hv : v.category = 1) (k : Z p l e R s m args below meth c cells slots Q cc own nL rt D cI cJ cB cS xa A ws (lv) (pc + 1) (st)) : Z p l e R s m args below meth c cells slots Q cc own nL rt D cI cJ cB cS xa A ws (lv) (pc) (v :: st) := by
  intro F H locs ls hP hD hS hl
  obtain ⟨hx, hb, hml, hown, hts, hK, hlk, hrt, hXF, hce, hsl⟩ := id F
  exact lv_pop hx hb hdg hv (k F H locs ls hP hD hS hl)
theorem z_goto {off : Int} {tgt : Nat} (hdg : decode cc pc = .ok (.goto off, 3)) (ht : (pc : Int) + off = (tgt : Int)) (k : Z p l e R s m args below meth c cells slots Q cc own nL rt D cI cJ cB cS xa A ws (lv) (tgt) (st)) : Z p l e R s m args below meth c cells slots Q cc own nL rt D cI cJ cB cS xa A ws (lv) (pc) (st) := by
  intro F H locs ls hP hD hS hl
  obtain ⟨hx, hb, hml, hown, hts, hK, hlk, hrt, hXF, hce, hsl⟩ := id F
  exact lv_goto hx hb hdg ht (k F H locs ls hP hD hS hl)
theorem z_icmp_eq {x y : Int} {off : Int} {tgt : Nat} (hdg : decode cc pc = .ok (.if_icmp .eq off, 3)) (ht : (pc : Int) + off = (tgt : Int)) (hr1 : inr x) (hr2 : inr y) (kt : x = y → Z p l e R s m args below meth c cells slots Q cc own nL rt D cI cJ cB cS xa A ws (lv) (tgt) (st)) (kf : ¬ (x = y) → Z p l e R s m args below meth c cells slots Q cc own nL rt D cI cJ cB cS xa A ws (lv) (pc + 3) (st)) : Z p l e R s m args below meth c cells slots Q cc own nL rt D cI cJ cB cS xa A ws (lv) (pc) (.int (iI y) :: .int (iI x) :: st) := by
  intro F H locs ls hP hD hS hl
  obtain ⟨hx, hb, hml, hown, hts, hK, hlk, hrt, hXF, hce, hsl⟩ := id F
  exact lv_icmp_eq hx hb hdg ht (fun q => kt ((iI_eq hr1 hr2).mp q) F H locs ls hP hD hS hl) (fun q => kf (fun z => q ((iI_eq hr1 hr2).mpr z)) F H locs ls hP hD hS hl)
theorem z_icmp_ne {x y : Int} {off : Int} {tgt : Nat} (hdg : decode cc pc = .ok (.if_icmp .ne off, 3)) (ht : (pc : Int) + off = (tgt : Int)) (hr1 : inr x) (hr2 : inr y) (kt : ¬ x = y → Z p l e R s m args below meth c cells slots Q cc own nL rt D cI cJ cB cS xa A ws (lv) (tgt) (st)) (kf : x = y → Z p l e R s m args below meth c cells slots Q cc own nL rt D cI cJ cB cS xa A ws (lv) (pc + 3) (st)) : Z p l e R s m args below meth c cells slots Q cc own nL rt D cI cJ cB cS xa A ws (lv) (pc) (.int (iI y) :: .int (iI x) :: st) := by
  intro F H locs ls hP hD hS hl
  obtain ⟨hx, hb, hml, hown, hts, hK, hlk, hrt, hXF, hce, hsl⟩ := id F
  exact lv_icmp_ne hx hb hdg ht (fun q => kt (fun z => q (by rw [z])) F H locs ls hP hD hS hl) (fun q => kf ((iI_eq hr1 hr2).mp (by first | exact q | exact Classical.not_not.mp q)) F H locs ls hP hD hS hl)
theorem z_icmp_lt {x y : Int} {off : Int} {tgt : Nat} (hdg : decode cc pc = .ok (.if_icmp .lt off, 3)) (ht : (pc : Int) + off = (tgt : Int)) (hr1 : inr x) (hr2 : inr y) (kt : x < y → Z p l e R s m args below meth c cells slots Q cc own nL rt D cI cJ cB cS xa A ws (lv) (tgt) (st)) (kf : ¬ (x < y) → Z p l e R s m args below meth c cells slots Q cc own nL rt D cI cJ cB cS xa A ws (lv) (pc + 3) (st)) : Z p l e R s m args below meth c cells slots Q cc own nL rt D cI cJ cB cS xa A ws (lv) (pc) (.int (iI y) :: .int (iI x) :: st) := by
  intro F H locs ls hP hD hS hl
  obtain ⟨hx, hb, hml, hown, hts, hK, hlk, hrt, hXF, hce, hsl⟩ := id F
  exact lv_icmp_lt hx hb hdg ht (fun q => kt ((iI_lt hr1 hr2).mp q) F H locs ls hP hD hS hl) (fun q => kf (fun z => q ((iI_lt hr1 hr2).mpr z)) F H locs ls hP hD hS hl)
theorem z_icmp_ge {x y : Int} {off : Int} {tgt : Nat} (hdg : decode cc pc = .ok (.if_icmp .ge off, 3)) (ht : (pc : Int) + off = (tgt : Int)) (hr1 : inr x) (hr2 : inr y) (kt : y ≤ x → Z p l e R s m args below meth c cells slots Q cc own nL rt D cI cJ cB cS xa A ws (lv) (tgt) (st)) (kf : ¬ (y ≤ x) → Z p l e R s m args below meth c cells slots Q cc own nL rt D cI cJ cB cS xa A ws (lv) (pc + 3) (st)) : Z p l e R s m args below meth c cells slots Q cc own nL rt D cI cJ cB cS xa A ws (lv) (pc) (.int (iI y) :: .int (iI x) :: st) := by
  intro F H locs ls hP hD hS hl
  obtain ⟨hx, hb, hml, hown, hts, hK, hlk, hrt, hXF, hce, hsl⟩ := id F
  exact lv_icmp_ge hx hb hdg ht (fun q => kt ((iI_le hr2 hr1).mp q) F H locs ls hP hD hS hl) (fun q => kf (fun z => q ((iI_le hr2 hr1).mpr z)) F H locs ls hP hD hS hl)
theorem z_icmp_gt {x y : Int} {off : Int} {tgt : Nat} (hdg : decode cc pc = .ok (.if_icmp .gt off, 3)) (ht : (pc : Int) + off = (tgt : Int)) (hr1 : inr x) (hr2 : inr y) (kt : y < x → Z p l e R s m args below meth c cells slots Q cc own nL rt D cI cJ cB cS xa A ws (lv) (tgt) (st)) (kf : ¬ (y < x) → Z p l e R s m args below meth c cells slots Q cc own nL rt D cI cJ cB cS xa A ws (lv) (pc + 3) (st)) : Z p l e R s m args below meth c cells slots Q cc own nL rt D cI cJ cB cS xa A ws (lv) (pc) (.int (iI y) :: .int (iI x) :: st) := by
  intro F H locs ls hP hD hS hl
  obtain ⟨hx, hb, hml, hown, hts, hK, hlk, hrt, hXF, hce, hsl⟩ := id F
  exact lv_icmp_gt hx hb hdg ht (fun q => kt ((iI_lt hr2 hr1).mp q) F H locs ls hP hD hS hl) (fun q => kf (fun z => q ((iI_lt hr2 hr1).mpr z)) F H locs ls hP hD hS hl)
theorem z_icmp_le {x y : Int} {off : Int} {tgt : Nat} (hdg : decode cc pc = .ok (.if_icmp .le off, 3)) (ht : (pc : Int) + off = (tgt : Int)) (hr1 : inr x) (hr2 : inr y) (kt : x ≤ y → Z p l e R s m args below meth c cells slots Q cc own nL rt D cI cJ cB cS xa A ws (lv) (tgt) (st)) (kf : ¬ (x ≤ y) → Z p l e R s m args below meth c cells slots Q cc own nL rt D cI cJ cB cS xa A ws (lv) (pc + 3) (st)) : Z p l e R s m args below meth c cells slots Q cc own nL rt D cI cJ cB cS xa A ws (lv) (pc) (.int (iI y) :: .int (iI x) :: st) := by
  intro F H locs ls hP hD hS hl
  obtain ⟨hx, hb, hml, hown, hts, hK, hlk, hrt, hXF, hce, hsl⟩ := id F
  exact lv_icmp_le hx hb hdg ht (fun q => kt ((iI_le hr1 hr2).mp q) F H locs ls hP hD hS hl) (fun q => kf (fun z => q ((iI_le hr1 hr2).mpr z)) F H locs ls hP hD hS hl)
theorem z_if_eq {x : Int} {off : Int} {tgt : Nat} (hdg : decode cc pc = .ok (.ifCond .eq off, 3)) (ht : (pc : Int) + off = (tgt : Int)) (hr1 : inr x) (kt : x = 0 → Z p l e R s m args below meth c cells slots Q cc own nL rt D cI cJ cB cS xa A ws (lv) (tgt) (st)) (kf : ¬ (x = 0) → Z p l e R s m args below meth c cells slots Q cc own nL rt D cI cJ cB cS xa A ws (lv) (pc + 3) (st)) : Z p l e R s m args below meth c cells slots Q cc own nL rt D cI cJ cB cS xa A ws (lv) (pc) (.int (iI x) :: st) := by
  intro F H locs ls hP hD hS hl
  obtain ⟨hx, hb, hml, hown, hts, hK, hlk, hrt, hXF, hce, hsl⟩ := id F
  have e0 : (0 : Int32) = iI 0 := iI_0.symm
  exact lv_if_eq hx hb hdg ht (fun q => kt ((iI_eq hr1 (by decide)).mp (by rw [← e0]; exact q)) F H locs ls hP hD hS hl) (fun q => kf (fun z => q (by rw [e0]; exact (iI_eq hr1 (by decide)).mpr z)) F H locs ls hP hD hS hl)
theorem z_if_ne {x : Int} {off : Int} {tgt : Nat} (hdg : decode cc pc = .ok (.ifCond .ne off, 3)) (ht : (pc : Int) + off = (tgt : Int)) (hr1 : inr x) (kt : ¬ x = 0 → Z p l e R s m args below meth c cells slots Q cc own nL rt D cI cJ cB cS xa A ws (lv) (tgt) (st)) (kf : x = 0 → Z p l e R s m args below meth c cells slots Q cc own nL rt D cI cJ cB cS xa A ws (lv) (pc + 3) (st)) : Z p l e R s m args below meth c cells slots Q cc own nL rt D cI cJ cB cS xa A ws (lv) (pc) (.int (iI x) :: st) := by
  intro F H locs ls hP hD hS hl
  obtain ⟨hx, hb, hml, hown, hts, hK, hlk, hrt, hXF, hce, hsl⟩ := id F
  have e0 : (0 : Int32) = iI 0 := iI_0.symm
  refine lv_if_ne hx hb hdg ht (fun q => kt (fun z => q (by rw [z]; exact iI_0)) F H locs ls hP hD hS hl) (fun q => kf ((iI_eq hr1 (by decide)).mp ?_) F H locs ls hP hD hS hl)
  rw [← e0]
  first | exact q | exact Classical.not_not.mp q
theorem z_if_lt {x : Int} {off : Int} {tgt : Nat} (hdg : decode cc pc = .ok (.ifCond .lt off, 3)) (ht : (pc : Int) + off = (tgt : Int)) (hr1 : inr x) (kt : x < 0 → Z p l e R s m args below meth c cells slots Q cc own nL rt D cI cJ cB cS xa A ws (lv) (tgt) (st)) (kf : ¬ (x < 0) → Z p l e R s m args below meth c cells slots Q cc own nL rt D cI cJ cB cS xa A ws (lv) (pc + 3) (st)) : Z p l e R s m args below meth c cells slots Q cc own nL rt D cI cJ cB cS xa A ws (lv) (pc) (.int (iI x) :: st) := by
  intro F H locs ls hP hD hS hl
  obtain ⟨hx, hb, hml, hown, hts, hK, hlk, hrt, hXF, hce, hsl⟩ := id F
  have e0 : (0 : Int32) = iI 0 := iI_0.symm
  exact lv_if_lt hx hb hdg ht (fun q => kt ((iI_lt hr1 (by decide)).mp (by rw [← e0]; exact q)) F H locs ls hP hD hS hl) (fun q => kf (fun z => q (by rw [e0]; exact (iI_lt hr1 (by decide)).mpr z)) F H locs ls hP hD hS hl)
theorem z_if_ge {x : Int} {off : Int} {tgt : Nat} (hdg : decode cc pc = .ok (.ifCond .ge off, 3)) (ht : (pc : Int) + off = (tgt : Int)) (hr1 : inr x) (kt : 0 ≤ x → Z p l e R s m args below meth c cells slots Q cc own nL rt D cI cJ cB cS xa A ws (lv) (tgt) (st)) (kf : ¬ (0 ≤ x) → Z p l e R s m args below meth c cells slots Q cc own nL rt D cI cJ cB cS xa A ws (lv) (pc + 3) (st)) : Z p l e R s m args below meth c cells slots Q cc own nL rt D cI cJ cB cS xa A ws (lv) (pc) (.int (iI x) :: st) := by
  intro F H locs ls hP hD hS hl
  obtain ⟨hx, hb, hml, hown, hts, hK, hlk, hrt, hXF, hce, hsl⟩ := id F
  have e0 : (0 : Int32) = iI 0 := iI_0.symm
  exact lv_if_ge hx hb hdg ht (fun q => kt ((iI_le (by decide) hr1).mp (by rw [← e0]; exact q)) F H locs ls hP hD hS hl) (fun q => kf (fun z => q (by rw [e0]; exact (iI_le (by decide) hr1).mpr z)) F H locs ls hP hD hS hl)
theorem z_if_gt {x : Int} {off : Int} {tgt : Nat} (hdg : decode cc pc = .ok (.ifCond .gt off, 3)) (ht : (pc : Int) + off = (tgt : Int)) (hr1 : inr x) (kt : 0 < x → Z p l e R s m args below meth c cells slots Q cc own nL rt D cI cJ cB cS xa A ws (lv) (tgt) (st)) (kf : ¬ (0 < x) → Z p l e R s m args below meth c cells slots Q cc own nL rt D cI cJ cB cS xa A ws (lv) (pc + 3) (st)) : Z p l e R s m args below meth c cells slots Q cc own nL rt D cI cJ cB cS xa A ws (lv) (pc) (.int (iI x) :: st) := by
  intro F H locs ls hP hD hS hl
  obtain ⟨hx, hb, hml, hown, hts, hK, hlk, hrt, hXF, hce, hsl⟩ := id F
  have e0 : (0 : Int32) = iI 0 := iI_0.symm
  exact lv_if_gt hx hb hdg ht (fun q => kt ((iI_lt (by decide) hr1).mp (by rw [← e0]; exact q)) F H locs ls hP hD hS hl) (fun q => kf (fun z => q (by rw [e0]; exact (iI_lt (by decide) hr1).mpr z)) F H locs ls hP hD hS hl)
theorem z_if_le {x : Int} {off : Int} {tgt : Nat} (hdg : decode cc pc = .ok (.ifCond .le off, 3)) (ht : (pc : Int) + off = (tgt : Int)) (hr1 : inr x) (kt : x ≤ 0 → Z p l e R s m args below meth c cells slots Q cc own nL rt D cI cJ cB cS xa A ws (lv) (tgt) (st)) (kf : ¬ (x ≤ 0) → Z p l e R s m args below meth c cells slots Q cc own nL rt D cI cJ cB cS xa A ws (lv) (pc + 3) (st)) : Z p l e R s m args below meth c cells slots Q cc own nL rt D cI cJ cB cS xa A ws (lv) (pc) (.int (iI x) :: st) := by
  intro F H locs ls hP hD hS hl
  obtain ⟨hx, hb, hml, hown, hts, hK, hlk, hrt, hXF, hce, hsl⟩ := id F
  have e0 : (0 : Int32) = iI 0 := iI_0.symm
  exact lv_if_le hx hb hdg ht (fun q => kt ((iI_le hr1 (by decide)).mp (by rw [← e0]; exact q)) F H locs ls hP hD hS hl) (fun q => kf (fun z => q (by rw [e0]; exact (iI_le hr1 (by decide)).mpr z)) F H locs ls hP hD hS hl)
theorem z_ifb_eq {P : Prop} [Decidable P] {off : Int} {tgt : Nat} (hdg : decode cc pc = .ok (.ifCond .eq off, 3)) (ht : (pc : Int) + off = (tgt : Int)) (kt : ¬ P → Z p l e R s m args below meth c cells slots Q cc own nL rt D cI cJ cB cS xa A ws (lv) (tgt) (st)) (kf : P → Z p l e R s m args below meth c cells slots Q cc own nL rt D cI cJ cB cS xa A ws (lv) (pc + 3) (st)) : Z p l e R s m args below meth c cells slots Q cc own nL rt D cI cJ cB cS xa A ws (lv) (pc) (.int (bI P) :: st) := by
  intro F H locs ls hP hD hS hl
  obtain ⟨hx, hb, hml, hown, hts, hK, hlk, hrt, hXF, hce, hsl⟩ := id F
  exact lv_if_eq hx hb hdg ht (fun q => kt (bI_n0.mp q) F H locs ls hP hD hS hl) (fun q => kf (Classical.not_not.mp (fun z => q (bI_n0.mpr z))) F H locs ls hP hD hS hl)
theorem z_ifb_ne {P : Prop} [Decidable P] {off : Int} {tgt : Nat} (hdg : decode cc pc = .ok (.ifCond .ne off, 3)) (ht : (pc : Int) + off = (tgt : Int)) (kt : P → Z p l e R s m args below meth c cells slots Q cc own nL rt D cI cJ cB cS xa A ws (lv) (tgt) (st)) (kf : ¬ P → Z p l e R s m args below meth c cells slots Q cc own nL rt D cI cJ cB cS xa A ws (lv) (pc + 3) (st)) : Z p l e R s m args below meth c cells slots Q cc own nL rt D cI cJ cB cS xa A ws (lv) (pc) (.int (bI P) :: st) := by
  intro F H locs ls hP hD hS hl
  obtain ⟨hx, hb, hml, hown, hts, hK, hlk, hrt, hXF, hce, hsl⟩ := id F
  exact lv_if_ne hx hb hdg ht (fun q => kt (Classical.not_not.mp (fun z => q (bI_n0.mpr z))) F H locs ls hP hD hS hl) (fun q => kf (bI_n0.mp (by first | exact q | exact Classical.not_not.mp q)) F H locs ls hP hD hS hl)
theorem z_ifr_eq {x : Int32} {off : Int} {tgt : Nat} (hdg : decode cc pc = .ok (.ifCond .eq off, 3)) (ht : (pc : Int) + off = (tgt : Int)) (kt : x = 0 → Z p l e R s m args below meth c cells slots Q cc own nL rt D cI cJ cB cS xa A ws (lv) (tgt) (st)) (kf : ¬ (x = 0) → Z p l e R s m args below meth c cells slots Q cc own nL rt D cI cJ cB cS xa A ws (lv) (pc + 3) (st)) : Z p l e R s m args below meth c cells slots Q cc own nL rt D cI cJ cB cS xa A ws (lv) (pc) (.int x :: st) := by
  intro F H locs ls hP hD hS hl
  obtain ⟨hx, hb, hml, hown, hts, hK, hlk, hrt, hXF, hce, hsl⟩ := id F
  exact lv_if_eq hx hb hdg ht (fun q => kt q F H locs ls hP hD hS hl) (fun q => kf q F H locs ls hP hD hS hl)
theorem z_ifr_ne {x : Int32} {off : Int} {tgt : Nat} (hdg : decode cc pc = .ok (.ifCond .ne off, 3)) (ht : (pc : Int) + off = (tgt : Int)) (kt : ¬ x = 0 → Z p l e R s m args below meth c cells slots Q cc own nL rt D cI cJ cB cS xa A ws (lv) (tgt) (st)) (kf : x = 0 → Z p l e R s m args below meth c cells slots Q cc own nL rt D cI cJ cB cS xa A ws (lv) (pc + 3) (st)) : Z p l e R s m args below meth c cells slots Q cc own nL rt D cI cJ cB cS xa A ws (lv) (pc) (.int x :: st) := by
  intro F H locs ls hP hD hS hl
  obtain ⟨hx, hb, hml, hown, hts, hK, hlk, hrt, hXF, hce, hsl⟩ := id F
  exact lv_if_ne hx hb hdg ht (fun q => kt q F H locs ls hP hD hS hl) (fun q => kf (by first | exact q | exact Classical.not_not.mp q) F H locs ls hP hD hS hl)
theorem z_ifr_lt {x : Int32} {off : Int} {tgt : Nat} (hdg : decode cc pc = .ok (.ifCond .lt off, 3)) (ht : (pc : Int) + off = (tgt : Int)) (kt : x < 0 → Z p l e R s m args below meth c cells slots Q cc own nL rt D cI cJ cB cS xa A ws (lv) (tgt) (st)) (kf : ¬ (x < 0) → Z p l e R s m args below meth c cells slots Q cc own nL rt D cI cJ cB cS xa A ws (lv) (pc + 3) (st)) : Z p l e R s m args below meth c cells slots Q cc own nL rt D cI cJ cB cS xa A ws (lv) (pc) (.int x :: st) := by
  intro F H locs ls hP hD hS hl
  obtain ⟨hx, hb, hml, hown, hts, hK, hlk, hrt, hXF, hce, hsl⟩ := id F
  exact lv_if_lt hx hb hdg ht (fun q => kt q F H locs ls hP hD hS hl) (fun q => kf q F H locs ls hP hD hS hl)
theorem z_ifr_ge {x : Int32} {off : Int} {tgt : Nat} (hdg : decode cc pc = .ok (.ifCond .ge off, 3)) (ht : (pc : Int) + off = (tgt : Int)) (kt : 0 ≤ x → Z p l e R s m args below meth c cells slots Q cc own nL rt D cI cJ cB cS xa A ws (lv) (tgt) (st)) (kf : ¬ (0 ≤ x) → Z p l e R s m args below meth c cells slots Q cc own nL rt D cI cJ cB cS xa A ws (lv) (pc + 3) (st)) : Z p l e R s m args below meth c cells slots Q cc own nL rt D cI cJ cB cS xa A ws (lv) (pc) (.int x :: st) := by
  intro F H locs ls hP hD hS hl
  obtain ⟨hx, hb, hml, hown, hts, hK, hlk, hrt, hXF, hce, hsl⟩ := id F
  exact lv_if_ge hx hb hdg ht (fun q => kt q F H locs ls hP hD hS hl) (fun q => kf q F H locs ls hP hD hS hl)
theorem z_ifr_gt {x : Int32} {off : Int} {tgt : Nat} (hdg : decode cc pc = .ok (.ifCond .gt off, 3)) (ht : (pc : Int) + off = (tgt : Int)) (kt : 0 < x → Z p l e R s m args below meth c cells slots Q cc own nL rt D cI cJ cB cS xa A ws (lv) (tgt) (st)) (kf : ¬ (0 < x) → Z p l e R s m args below meth c cells slots Q cc own nL rt D cI cJ cB cS xa A ws (lv) (pc + 3) (st)) : Z p l e R s m args below meth c cells slots Q cc own nL rt D cI cJ cB cS xa A ws (lv) (pc) (.int x :: st) := by
  intro F H locs ls hP hD hS hl
  obtain ⟨hx, hb, hml, hown, hts, hK, hlk, hrt, hXF, hce, hsl⟩ := id F
  exact lv_if_gt hx hb hdg ht (fun q => kt q F H locs ls hP hD hS hl) (fun q => kf q F H locs ls hP hD hS hl)
theorem z_ifr_le {x : Int32} {off : Int} {tgt : Nat} (hdg : decode cc pc = .ok (.ifCond .le off, 3)) (ht : (pc : Int) + off = (tgt : Int)) (kt : x ≤ 0 → Z p l e R s m args below meth c cells slots Q cc own nL rt D cI cJ cB cS xa A ws (lv) (tgt) (st)) (kf : ¬ (x ≤ 0) → Z p l e R s m args below meth c cells slots Q cc own nL rt D cI cJ cB cS xa A ws (lv) (pc + 3) (st)) : Z p l e R s m args below meth c cells slots Q cc own nL rt D cI cJ cB cS xa A ws (lv) (pc) (.int x :: st) := by
  intro F H locs ls hP hD hS hl
  obtain ⟨hx, hb, hml, hown, hts, hK, hlk, hrt, hXF, hce, hsl⟩ := id F
  exact lv_if_le hx hb hdg ht (fun q => kt q F H locs ls hP hD hS hl) (fun q => kf q F H locs ls hP hD hS hl)
theorem z_tableIn {dflt lo hi : Int} {offs : Array Int} {len : Nat} {x : Int} {off : Int} {tgt : Nat} (hdg : decode cc pc = .ok (.tableswitch dflt lo hi offs, len)) (hr : inr x) (h1 : lo ≤ x) (h2 : x ≤ hi) (ho : offs[(x - lo).toNat]? = some off) (ht : (pc : Int) + off = (tgt : Int)) (k : Z p l e R s m args below meth c cells slots Q cc own nL rt D cI cJ cB cS xa A ws (lv) (tgt) (st)) : Z p l e R s m args below meth c cells slots Q cc own nL rt D cI cJ cB cS xa A ws (lv) (pc) (.int (iI x) :: st) := by
  intro F H locs ls hP hD hS hl
  obtain ⟨hx, hb, hml, hown, hts, hK, hlk, hrt, hXF, hce, hsl⟩ := id F
  exact lv_tableIn hx hb hdg (by rw [iI_toInt hr]; omega) (by rw [iI_toInt hr]; omega) (by rw [iI_toInt hr]; exact ho) ht (k F H locs ls hP hD hS hl)
theorem z_tableOut {dflt lo hi : Int} {offs : Array Int} {len : Nat} {x : Int} {tgt : Nat} (hdg : decode cc pc = .ok (.tableswitch dflt lo hi offs, len)) (hr : inr x) (h : x < lo ∨ hi < x) (ht : (pc : Int) + dflt = (tgt : Int)) (k : Z p l e R s m args below meth c cells slots Q cc own nL rt D cI cJ cB cS xa A ws (lv) (tgt) (st)) : Z p l e R s m args below meth c cells slots Q cc own nL rt D cI cJ cB cS xa A ws (lv) (pc) (.int (iI x) :: st) := by
  intro F H locs ls hP hD hS hl
  obtain ⟨hx, hb, hml, hown, hts, hK, hlk, hrt, hXF, hce, hsl⟩ := id F
  exact lv_tableOut hx hb hdg (by rw [iI_toInt hr]; exact h) ht (k F H locs ls hP hD hS hl)
theorem z_lookup {dflt : Int} {ps : Array (Int × Int)} {len : Nat} {x : Int} {off : Int} {tgt : Nat} (hdg : decode cc pc = .ok (.lookupswitch dflt ps, len)) (hp : (ps.toList.zip (ps.toList.drop 1)).all (fun (a, next) => a.1 < next.1) = true) (hr : inr x) (ho : Op.lookupswitch.offset ps.toList dflt x = off) (ht : (pc : Int) + off = (tgt : Int)) (k : Z p l e R s m args below meth c cells slots Q cc own nL rt D cI cJ cB cS xa A ws (lv) (tgt) (st)) : Z p l e R s m args below meth c cells slots Q cc own nL rt D cI cJ cB cS xa A ws (lv) (pc) (.int (iI x) :: st) := by
  intro F H locs ls hP hD hS hl
  obtain ⟨hx, hb, hml, hown, hts, hK, hlk, hrt, hXF, hce, hsl⟩ := id F
  exact lv_lookup hx hb hdg hp (by rw [iI_toInt hr]; exact ho) ht (k F H locs ls hP hD hS hl)
end ZK
end
section
def va_A0 (W0 : va_W) : Nat → Prop := fun q => ∃ (k : Nat) (e : va_E), W0[k]? = some (q, e)
def rp : va_W → List Nat → va_W → va_W
  | ws, i :: is, w :: wc => rp (ws.set i w) is wc
  | ws, _, _ => ws
theorem rp_spec : ∀ (is : List Nat) (wc ws : va_W), is.length = wc.length → ∀ (k : Nat) (q : Nat × va_E), (rp ws is wc)[k]? = some q → (∃ j : Nat, is[j]? = some k ∧ wc[j]? = some q) ∨ (k ∉ is ∧ ws[k]? = some q)
  | [], [], ws, _, k, q, h => Or.inr ⟨List.not_mem_nil, h⟩
  | [], _ :: _, ws, hl, k, q, h => by cases hl
  | _ :: _, [], ws, hl, k, q, h => by cases hl
  | i :: is, w :: wc, ws, hl, k, q, h => by
    rcases rp_spec is wc (ws.set i w) (by simpa using hl) k q h with ⟨j, h1, h2⟩ | ⟨h1, h2⟩
    · exact Or.inl ⟨j + 1, h1, h2⟩
    · by_cases hk : k = i
      · subst hk
        have hlt : k < ws.length := by
          have := (List.getElem?_eq_some_iff.mp h2).1
          rwa [List.length_set] at this
        rw [List.getElem?_set_self hlt] at h2
        exact Or.inl ⟨0, rfl, h2⟩
      · rw [List.getElem?_set_ne (Ne.symm hk)] at h2
        exact Or.inr ⟨fun z => (List.mem_cons.mp z).elim hk h1, h2⟩
theorem map_at {is : List Nat} {ws w : va_W} (hs : is.map (fun i => ws[i]?) = w.map some) (k : Nat) (q : Nat × va_E) (hq : w[k]? = some q) : ∃ i, is[k]? = some i ∧ ws[i]? = some q := by
  have h1 : (is.map (fun i => ws[i]?))[k]? = some (some q) := by rw [hs, List.getElem?_map, hq]; rfl
  rw [List.getElem?_map] at h1
  cases hi : is[k]? with
  | none => rw [hi] at h1; cases h1
  | some i => rw [hi] at h1; exact ⟨i, rfl, Option.some.inj h1⟩
theorem va_P.pick {D : va_G} {cl : List vw_C} {ws wc : va_W} {H : Heap} {is : List Nat} (hP : va_P D cl ws H) (hC : is.map (fun i => ws[i]?) = wc.map some) : va_P D cl wc H := fun k q hq => by
  obtain ⟨i, -, h2⟩ := map_at hC k q hq
  exact hP i q h2
theorem va_A0.sub {A : Nat → Prop} {ws wc : va_W} {is : List Nat} (hD : va_D A ws) (hC : is.map (fun i => ws[i]?) = wc.map some) : ∀ q, va_A0 wc q → A q := fun q h => by
  obtain ⟨k, e, h⟩ := h
  obtain ⟨i, -, h2⟩ := map_at hC k (q, e) h
  exact hD.2 i (q, e) h2
theorem rp_P {D : va_G} {cl : List vw_C} {A : Nat → Prop} {ws wc wc1 : va_W} {H H1 : Heap} {is : List Nat} (hP : va_P D cl ws H) (hD : va_D A ws) (hC : is.map (fun i => ws[i]?) = wc.map some) (hn : is.length = wc1.length)
    (hk : ∀ q : Nat, q < H.size → ¬ va_A0 wc q → H1[q]? = H[q]?) (hP1 : va_P D cl wc1 H1) : va_P D cl (rp ws is wc1) H1 := by
  intro k q hq
  rcases rp_spec is wc1 ws hn k q hq with ⟨j, h1, h2⟩ | ⟨h1, h2⟩
  · exact hP1 j q h2
  · refine (hP k q h2).kept (hk q.1 (hP k q h2).lt (fun z => ?_))
    obtain ⟨j, e, hj⟩ := z
    obtain ⟨i, h3, h4⟩ := map_at hC j (q.1, e) hj
    have hij := hD.1 k i q (q.1, e) h2 h4 rfl
    subst hij
    exact h1 (List.mem_of_getElem? h3)
/-! fields -/
def FL (own : String) (index ci k : Nat) : Prop := ∃ (C : String) (T : u_T) (N : Nat), vwCl[ci]? = some (C, T, N) ∧ (∀ w ∈ u_ws C T N, w ∈ gt) ∧ k < N ∧ Cond.fieldLink own index (T k).1 (T k).2.1 (T k).2.2.1 ∈ gt
def FP (own : String) (index ci k : Nat) (ty : FieldType) : Prop := ∃ (C : String) (T : u_T) (N : Nat) (ty0 : Nat → FieldType), vwCl[ci]? = some (C, T, N) ∧ (∀ w ∈ u_ws C T N, w ∈ gt) ∧ k < N ∧ Cond.fieldLink own index (T k).1 (T k).2.1 (T k).2.2.1 ∈ gt ∧
  (∀ k, k < N → parseFieldDescriptor (T k).2.2.1 = some (ty0 k)) ∧ (∀ a, a < N → ∀ b, b < N → a ≠ b → (T a).2.1 ≠ (T b).2.1) ∧ (T k).2.2.2 = false ∧ parseFieldDescriptor (T k).2.2.1 = some ty
def MMin (own : String) (index : Nat) : Prop := Cond.methodLink own index Lib.Math.min.name ∈ gt ∧ Cond.static Lib.Math.min.name ∈ gt ∧ Cond.initialized "java/lang/Math" ∈ gt ∧ Cond.code Lib.Math.min.name Lib.Math.min.code 2 (some .int) ∈ gt
def MMax (own : String) (index : Nat) : Prop := Cond.methodLink own index Lib.Math.max.name ∈ gt ∧ Cond.static Lib.Math.max.name ∈ gt ∧ Cond.initialized "java/lang/Math" ∈ gt ∧ Cond.code Lib.Math.max.name Lib.Math.max.code 2 (some .int) ∈ gt
def MCpy (own : String) (index : Nat) : Prop := Cond.methodLink own index arraycopyName ∈ gt ∧ Cond.native arraycopyName ∈ gt ∧ Cond.static arraycopyName ∈ gt ∧ Cond.initialized "java/lang/System" ∈ gt
/-! contracts -/
def Cp (D : va_G) (cI cJ cB cS : ClassId) (xa : XA) (av : List Value) (W0 : va_W) : Array Value → State → Prop := fun v U => v = av.toArray ∧ va_P D vwCl W0 U.heap ∧ va_K D vwCl (TY cI cJ cB cS) U ∧ va_D (fun _ => True) W0 ∧ XF xa (va_A0 W0) U U.heap
def Cq {S : Type} (D : va_G) (W0 : va_W) (post : S → Prop) (O : S → Option Value) (W1 : S → va_W) : Array Value → State → Outcome → State → Prop := fun _ st oc t => ∃ u : S, post u ∧ oc = .returned (O u) ∧ va_P D vwCl (W1 u) t.heap ∧ va_F (va_A0 W0) st t
def CtE {S : Type} (l : Launch) (D : va_G) (cI cJ cB cS : ClassId) (xa : XA) (y : MethodName) (cc : ByteArray) (maxL : Nat) (ret : Option FieldType) (fr lo : Nat) (av : List Value) (W0 : va_W) (post : S → Prop) (O : S → Option Value) (W1 : S → va_W) : Prop :=
  Met l y (Cond.code y cc maxL ret :: gt) { frames := fr, cells := 0, slots := 0, locals := lo } (Cp D cI cJ cB cS xa av W0) (Cq D W0 post O W1) 0 0 (va_A0 W0)
abbrev Ct (l : Launch) (D : va_G) (cI cJ cB cS : ClassId) (xa : XA) (y : MethodName) (cc : ByteArray) (maxL : Nat) (ret : Option FieldType) (fr lo : Nat) (av : List Value) (W0 : va_W) (O : Option Value) (W1 : va_W) : Prop :=
  CtE (S := Unit) l D cI cJ cB cS xa y cc maxL ret fr lo av W0 (fun _ => True) (fun _ => O) (fun _ => W1)
theorem Cp.blind {D : va_G} {cI cJ cB cS : ClassId} {xa : XA} {av : List Value} {W0 : va_W} : FrameBlind (Cp D cI cJ cB cS xa av W0) := fun a U g mk h => by
  obtain ⟨h1, h2, h3, h4, h5⟩ := h
  exact ⟨h1, h2, va_K.moved (u := U) (U := U.calling g mk a) (Vm.Alike.refl U.vm) h3, h4, XF.eq (u := U) (U := U.calling g mk a) rfl h5⟩
theorem CtE.of {S : Type} {l : Launch} {D : va_G} {cI cJ cB cS : ClassId} {xa : XA} {y : MethodName} {cc : ByteArray} {maxL : Nat} {ret : Option FieldType} {fr lo : Nat} {av : List Value} {W0 : va_W} {post : S → Prop} {O : S → Option Value} {W1 : S → va_W} {own : String} {lv : List (Nat × Value)}
    (hy : plainName y.cls = true) (hown : y.cls = own) (hlv : lv_args 0 av = lv) (hlen : (lg_sl av).length ≤ maxL)
    (body : ∀ (p : Program) (e : Env) (s : State) (m : MethodId) (below : List Frame) (meth : Method) (c : Code), Z p l e { frames := fr, cells := 0, slots := 0, locals := lo } s m av.toArray below meth c 0 0 (MQ below (Cq D W0 post O W1) av.toArray s 0 0 (va_A0 W0)) cc own maxL ret D cI cJ cB cS xa (va_A0 W0) W0 lv 0 []) :
    CtE l D cI cJ cB cS xa y cc maxL ret fr lo av W0 post O W1 := by
  refine Met.ofW (cc := cc) (maxL := maxL) (ret := ret) hy rfl ?_
  intro p e s m args below meth c s₁ B hml hv
  obtain ⟨rfl, hP, hK, hD0, hXF⟩ := hv
  have hts := atoms_spec (ws := Cond.code y cc maxL ret :: gt) B.pre
  have ho : s.vm.findClass own = some m.cls := by rw [← hown]; exact findClass_of_methodNamed B.named
  have hl := lv_entry av (n := maxL) hlen
  rw [lg_entry_eq]
  rw [hlv] at hl
  exact body p e s m below meth c ⟨B.exec, B.bytes, hml, ho, fun w h => hts w (List.mem_cons_of_mem _ h), hK, B.notSynchronized, B.returns, hXF, Nat.zero_le _, Nat.zero_le _⟩ s.heap [] _ hP ⟨hD0.1, fun k q h => ⟨k, q.2, h⟩⟩ va_S.rf hl
def MV (y : MethodName) (cc : ByteArray) (maxL : Nat) (ret : Option FieldType) (n : Nat) : Prop := Cond.code y cc maxL ret ∈ gt ∧ Cond.instanceMethod y ∈ gt ∧ Cond.selects y.cls y y ∈ gt ∧ Cond.initialized y.cls ∈ gt ∧ (y.cls ≠ "java/lang/invoke/MethodHandle" ∧ y.cls ≠ "java/lang/invoke/VarHandle" ∧ (parseMethodDescriptor y.desc).map (fun d => d.parameters.length) = some n)
def MS (y : MethodName) (cc : ByteArray) (maxL : Nat) (ret : Option FieldType) (n : Nat) : Prop := Cond.code y cc maxL ret ∈ gt ∧ Cond.static y ∈ gt ∧ Cond.initialized y.cls ∈ gt ∧ (y.cls ≠ "java/lang/invoke/MethodHandle" ∧ y.cls ≠ "java/lang/invoke/VarHandle" ∧ (parseMethodDescriptor y.desc).map (fun d => d.parameters.length) = some n)
section ZC
variable {p : Program} {l : Launch} {e : Env} {R : Room} {s : State} {m : MethodId} {args : Array Value} {below : List Frame} {meth : Method} {c : Code} {cells slots : Nat} {Q : State → Prop} {cc : ByteArray} {own : String} {nL : Nat} {rt : Option FieldType} {D : va_G} {cI cJ cB cS : ClassId} {xa : XA} {A : Nat → Prop} {ws ws2 : va_W} {lv lv2 : List (Nat × Value)} {pc : Nat} {st : List Value}
theorem z_get {index ci q0 kf a : Nat} {fs : List Value} {v : Value} (f : FL own index ci kf) (hdg : decode cc pc = .ok (.getfield index, 3)) (he : ws[q0]? = some (a, .inr (ci, fs))) (hv : fs[kf]? = some v) (k : Z p l e R s m args below meth c cells slots Q cc own nL rt D cI cJ cB cS xa A ws (lv) (pc + 3) (v :: st)) : Z p l e R s m args below meth c cells slots Q cc own nL rt D cI cJ cB cS xa A ws (lv) (pc) (.ref a :: st) := by
  intro F H locs ls hP hD hS hl
  obtain ⟨hx, hb, hml, hown, hts, hK, hlk, hrt, hXF, hce, hsl⟩ := id F
  obtain ⟨C, T, N, hc, hin, hk, hlink⟩ := f
  exact va_get (C := C) (T := T) (N := N) hx hb hts hin hown hK hP q0 he hc kf hk (hts _ hlink) (fun _ h => h) hv hdg (k F H locs ls hP hD hS hl)
theorem z_put {index ci q0 kf a : Nat} {fs : List Value} {v : Value} {ty : FieldType} (f : FP own index ci kf ty) (hdg : decode cc pc = .ok (.putfield index, 3)) (he : ws[q0]? = some (a, .inr (ci, fs))) (hn : narrow ty v = v) (hfit : fits ty v = true) (hl0 : kf < fs.length) (hw : ws.set q0 (a, .inr (ci, fs.set kf v)) = ws2) (k : Z p l e R s m args below meth c cells slots Q cc own nL rt D cI cJ cB cS xa A ws2 (lv) (pc + 3) (st)) : Z p l e R s m args below meth c cells slots Q cc own nL rt D cI cJ cB cS xa A ws (lv) (pc) (v :: .ref a :: st) := by
  intro F H locs ls hP hD hS hl
  obtain ⟨hx, hb, hml, hown, hts, hK, hlk, hrt, hXF, hce, hsl⟩ := id F
  obtain ⟨C, T, N, ty0, hc, hin, hk, hlink, hty, hnm, hfin, hd⟩ := f
  subst hw
  exact va_put (C := C) (T := T) (N := N) hx hb hts hin ty0 hty hnm hown hK hP hD hS q0 he hc kf hk (hts _ hlink) (fun _ h => h) hfin hd hn hfit hl0 hdg (fun H locs hP hD hS => k F H locs ls hP hD hS hl)
theorem z_iald {q0 a n : Nat} {f : Nat → Int32} {z : Int} {v : Int32} (hdg : decode cc pc = .ok (.iaload, 1)) (he : ws[q0]? = some (a, .inl (cI, n, .inl f))) (hz : 0 ≤ z ∧ z < (n : Int)) (hn : n ≤ 2147483648) (hv : f z.toNat = v) (k : Z p l e R s m args below meth c cells slots Q cc own nL rt D cI cJ cB cS xa A ws (lv) (pc + 1) (.int v :: st)) : Z p l e R s m args below meth c cells slots Q cc own nL rt D cI cJ cB cS xa A ws (lv) (pc) (.int (iI z) :: .ref a :: st) := by
  intro F H locs ls hP hD hS hl
  obtain ⟨hx, hb, hml, hown, hts, hK, hlk, hrt, hXF, hce, hsl⟩ := id F
  subst hv
  refine va_iald hx hb hK hP q0 0 he rfl (iI_in hz.1 hz.2 hn) hdg ?_
  rw [iI_clamp hz.1 (by omega)]
  exact k F H locs ls hP hD hS hl
theorem z_bald {q0 a n : Nat} {f : Nat → Int32} {z : Int} {v : Int32} (hdg : decode cc pc = .ok (.baload, 1)) (he : ws[q0]? = some (a, .inl (cB, n, .inl f))) (hz : 0 ≤ z ∧ z < (n : Int)) (hn : n ≤ 2147483648) (hv : f z.toNat = v) (k : Z p l e R s m args below meth c cells slots Q cc own nL rt D cI cJ cB cS xa A ws (lv) (pc + 1) (.int v :: st)) : Z p l e R s m args below meth c cells slots Q cc own nL rt D cI cJ cB cS xa A ws (lv) (pc) (.int (iI z) :: .ref a :: st) := by
  intro F H locs ls hP hD hS hl
  obtain ⟨hx, hb, hml, hown, hts, hK, hlk, hrt, hXF, hce, hsl⟩ := id F
  subst hv
  refine va_bald hx hb hK hP q0 2 he rfl (iI_in hz.1 hz.2 hn) hdg ?_
  rw [iI_clamp hz.1 (by omega)]
  exact k F H locs ls hP hD hS hl
theorem z_lald {q0 a n : Nat} {f : Nat → Int64} {z : Int} {v : Int64} (hdg : decode cc pc = .ok (.laload, 1)) (he : ws[q0]? = some (a, .inl (cJ, n, .inr (.inl f)))) (hz : 0 ≤ z ∧ z < (n : Int)) (hn : n ≤ 2147483648) (hv : f z.toNat = v) (k : Z p l e R s m args below meth c cells slots Q cc own nL rt D cI cJ cB cS xa A ws (lv) (pc + 1) (.long v :: st)) : Z p l e R s m args below meth c cells slots Q cc own nL rt D cI cJ cB cS xa A ws (lv) (pc) (.int (iI z) :: .ref a :: st) := by
  intro F H locs ls hP hD hS hl
  obtain ⟨hx, hb, hml, hown, hts, hK, hlk, hrt, hXF, hce, hsl⟩ := id F
  subst hv
  refine va_lald hx hb hK hP q0 1 he rfl (iI_in hz.1 hz.2 hn) hdg ?_
  rw [iI_clamp hz.1 (by omega)]
  exact k F H locs ls hP hD hS hl
theorem z_iast {q0 a n : Nat} {f : Nat → Int32} {z : Int} {x : Int32} (hdg : decode cc pc = .ok (.iastore, 1)) (he : ws[q0]? = some (a, .inl (cI, n, .inl f))) (hz : 0 ≤ z ∧ z < (n : Int)) (hn : n ≤ 2147483648) (hw : ws.set q0 (a, .inl (cI, n, .inl (upd f z.toNat x))) = ws2) (k : Z p l e R s m args below meth c cells slots Q cc own nL rt D cI cJ cB cS xa A ws2 (lv) (pc + 1) (st)) : Z p l e R s m args below meth c cells slots Q cc own nL rt D cI cJ cB cS xa A ws (lv) (pc) (.int x :: .int (iI z) :: .ref a :: st) := by
  intro F H locs ls hP hD hS hl
  obtain ⟨hx, hb, hml, hown, hts, hK, hlk, hrt, hXF, hce, hsl⟩ := id F
  subst hw
  refine va_iast hx hb hK hP hD hS q0 0 he rfl (iI_in hz.1 hz.2 hn) hdg ?_
  rw [iI_clamp hz.1 (by omega)]
  exact fun H locs hP hD hS => k F H locs ls hP hD hS hl
theorem z_bast {q0 a n : Nat} {f : Nat → Int32} {z : Int} {x : Int32} (hdg : decode cc pc = .ok (.bastore, 1)) (he : ws[q0]? = some (a, .inl (cB, n, .inl f))) (hz : 0 ≤ z ∧ z < (n : Int)) (hn : n ≤ 2147483648) (hw : ws.set q0 (a, .inl (cB, n, .inl (upd f z.toNat (vp_nar .byte x)))) = ws2) (k : Z p l e R s m args below meth c cells slots Q cc own nL rt D cI cJ cB cS xa A ws2 (lv) (pc + 1) (st)) : Z p l e R s m args below meth c cells slots Q cc own nL rt D cI cJ cB cS xa A ws (lv) (pc) (.int x :: .int (iI z) :: .ref a :: st) := by
  intro F H locs ls hP hD hS hl
  obtain ⟨hx, hb, hml, hown, hts, hK, hlk, hrt, hXF, hce, hsl⟩ := id F
  subst hw
  refine va_bast hx hb hK hP hD hS q0 2 he rfl (iI_in hz.1 hz.2 hn) hdg ?_
  rw [iI_clamp hz.1 (by omega)]
  exact fun H locs hP hD hS => k F H locs ls hP hD hS hl
theorem z_last {q0 a n : Nat} {f : Nat → Int64} {z : Int} {x : Int64} (hdg : decode cc pc = .ok (.lastore, 1)) (he : ws[q0]? = some (a, .inl (cJ, n, .inr (.inl f)))) (hz : 0 ≤ z ∧ z < (n : Int)) (hn : n ≤ 2147483648) (hw : ws.set q0 (a, .inl (cJ, n, .inr (.inl (vp_updL f z.toNat x)))) = ws2) (k : Z p l e R s m args below meth c cells slots Q cc own nL rt D cI cJ cB cS xa A ws2 (lv) (pc + 1) (st)) : Z p l e R s m args below meth c cells slots Q cc own nL rt D cI cJ cB cS xa A ws (lv) (pc) (.long x :: .int (iI z) :: .ref a :: st) := by
  intro F H locs ls hP hD hS hl
  obtain ⟨hx, hb, hml, hown, hts, hK, hlk, hrt, hXF, hce, hsl⟩ := id F
  subst hw
  refine va_last hx hb hK hP hD hS q0 1 he rfl (iI_in hz.1 hz.2 hn) hdg ?_
  rw [iI_clamp hz.1 (by omega)]
  exact fun H locs hP hD hS => k F H locs ls hP hD hS hl
theorem z_aald {q0 a n b : Nat} {f : Nat → Option Nat} {z : Int} (hdg : decode cc pc = .ok (.aaload, 1)) (he : ws[q0]? = some (a, .inl (cS, n, .inr (.inr (.inr (.inr f)))))) (hz : 0 ≤ z ∧ z < (n : Int)) (hn : n ≤ 2147483648) (hv : f z.toNat = some b) (k : Z p l e R s m args below meth c cells slots Q cc own nL rt D cI cJ cB cS xa A ws (lv) (pc + 1) (.ref b :: st)) : Z p l e R s m args below meth c cells slots Q cc own nL rt D cI cJ cB cS xa A ws (lv) (pc) (.int (iI z) :: .ref a :: st) := by
  intro F H locs ls hP hD hS hl
  obtain ⟨hx, hb, hml, hown, hts, hK, hlk, hrt, hXF, hce, hsl⟩ := id F
  refine va_aldq (C := "OwingSwings$Sheet") hx hb hK hP q0 3 he rfl (iI_in hz.1 hz.2 hn) hdg ?_
  rw [iI_clamp hz.1 (by omega), hv]
  exact k F H locs ls hP hD hS hl
theorem z_alen_i {q0 a n : Nat} {f : Nat → Int32} (hdg : decode cc pc = .ok (.arraylength, 1)) (he : ws[q0]? = some (a, .inl (cI, n, .inl f))) (k : Z p l e R s m args below meth c cells slots Q cc own nL rt D cI cJ cB cS xa A ws (lv) (pc + 1) (.int (iI (n : Int)) :: st)) : Z p l e R s m args below meth c cells slots Q cc own nL rt D cI cJ cB cS xa A ws (lv) (pc) (.ref a :: st) := by
  intro F H locs ls hP hD hS hl
  obtain ⟨hx, hb, hml, hown, hts, hK, hlk, hrt, hXF, hce, hsl⟩ := id F
  refine va_alen hx hb hK hP q0 0 he rfl (v := iI (n : Int)) (by rw [iI_nat]; rfl) hdg (k F H locs ls hP hD hS hl)
theorem z_alen_l {q0 a n : Nat} {f : Nat → Int64} (hdg : decode cc pc = .ok (.arraylength, 1)) (he : ws[q0]? = some (a, .inl (cJ, n, .inr (.inl f)))) (k : Z p l e R s m args below meth c cells slots Q cc own nL rt D cI cJ cB cS xa A ws (lv) (pc + 1) (.int (iI (n : Int)) :: st)) : Z p l e R s m args below meth c cells slots Q cc own nL rt D cI cJ cB cS xa A ws (lv) (pc) (.ref a :: st) := by
  intro F H locs ls hP hD hS hl
  obtain ⟨hx, hb, hml, hown, hts, hK, hlk, hrt, hXF, hce, hsl⟩ := id F
  refine va_alen hx hb hK hP q0 1 he rfl (v := iI (n : Int)) (by rw [iI_nat]; rfl) hdg (k F H locs ls hP hD hS hl)
theorem z_min {index : Nat} {x y : Int} (f : MMin own index) (hdg : decode cc pc = .ok (.invokestatic index, 3)) (hr1 : inr x) (hr2 : inr y) (hR : 1 ≤ R.frames ∧ (st.map fun v => v.category).sum + 13 ≤ R.locals) (k : Z p l e R s m args below meth c cells slots Q cc own nL rt D cI cJ cB cS xa A ws (lv) (pc + 3) (.int (iI (min x y)) :: st)) : Z p l e R s m args below meth c cells slots Q cc own nL rt D cI cJ cB cS xa A ws (lv) (pc) (.int (iI y) :: .int (iI x) :: st) := by
  intro F H locs ls hP hD hS hl
  obtain ⟨hx, hb, hml, hown, hts, hK, hlk, hrt, hXF, hce, hsl⟩ := id F
  obtain ⟨f1, f2, f3, f4⟩ := f
  refine va_mmin hx hb (by rw [hml]; exact hl.1.symm) hown (hts _ f1) (hts _ f2) (hts _ f3) (hts _ f4) hR.1 hR.2 hce hsl hdg ?_
  have e1 : (if iI y < iI x then iI y else iI x) = iI (min x y) := by
    by_cases h : y < x
    · rw [if_pos ((iI_lt hr2 hr1).mpr h), Int.min_eq_right (Int.le_of_lt h)]
    · rw [if_neg (fun z => h ((iI_lt hr2 hr1).mp z)), Int.min_eq_left (by omega)]
  rw [e1]
  exact k F H locs ls hP hD hS hl
theorem z_max {index : Nat} {x y : Int} (f : MMax own index) (hdg : decode cc pc = .ok (.invokestatic index, 3)) (hr1 : inr x) (hr2 : inr y) (hR : 1 ≤ R.frames ∧ (st.map fun v => v.category).sum + 13 ≤ R.locals) (k : Z p l e R s m args below meth c cells slots Q cc own nL rt D cI cJ cB cS xa A ws (lv) (pc + 3) (.int (iI (max x y)) :: st)) : Z p l e R s m args below meth c cells slots Q cc own nL rt D cI cJ cB cS xa A ws (lv) (pc) (.int (iI y) :: .int (iI x) :: st) := by
  intro F H locs ls hP hD hS hl
  obtain ⟨hx, hb, hml, hown, hts, hK, hlk, hrt, hXF, hce, hsl⟩ := id F
  obtain ⟨f1, f2, f3, f4⟩ := f
  refine va_mmax hx hb (by rw [hml]; exact hl.1.symm) hown (hts _ f1) (hts _ f2) (hts _ f3) (hts _ f4) hR.1 hR.2 hce hsl hdg ?_
  have e1 : (if iI x < iI y then iI y else iI x) = iI (max x y) := by
    by_cases h : x < y
    · rw [if_pos ((iI_lt hr1 hr2).mpr h), Int.max_eq_right (Int.le_of_lt h)]
    · rw [if_neg (fun z => h ((iI_lt hr1 hr2).mp z)), Int.max_eq_left (by omega)]
  rw [e1]
  exact k F H locs ls hP hD hS hl
theorem z_copyi {index q0 q1 a0 a n0 n1 : Nat} {f g : Nat → Int32} {sp dp n : Int} (ff : MCpy own index) (hdg : decode cc pc = .ok (.invokestatic index, 3)) (he0 : ws[q0]? = some (a0, .inl (cI, n0, .inl f))) (he1 : ws[q1]? = some (a, .inl (cI, n1, .inl g))) (hr : 0 ≤ sp ∧ 0 ≤ dp ∧ 0 ≤ n ∧ sp + n ≤ (n0 : Int) ∧ dp + n ≤ (n1 : Int) ∧ (n0 : Int) < 2147483648 ∧ (n1 : Int) < 2147483648) (hR : 1 ≤ R.frames ∧ (st.map fun v => v.category).sum + 18 ≤ R.locals) (hw : ws.set q1 (a, .inl (cI, n1, .inl (va_cpy f g sp.toNat dp.toNat n.toNat))) = ws2) (k : Z p l e R s m args below meth c cells slots Q cc own nL rt D cI cJ cB cS xa A ws2 (lv) (pc + 3) (st)) : Z p l e R s m args below meth c cells slots Q cc own nL rt D cI cJ cB cS xa A ws (lv) (pc) (.int (iI n) :: .int (iI dp) :: .ref a :: .int (iI sp) :: .ref a0 :: st) := by
  intro F H locs ls hP hD hS hl
  obtain ⟨hx, hb, hml, hown, hts, hK, hlk, hrt, hXF, hce, hsl⟩ := id F
  obtain ⟨f1, f2, f3, f4⟩ := ff
  subst hw
  obtain ⟨r1, r2, r3, r4, r5, r6, r7⟩ := hr
  have c1 := iI_clamp r1 (by omega)
  have c2 := iI_clamp r2 (by omega)
  have c3 := iI_clamp r3 (by omega)
  have nn : ∀ z : Int, 0 ≤ z → z < 2147483648 → ¬ iI z < 0 := fun z h1 h2 q => by
    rw [← iI_0, iI_lt ⟨by omega, h2⟩ (by decide)] at q; omega
  have ncw : nativeFrameWords "java/lang/System" "arraycopy" 5 + 11 = 18 := by decide
  refine va_copyi hx hb (by rw [hml]; exact hl.1.symm) hown (hts _ f1) (hts _ f2) (hts _ f3) (hts _ f4) hK hP hD hS q0 q1 0 0 he0 he1 rfl rfl rfl (nn _ r1 (by omega)) (nn _ r2 (by omega)) (nn _ r3 (by omega)) (by rw [c1, c3]; omega) (by rw [c2, c3]; omega) (fun _ _ => rfl) hR.1 (by rw [ncw]; exact hR.2) hdg ?_
  rw [c1, c2, c3]
  exact fun H locs hP hD hS => k F H locs ls hP hD hS hl
theorem z_copyl {index q0 q1 a0 a n0 n1 : Nat} {f g : Nat → Int64} {sp dp n : Int} (ff : MCpy own index) (hdg : decode cc pc = .ok (.invokestatic index, 3)) (he0 : ws[q0]? = some (a0, .inl (cJ, n0, .inr (.inl f)))) (he1 : ws[q1]? = some (a, .inl (cJ, n1, .inr (.inl g)))) (hr : 0 ≤ sp ∧ 0 ≤ dp ∧ 0 ≤ n ∧ sp + n ≤ (n0 : Int) ∧ dp + n ≤ (n1 : Int) ∧ (n0 : Int) < 2147483648 ∧ (n1 : Int) < 2147483648) (hR : 1 ≤ R.frames ∧ (st.map fun v => v.category).sum + 18 ≤ R.locals) (hw : ws.set q1 (a, .inl (cJ, n1, .inr (.inl (va_cpy f g sp.toNat dp.toNat n.toNat)))) = ws2) (k : Z p l e R s m args below meth c cells slots Q cc own nL rt D cI cJ cB cS xa A ws2 (lv) (pc + 3) (st)) : Z p l e R s m args below meth c cells slots Q cc own nL rt D cI cJ cB cS xa A ws (lv) (pc) (.int (iI n) :: .int (iI dp) :: .ref a :: .int (iI sp) :: .ref a0 :: st) := by
  intro F H locs ls hP hD hS hl
  obtain ⟨hx, hb, hml, hown, hts, hK, hlk, hrt, hXF, hce, hsl⟩ := id F
  obtain ⟨f1, f2, f3, f4⟩ := ff
  subst hw
  obtain ⟨r1, r2, r3, r4, r5, r6, r7⟩ := hr
  have c1 := iI_clamp r1 (by omega)
  have c2 := iI_clamp r2 (by omega)
  have c3 := iI_clamp r3 (by omega)
  have nn : ∀ z : Int, 0 ≤ z → z < 2147483648 → ¬ iI z < 0 := fun z h1 h2 q => by
    rw [← iI_0, iI_lt ⟨by omega, h2⟩ (by decide)] at q; omega
  have ncw : nativeFrameWords "java/lang/System" "arraycopy" 5 + 11 = 18 := by decide
  refine va_copyl hx hb (by rw [hml]; exact hl.1.symm) hown (hts _ f1) (hts _ f2) (hts _ f3) (hts _ f4) hK hP hD hS q0 q1 1 1 he0 he1 rfl rfl rfl (nn _ r1 (by omega)) (nn _ r2 (by omega)) (nn _ r3 (by omega)) (by rw [c1, c3]; omega) (by rw [c2, c3]; omega) (fun _ _ => rfl) hR.1 (by rw [ncw]; exact hR.2) hdg ?_
  rw [c1, c2, c3]
  exact fun H locs hP hD hS => k F H locs ls hP hD hS hl
theorem z_callVE {S : Type} {index maxL fr lo n : Nat} {y : MethodName} {bytes : ByteArray} {ret : Option FieldType} {As : List Value} {Wc : va_W} {post : S → Prop} {O : S → Option Value} {Wc1 : S → va_W} {b q0 ci : Nat} {fs : List Value} {CT : u_T} {CN : Nat} (hM : CtE l D cI cJ cB cS xa y bytes maxL ret fr lo (.ref b :: As) Wc post O Wc1) (ff : MV y bytes maxL ret n) (hlink : Cond.methodLink own index y ∈ gt) (hdg : decode cc pc = .ok (.invokevirtual index, 3)) (he : ws[q0]? = some (b, .inr (ci, fs))) (hci : vwCl[ci]? = some (y.cls, CT, CN)) (is : List Nat) (hnd : va_nd is = true) (hC : is.map (fun i => ws[i]?) = Wc.map some) (hlen : ∀ u, is.length = (Wc1 u).length) (hadr : ∀ u, (rp ws is (Wc1 u)).map Prod.fst = ws.map Prod.fst) (hn : As.length = n) {st0 : List Value} (hst : As.reverse ++ .ref b :: st = st0) (hR : fr + 1 ≤ R.frames ∧ 8 + (maxL + 11) + lo ≤ R.locals ∧ (st.map fun v => v.category).sum ≤ 8) (k : ∀ u : S, post u → Z p l e R s m args below meth c cells slots Q cc own nL rt D cI cJ cB cS xa A (rp ws is (Wc1 u)) (lv) (pc + 3) ((O u).toList ++ st)) : Z p l e R s m args below meth c cells slots Q cc own nL rt D cI cJ cB cS xa A ws (lv) (pc) (st0) := by
  intro F H locs ls hP hD hS hl
  obtain ⟨hx, hb, hml, hown, hts, hK, hlk, hrt, hXF, hce, hsl⟩ := id F
  obtain ⟨f1, f2, f3, f4, f5⟩ := ff
  subst hst
  obtain ⟨hR1, hR2, hR3⟩ := hR
  have hAc : ∀ q, va_A0 Wc q → A q := va_A0.sub hD hC
  have hPc : va_P D vwCl Wc H := hP.pick hC
  have hDc : va_D (fun _ => True) Wc := (hD.sub is hnd hC).weaken (fun _ _ _ _ => trivial)
  have hcb := callB_of (R := R) (s := s) (args := args) (own := own) (index := index) (y := y) (bytes := bytes) (maxL := maxL) (ret := ret) (ws := Cond.code y bytes maxL ret :: gt) (rm := { frames := fr, cells := 0, slots := 0, locals := lo }) (mc := 0) (ms := 0) n hts (gt_GoodIn f1) rfl rfl rfl (hts _ f4) (hts _ hlink) f5 ⟨hR1, hR2⟩
  have run := va_runV (g := F0 m pc ls (As.reverse ++ .ref b :: st)) (p := p) (l := l) (e := e) (below := below) (meth := meth) (locs := locs) (cells := cells) (slots := slots) (H := H) (As := As) (rest := st) (b := b) (C := y.cls) (Ts := gt) ⟨hx, hb, hml, hown, hts⟩ hM ⟨hcb, hts _ f2, hts _ f3⟩ ⟨Cp.blind, va_recv hK hP hci he, fun U hU hW => ⟨rfl, by rw [hU]; exact hPc, va_K.moved hW.alike hK, hDc, by rw [hU]; exact hXF.go hS hW hAc⟩⟩ rfl hn hl.1 rfl (lv_room hR3) hdg ⟨hce, hsl⟩
  intro T hT X
  obtain ⟨v, st₀, t, T', L, h0, X', hL, e1, e2, ⟨u, hu, hv, hP1, hF⟩, stp⟩ := run T hT X
  cases hv
  obtain ⟨hz, hk⟩ := hF
  rw [h0] at hz hk
  obtain ⟨t2, a1, b1⟩ := k u hu F T'.heap (locs ++ L) ls (by rw [e1]; exact rp_P hP hD hC (hlen u) hk hP1) (va_D.sameA (hadr u) hD)
    ⟨Nat.le_trans hS.1 (by rw [e1]; exact hz), fun q h1 h2 => by rw [e1, hk q (Nat.lt_of_lt_of_le h1 hS.1) (fun z => h2 (hAc q z))]; exact hS.2.1 q h1 h2, fun q hq => by
      rcases List.mem_append.mp hq with h | h
      · exact hS.2.2 q h
      · exact hAc _ (hL q h)⟩ hl T' rfl X'
  exact ⟨t2, stp t2 a1, b1⟩
theorem z_callSE {S : Type} {index maxL fr lo n : Nat} {y : MethodName} {bytes : ByteArray} {ret : Option FieldType} {As : List Value} {Wc : va_W} {post : S → Prop} {O : S → Option Value} {Wc1 : S → va_W} (hM : CtE l D cI cJ cB cS xa y bytes maxL ret fr lo (As) Wc post O Wc1) (ff : MS y bytes maxL ret n) (hlink : Cond.methodLink own index y ∈ gt) (hdg : decode cc pc = .ok (.invokestatic index, 3)) (is : List Nat) (hnd : va_nd is = true) (hC : is.map (fun i => ws[i]?) = Wc.map some) (hlen : ∀ u, is.length = (Wc1 u).length) (hadr : ∀ u, (rp ws is (Wc1 u)).map Prod.fst = ws.map Prod.fst) (hn : As.length = n) {st0 : List Value} (hst : As.reverse ++ st = st0) (hR : fr + 1 ≤ R.frames ∧ 8 + (maxL + 11) + lo ≤ R.locals ∧ (st.map fun v => v.category).sum ≤ 8) (k : ∀ u : S, post u → Z p l e R s m args below meth c cells slots Q cc own nL rt D cI cJ cB cS xa A (rp ws is (Wc1 u)) (lv) (pc + 3) ((O u).toList ++ st)) : Z p l e R s m args below meth c cells slots Q cc own nL rt D cI cJ cB cS xa A ws (lv) (pc) (st0) := by
  intro F H locs ls hP hD hS hl
  obtain ⟨hx, hb, hml, hown, hts, hK, hlk, hrt, hXF, hce, hsl⟩ := id F
  obtain ⟨f1, f2, f3, f4⟩ := ff
  subst hst
  obtain ⟨hR1, hR2, hR3⟩ := hR
  have hAc : ∀ q, va_A0 Wc q → A q := va_A0.sub hD hC
  have hPc : va_P D vwCl Wc H := hP.pick hC
  have hDc : va_D (fun _ => True) Wc := (hD.sub is hnd hC).weaken (fun _ _ _ _ => trivial)
  have hcb := callB_of (R := R) (s := s) (args := args) (own := own) (index := index) (y := y) (bytes := bytes) (maxL := maxL) (ret := ret) (ws := Cond.code y bytes maxL ret :: gt) (rm := { frames := fr, cells := 0, slots := 0, locals := lo }) (mc := 0) (ms := 0) n hts (gt_GoodIn f1) rfl rfl rfl (hts _ f3) (hts _ hlink) f4 ⟨hR1, hR2⟩
  have run := va_runS (g := F0 m pc ls (As.reverse ++ st)) (p := p) (l := l) (e := e) (below := below) (meth := meth) (locs := locs) (cells := cells) (slots := slots) (H := H) (As := As) (rest := st) (Ts := gt) ⟨hx, hb, hml, hown, hts⟩ hM ⟨hcb, hts _ f2⟩ ⟨Cp.blind, fun U hU hW => ⟨rfl, by rw [hU]; exact hPc, va_K.moved hW.alike hK, hDc, by rw [hU]; exact hXF.go hS hW hAc⟩⟩ rfl hn hl.1 rfl (lv_room hR3) hdg ⟨hce, hsl⟩
  intro T hT X
  obtain ⟨v, st₀, t, T', L, h0, X', hL, e1, e2, ⟨u, hu, hv, hP1, hF⟩, stp⟩ := run T hT X
  cases hv
  obtain ⟨hz, hk⟩ := hF
  rw [h0] at hz hk
  obtain ⟨t2, a1, b1⟩ := k u hu F T'.heap (locs ++ L) ls (by rw [e1]; exact rp_P hP hD hC (hlen u) hk hP1) (va_D.sameA (hadr u) hD)
    ⟨Nat.le_trans hS.1 (by rw [e1]; exact hz), fun q h1 h2 => by rw [e1, hk q (Nat.lt_of_lt_of_le h1 hS.1) (fun z => h2 (hAc q z))]; exact hS.2.1 q h1 h2, fun q hq => by
      rcases List.mem_append.mp hq with h | h
      · exact hS.2.2 q h
      · exact hAc _ (hL q h)⟩ hl T' rfl X'
  exact ⟨t2, stp t2 a1, b1⟩
theorem z_callV {index maxL fr lo n : Nat} {y : MethodName} {bytes : ByteArray} {ret : Option FieldType} {As : List Value} {Wc Wc1 : va_W} {O : Option Value} {b q0 ci : Nat} {fs : List Value} {CT : u_T} {CN : Nat} (hM : Ct l D cI cJ cB cS xa y bytes maxL ret fr lo (.ref b :: As) Wc O Wc1) (ff : MV y bytes maxL ret n) (hlink : Cond.methodLink own index y ∈ gt) (hdg : decode cc pc = .ok (.invokevirtual index, 3)) (he : ws[q0]? = some (b, .inr (ci, fs))) (hci : vwCl[ci]? = some (y.cls, CT, CN)) (is : List Nat) (hnd : va_nd is = true) (hC : is.map (fun i => ws[i]?) = Wc.map some) (hlen : is.length = Wc1.length) (hadr : (rp ws is Wc1).map Prod.fst = ws.map Prod.fst) (hw : rp ws is Wc1 = ws2) (hn : As.length = n) {st0 st2 : List Value} (hst : As.reverse ++ .ref b :: st = st0) (hst2 : O.toList ++ st = st2) (hR : fr + 1 ≤ R.frames ∧ 8 + (maxL + 11) + lo ≤ R.locals ∧ (st.map fun v => v.category).sum ≤ 8) (k : Z p l e R s m args below meth c cells slots Q cc own nL rt D cI cJ cB cS xa A ws2 (lv) (pc + 3) (st2)) : Z p l e R s m args below meth c cells slots Q cc own nL rt D cI cJ cB cS xa A ws (lv) (pc) (st0) :=
  z_callVE hM ff hlink hdg he hci is hnd hC (fun _ => hlen) (fun _ => hadr) hn hst hR (fun _ _ => by rw [hw, hst2]; exact k)
theorem z_callS {index maxL fr lo n : Nat} {y : MethodName} {bytes : ByteArray} {ret : Option FieldType} {As : List Value} {Wc Wc1 : va_W} {O : Option Value} (hM : Ct l D cI cJ cB cS xa y bytes maxL ret fr lo (As) Wc O Wc1) (ff : MS y bytes maxL ret n) (hlink : Cond.methodLink own index y ∈ gt) (hdg : decode cc pc = .ok (.invokestatic index, 3)) (is : List Nat) (hnd : va_nd is = true) (hC : is.map (fun i => ws[i]?) = Wc.map some) (hlen : is.length = Wc1.length) (hadr : (rp ws is Wc1).map Prod.fst = ws.map Prod.fst) (hw : rp ws is Wc1 = ws2) (hn : As.length = n) {st0 st2 : List Value} (hst : As.reverse ++ st = st0) (hst2 : O.toList ++ st = st2) (hR : fr + 1 ≤ R.frames ∧ 8 + (maxL + 11) + lo ≤ R.locals ∧ (st.map fun v => v.category).sum ≤ 8) (k : Z p l e R s m args below meth c cells slots Q cc own nL rt D cI cJ cB cS xa A ws2 (lv) (pc + 3) (st2)) : Z p l e R s m args below meth c cells slots Q cc own nL rt D cI cJ cB cS xa A ws (lv) (pc) (st0) :=
  z_callSE hM ff hlink hdg is hnd hC (fun _ => hlen) (fun _ => hadr) hn hst hR (fun _ _ => by rw [hw, hst2]; exact k)
theorem z_iretE {S : Type} {W0 : va_W} {post : S → Prop} {O : S → Option Value} {W1 : S → va_W} {v : Int32} (hdg : decode cc pc = .ok (.ireturn, 1)) (u : S) (hu : post u) (hO : O u = some (.int v)) (hW : W1 u = ws) : Z p l e R s m args below meth c 0 0 (MQ below (Cq D W0 post O W1) args s 0 0 (va_A0 W0)) cc own nL (some .int) D cI cJ cB cS xa (va_A0 W0) ws lv pc [.int v] := by
  intro F H locs ls hP hD hS hl
  obtain ⟨hx, hb, hml, hown, hts, hK, hlk, hrt, hXF, hce, hsl⟩ := id F
  subst hW
  exact W.iret hx hb hrt (fun t ht hW => ⟨u, hu, by rw [hO], by rw [ht]; exact hP, hS.F ht⟩) hS.2.2 hdg hlk
theorem z_zretE {S : Type} {W0 : va_W} {post : S → Prop} {O : S → Option Value} {W1 : S → va_W} {v : Int32} {ty : FieldType} (hnar : narrow ty (.int v) = .int v) (hdg : decode cc pc = .ok (.ireturn, 1)) (u : S) (hu : post u) (hO : O u = some (.int v)) (hW : W1 u = ws) : Z p l e R s m args below meth c 0 0 (MQ below (Cq D W0 post O W1) args s 0 0 (va_A0 W0)) cc own nL (some ty) D cI cJ cB cS xa (va_A0 W0) ws lv pc [.int v] := by
  intro F H locs ls hP hD hS hl
  obtain ⟨hx, hb, hml, hown, hts, hK, hlk, hrt, hXF, hce, hsl⟩ := id F
  subst hW
  exact W.zret hx hb hrt hnar (fun t ht hW => ⟨u, hu, by rw [hO], by rw [ht]; exact hP, hS.F ht⟩) hS.2.2 hdg hlk
theorem z_lretE {S : Type} {W0 : va_W} {post : S → Prop} {O : S → Option Value} {W1 : S → va_W} {v : Int64} (hdg : decode cc pc = .ok (.lreturn, 1)) (u : S) (hu : post u) (hO : O u = some (.long v)) (hW : W1 u = ws) : Z p l e R s m args below meth c 0 0 (MQ below (Cq D W0 post O W1) args s 0 0 (va_A0 W0)) cc own nL (some .long) D cI cJ cB cS xa (va_A0 W0) ws lv pc [.long v] := by
  intro F H locs ls hP hD hS hl
  obtain ⟨hx, hb, hml, hown, hts, hK, hlk, hrt, hXF, hce, hsl⟩ := id F
  subst hW
  exact W.lret hx hb hrt (fun t ht hW => ⟨u, hu, by rw [hO], by rw [ht]; exact hP, hS.F ht⟩) hS.2.2 hdg hlk
theorem z_vretE {S : Type} {W0 : va_W} {post : S → Prop} {O : S → Option Value} {W1 : S → va_W} (hdg : decode cc pc = .ok (.return_, 1)) (u : S) (hu : post u) (hO : O u = none) (hW : W1 u = ws) : Z p l e R s m args below meth c 0 0 (MQ below (Cq D W0 post O W1) args s 0 0 (va_A0 W0)) cc own nL none D cI cJ cB cS xa (va_A0 W0) ws lv pc [] := by
  intro F H locs ls hP hD hS hl
  obtain ⟨hx, hb, hml, hown, hts, hK, hlk, hrt, hXF, hce, hsl⟩ := id F
  subst hW
  exact W.vret hx hb hrt (fun t ht hW => ⟨u, hu, by rw [hO], by rw [ht]; exact hP, hS.F ht⟩) hS.2.2 hdg hlk
theorem z_aretE {S : Type} {W0 : va_W} {post : S → Prop} {O : S → Option Value} {W1 : S → va_W} {v : Nat} {cn : String} (hdg : decode cc pc = .ok (.areturn, 1)) (u : S) (hu : post u) (hO : O u = some (.ref v)) (hW : W1 u = ws) : Z p l e R s m args below meth c 0 0 (MQ below (Cq D W0 post O W1) args s 0 0 (va_A0 W0)) cc own nL (some (.object cn)) D cI cJ cB cS xa (va_A0 W0) ws lv pc [.ref v] := by
  intro F H locs ls hP hD hS hl
  obtain ⟨hx, hb, hml, hown, hts, hK, hlk, hrt, hXF, hce, hsl⟩ := id F
  subst hW
  exact W.aret hx hb hrt (Or.inl ⟨_, rfl⟩) (Or.inr ⟨_, rfl⟩) (fun t ht hW => ⟨u, hu, by rw [hO], by rw [ht]; exact hP, hS.F ht⟩) hS.2.2 hdg hlk
theorem z_iret {W0 W1 : va_W} {O : Option Value} {v : Int32} (hdg : decode cc pc = .ok (.ireturn, 1)) (hO : O = some (.int v)) (hW : W1 = ws) : Z p l e R s m args below meth c 0 0 (MQ below (Cq (S := Unit) D W0 (fun _ => True) (fun _ => O) (fun _ => W1)) args s 0 0 (va_A0 W0)) cc own nL (some .int) D cI cJ cB cS xa (va_A0 W0) ws lv pc [.int v] := z_iretE hdg () trivial hO hW
theorem z_zret {W0 W1 : va_W} {O : Option Value} {v : Int32} {ty : FieldType} (hnar : narrow ty (.int v) = .int v) (hdg : decode cc pc = .ok (.ireturn, 1)) (hO : O = some (.int v)) (hW : W1 = ws) : Z p l e R s m args below meth c 0 0 (MQ below (Cq (S := Unit) D W0 (fun _ => True) (fun _ => O) (fun _ => W1)) args s 0 0 (va_A0 W0)) cc own nL (some ty) D cI cJ cB cS xa (va_A0 W0) ws lv pc [.int v] := z_zretE hnar hdg () trivial hO hW
theorem z_lret {W0 W1 : va_W} {O : Option Value} {v : Int64} (hdg : decode cc pc = .ok (.lreturn, 1)) (hO : O = some (.long v)) (hW : W1 = ws) : Z p l e R s m args below meth c 0 0 (MQ below (Cq (S := Unit) D W0 (fun _ => True) (fun _ => O) (fun _ => W1)) args s 0 0 (va_A0 W0)) cc own nL (some .long) D cI cJ cB cS xa (va_A0 W0) ws lv pc [.long v] := z_lretE hdg () trivial hO hW
theorem z_vret {W0 W1 : va_W} {O : Option Value} (hdg : decode cc pc = .ok (.return_, 1)) (hO : O = none) (hW : W1 = ws) : Z p l e R s m args below meth c 0 0 (MQ below (Cq (S := Unit) D W0 (fun _ => True) (fun _ => O) (fun _ => W1)) args s 0 0 (va_A0 W0)) cc own nL none D cI cJ cB cS xa (va_A0 W0) ws lv pc [] := z_vretE hdg () trivial hO hW
theorem z_aret {W0 W1 : va_W} {O : Option Value} {v : Nat} {cn : String} (hdg : decode cc pc = .ok (.areturn, 1)) (hO : O = some (.ref v)) (hW : W1 = ws) : Z p l e R s m args below meth c 0 0 (MQ below (Cq (S := Unit) D W0 (fun _ => True) (fun _ => O) (fun _ => W1)) args s 0 0 (va_A0 W0)) cc own nL (some (.object cn)) D cI cJ cB cS xa (va_A0 W0) ws lv pc [.ref v] := z_aretE hdg () trivial hO hW
end ZC
end
section
theorem gt_iX {w : Cond} (i : Nat) (h : (lw_tbl[i]? == some w && goodWord w) = true) : w ∈ gt := by
  rw [Bool.and_eq_true] at h
  exact gt_at i (by simpa using h.1) h.2
theorem kI_L : Cond.initialized RL ∈ gt := gt_at 65 (by decide +kernel) (by decide +kernel)
theorem kI_X3 : Cond.initialized RX3 ∈ gt := gt_at 66 (by decide +kernel) (by decide +kernel)
theorem kI_X0 : Cond.initialized RX0 ∈ gt := gt_at 67 (by decide +kernel) (by decide +kernel)
theorem kI_X2 : Cond.initialized RX2 ∈ gt := gt_at 68 (by decide +kernel) (by decide +kernel)
theorem kI_X1 : Cond.initialized RX1 ∈ gt := gt_at 69 (by decide +kernel) (by decide +kernel)
theorem kI_X4 : Cond.initialized RX4 ∈ gt := gt_at 70 (by decide +kernel) (by decide +kernel)
theorem kI_J9 : Cond.initialized RJ9 ∈ gt := gt_at 71 (by decide +kernel) (by decide +kernel)
theorem kI_J10 : Cond.initialized RJ10 ∈ gt := gt_at 72 (by decide +kernel) (by decide +kernel)
theorem kI_J0 : Cond.initialized RJ0 ∈ gt := gt_at 73 (by decide +kernel) (by decide +kernel)
theorem kI_J1 : Cond.initialized RJ1 ∈ gt := gt_at 74 (by decide +kernel) (by decide +kernel)
theorem kI_J3 : Cond.initialized RJ3 ∈ gt := gt_at 75 (by decide +kernel) (by decide +kernel)
theorem kI_J2 : Cond.initialized RJ2 ∈ gt := gt_at 76 (by decide +kernel) (by decide +kernel)
theorem kI_J7 : Cond.initialized RJ7 ∈ gt := gt_at 77 (by decide +kernel) (by decide +kernel)
theorem kI_Math : Cond.initialized "java/lang/Math" ∈ gt := gt_at 71 (by decide +kernel) (by decide +kernel)
theorem kI_System : Cond.initialized "java/lang/System" ∈ gt := gt_at 72 (by decide +kernel) (by decide +kernel)
theorem kM_L_9 : Cond.methodLink RL 9 yX3_init ∈ gt := gt_at 80 (by decide +kernel) (by decide +kernel)
theorem kM_X3_1 : Cond.methodLink RX3 1 objectInit ∈ gt := gt_at 83 (by decide +kernel) (by decide +kernel)
theorem kM_X3_9 : Cond.methodLink RX3 9 yX0_init ∈ gt := gt_at 88 (by decide +kernel) (by decide +kernel)
theorem kM_X0_1 : Cond.methodLink RX0 1 objectInit ∈ gt := gt_at 91 (by decide +kernel) (by decide +kernel)
theorem kM_X3_28 : Cond.methodLink RX3 28 yX2_init ∈ gt := gt_at 128 (by decide +kernel) (by decide +kernel)
theorem kM_X2_3 : Cond.methodLink RX2 3 objectInit ∈ gt := gt_at 131 (by decide +kernel) (by decide +kernel)
theorem kM_X3_39 : Cond.methodLink RX3 39 yX1_init ∈ gt := gt_at 156 (by decide +kernel) (by decide +kernel)
theorem kM_X1_1 : Cond.methodLink RX1 1 objectInit ∈ gt := gt_at 159 (by decide +kernel) (by decide +kernel)
theorem kM_L_13 : Cond.methodLink RL 13 yX3_dark ∈ gt := gt_at 196 (by decide +kernel) (by decide +kernel)
theorem kM_X3_44 : Cond.methodLink RX3 44 yX3_within ∈ gt := gt_at 200 (by decide +kernel) (by decide +kernel)
theorem kM_X3_48 : Cond.methodLink RX3 48 yX3_found ∈ gt := gt_at 203 (by decide +kernel) (by decide +kernel)
theorem kM_L_18 : Cond.methodLink RL 18 yX3_now ∈ gt := gt_at 208 (by decide +kernel) (by decide +kernel)
theorem kM_X3_59 : Cond.methodLink RX3 59 yX0_minuteOfDay ∈ gt := gt_at 212 (by decide +kernel) (by decide +kernel)
theorem kM_X3_63 : Cond.methodLink RX3 63 yX0_isDusk ∈ gt := gt_at 216 (by decide +kernel) (by decide +kernel)
theorem kM_X0_51 : Cond.methodLink RX0 51 yX0_minuteOfDay ∈ gt := gt_at 220 (by decide +kernel) (by decide +kernel)
theorem kM_X3_67 : Cond.methodLink RX3 67 yX3_asNumber ∈ gt := gt_at 221 (by decide +kernel) (by decide +kernel)
theorem kM_X3_71 : Cond.methodLink RX3 71 yX0_isSaturday ∈ gt := gt_at 224 (by decide +kernel) (by decide +kernel)
theorem kM_X3_77 : Cond.methodLink RX3 77 yX3_sumOf ∈ gt := gt_at 228 (by decide +kernel) (by decide +kernel)
theorem kM_X3_81 : Cond.methodLink RX3 81 yX0_isLevel ∈ gt := gt_at 232 (by decide +kernel) (by decide +kernel)
theorem kM_X0_65 : Cond.methodLink RX0 65 yX0_apart ∈ gt := gt_at 236 (by decide +kernel) (by decide +kernel)
theorem kM_X0_59 : Cond.methodLink RX0 59 yX0_highest ∈ gt := gt_at 240 (by decide +kernel) (by decide +kernel)
theorem kM_X0_55 : Cond.methodLink RX0 55 yX0_firstOfMost ∈ gt := gt_at 244 (by decide +kernel) (by decide +kernel)
theorem kM_X0_62 : Cond.methodLink RX0 62 yX0_lowest ∈ gt := gt_at 248 (by decide +kernel) (by decide +kernel)
theorem kM_X3_84 : Cond.methodLink RX3 84 yX0_inTheDust ∈ gt := gt_at 252 (by decide +kernel) (by decide +kernel)
theorem kM_X3_87 : Cond.methodLink RX3 87 yX0_highest ∈ gt := gt_at 256 (by decide +kernel) (by decide +kernel)
theorem kM_L_22 : Cond.methodLink RL 22 yX3_child ∈ gt := gt_at 257 (by decide +kernel) (by decide +kernel)
theorem kM_X3_90 : Cond.methodLink RX3 90 yX3_isKind ∈ gt := gt_at 261 (by decide +kernel) (by decide +kernel)
theorem kM_X3_94 : Cond.methodLink RX3 94 yX0_hasRoom ∈ gt := gt_at 264 (by decide +kernel) (by decide +kernel)
theorem kM_X3_97 : Cond.methodLink RX3 97 yX0_addOne ∈ gt := gt_at 268 (by decide +kernel) (by decide +kernel)
theorem kM_L_26 : Cond.methodLink RL 26 yX3_of ∈ gt := gt_at 272 (by decide +kernel) (by decide +kernel)
theorem kM_X3_100 : Cond.methodLink RX3 100 yX3_isChild ∈ gt := gt_at 276 (by decide +kernel) (by decide +kernel)
theorem kM_X3_113 : Cond.methodLink RX3 113 yX0_wantsOf ∈ gt := gt_at 281 (by decide +kernel) (by decide +kernel)
theorem kM_X0_68 : Cond.methodLink RX0 68 yX0_nextOf ∈ gt := gt_at 285 (by decide +kernel) (by decide +kernel)
theorem kM_X0_72 : Cond.methodLink RX0 72 yX0_isSaturday ∈ gt := gt_at 289 (by decide +kernel) (by decide +kernel)
theorem kM_X3_116 : Cond.methodLink RX3 116 yX0_paysOf ∈ gt := gt_at 290 (by decide +kernel) (by decide +kernel)
theorem kM_X3_119 : Cond.methodLink RX3 119 yX0_yieldsOf ∈ gt := gt_at 294 (by decide +kernel) (by decide +kernel)
theorem kM_L_31 : Cond.methodLink RL 31 yX3_set ∈ gt := gt_at 298 (by decide +kernel) (by decide +kernel)
theorem kM_X3_122 : Cond.methodLink RX3 122 yX3_put ∈ gt := gt_at 302 (by decide +kernel) (by decide +kernel)
theorem kM_L_36 : Cond.methodLink RL 36 yX3_turn ∈ gt := gt_at 306 (by decide +kernel) (by decide +kernel)
theorem kM_L_40 : Cond.methodLink RL 40 yX3_as ∈ gt := gt_at 310 (by decide +kernel) (by decide +kernel)
theorem kM_X3_126 : Cond.methodLink RX3 126 yX0_isOfKind ∈ gt := gt_at 314 (by decide +kernel) (by decide +kernel)
theorem kM_L_44 : Cond.methodLink RL 44 yX3_push ∈ gt := gt_at 319 (by decide +kernel) (by decide +kernel)
theorem kM_X3_130 : Cond.methodLink RX3 130 yX0_shove ∈ gt := gt_at 323 (by decide +kernel) (by decide +kernel)
theorem kM_X0_41 : Cond.methodLink RX0 41 Lib.Math.min.name ∈ gt := gt_at 327 (by decide +kernel) (by decide +kernel)
theorem kM_L_48 : Cond.methodLink RL 48 yX3_swap ∈ gt := gt_at 330 (by decide +kernel) (by decide +kernel)
theorem kM_X3_134 : Cond.methodLink RX3 134 yX3_areTwo ∈ gt := gt_at 334 (by decide +kernel) (by decide +kernel)
theorem kM_X3_137 : Cond.methodLink RX3 137 yX0_exchange ∈ gt := gt_at 338 (by decide +kernel) (by decide +kernel)
theorem kM_X0_47 : Cond.methodLink RX0 47 yX0_exchangeIn ∈ gt := gt_at 342 (by decide +kernel) (by decide +kernel)
theorem kM_L_52 : Cond.methodLink RL 52 yX3_minutes ∈ gt := gt_at 345 (by decide +kernel) (by decide +kernel)
theorem kM_X3_141 : Cond.methodLink RX3 141 yX0_goOn ∈ gt := gt_at 350 (by decide +kernel) (by decide +kernel)
theorem kM_X0_76 : Cond.methodLink RX0 76 yX0_goMinute ∈ gt := gt_at 354 (by decide +kernel) (by decide +kernel)
theorem kM_X0_79 : Cond.methodLink RX0 79 yX0_isDusk ∈ gt := gt_at 358 (by decide +kernel) (by decide +kernel)
theorem kM_X0_82 : Cond.methodLink RX0 82 yX0_getMoreLevel ∈ gt := gt_at 359 (by decide +kernel) (by decide +kernel)
theorem kM_X0_89 : Cond.methodLink RX0 89 yX0_carry ∈ gt := gt_at 363 (by decide +kernel) (by decide +kernel)
theorem kM_X0_106 : Cond.methodLink RX0 106 Lib.Math.max.name ∈ gt := gt_at 367 (by decide +kernel) (by decide +kernel)
theorem kM_X0_85 : Cond.methodLink RX0 85 yX0_deal ∈ gt := gt_at 370 (by decide +kernel) (by decide +kernel)
theorem kM_X0_93 : Cond.methodLink RX0 93 yX0_wantsOf ∈ gt := gt_at 374 (by decide +kernel) (by decide +kernel)
theorem kM_X0_96 : Cond.methodLink RX0 96 yX0_paysOf ∈ gt := gt_at 375 (by decide +kernel) (by decide +kernel)
theorem kM_X0_99 : Cond.methodLink RX0 99 yX0_yieldsOf ∈ gt := gt_at 376 (by decide +kernel) (by decide +kernel)
theorem kM_X0_102 : Cond.methodLink RX0 102 yX0_payFor ∈ gt := gt_at 377 (by decide +kernel) (by decide +kernel)
theorem kM_L_56 : Cond.methodLink RL 56 yX3_on ∈ gt := gt_at 381 (by decide +kernel) (by decide +kernel)
theorem kM_X3_145 : Cond.methodLink RX3 145 yX3_tryAsItIs ∈ gt := gt_at 385 (by decide +kernel) (by decide +kernel)
theorem kM_X3_182 : Cond.methodLink RX3 182 yX0_becomeLike ∈ gt := gt_at 389 (by decide +kernel) (by decide +kernel)
theorem kM_X0_32 : Cond.methodLink RX0 32 arraycopyName ∈ gt := gt_at 393 (by decide +kernel) (by decide +kernel)
theorem kM_L_60 : Cond.methodLink RL 60 yX3_owes ∈ gt := gt_at 396 (by decide +kernel) (by decide +kernel)
theorem kM_L_64 : Cond.methodLink RL 64 yX3_level ∈ gt := gt_at 400 (by decide +kernel) (by decide +kernel)
theorem kM_X3_148 : Cond.methodLink RX3 148 yX0_goMinute ∈ gt := gt_at 404 (by decide +kernel) (by decide +kernel)
theorem kM_L_69 : Cond.methodLink RL 69 yX3_comes ∈ gt := gt_at 405 (by decide +kernel) (by decide +kernel)
theorem kM_X3_151 : Cond.methodLink RX3 151 yX3_firstMinuteWithin ∈ gt := gt_at 409 (by decide +kernel) (by decide +kernel)
theorem kM_L_73 : Cond.methodLink RL 73 yX3_dust ∈ gt := gt_at 413 (by decide +kernel) (by decide +kernel)
theorem kM_L_77 : Cond.methodLink RL 77 yX3_place ∈ gt := gt_at 417 (by decide +kernel) (by decide +kernel)
theorem kM_X3_155 : Cond.methodLink RX3 155 yX3_heightLater ∈ gt := gt_at 421 (by decide +kernel) (by decide +kernel)
theorem kM_L_81 : Cond.methodLink RL 81 yX3_kind ∈ gt := gt_at 425 (by decide +kernel) (by decide +kernel)
theorem kM_L_85 : Cond.methodLink RL 85 yX3_marbles ∈ gt := gt_at 429 (by decide +kernel) (by decide +kernel)
theorem kM_L_89 : Cond.methodLink RL 89 yX3_night ∈ gt := gt_at 433 (by decide +kernel) (by decide +kernel)
theorem kM_X3_162 : Cond.methodLink RX3 162 yX0_apart ∈ gt := gt_at 437 (by decide +kernel) (by decide +kernel)
theorem kM_L_93 : Cond.methodLink RL 93 yX3_enough ∈ gt := gt_at 438 (by decide +kernel) (by decide +kernel)
theorem kM_L_97 : Cond.methodLink RL 97 yX3_whom ∈ gt := gt_at 442 (by decide +kernel) (by decide +kernel)
theorem kM_L_101 : Cond.methodLink RL 101 yX3_debtor ∈ gt := gt_at 446 (by decide +kernel) (by decide +kernel)
theorem kM_X3_165 : Cond.methodLink RX3 165 yX0_firstOfMost ∈ gt := gt_at 450 (by decide +kernel) (by decide +kernel)
theorem kM_L_105 : Cond.methodLink RL 105 yX3_feed ∈ gt := gt_at 451 (by decide +kernel) (by decide +kernel)
theorem kM_X3_168 : Cond.methodLink RX3 168 yX2_hasRoomFor ∈ gt := gt_at 455 (by decide +kernel) (by decide +kernel)
theorem kM_X3_171 : Cond.methodLink RX3 171 yX2_append ∈ gt := gt_at 459 (by decide +kernel) (by decide +kernel)
theorem kM_L_109 : Cond.methodLink RL 109 yX3_wipe ∈ gt := gt_at 463 (by decide +kernel) (by decide +kernel)
theorem kM_L_113 : Cond.methodLink RL 113 yX3_ground ∈ gt := gt_at 467 (by decide +kernel) (by decide +kernel)
theorem kM_X3_178 : Cond.methodLink RX3 178 yX2_tellTo ∈ gt := gt_at 471 (by decide +kernel) (by decide +kernel)
theorem kM_X2_31 : Cond.methodLink RX2 31 yX2_advance ∈ gt := gt_at 475 (by decide +kernel) (by decide +kernel)
theorem kM_X2_123 : Cond.methodLink RX2 123 yX2_isLetter ∈ gt := gt_at 479 (by decide +kernel) (by decide +kernel)
theorem kM_X2_127 : Cond.methodLink RX2 127 yX2_isDigit ∈ gt := gt_at 483 (by decide +kernel) (by decide +kernel)
theorem kM_X2_130 : Cond.methodLink RX2 130 Lib.Math.min.name ∈ gt := gt_at 487 (by decide +kernel) (by decide +kernel)
theorem kM_X2_34 : Cond.methodLink RX2 34 yX2_isItemTold ∈ gt := gt_at 488 (by decide +kernel) (by decide +kernel)
theorem kM_X2_40 : Cond.methodLink RX2 40 yX2_isWord ∈ gt := gt_at 493 (by decide +kernel) (by decide +kernel)
theorem kM_X2_115 : Cond.methodLink RX2 115 yJ0_length_8abf5 ∈ gt := gt_at 497 (by decide +kernel) (by decide +kernel)
theorem kM_J0_335 : Cond.methodLink RJ0 335 yJ0_coder_7d493 ∈ gt := gt_at 501 (by decide +kernel) (by decide +kernel)
theorem kM_X2_119 : Cond.methodLink RX2 119 yJ0_charAt_5068e ∈ gt := gt_at 507 (by decide +kernel) (by decide +kernel)
theorem kM_J0_492 : Cond.methodLink RJ0 492 yJ0_isLatin1_aae02 ∈ gt := gt_at 511 (by decide +kernel) (by decide +kernel)
theorem kM_J0_495 : Cond.methodLink RJ0 495 yJ1_charAt_3b067 ∈ gt := gt_at 515 (by decide +kernel) (by decide +kernel)
theorem kM_J1_9 : Cond.methodLink RJ1 9 yJ0_checkIndex_df160 ∈ gt := gt_at 518 (by decide +kernel) (by decide +kernel)
theorem kM_J0_1059 : Cond.methodLink RJ0 1059 yJ3_checkIndex_8e157 ∈ gt := gt_at 523 (by decide +kernel) (by decide +kernel)
theorem kM_J0_498 : Cond.methodLink RJ0 498 yJ2_charAt_3b067 ∈ gt := gt_at 526 (by decide +kernel) (by decide +kernel)
theorem kM_J2_67 : Cond.methodLink RJ2 67 yJ2_checkIndex_2214a ∈ gt := gt_at 529 (by decide +kernel) (by decide +kernel)
theorem kM_J2_48 : Cond.methodLink RJ2 48 yJ2_length_9d52b ∈ gt := gt_at 532 (by decide +kernel) (by decide +kernel)
theorem kM_J2_414 : Cond.methodLink RJ2 414 yJ0_checkIndex_df160 ∈ gt := gt_at 535 (by decide +kernel) (by decide +kernel)
theorem kM_J2_71 : Cond.methodLink RJ2 71 yJ2_getChar_3b067 ∈ gt := gt_at 536 (by decide +kernel) (by decide +kernel)
theorem kM_X2_44 : Cond.methodLink RX2 44 yX2_isPushTold ∈ gt := gt_at 545 (by decide +kernel) (by decide +kernel)
theorem kM_X2_69 : Cond.methodLink RX2 69 yX2_isNumberWithin ∈ gt := gt_at 549 (by decide +kernel) (by decide +kernel)
theorem kM_X2_73 : Cond.methodLink RX2 73 yX0_shove ∈ gt := gt_at 553 (by decide +kernel) (by decide +kernel)
theorem kM_X2_49 : Cond.methodLink RX2 49 yX2_isDarkTold ∈ gt := gt_at 555 (by decide +kernel) (by decide +kernel)
theorem kM_X2_52 : Cond.methodLink RX2 52 yX2_kindNamed ∈ gt := gt_at 559 (by decide +kernel) (by decide +kernel)
theorem kM_X2_99 : Cond.methodLink RX2 99 yX2_nameOf ∈ gt := gt_at 563 (by decide +kernel) (by decide +kernel)
theorem kM_X2_56 : Cond.methodLink RX2 56 yX0_hasRoom ∈ gt := gt_at 572 (by decide +kernel) (by decide +kernel)
theorem kM_X2_62 : Cond.methodLink RX2 62 yX2_isChildTold ∈ gt := gt_at 573 (by decide +kernel) (by decide +kernel)
theorem kM_X2_80 : Cond.methodLink RX2 80 yX0_addOne ∈ gt := gt_at 577 (by decide +kernel) (by decide +kernel)
theorem kM_X2_90 : Cond.methodLink RX2 90 yX2_isPartTold ∈ gt := gt_at 579 (by decide +kernel) (by decide +kernel)
theorem kM_L_117 : Cond.methodLink RL 117 yX3_sheet ∈ gt := gt_at 584 (by decide +kernel) (by decide +kernel)
theorem kM_X3_186 : Cond.methodLink RX3 186 yX3_isSheet ∈ gt := gt_at 588 (by decide +kernel) (by decide +kernel)
theorem kM_X3_189 : Cond.methodLink RX3 189 yX1_areBits ∈ gt := gt_at 591 (by decide +kernel) (by decide +kernel)
theorem kM_X3_192 : Cond.methodLink RX3 192 yX1_renew ∈ gt := gt_at 594 (by decide +kernel) (by decide +kernel)
theorem kM_X1_20 : Cond.methodLink RX1 20 yJ7_fill_d0a16 ∈ gt := gt_at 598 (by decide +kernel) (by decide +kernel)
theorem kM_L_123 : Cond.methodLink RL 123 yX3_write ∈ gt := gt_at 601 (by decide +kernel) (by decide +kernel)
theorem kM_X3_196 : Cond.methodLink RX3 196 yX1_isMissing ∈ gt := gt_at 605 (by decide +kernel) (by decide +kernel)
theorem kM_X3_199 : Cond.methodLink RX3 199 yX1_has ∈ gt := gt_at 609 (by decide +kernel) (by decide +kernel)
theorem kM_X3_206 : Cond.methodLink RX3 206 yX1_store ∈ gt := gt_at 613 (by decide +kernel) (by decide +kernel)
theorem kM_L_128 : Cond.methodLink RL 128 yX3_copy ∈ gt := gt_at 617 (by decide +kernel) (by decide +kernel)
theorem kM_X3_213 : Cond.methodLink RX3 213 arraycopyName ∈ gt := gt_at 621 (by decide +kernel) (by decide +kernel)
theorem kM_L_133 : Cond.methodLink RL 133 yX3_lays ∈ gt := gt_at 622 (by decide +kernel) (by decide +kernel)
theorem kM_X3_219 : Cond.methodLink RX3 219 Lib.Math.min.name ∈ gt := gt_at 626 (by decide +kernel) (by decide +kernel)
theorem kM_L_137 : Cond.methodLink RL 137 yX3_book ∈ gt := gt_at 628 (by decide +kernel) (by decide +kernel)
theorem kM_L_141 : Cond.methodLink RL 141 yX3_read ∈ gt := gt_at 632 (by decide +kernel) (by decide +kernel)
theorem kM_X3_226 : Cond.methodLink RX3 226 yX3_wentAsBooked ∈ gt := gt_at 636 (by decide +kernel) (by decide +kernel)
theorem kM_L_145 : Cond.methodLink RL 145 yX3_image ∈ gt := gt_at 640 (by decide +kernel) (by decide +kernel)
theorem kM_L_149 : Cond.methodLink RL 149 yX3_undo ∈ gt := gt_at 644 (by decide +kernel) (by decide +kernel)
theorem kM_L_153 : Cond.methodLink RL 153 yX3_tear ∈ gt := gt_at 648 (by decide +kernel) (by decide +kernel)
theorem kM_L_157 : Cond.methodLink RL 157 yX3_count ∈ gt := gt_at 652 (by decide +kernel) (by decide +kernel)
theorem kM_L_161 : Cond.methodLink RL 161 yX3_status ∈ gt := gt_at 656 (by decide +kernel) (by decide +kernel)
theorem kM_L_12 : Cond.methodLink RL 12 yX4_init ∈ gt := gt_at 662 (by decide +kernel) (by decide +kernel)
theorem kM_X4_1 : Cond.methodLink RX4 1 objectInit ∈ gt := gt_at 665 (by decide +kernel) (by decide +kernel)
theorem kM_L_17 : Cond.methodLink RL 17 yX4_dark ∈ gt := gt_at 724 (by decide +kernel) (by decide +kernel)
theorem kM_X4_45 : Cond.methodLink RX4 45 yX4_in ∈ gt := gt_at 728 (by decide +kernel) (by decide +kernel)
theorem kM_X4_49 : Cond.methodLink RX4 49 yX4_becomes ∈ gt := gt_at 731 (by decide +kernel) (by decide +kernel)
theorem kM_X4_53 : Cond.methodLink RX4 53 yX4_finds ∈ gt := gt_at 736 (by decide +kernel) (by decide +kernel)
theorem kM_L_21 : Cond.methodLink RL 21 yX4_now ∈ gt := gt_at 740 (by decide +kernel) (by decide +kernel)
theorem kM_X4_67 : Cond.methodLink RX4 67 yX4_isDusk ∈ gt := gt_at 744 (by decide +kernel) (by decide +kernel)
theorem kM_X4_71 : Cond.methodLink RX4 71 yX4_isSaturday ∈ gt := gt_at 748 (by decide +kernel) (by decide +kernel)
theorem kM_X4_74 : Cond.methodLink RX4 74 yX4_sumOf ∈ gt := gt_at 752 (by decide +kernel) (by decide +kernel)
theorem kM_X4_57 : Cond.methodLink RX4 57 yX4_its ∈ gt := gt_at 756 (by decide +kernel) (by decide +kernel)
theorem kM_X4_77 : Cond.methodLink RX4 77 yX4_difference ∈ gt := gt_at 760 (by decide +kernel) (by decide +kernel)
theorem kM_X4_60 : Cond.methodLink RX4 60 yX4_mostOf ∈ gt := gt_at 764 (by decide +kernel) (by decide +kernel)
theorem kM_X4_63 : Cond.methodLink RX4 63 yX4_lowest ∈ gt := gt_at 768 (by decide +kernel) (by decide +kernel)
theorem kM_X4_80 : Cond.methodLink RX4 80 yX4_dustSet ∈ gt := gt_at 772 (by decide +kernel) (by decide +kernel)
theorem kM_L_25 : Cond.methodLink RL 25 yX4_child ∈ gt := gt_at 776 (by decide +kernel) (by decide +kernel)
theorem kM_X4_90 : Cond.methodLink RX4 90 yX4_isKind ∈ gt := gt_at 780 (by decide +kernel) (by decide +kernel)
theorem kM_X4_95 : Cond.methodLink RX4 95 yX4_adds ∈ gt := gt_at 784 (by decide +kernel) (by decide +kernel)
theorem kM_X4_86 : Cond.methodLink RX4 86 yX4_puts ∈ gt := gt_at 788 (by decide +kernel) (by decide +kernel)
theorem kM_L_30 : Cond.methodLink RL 30 yX4_of ∈ gt := gt_at 792 (by decide +kernel) (by decide +kernel)
theorem kM_X4_98 : Cond.methodLink RX4 98 yX4_isOne ∈ gt := gt_at 796 (by decide +kernel) (by decide +kernel)
theorem kM_X4_102 : Cond.methodLink RX4 102 yX4_wants ∈ gt := gt_at 801 (by decide +kernel) (by decide +kernel)
theorem kM_X4_83 : Cond.methodLink RX4 83 yX4_next ∈ gt := gt_at 805 (by decide +kernel) (by decide +kernel)
theorem kM_X4_105 : Cond.methodLink RX4 105 yX4_pays ∈ gt := gt_at 809 (by decide +kernel) (by decide +kernel)
theorem kM_X4_108 : Cond.methodLink RX4 108 yX4_yields ∈ gt := gt_at 813 (by decide +kernel) (by decide +kernel)
theorem kM_L_35 : Cond.methodLink RL 35 yX4_set ∈ gt := gt_at 817 (by decide +kernel) (by decide +kernel)
theorem kM_X4_111 : Cond.methodLink RX4 111 yX4_isPart ∈ gt := gt_at 821 (by decide +kernel) (by decide +kernel)
theorem kM_L_39 : Cond.methodLink RL 39 yX4_turn ∈ gt := gt_at 824 (by decide +kernel) (by decide +kernel)
theorem kM_L_43 : Cond.methodLink RL 43 yX4_as ∈ gt := gt_at 828 (by decide +kernel) (by decide +kernel)
theorem kM_L_47 : Cond.methodLink RL 47 yX4_push ∈ gt := gt_at 833 (by decide +kernel) (by decide +kernel)
theorem kM_X4_119 : Cond.methodLink RX4 119 yX4_pushes ∈ gt := gt_at 837 (by decide +kernel) (by decide +kernel)
theorem kM_X4_116 : Cond.methodLink RX4 116 yX4_lesser ∈ gt := gt_at 841 (by decide +kernel) (by decide +kernel)
theorem kM_L_51 : Cond.methodLink RL 51 yX4_swap ∈ gt := gt_at 844 (by decide +kernel) (by decide +kernel)
theorem kM_X4_123 : Cond.methodLink RX4 123 yX4_swaps ∈ gt := gt_at 848 (by decide +kernel) (by decide +kernel)
theorem kM_L_55 : Cond.methodLink RL 55 yX4_minutes ∈ gt := gt_at 852 (by decide +kernel) (by decide +kernel)
theorem kM_X4_148 : Cond.methodLink RX4 148 yX4_passes ∈ gt := gt_at 858 (by decide +kernel) (by decide +kernel)
theorem kM_X4_143 : Cond.methodLink RX4 143 yX4_oneMinute ∈ gt := gt_at 862 (by decide +kernel) (by decide +kernel)
theorem kM_X4_136 : Cond.methodLink RX4 136 yX4_levels ∈ gt := gt_at 866 (by decide +kernel) (by decide +kernel)
theorem kM_X4_133 : Cond.methodLink RX4 133 yX4_goes ∈ gt := gt_at 870 (by decide +kernel) (by decide +kernel)
theorem kM_X4_126 : Cond.methodLink RX4 126 yX4_held ∈ gt := gt_at 874 (by decide +kernel) (by decide +kernel)
theorem kM_X4_139 : Cond.methodLink RX4 139 yX4_swings ∈ gt := gt_at 877 (by decide +kernel) (by decide +kernel)
theorem kM_X4_130 : Cond.methodLink RX4 130 yX4_mayGo ∈ gt := gt_at 881 (by decide +kernel) (by decide +kernel)
theorem kM_L_59 : Cond.methodLink RL 59 yX4_on ∈ gt := gt_at 885 (by decide +kernel) (by decide +kernel)
theorem kM_X4_151 : Cond.methodLink RX4 151 yX4_moveAll ∈ gt := gt_at 889 (by decide +kernel) (by decide +kernel)
theorem kM_X4_155 : Cond.methodLink RX4 155 yX4_behind ∈ gt := gt_at 893 (by decide +kernel) (by decide +kernel)
theorem kM_L_63 : Cond.methodLink RL 63 yX4_owes ∈ gt := gt_at 897 (by decide +kernel) (by decide +kernel)
theorem kM_L_68 : Cond.methodLink RL 68 yX4_level ∈ gt := gt_at 901 (by decide +kernel) (by decide +kernel)
theorem kM_L_72 : Cond.methodLink RL 72 yX4_comes ∈ gt := gt_at 906 (by decide +kernel) (by decide +kernel)
theorem kM_L_76 : Cond.methodLink RL 76 yX4_dust ∈ gt := gt_at 910 (by decide +kernel) (by decide +kernel)
theorem kM_L_80 : Cond.methodLink RL 80 yX4_place ∈ gt := gt_at 914 (by decide +kernel) (by decide +kernel)
theorem kM_X4_159 : Cond.methodLink RX4 159 yX4_heightAt ∈ gt := gt_at 918 (by decide +kernel) (by decide +kernel)
theorem kM_L_84 : Cond.methodLink RL 84 yX4_kind ∈ gt := gt_at 921 (by decide +kernel) (by decide +kernel)
theorem kM_L_88 : Cond.methodLink RL 88 yX4_marbles ∈ gt := gt_at 925 (by decide +kernel) (by decide +kernel)
theorem kM_L_92 : Cond.methodLink RL 92 yX4_night ∈ gt := gt_at 929 (by decide +kernel) (by decide +kernel)
theorem kM_L_96 : Cond.methodLink RL 96 yX4_enough ∈ gt := gt_at 933 (by decide +kernel) (by decide +kernel)
theorem kM_L_100 : Cond.methodLink RL 100 yX4_whom ∈ gt := gt_at 937 (by decide +kernel) (by decide +kernel)
theorem kM_L_104 : Cond.methodLink RL 104 yX4_debtor ∈ gt := gt_at 941 (by decide +kernel) (by decide +kernel)
theorem kM_L_108 : Cond.methodLink RL 108 yX4_feed ∈ gt := gt_at 945 (by decide +kernel) (by decide +kernel)
theorem kM_L_112 : Cond.methodLink RL 112 yX4_wipe ∈ gt := gt_at 949 (by decide +kernel) (by decide +kernel)
theorem kM_L_116 : Cond.methodLink RL 116 yX4_ground ∈ gt := gt_at 953 (by decide +kernel) (by decide +kernel)
theorem kM_X4_217 : Cond.methodLink RX4 217 yX4_advance ∈ gt := gt_at 957 (by decide +kernel) (by decide +kernel)
theorem kM_X4_172 : Cond.methodLink RX4 172 yX4_byteAt ∈ gt := gt_at 961 (by decide +kernel) (by decide +kernel)
theorem kM_X4_175 : Cond.methodLink RX4 175 yX4_isLetter ∈ gt := gt_at 965 (by decide +kernel) (by decide +kernel)
theorem kM_X4_178 : Cond.methodLink RX4 178 yX4_isDigit ∈ gt := gt_at 968 (by decide +kernel) (by decide +kernel)
theorem kM_X4_244 : Cond.methodLink RX4 244 yX4_wantItem ∈ gt := gt_at 974 (by decide +kernel) (by decide +kernel)
theorem kM_X4_231 : Cond.methodLink RX4 231 yX4_kindHere ∈ gt := gt_at 978 (by decide +kernel) (by decide +kernel)
theorem kM_X4_199 : Cond.methodLink RX4 199 yX4_isWord ∈ gt := gt_at 983 (by decide +kernel) (by decide +kernel)
theorem kM_X4_234 : Cond.methodLink RX4 234 yX4_wantOne ∈ gt := gt_at 992 (by decide +kernel) (by decide +kernel)
theorem kM_X4_225 : Cond.methodLink RX4 225 yX4_mayWant ∈ gt := gt_at 997 (by decide +kernel) (by decide +kernel)
theorem kM_X4_220 : Cond.methodLink RX4 220 yX4_wantNumber ∈ gt := gt_at 1001 (by decide +kernel) (by decide +kernel)
theorem kM_X4_239 : Cond.methodLink RX4 239 yX4_wantPush ∈ gt := gt_at 1007 (by decide +kernel) (by decide +kernel)
theorem kM_L_120 : Cond.methodLink RL 120 yX4_sheet ∈ gt := gt_at 1012 (by decide +kernel) (by decide +kernel)
theorem kM_X4_247 : Cond.methodLink RX4 247 yX4_isSheet ∈ gt := gt_at 1016 (by decide +kernel) (by decide +kernel)
theorem kM_L_127 : Cond.methodLink RL 127 yX4_write ∈ gt := gt_at 1020 (by decide +kernel) (by decide +kernel)
theorem kM_X4_252 : Cond.methodLink RX4 252 yX4_narrow ∈ gt := gt_at 1025 (by decide +kernel) (by decide +kernel)
theorem kM_L_132 : Cond.methodLink RL 132 yX4_copy ∈ gt := gt_at 1028 (by decide +kernel) (by decide +kernel)
theorem kM_X4_256 : Cond.methodLink RX4 256 yX4_isPart_ ∈ gt := gt_at 1032 (by decide +kernel) (by decide +kernel)
theorem kM_L_136 : Cond.methodLink RL 136 yX4_lays ∈ gt := gt_at 1036 (by decide +kernel) (by decide +kernel)
theorem kM_X4_258 : Cond.methodLink RX4 258 yX4_badSheet ∈ gt := gt_at 1040 (by decide +kernel) (by decide +kernel)
theorem kM_L_140 : Cond.methodLink RL 140 yX4_book ∈ gt := gt_at 1045 (by decide +kernel) (by decide +kernel)
theorem kM_L_144 : Cond.methodLink RL 144 yX4_read ∈ gt := gt_at 1049 (by decide +kernel) (by decide +kernel)
theorem kM_X4_263 : Cond.methodLink RX4 263 yX4_isSo ∈ gt := gt_at 1053 (by decide +kernel) (by decide +kernel)
theorem kM_L_148 : Cond.methodLink RL 148 yX4_image ∈ gt := gt_at 1057 (by decide +kernel) (by decide +kernel)
theorem kM_L_152 : Cond.methodLink RL 152 yX4_undo ∈ gt := gt_at 1061 (by decide +kernel) (by decide +kernel)
theorem kM_L_156 : Cond.methodLink RL 156 yX4_tear ∈ gt := gt_at 1065 (by decide +kernel) (by decide +kernel)
theorem kM_L_160 : Cond.methodLink RL 160 yX4_count ∈ gt := gt_at 1069 (by decide +kernel) (by decide +kernel)
theorem kM_L_164 : Cond.methodLink RL 164 yX4_status ∈ gt := gt_at 1073 (by decide +kernel) (by decide +kernel)
set_option maxRecDepth 20000 in
theorem uX0 : ∀ w ∈ u_ws RX0 TX0 7, w ∈ gt := by decide +kernel
set_option maxRecDepth 20000 in
theorem uX1 : ∀ w ∈ u_ws RX1 TX1 3, w ∈ gt := by decide +kernel
set_option maxRecDepth 20000 in
theorem uX2 : ∀ w ∈ u_ws RX2 TX2 6, w ∈ gt := by decide +kernel
set_option maxRecDepth 20000 in
theorem uX3 : ∀ w ∈ u_ws RX3 TX3 7, w ∈ gt := by decide +kernel
set_option maxRecDepth 20000 in
theorem uX4 : ∀ w ∈ u_ws RX4 TX4 19, w ∈ gt := by decide +kernel
theorem kF_X0_7 : Cond.fieldLink RX0 7 (TX0 0).1 (TX0 0).2.1 (TX0 0).2.2.1 ∈ gt := gt_at 92 (by decide +kernel) (by decide +kernel)
theorem fL_X0_7 : FL RX0 7 0 0 := ⟨RX0, TX0, 7, rfl, uX0, by decide, kF_X0_7⟩
theorem fP_X0_7 : FP RX0 7 0 0 .int := ⟨RX0, TX0, 7, tyX0, rfl, uX0, by decide, kF_X0_7, tyX0_ok, nmX0, rfl, by decide +kernel⟩
theorem kF_X3_56 : Cond.fieldLink RX3 56 (TX0 0).1 (TX0 0).2.1 (TX0 0).2.2.1 ∈ gt := gt_at 93 (by decide +kernel) (by decide +kernel)
theorem fL_X3_56 : FL RX3 56 0 0 := ⟨RX0, TX0, 7, rfl, uX0, by decide, kF_X3_56⟩
theorem fP_X3_56 : FP RX3 56 0 0 .int := ⟨RX0, TX0, 7, tyX0, rfl, uX0, by decide, kF_X3_56, tyX0_ok, nmX0, rfl, by decide +kernel⟩
theorem kF_X0_13 : Cond.fieldLink RX0 13 (TX0 1).1 (TX0 1).2.1 (TX0 1).2.2.1 ∈ gt := gt_at 94 (by decide +kernel) (by decide +kernel)
theorem fL_X0_13 : FL RX0 13 0 1 := ⟨RX0, TX0, 7, rfl, uX0, by decide, kF_X0_13⟩
theorem fP_X0_13 : FP RX0 13 0 1 .int := ⟨RX0, TX0, 7, tyX0, rfl, uX0, by decide, kF_X0_13, tyX0_ok, nmX0, rfl, by decide +kernel⟩
theorem kF_X3_52 : Cond.fieldLink RX3 52 (TX0 1).1 (TX0 1).2.1 (TX0 1).2.2.1 ∈ gt := gt_at 95 (by decide +kernel) (by decide +kernel)
theorem fL_X3_52 : FL RX3 52 0 1 := ⟨RX0, TX0, 7, rfl, uX0, by decide, kF_X3_52⟩
theorem fP_X3_52 : FP RX3 52 0 1 .int := ⟨RX0, TX0, 7, tyX0, rfl, uX0, by decide, kF_X3_52, tyX0_ok, nmX0, rfl, by decide +kernel⟩
theorem kF_X2_77 : Cond.fieldLink RX2 77 (TX0 1).1 (TX0 1).2.1 (TX0 1).2.2.1 ∈ gt := gt_at 96 (by decide +kernel) (by decide +kernel)
theorem fL_X2_77 : FL RX2 77 0 1 := ⟨RX0, TX0, 7, rfl, uX0, by decide, kF_X2_77⟩
theorem fP_X2_77 : FP RX2 77 0 1 .int := ⟨RX0, TX0, 7, tyX0, rfl, uX0, by decide, kF_X2_77, tyX0_ok, nmX0, rfl, by decide +kernel⟩
theorem kF_X0_16 : Cond.fieldLink RX0 16 (TX0 2).1 (TX0 2).2.1 (TX0 2).2.2.1 ∈ gt := gt_at 97 (by decide +kernel) (by decide +kernel)
theorem fL_X0_16 : FL RX0 16 0 2 := ⟨RX0, TX0, 7, rfl, uX0, by decide, kF_X0_16⟩
theorem fP_X0_16 : FP RX0 16 0 2 .int := ⟨RX0, TX0, 7, tyX0, rfl, uX0, by decide, kF_X0_16, tyX0_ok, nmX0, rfl, by decide +kernel⟩
theorem kF_X2_66 : Cond.fieldLink RX2 66 (TX0 2).1 (TX0 2).2.1 (TX0 2).2.2.1 ∈ gt := gt_at 98 (by decide +kernel) (by decide +kernel)
theorem fL_X2_66 : FL RX2 66 0 2 := ⟨RX0, TX0, 7, rfl, uX0, by decide, kF_X2_66⟩
theorem fP_X2_66 : FP RX2 66 0 2 .int := ⟨RX0, TX0, 7, tyX0, rfl, uX0, by decide, kF_X2_66, tyX0_ok, nmX0, rfl, by decide +kernel⟩
theorem kF_X3_159 : Cond.fieldLink RX3 159 (TX0 2).1 (TX0 2).2.1 (TX0 2).2.2.1 ∈ gt := gt_at 99 (by decide +kernel) (by decide +kernel)
theorem fL_X3_159 : FL RX3 159 0 2 := ⟨RX0, TX0, 7, rfl, uX0, by decide, kF_X3_159⟩
theorem fP_X3_159 : FP RX3 159 0 2 .int := ⟨RX0, TX0, 7, tyX0, rfl, uX0, by decide, kF_X3_159, tyX0_ok, nmX0, rfl, by decide +kernel⟩
theorem kF_X0_19 : Cond.fieldLink RX0 19 (TX0 3).1 (TX0 3).2.1 (TX0 3).2.2.1 ∈ gt := gt_at 100 (by decide +kernel) (by decide +kernel)
theorem fL_X0_19 : FL RX0 19 0 3 := ⟨RX0, TX0, 7, rfl, uX0, by decide, kF_X0_19⟩
theorem kF_X3_103 : Cond.fieldLink RX3 103 (TX0 3).1 (TX0 3).2.1 (TX0 3).2.2.1 ∈ gt := gt_at 101 (by decide +kernel) (by decide +kernel)
theorem fL_X3_103 : FL RX3 103 0 3 := ⟨RX0, TX0, 7, rfl, uX0, by decide, kF_X3_103⟩
theorem kF_X0_23 : Cond.fieldLink RX0 23 (TX0 4).1 (TX0 4).2.1 (TX0 4).2.2.1 ∈ gt := gt_at 102 (by decide +kernel) (by decide +kernel)
theorem fL_X0_23 : FL RX0 23 0 4 := ⟨RX0, TX0, 7, rfl, uX0, by decide, kF_X0_23⟩
theorem kF_X3_74 : Cond.fieldLink RX3 74 (TX0 4).1 (TX0 4).2.1 (TX0 4).2.2.1 ∈ gt := gt_at 103 (by decide +kernel) (by decide +kernel)
theorem fL_X3_74 : FL RX3 74 0 4 := ⟨RX0, TX0, 7, rfl, uX0, by decide, kF_X3_74⟩
theorem kF_X2_86 : Cond.fieldLink RX2 86 (TX0 4).1 (TX0 4).2.1 (TX0 4).2.2.1 ∈ gt := gt_at 104 (by decide +kernel) (by decide +kernel)
theorem fL_X2_86 : FL RX2 86 0 4 := ⟨RX0, TX0, 7, rfl, uX0, by decide, kF_X2_86⟩
theorem kF_X0_26 : Cond.fieldLink RX0 26 (TX0 5).1 (TX0 5).2.1 (TX0 5).2.2.1 ∈ gt := gt_at 105 (by decide +kernel) (by decide +kernel)
theorem fL_X0_26 : FL RX0 26 0 5 := ⟨RX0, TX0, 7, rfl, uX0, by decide, kF_X0_26⟩
theorem kF_X3_106 : Cond.fieldLink RX3 106 (TX0 5).1 (TX0 5).2.1 (TX0 5).2.2.1 ∈ gt := gt_at 106 (by decide +kernel) (by decide +kernel)
theorem fL_X3_106 : FL RX3 106 0 5 := ⟨RX0, TX0, 7, rfl, uX0, by decide, kF_X3_106⟩
theorem kF_X2_96 : Cond.fieldLink RX2 96 (TX0 5).1 (TX0 5).2.1 (TX0 5).2.2.1 ∈ gt := gt_at 107 (by decide +kernel) (by decide +kernel)
theorem fL_X2_96 : FL RX2 96 0 5 := ⟨RX0, TX0, 7, rfl, uX0, by decide, kF_X2_96⟩
theorem kF_X0_29 : Cond.fieldLink RX0 29 (TX0 6).1 (TX0 6).2.1 (TX0 6).2.2.1 ∈ gt := gt_at 108 (by decide +kernel) (by decide +kernel)
theorem fL_X0_29 : FL RX0 29 0 6 := ⟨RX0, TX0, 7, rfl, uX0, by decide, kF_X0_29⟩
theorem kF_X3_110 : Cond.fieldLink RX3 110 (TX0 6).1 (TX0 6).2.1 (TX0 6).2.2.1 ∈ gt := gt_at 109 (by decide +kernel) (by decide +kernel)
theorem fL_X3_110 : FL RX3 110 0 6 := ⟨RX0, TX0, 7, rfl, uX0, by decide, kF_X3_110⟩
theorem kF_X2_11 : Cond.fieldLink RX2 11 (TX2 0).1 (TX2 0).2.1 (TX2 0).2.2.1 ∈ gt := gt_at 132 (by decide +kernel) (by decide +kernel)
theorem fL_X2_11 : FL RX2 11 2 0 := ⟨RX2, TX2, 6, rfl, uX2, by decide, kF_X2_11⟩
theorem kF_X2_15 : Cond.fieldLink RX2 15 (TX2 1).1 (TX2 1).2.1 (TX2 1).2.2.1 ∈ gt := gt_at 133 (by decide +kernel) (by decide +kernel)
theorem fL_X2_15 : FL RX2 15 2 1 := ⟨RX2, TX2, 6, rfl, uX2, by decide, kF_X2_15⟩
theorem fP_X2_15 : FP RX2 15 2 1 .int := ⟨RX2, TX2, 6, tyX2, rfl, uX2, by decide, kF_X2_15, tyX2_ok, nmX2, rfl, by decide +kernel⟩
theorem kF_X3_175 : Cond.fieldLink RX3 175 (TX2 1).1 (TX2 1).2.1 (TX2 1).2.2.1 ∈ gt := gt_at 134 (by decide +kernel) (by decide +kernel)
theorem fL_X3_175 : FL RX3 175 2 1 := ⟨RX2, TX2, 6, rfl, uX2, by decide, kF_X3_175⟩
theorem fP_X3_175 : FP RX3 175 2 1 .int := ⟨RX2, TX2, 6, tyX2, rfl, uX2, by decide, kF_X3_175, tyX2_ok, nmX2, rfl, by decide +kernel⟩
theorem kF_X2_19 : Cond.fieldLink RX2 19 (TX2 2).1 (TX2 2).2.1 (TX2 2).2.2.1 ∈ gt := gt_at 135 (by decide +kernel) (by decide +kernel)
theorem fL_X2_19 : FL RX2 19 2 2 := ⟨RX2, TX2, 6, rfl, uX2, by decide, kF_X2_19⟩
theorem fP_X2_19 : FP RX2 19 2 2 .int := ⟨RX2, TX2, 6, tyX2, rfl, uX2, by decide, kF_X2_19, tyX2_ok, nmX2, rfl, by decide +kernel⟩
theorem kF_X2_22 : Cond.fieldLink RX2 22 (TX2 3).1 (TX2 3).2.1 (TX2 3).2.2.1 ∈ gt := gt_at 136 (by decide +kernel) (by decide +kernel)
theorem fL_X2_22 : FL RX2 22 2 3 := ⟨RX2, TX2, 6, rfl, uX2, by decide, kF_X2_22⟩
theorem fP_X2_22 : FP RX2 22 2 3 .int := ⟨RX2, TX2, 6, tyX2, rfl, uX2, by decide, kF_X2_22, tyX2_ok, nmX2, rfl, by decide +kernel⟩
theorem kF_X2_25 : Cond.fieldLink RX2 25 (TX2 4).1 (TX2 4).2.1 (TX2 4).2.2.1 ∈ gt := gt_at 137 (by decide +kernel) (by decide +kernel)
theorem fL_X2_25 : FL RX2 25 2 4 := ⟨RX2, TX2, 6, rfl, uX2, by decide, kF_X2_25⟩
theorem fP_X2_25 : FP RX2 25 2 4 .int := ⟨RX2, TX2, 6, tyX2, rfl, uX2, by decide, kF_X2_25, tyX2_ok, nmX2, rfl, by decide +kernel⟩
theorem kF_X2_28 : Cond.fieldLink RX2 28 (TX2 5).1 (TX2 5).2.1 (TX2 5).2.2.1 ∈ gt := gt_at 138 (by decide +kernel) (by decide +kernel)
theorem fL_X2_28 : FL RX2 28 2 5 := ⟨RX2, TX2, 6, rfl, uX2, by decide, kF_X2_28⟩
theorem fP_X2_28 : FP RX2 28 2 5 .int := ⟨RX2, TX2, 6, tyX2, rfl, uX2, by decide, kF_X2_28, tyX2_ok, nmX2, rfl, by decide +kernel⟩
theorem kF_X1_9 : Cond.fieldLink RX1 9 (TX1 0).1 (TX1 0).2.1 (TX1 0).2.2.1 ∈ gt := gt_at 160 (by decide +kernel) (by decide +kernel)
theorem fL_X1_9 : FL RX1 9 1 0 := ⟨RX1, TX1, 3, rfl, uX1, by decide, kF_X1_9⟩
theorem kF_X3_202 : Cond.fieldLink RX3 202 (TX1 0).1 (TX1 0).2.1 (TX1 0).2.2.1 ∈ gt := gt_at 161 (by decide +kernel) (by decide +kernel)
theorem fL_X3_202 : FL RX3 202 1 0 := ⟨RX1, TX1, 3, rfl, uX1, by decide, kF_X3_202⟩
theorem kF_X1_13 : Cond.fieldLink RX1 13 (TX1 1).1 (TX1 1).2.1 (TX1 1).2.2.1 ∈ gt := gt_at 162 (by decide +kernel) (by decide +kernel)
theorem fL_X1_13 : FL RX1 13 1 1 := ⟨RX1, TX1, 3, rfl, uX1, by decide, kF_X1_13⟩
theorem fP_X1_13 : FP RX1 13 1 1 .int := ⟨RX1, TX1, 3, tyX1, rfl, uX1, by decide, kF_X1_13, tyX1_ok, nmX1, rfl, by decide +kernel⟩
theorem kF_X3_210 : Cond.fieldLink RX3 210 (TX1 1).1 (TX1 1).2.1 (TX1 1).2.2.1 ∈ gt := gt_at 163 (by decide +kernel) (by decide +kernel)
theorem fL_X3_210 : FL RX3 210 1 1 := ⟨RX1, TX1, 3, rfl, uX1, by decide, kF_X3_210⟩
theorem fP_X3_210 : FP RX3 210 1 1 .int := ⟨RX1, TX1, 3, tyX1, rfl, uX1, by decide, kF_X3_210, tyX1_ok, nmX1, rfl, by decide +kernel⟩
theorem kF_X1_17 : Cond.fieldLink RX1 17 (TX1 2).1 (TX1 2).2.1 (TX1 2).2.2.1 ∈ gt := gt_at 164 (by decide +kernel) (by decide +kernel)
theorem fL_X1_17 : FL RX1 17 1 2 := ⟨RX1, TX1, 3, rfl, uX1, by decide, kF_X1_17⟩
theorem fP_X1_17 : FP RX1 17 1 2 .int := ⟨RX1, TX1, 3, tyX1, rfl, uX1, by decide, kF_X1_17, tyX1_ok, nmX1, rfl, by decide +kernel⟩
theorem kF_X3_195 : Cond.fieldLink RX3 195 (TX1 2).1 (TX1 2).2.1 (TX1 2).2.2.1 ∈ gt := gt_at 165 (by decide +kernel) (by decide +kernel)
theorem fL_X3_195 : FL RX3 195 1 2 := ⟨RX1, TX1, 3, rfl, uX1, by decide, kF_X3_195⟩
theorem fP_X3_195 : FP RX3 195 1 2 .int := ⟨RX1, TX1, 3, tyX1, rfl, uX1, by decide, kF_X3_195, tyX1_ok, nmX1, rfl, by decide +kernel⟩
theorem kF_X3_10 : Cond.fieldLink RX3 10 (TX3 0).1 (TX3 0).2.1 (TX3 0).2.2.1 ∈ gt := gt_at 174 (by decide +kernel) (by decide +kernel)
theorem fL_X3_10 : FL RX3 10 3 0 := ⟨RX3, TX3, 7, rfl, uX3, by decide, kF_X3_10⟩
theorem kF_X3_16 : Cond.fieldLink RX3 16 (TX3 1).1 (TX3 1).2.1 (TX3 1).2.2.1 ∈ gt := gt_at 175 (by decide +kernel) (by decide +kernel)
theorem fL_X3_16 : FL RX3 16 3 1 := ⟨RX3, TX3, 7, rfl, uX3, by decide, kF_X3_16⟩
theorem kF_X3_19 : Cond.fieldLink RX3 19 (TX3 2).1 (TX3 2).2.1 (TX3 2).2.2.1 ∈ gt := gt_at 176 (by decide +kernel) (by decide +kernel)
theorem fL_X3_19 : FL RX3 19 3 2 := ⟨RX3, TX3, 7, rfl, uX3, by decide, kF_X3_19⟩
theorem kF_X3_22 : Cond.fieldLink RX3 22 (TX3 3).1 (TX3 3).2.1 (TX3 3).2.2.1 ∈ gt := gt_at 177 (by decide +kernel) (by decide +kernel)
theorem fL_X3_22 : FL RX3 22 3 3 := ⟨RX3, TX3, 7, rfl, uX3, by decide, kF_X3_22⟩
theorem fP_X3_22 : FP RX3 22 3 3 .boolean := ⟨RX3, TX3, 7, tyX3, rfl, uX3, by decide, kF_X3_22, tyX3_ok, nmX3, rfl, by decide +kernel⟩
theorem kF_X3_29 : Cond.fieldLink RX3 29 (TX3 4).1 (TX3 4).2.1 (TX3 4).2.2.1 ∈ gt := gt_at 178 (by decide +kernel) (by decide +kernel)
theorem fL_X3_29 : FL RX3 29 3 4 := ⟨RX3, TX3, 7, rfl, uX3, by decide, kF_X3_29⟩
theorem kF_X3_35 : Cond.fieldLink RX3 35 (TX3 5).1 (TX3 5).2.1 (TX3 5).2.2.1 ∈ gt := gt_at 179 (by decide +kernel) (by decide +kernel)
theorem fL_X3_35 : FL RX3 35 3 5 := ⟨RX3, TX3, 7, rfl, uX3, by decide, kF_X3_35⟩
theorem kF_X3_40 : Cond.fieldLink RX3 40 (TX3 6).1 (TX3 6).2.1 (TX3 6).2.2.1 ∈ gt := gt_at 180 (by decide +kernel) (by decide +kernel)
theorem fL_X3_40 : FL RX3 40 3 6 := ⟨RX3, TX3, 7, rfl, uX3, by decide, kF_X3_40⟩
theorem kF_X0_38 : Cond.fieldLink RX0 38 "OwingSwings$Ground" "KIND_ABOVE" "[I" ∈ gt := gt_at 317 (by decide +kernel) (by decide +kernel)
theorem kF_J0_38 : Cond.fieldLink RJ0 38 "java/lang/String" "COMPACT_STRINGS" "Z" ∈ gt := gt_at 505 (by decide +kernel) (by decide +kernel)
theorem kF_J0_1053 : Cond.fieldLink RJ0 1053 "jdk/internal/util/Preconditions" "SIOOBE_FORMATTER" "Ljava/util/function/BiFunction;" ∈ gt := gt_at 521 (by decide +kernel) (by decide +kernel)
theorem kF_J2_44 : Cond.fieldLink RJ2 44 "java/lang/StringUTF16" "$assertionsDisabled" "Z" ∈ gt := gt_at 539 (by decide +kernel) (by decide +kernel)
theorem kF_J2_59 : Cond.fieldLink RJ2 59 "java/lang/StringUTF16" "HI_BYTE_SHIFT" "I" ∈ gt := gt_at 541 (by decide +kernel) (by decide +kernel)
theorem kF_J2_63 : Cond.fieldLink RJ2 63 "java/lang/StringUTF16" "LO_BYTE_SHIFT" "I" ∈ gt := gt_at 543 (by decide +kernel) (by decide +kernel)
theorem kF_X4_7 : Cond.fieldLink RX4 7 (TX4 0).1 (TX4 0).2.1 (TX4 0).2.2.1 ∈ gt := gt_at 666 (by decide +kernel) (by decide +kernel)
theorem fL_X4_7 : FL RX4 7 4 0 := ⟨RX4, TX4, 19, rfl, uX4, by decide, kF_X4_7⟩
theorem kF_X4_13 : Cond.fieldLink RX4 13 (TX4 1).1 (TX4 1).2.1 (TX4 1).2.2.1 ∈ gt := gt_at 667 (by decide +kernel) (by decide +kernel)
theorem fL_X4_13 : FL RX4 13 4 1 := ⟨RX4, TX4, 19, rfl, uX4, by decide, kF_X4_13⟩
theorem kF_X4_16 : Cond.fieldLink RX4 16 (TX4 2).1 (TX4 2).2.1 (TX4 2).2.2.1 ∈ gt := gt_at 668 (by decide +kernel) (by decide +kernel)
theorem fL_X4_16 : FL RX4 16 4 2 := ⟨RX4, TX4, 19, rfl, uX4, by decide, kF_X4_16⟩
theorem kF_X4_19 : Cond.fieldLink RX4 19 (TX4 3).1 (TX4 3).2.1 (TX4 3).2.2.1 ∈ gt := gt_at 669 (by decide +kernel) (by decide +kernel)
theorem fL_X4_19 : FL RX4 19 4 3 := ⟨RX4, TX4, 19, rfl, uX4, by decide, kF_X4_19⟩
theorem kF_X4_22 : Cond.fieldLink RX4 22 (TX4 4).1 (TX4 4).2.1 (TX4 4).2.2.1 ∈ gt := gt_at 670 (by decide +kernel) (by decide +kernel)
theorem fL_X4_22 : FL RX4 22 4 4 := ⟨RX4, TX4, 19, rfl, uX4, by decide, kF_X4_22⟩
theorem kF_X4_162 : Cond.fieldLink RX4 162 (TX4 5).1 (TX4 5).2.1 (TX4 5).2.2.1 ∈ gt := gt_at 671 (by decide +kernel) (by decide +kernel)
theorem fL_X4_162 : FL RX4 162 4 5 := ⟨RX4, TX4, 19, rfl, uX4, by decide, kF_X4_162⟩
theorem fP_X4_162 : FP RX4 162 4 5 .int := ⟨RX4, TX4, 19, tyX4, rfl, uX4, by decide, kF_X4_162, tyX4_ok, nmX4, rfl, by decide +kernel⟩
theorem kF_X4_181 : Cond.fieldLink RX4 181 (TX4 6).1 (TX4 6).2.1 (TX4 6).2.2.1 ∈ gt := gt_at 672 (by decide +kernel) (by decide +kernel)
theorem fL_X4_181 : FL RX4 181 4 6 := ⟨RX4, TX4, 19, rfl, uX4, by decide, kF_X4_181⟩
theorem fP_X4_181 : FP RX4 181 4 6 .int := ⟨RX4, TX4, 19, tyX4, rfl, uX4, by decide, kF_X4_181, tyX4_ok, nmX4, rfl, by decide +kernel⟩
theorem kF_X4_169 : Cond.fieldLink RX4 169 (TX4 7).1 (TX4 7).2.1 (TX4 7).2.2.1 ∈ gt := gt_at 673 (by decide +kernel) (by decide +kernel)
theorem fL_X4_169 : FL RX4 169 4 7 := ⟨RX4, TX4, 19, rfl, uX4, by decide, kF_X4_169⟩
theorem fP_X4_169 : FP RX4 169 4 7 .int := ⟨RX4, TX4, 19, tyX4, rfl, uX4, by decide, kF_X4_169, tyX4_ok, nmX4, rfl, by decide +kernel⟩
theorem kF_X4_166 : Cond.fieldLink RX4 166 (TX4 8).1 (TX4 8).2.1 (TX4 8).2.2.1 ∈ gt := gt_at 674 (by decide +kernel) (by decide +kernel)
theorem fL_X4_166 : FL RX4 166 4 8 := ⟨RX4, TX4, 19, rfl, uX4, by decide, kF_X4_166⟩
theorem fP_X4_166 : FP RX4 166 4 8 .int := ⟨RX4, TX4, 19, tyX4, rfl, uX4, by decide, kF_X4_166, tyX4_ok, nmX4, rfl, by decide +kernel⟩
theorem kF_X4_184 : Cond.fieldLink RX4 184 (TX4 9).1 (TX4 9).2.1 (TX4 9).2.2.1 ∈ gt := gt_at 675 (by decide +kernel) (by decide +kernel)
theorem fL_X4_184 : FL RX4 184 4 9 := ⟨RX4, TX4, 19, rfl, uX4, by decide, kF_X4_184⟩
theorem fP_X4_184 : FP RX4 184 4 9 .long := ⟨RX4, TX4, 19, tyX4, rfl, uX4, by decide, kF_X4_184, tyX4_ok, nmX4, rfl, by decide +kernel⟩
theorem kF_X4_188 : Cond.fieldLink RX4 188 (TX4 10).1 (TX4 10).2.1 (TX4 10).2.2.1 ∈ gt := gt_at 676 (by decide +kernel) (by decide +kernel)
theorem fL_X4_188 : FL RX4 188 4 10 := ⟨RX4, TX4, 19, rfl, uX4, by decide, kF_X4_188⟩
theorem fP_X4_188 : FP RX4 188 4 10 .int := ⟨RX4, TX4, 19, tyX4, rfl, uX4, by decide, kF_X4_188, tyX4_ok, nmX4, rfl, by decide +kernel⟩
theorem kF_X4_213 : Cond.fieldLink RX4 213 (TX4 11).1 (TX4 11).2.1 (TX4 11).2.2.1 ∈ gt := gt_at 677 (by decide +kernel) (by decide +kernel)
theorem fL_X4_213 : FL RX4 213 4 11 := ⟨RX4, TX4, 19, rfl, uX4, by decide, kF_X4_213⟩
theorem fP_X4_213 : FP RX4 213 4 11 .boolean := ⟨RX4, TX4, 19, tyX4, rfl, uX4, by decide, kF_X4_213, tyX4_ok, nmX4, rfl, by decide +kernel⟩
theorem kF_X4_25 : Cond.fieldLink RX4 25 (TX4 12).1 (TX4 12).2.1 (TX4 12).2.2.1 ∈ gt := gt_at 678 (by decide +kernel) (by decide +kernel)
theorem fL_X4_25 : FL RX4 25 4 12 := ⟨RX4, TX4, 19, rfl, uX4, by decide, kF_X4_25⟩
theorem kF_X4_28 : Cond.fieldLink RX4 28 (TX4 13).1 (TX4 13).2.1 (TX4 13).2.2.1 ∈ gt := gt_at 679 (by decide +kernel) (by decide +kernel)
theorem fL_X4_28 : FL RX4 28 4 13 := ⟨RX4, TX4, 19, rfl, uX4, by decide, kF_X4_28⟩
theorem kF_X4_31 : Cond.fieldLink RX4 31 (TX4 14).1 (TX4 14).2.1 (TX4 14).2.2.1 ∈ gt := gt_at 680 (by decide +kernel) (by decide +kernel)
theorem fL_X4_31 : FL RX4 31 4 14 := ⟨RX4, TX4, 19, rfl, uX4, by decide, kF_X4_31⟩
theorem kF_X4_35 : Cond.fieldLink RX4 35 (TX4 15).1 (TX4 15).2.1 (TX4 15).2.2.1 ∈ gt := gt_at 681 (by decide +kernel) (by decide +kernel)
theorem fL_X4_35 : FL RX4 35 4 15 := ⟨RX4, TX4, 19, rfl, uX4, by decide, kF_X4_35⟩
theorem kF_X4_38 : Cond.fieldLink RX4 38 (TX4 16).1 (TX4 16).2.1 (TX4 16).2.2.1 ∈ gt := gt_at 682 (by decide +kernel) (by decide +kernel)
theorem fL_X4_38 : FL RX4 38 4 16 := ⟨RX4, TX4, 19, rfl, uX4, by decide, kF_X4_38⟩
theorem kF_X4_41 : Cond.fieldLink RX4 41 (TX4 17).1 (TX4 17).2.1 (TX4 17).2.2.1 ∈ gt := gt_at 683 (by decide +kernel) (by decide +kernel)
theorem fL_X4_41 : FL RX4 41 4 17 := ⟨RX4, TX4, 19, rfl, uX4, by decide, kF_X4_41⟩
theorem kF_X4_266 : Cond.fieldLink RX4 266 (TX4 18).1 (TX4 18).2.1 (TX4 18).2.2.1 ∈ gt := gt_at 684 (by decide +kernel) (by decide +kernel)
theorem fL_X4_266 : FL RX4 266 4 18 := ⟨RX4, TX4, 19, rfl, uX4, by decide, kF_X4_266⟩
theorem fP_X4_266 : FP RX4 266 4 18 .boolean := ⟨RX4, TX4, 19, tyX4, rfl, uX4, by decide, kF_X4_266, tyX4_ok, nmX4, rfl, by decide +kernel⟩
theorem kF_J0_9 : Cond.fieldLink RJ0 9 "java/lang/String" "value" "[B" ∈ gt := gt_at 1078 (by decide +kernel) (by decide +kernel)
theorem kF_J0_15 : Cond.fieldLink RJ0 15 "java/lang/String" "coder" "B" ∈ gt := gt_at 1079 (by decide +kernel) (by decide +kernel)
theorem kC_X3_230 : Cond.constant RX3 230 (-1000000001) ∈ gt := gt_at 207 (by decide +kernel) (by decide +kernel)
theorem kC_X3_109 : Cond.constant RX3 109 (100000) ∈ gt := gt_at 280 (by decide +kernel) (by decide +kernel)
theorem kC_X3_140 : Cond.constant RX3 140 (99999) ∈ gt := gt_at 349 (by decide +kernel) (by decide +kernel)
theorem kL_X3_224 : Cond.constantLong RX3 224 (200) ∈ gt := gt_at 627 (by decide +kernel) (by decide +kernel)
theorem kC_X4_44 : Cond.constant RX4 44 (-1000000001) ∈ gt := gt_at 735 (by decide +kernel) (by decide +kernel)
theorem kC_X4_94 : Cond.constant RX4 94 (-1000000002) ∈ gt := gt_at 783 (by decide +kernel) (by decide +kernel)
theorem kC_X4_101 : Cond.constant RX4 101 (100000) ∈ gt := gt_at 800 (by decide +kernel) (by decide +kernel)
theorem kC_X4_115 : Cond.constant RX4 115 (-1000000003) ∈ gt := gt_at 832 (by decide +kernel) (by decide +kernel)
theorem kC_X4_146 : Cond.constant RX4 146 (99999) ∈ gt := gt_at 856 (by decide +kernel) (by decide +kernel)
theorem kC_X4_147 : Cond.constant RX4 147 (-1000000005) ∈ gt := gt_at 857 (by decide +kernel) (by decide +kernel)
theorem kC_X4_158 : Cond.constant RX4 158 (-1000000004) ∈ gt := gt_at 905 (by decide +kernel) (by decide +kernel)
theorem kL_X4_191 : Cond.constantLong RX4 191 (27) ∈ gt := gt_at 971 (by decide +kernel) (by decide +kernel)
theorem kL_X4_193 : Cond.constantLong RX4 193 (96) ∈ gt := gt_at 972 (by decide +kernel) (by decide +kernel)
theorem kL_X4_195 : Cond.constantLong RX4 195 (-1) ∈ gt := gt_at 973 (by decide +kernel) (by decide +kernel)
theorem kL_X4_197 : Cond.constantLong RX4 197 (1758676) ∈ gt := gt_at 982 (by decide +kernel) (by decide +kernel)
theorem kL_X4_203 : Cond.constantLong RX4 203 (1708) ∈ gt := gt_at 987 (by decide +kernel) (by decide +kernel)
theorem kL_X4_205 : Cond.constantLong RX4 205 (10354323) ∈ gt := gt_at 988 (by decide +kernel) (by decide +kernel)
theorem kL_X4_207 : Cond.constantLong RX4 207 (223456) ∈ gt := gt_at 989 (by decide +kernel) (by decide +kernel)
theorem kL_X4_209 : Cond.constantLong RX4 209 (9451634) ∈ gt := gt_at 990 (by decide +kernel) (by decide +kernel)
theorem kL_X4_211 : Cond.constantLong RX4 211 (40174) ∈ gt := gt_at 991 (by decide +kernel) (by decide +kernel)
theorem kL_X4_223 : Cond.constantLong RX4 223 (164222) ∈ gt := gt_at 996 (by decide +kernel) (by decide +kernel)
theorem kL_X4_229 : Cond.constantLong RX4 229 (5060429470) ∈ gt := gt_at 1005 (by decide +kernel) (by decide +kernel)
theorem kL_X4_237 : Cond.constantLong RX4 237 (330758) ∈ gt := gt_at 1006 (by decide +kernel) (by decide +kernel)
theorem kL_X4_242 : Cond.constantLong RX4 242 (79958) ∈ gt := gt_at 1011 (by decide +kernel) (by decide +kernel)
theorem kC_X4_250 : Cond.constant RX4 250 (-1000000007) ∈ gt := gt_at 1019 (by decide +kernel) (by decide +kernel)
theorem kC_X4_251 : Cond.constant RX4 251 (-1000000006) ∈ gt := gt_at 1024 (by decide +kernel) (by decide +kernel)
theorem kL_X4_261 : Cond.constantLong RX4 261 (200) ∈ gt := gt_at 1044 (by decide +kernel) (by decide +kernel)
theorem kL_L_121 : Cond.constantLong RL 121 (4294967295) ∈ gt := gt_at 1077 (by decide +kernel) (by decide +kernel)
theorem kK_X3_init : Cond.code yX3_init cX3_init 2 none ∈ gt := gt_at 82 (by decide +kernel) (by decide +kernel)
theorem kX_X3_init : Cond.instanceMethod yX3_init ∈ gt := gt_at 81 (by decide +kernel) (by decide +kernel)
theorem kK_X0_init : Cond.code yX0_init cX0_init 1 none ∈ gt := gt_at 90 (by decide +kernel) (by decide +kernel)
theorem kX_X0_init : Cond.instanceMethod yX0_init ∈ gt := gt_at 89 (by decide +kernel) (by decide +kernel)
theorem kK_X2_init : Cond.code yX2_init cX2_init 1 none ∈ gt := gt_at 130 (by decide +kernel) (by decide +kernel)
theorem kX_X2_init : Cond.instanceMethod yX2_init ∈ gt := gt_at 129 (by decide +kernel) (by decide +kernel)
theorem kK_X1_init : Cond.code yX1_init cX1_init 1 none ∈ gt := gt_at 158 (by decide +kernel) (by decide +kernel)
theorem kX_X1_init : Cond.instanceMethod yX1_init ∈ gt := gt_at 157 (by decide +kernel) (by decide +kernel)
theorem kK_X3_dark : Cond.code yX3_dark cX3_dark 3 (some .int) ∈ gt := gt_at 199 (by decide +kernel) (by decide +kernel)
theorem kX_X3_dark : Cond.instanceMethod yX3_dark ∈ gt := gt_at 197 (by decide +kernel) (by decide +kernel)
theorem kS_X3_dark : Cond.selects RX3 yX3_dark yX3_dark ∈ gt := gt_at 198 (by decide +kernel) (by decide +kernel)
theorem mV_X3_dark : MV yX3_dark cX3_dark 3 (some .int) 1 := ⟨kK_X3_dark, kX_X3_dark, kS_X3_dark, kI_X3, ⟨by decide +kernel, by decide +kernel, by decide +kernel⟩⟩
theorem kK_X3_within : Cond.code yX3_within cX3_within 3 (some .boolean) ∈ gt := gt_at 202 (by decide +kernel) (by decide +kernel)
theorem kX_X3_within : Cond.static yX3_within ∈ gt := gt_at 201 (by decide +kernel) (by decide +kernel)
theorem mS_X3_within : MS yX3_within cX3_within 3 (some .boolean) 3 := ⟨kK_X3_within, kX_X3_within, kI_X3, ⟨by decide +kernel, by decide +kernel, by decide +kernel⟩⟩
theorem kK_X3_found : Cond.code yX3_found cX3_found 2 (some .int) ∈ gt := gt_at 206 (by decide +kernel) (by decide +kernel)
theorem kX_X3_found : Cond.instanceMethod yX3_found ∈ gt := gt_at 205 (by decide +kernel) (by decide +kernel)
theorem kS_X3_found : Cond.selects RX3 yX3_found yX3_found ∈ gt := gt_at 0 (by decide +kernel) (by decide +kernel)
theorem mV_X3_found : MV yX3_found cX3_found 2 (some .int) 1 := ⟨kK_X3_found, kX_X3_found, kS_X3_found, kI_X3, ⟨by decide +kernel, by decide +kernel, by decide +kernel⟩⟩
theorem kK_X3_now : Cond.code yX3_now cX3_now 2 (some .int) ∈ gt := gt_at 211 (by decide +kernel) (by decide +kernel)
theorem kX_X3_now : Cond.instanceMethod yX3_now ∈ gt := gt_at 209 (by decide +kernel) (by decide +kernel)
theorem kS_X3_now : Cond.selects RX3 yX3_now yX3_now ∈ gt := gt_at 210 (by decide +kernel) (by decide +kernel)
theorem mV_X3_now : MV yX3_now cX3_now 2 (some .int) 1 := ⟨kK_X3_now, kX_X3_now, kS_X3_now, kI_X3, ⟨by decide +kernel, by decide +kernel, by decide +kernel⟩⟩
theorem kK_X0_minuteOfDay : Cond.code yX0_minuteOfDay cX0_minuteOfDay 1 (some .int) ∈ gt := gt_at 215 (by decide +kernel) (by decide +kernel)
theorem kX_X0_minuteOfDay : Cond.instanceMethod yX0_minuteOfDay ∈ gt := gt_at 213 (by decide +kernel) (by decide +kernel)
theorem kS_X0_minuteOfDay : Cond.selects RX0 yX0_minuteOfDay yX0_minuteOfDay ∈ gt := gt_at 214 (by decide +kernel) (by decide +kernel)
theorem mV_X0_minuteOfDay : MV yX0_minuteOfDay cX0_minuteOfDay 1 (some .int) 0 := ⟨kK_X0_minuteOfDay, kX_X0_minuteOfDay, kS_X0_minuteOfDay, kI_X0, ⟨by decide +kernel, by decide +kernel, by decide +kernel⟩⟩
theorem kK_X0_isDusk : Cond.code yX0_isDusk cX0_isDusk 1 (some .boolean) ∈ gt := gt_at 219 (by decide +kernel) (by decide +kernel)
theorem kX_X0_isDusk : Cond.instanceMethod yX0_isDusk ∈ gt := gt_at 217 (by decide +kernel) (by decide +kernel)
theorem kS_X0_isDusk : Cond.selects RX0 yX0_isDusk yX0_isDusk ∈ gt := gt_at 218 (by decide +kernel) (by decide +kernel)
theorem mV_X0_isDusk : MV yX0_isDusk cX0_isDusk 1 (some .boolean) 0 := ⟨kK_X0_isDusk, kX_X0_isDusk, kS_X0_isDusk, kI_X0, ⟨by decide +kernel, by decide +kernel, by decide +kernel⟩⟩
theorem kK_X3_asNumber : Cond.code yX3_asNumber cX3_asNumber 1 (some .int) ∈ gt := gt_at 223 (by decide +kernel) (by decide +kernel)
theorem kX_X3_asNumber : Cond.static yX3_asNumber ∈ gt := gt_at 222 (by decide +kernel) (by decide +kernel)
theorem mS_X3_asNumber : MS yX3_asNumber cX3_asNumber 1 (some .int) 1 := ⟨kK_X3_asNumber, kX_X3_asNumber, kI_X3, ⟨by decide +kernel, by decide +kernel, by decide +kernel⟩⟩
theorem kK_X0_isSaturday : Cond.code yX0_isSaturday cX0_isSaturday 1 (some .boolean) ∈ gt := gt_at 227 (by decide +kernel) (by decide +kernel)
theorem kX_X0_isSaturday : Cond.instanceMethod yX0_isSaturday ∈ gt := gt_at 225 (by decide +kernel) (by decide +kernel)
theorem kS_X0_isSaturday : Cond.selects RX0 yX0_isSaturday yX0_isSaturday ∈ gt := gt_at 226 (by decide +kernel) (by decide +kernel)
theorem mV_X0_isSaturday : MV yX0_isSaturday cX0_isSaturday 1 (some .boolean) 0 := ⟨kK_X0_isSaturday, kX_X0_isSaturday, kS_X0_isSaturday, kI_X0, ⟨by decide +kernel, by decide +kernel, by decide +kernel⟩⟩
theorem kK_X3_sumOf : Cond.code yX3_sumOf cX3_sumOf 4 (some .int) ∈ gt := gt_at 231 (by decide +kernel) (by decide +kernel)
theorem kX_X3_sumOf : Cond.instanceMethod yX3_sumOf ∈ gt := gt_at 230 (by decide +kernel) (by decide +kernel)
theorem kS_X3_sumOf : Cond.selects RX3 yX3_sumOf yX3_sumOf ∈ gt := gt_at 1 (by decide +kernel) (by decide +kernel)
theorem mV_X3_sumOf : MV yX3_sumOf cX3_sumOf 4 (some .int) 1 := ⟨kK_X3_sumOf, kX_X3_sumOf, kS_X3_sumOf, kI_X3, ⟨by decide +kernel, by decide +kernel, by decide +kernel⟩⟩
theorem kK_X0_isLevel : Cond.code yX0_isLevel cX0_isLevel 1 (some .boolean) ∈ gt := gt_at 235 (by decide +kernel) (by decide +kernel)
theorem kX_X0_isLevel : Cond.instanceMethod yX0_isLevel ∈ gt := gt_at 233 (by decide +kernel) (by decide +kernel)
theorem kS_X0_isLevel : Cond.selects RX0 yX0_isLevel yX0_isLevel ∈ gt := gt_at 234 (by decide +kernel) (by decide +kernel)
theorem mV_X0_isLevel : MV yX0_isLevel cX0_isLevel 1 (some .boolean) 0 := ⟨kK_X0_isLevel, kX_X0_isLevel, kS_X0_isLevel, kI_X0, ⟨by decide +kernel, by decide +kernel, by decide +kernel⟩⟩
theorem kK_X0_apart : Cond.code yX0_apart cX0_apart 3 (some .int) ∈ gt := gt_at 239 (by decide +kernel) (by decide +kernel)
theorem kX_X0_apart : Cond.instanceMethod yX0_apart ∈ gt := gt_at 237 (by decide +kernel) (by decide +kernel)
theorem kS_X0_apart : Cond.selects RX0 yX0_apart yX0_apart ∈ gt := gt_at 238 (by decide +kernel) (by decide +kernel)
theorem mV_X0_apart : MV yX0_apart cX0_apart 3 (some .int) 0 := ⟨kK_X0_apart, kX_X0_apart, kS_X0_apart, kI_X0, ⟨by decide +kernel, by decide +kernel, by decide +kernel⟩⟩
theorem kK_X0_highest : Cond.code yX0_highest cX0_highest 1 (some .int) ∈ gt := gt_at 243 (by decide +kernel) (by decide +kernel)
theorem kX_X0_highest : Cond.instanceMethod yX0_highest ∈ gt := gt_at 241 (by decide +kernel) (by decide +kernel)
theorem kS_X0_highest : Cond.selects RX0 yX0_highest yX0_highest ∈ gt := gt_at 242 (by decide +kernel) (by decide +kernel)
theorem mV_X0_highest : MV yX0_highest cX0_highest 1 (some .int) 0 := ⟨kK_X0_highest, kX_X0_highest, kS_X0_highest, kI_X0, ⟨by decide +kernel, by decide +kernel, by decide +kernel⟩⟩
theorem kK_X0_firstOfMost : Cond.code yX0_firstOfMost cX0_firstOfMost 4 (some .int) ∈ gt := gt_at 247 (by decide +kernel) (by decide +kernel)
theorem kX_X0_firstOfMost : Cond.instanceMethod yX0_firstOfMost ∈ gt := gt_at 245 (by decide +kernel) (by decide +kernel)
theorem kS_X0_firstOfMost : Cond.selects RX0 yX0_firstOfMost yX0_firstOfMost ∈ gt := gt_at 246 (by decide +kernel) (by decide +kernel)
theorem mV_X0_firstOfMost : MV yX0_firstOfMost cX0_firstOfMost 4 (some .int) 1 := ⟨kK_X0_firstOfMost, kX_X0_firstOfMost, kS_X0_firstOfMost, kI_X0, ⟨by decide +kernel, by decide +kernel, by decide +kernel⟩⟩
theorem kK_X0_lowest : Cond.code yX0_lowest cX0_lowest 3 (some .int) ∈ gt := gt_at 251 (by decide +kernel) (by decide +kernel)
theorem kX_X0_lowest : Cond.instanceMethod yX0_lowest ∈ gt := gt_at 250 (by decide +kernel) (by decide +kernel)
theorem kS_X0_lowest : Cond.selects RX0 yX0_lowest yX0_lowest ∈ gt := gt_at 2 (by decide +kernel) (by decide +kernel)
theorem mV_X0_lowest : MV yX0_lowest cX0_lowest 3 (some .int) 0 := ⟨kK_X0_lowest, kX_X0_lowest, kS_X0_lowest, kI_X0, ⟨by decide +kernel, by decide +kernel, by decide +kernel⟩⟩
theorem kK_X0_inTheDust : Cond.code yX0_inTheDust cX0_inTheDust 3 (some .int) ∈ gt := gt_at 255 (by decide +kernel) (by decide +kernel)
theorem kX_X0_inTheDust : Cond.instanceMethod yX0_inTheDust ∈ gt := gt_at 253 (by decide +kernel) (by decide +kernel)
theorem kS_X0_inTheDust : Cond.selects RX0 yX0_inTheDust yX0_inTheDust ∈ gt := gt_at 254 (by decide +kernel) (by decide +kernel)
theorem mV_X0_inTheDust : MV yX0_inTheDust cX0_inTheDust 3 (some .int) 0 := ⟨kK_X0_inTheDust, kX_X0_inTheDust, kS_X0_inTheDust, kI_X0, ⟨by decide +kernel, by decide +kernel, by decide +kernel⟩⟩
theorem kK_X3_child : Cond.code yX3_child cX3_child 2 (some .int) ∈ gt := gt_at 260 (by decide +kernel) (by decide +kernel)
theorem kX_X3_child : Cond.instanceMethod yX3_child ∈ gt := gt_at 258 (by decide +kernel) (by decide +kernel)
theorem kS_X3_child : Cond.selects RX3 yX3_child yX3_child ∈ gt := gt_at 259 (by decide +kernel) (by decide +kernel)
theorem mV_X3_child : MV yX3_child cX3_child 2 (some .int) 1 := ⟨kK_X3_child, kX_X3_child, kS_X3_child, kI_X3, ⟨by decide +kernel, by decide +kernel, by decide +kernel⟩⟩
theorem kK_X3_isKind : Cond.code yX3_isKind cX3_isKind 1 (some .boolean) ∈ gt := gt_at 263 (by decide +kernel) (by decide +kernel)
theorem kX_X3_isKind : Cond.static yX3_isKind ∈ gt := gt_at 262 (by decide +kernel) (by decide +kernel)
theorem mS_X3_isKind : MS yX3_isKind cX3_isKind 1 (some .boolean) 1 := ⟨kK_X3_isKind, kX_X3_isKind, kI_X3, ⟨by decide +kernel, by decide +kernel, by decide +kernel⟩⟩
theorem kK_X0_hasRoom : Cond.code yX0_hasRoom cX0_hasRoom 1 (some .boolean) ∈ gt := gt_at 267 (by decide +kernel) (by decide +kernel)
theorem kX_X0_hasRoom : Cond.instanceMethod yX0_hasRoom ∈ gt := gt_at 265 (by decide +kernel) (by decide +kernel)
theorem kS_X0_hasRoom : Cond.selects RX0 yX0_hasRoom yX0_hasRoom ∈ gt := gt_at 266 (by decide +kernel) (by decide +kernel)
theorem mV_X0_hasRoom : MV yX0_hasRoom cX0_hasRoom 1 (some .boolean) 0 := ⟨kK_X0_hasRoom, kX_X0_hasRoom, kS_X0_hasRoom, kI_X0, ⟨by decide +kernel, by decide +kernel, by decide +kernel⟩⟩
theorem kK_X0_addOne : Cond.code yX0_addOne cX0_addOne 3 (some .int) ∈ gt := gt_at 271 (by decide +kernel) (by decide +kernel)
theorem kX_X0_addOne : Cond.instanceMethod yX0_addOne ∈ gt := gt_at 269 (by decide +kernel) (by decide +kernel)
theorem kS_X0_addOne : Cond.selects RX0 yX0_addOne yX0_addOne ∈ gt := gt_at 270 (by decide +kernel) (by decide +kernel)
theorem mV_X0_addOne : MV yX0_addOne cX0_addOne 3 (some .int) 1 := ⟨kK_X0_addOne, kX_X0_addOne, kS_X0_addOne, kI_X0, ⟨by decide +kernel, by decide +kernel, by decide +kernel⟩⟩
theorem kK_X3_of : Cond.code yX3_of cX3_of 3 (some .int) ∈ gt := gt_at 275 (by decide +kernel) (by decide +kernel)
theorem kX_X3_of : Cond.instanceMethod yX3_of ∈ gt := gt_at 273 (by decide +kernel) (by decide +kernel)
theorem kS_X3_of : Cond.selects RX3 yX3_of yX3_of ∈ gt := gt_at 274 (by decide +kernel) (by decide +kernel)
theorem mV_X3_of : MV yX3_of cX3_of 3 (some .int) 2 := ⟨kK_X3_of, kX_X3_of, kS_X3_of, kI_X3, ⟨by decide +kernel, by decide +kernel, by decide +kernel⟩⟩
theorem kK_X3_isChild : Cond.code yX3_isChild cX3_isChild 2 (some .boolean) ∈ gt := gt_at 279 (by decide +kernel) (by decide +kernel)
theorem kX_X3_isChild : Cond.instanceMethod yX3_isChild ∈ gt := gt_at 278 (by decide +kernel) (by decide +kernel)
theorem kS_X3_isChild : Cond.selects RX3 yX3_isChild yX3_isChild ∈ gt := gt_at 3 (by decide +kernel) (by decide +kernel)
theorem mV_X3_isChild : MV yX3_isChild cX3_isChild 2 (some .boolean) 1 := ⟨kK_X3_isChild, kX_X3_isChild, kS_X3_isChild, kI_X3, ⟨by decide +kernel, by decide +kernel, by decide +kernel⟩⟩
theorem kK_X0_wantsOf : Cond.code yX0_wantsOf cX0_wantsOf 5 (some .int) ∈ gt := gt_at 284 (by decide +kernel) (by decide +kernel)
theorem kX_X0_wantsOf : Cond.instanceMethod yX0_wantsOf ∈ gt := gt_at 282 (by decide +kernel) (by decide +kernel)
theorem kS_X0_wantsOf : Cond.selects RX0 yX0_wantsOf yX0_wantsOf ∈ gt := gt_at 283 (by decide +kernel) (by decide +kernel)
theorem mV_X0_wantsOf : MV yX0_wantsOf cX0_wantsOf 5 (some .int) 1 := ⟨kK_X0_wantsOf, kX_X0_wantsOf, kS_X0_wantsOf, kI_X0, ⟨by decide +kernel, by decide +kernel, by decide +kernel⟩⟩
theorem kK_X0_nextOf : Cond.code yX0_nextOf cX0_nextOf 2 (some .int) ∈ gt := gt_at 288 (by decide +kernel) (by decide +kernel)
theorem kX_X0_nextOf : Cond.instanceMethod yX0_nextOf ∈ gt := gt_at 287 (by decide +kernel) (by decide +kernel)
theorem kS_X0_nextOf : Cond.selects RX0 yX0_nextOf yX0_nextOf ∈ gt := gt_at 4 (by decide +kernel) (by decide +kernel)
theorem mV_X0_nextOf : MV yX0_nextOf cX0_nextOf 2 (some .int) 1 := ⟨kK_X0_nextOf, kX_X0_nextOf, kS_X0_nextOf, kI_X0, ⟨by decide +kernel, by decide +kernel, by decide +kernel⟩⟩
theorem kK_X0_paysOf : Cond.code yX0_paysOf cX0_paysOf 2 (some .int) ∈ gt := gt_at 293 (by decide +kernel) (by decide +kernel)
theorem kX_X0_paysOf : Cond.instanceMethod yX0_paysOf ∈ gt := gt_at 291 (by decide +kernel) (by decide +kernel)
theorem kS_X0_paysOf : Cond.selects RX0 yX0_paysOf yX0_paysOf ∈ gt := gt_at 292 (by decide +kernel) (by decide +kernel)
theorem mV_X0_paysOf : MV yX0_paysOf cX0_paysOf 2 (some .int) 1 := ⟨kK_X0_paysOf, kX_X0_paysOf, kS_X0_paysOf, kI_X0, ⟨by decide +kernel, by decide +kernel, by decide +kernel⟩⟩
theorem kK_X0_yieldsOf : Cond.code yX0_yieldsOf cX0_yieldsOf 5 (some .int) ∈ gt := gt_at 297 (by decide +kernel) (by decide +kernel)
theorem kX_X0_yieldsOf : Cond.instanceMethod yX0_yieldsOf ∈ gt := gt_at 295 (by decide +kernel) (by decide +kernel)
theorem kS_X0_yieldsOf : Cond.selects RX0 yX0_yieldsOf yX0_yieldsOf ∈ gt := gt_at 296 (by decide +kernel) (by decide +kernel)
theorem mV_X0_yieldsOf : MV yX0_yieldsOf cX0_yieldsOf 5 (some .int) 1 := ⟨kK_X0_yieldsOf, kX_X0_yieldsOf, kS_X0_yieldsOf, kI_X0, ⟨by decide +kernel, by decide +kernel, by decide +kernel⟩⟩
theorem kK_X3_set : Cond.code yX3_set cX3_set 4 (some .int) ∈ gt := gt_at 301 (by decide +kernel) (by decide +kernel)
theorem kX_X3_set : Cond.instanceMethod yX3_set ∈ gt := gt_at 299 (by decide +kernel) (by decide +kernel)
theorem kS_X3_set : Cond.selects RX3 yX3_set yX3_set ∈ gt := gt_at 300 (by decide +kernel) (by decide +kernel)
theorem mV_X3_set : MV yX3_set cX3_set 4 (some .int) 3 := ⟨kK_X3_set, kX_X3_set, kS_X3_set, kI_X3, ⟨by decide +kernel, by decide +kernel, by decide +kernel⟩⟩
theorem kK_X3_put : Cond.code yX3_put cX3_put 7 (some .int) ∈ gt := gt_at 305 (by decide +kernel) (by decide +kernel)
theorem kX_X3_put : Cond.instanceMethod yX3_put ∈ gt := gt_at 304 (by decide +kernel) (by decide +kernel)
theorem kS_X3_put : Cond.selects RX3 yX3_put yX3_put ∈ gt := gt_at 5 (by decide +kernel) (by decide +kernel)
theorem mV_X3_put : MV yX3_put cX3_put 7 (some .int) 5 := ⟨kK_X3_put, kX_X3_put, kS_X3_put, kI_X3, ⟨by decide +kernel, by decide +kernel, by decide +kernel⟩⟩
theorem kK_X3_turn : Cond.code yX3_turn cX3_turn 4 (some .int) ∈ gt := gt_at 309 (by decide +kernel) (by decide +kernel)
theorem kX_X3_turn : Cond.instanceMethod yX3_turn ∈ gt := gt_at 307 (by decide +kernel) (by decide +kernel)
theorem kS_X3_turn : Cond.selects RX3 yX3_turn yX3_turn ∈ gt := gt_at 308 (by decide +kernel) (by decide +kernel)
theorem mV_X3_turn : MV yX3_turn cX3_turn 4 (some .int) 2 := ⟨kK_X3_turn, kX_X3_turn, kS_X3_turn, kI_X3, ⟨by decide +kernel, by decide +kernel, by decide +kernel⟩⟩
theorem kK_X3_as : Cond.code yX3_as cX3_as 3 (some .int) ∈ gt := gt_at 313 (by decide +kernel) (by decide +kernel)
theorem kX_X3_as : Cond.instanceMethod yX3_as ∈ gt := gt_at 311 (by decide +kernel) (by decide +kernel)
theorem kS_X3_as : Cond.selects RX3 yX3_as yX3_as ∈ gt := gt_at 312 (by decide +kernel) (by decide +kernel)
theorem mV_X3_as : MV yX3_as cX3_as 3 (some .int) 2 := ⟨kK_X3_as, kX_X3_as, kS_X3_as, kI_X3, ⟨by decide +kernel, by decide +kernel, by decide +kernel⟩⟩
theorem kK_X0_isOfKind : Cond.code yX0_isOfKind cX0_isOfKind 4 (some .boolean) ∈ gt := gt_at 316 (by decide +kernel) (by decide +kernel)
theorem kX_X0_isOfKind : Cond.static yX0_isOfKind ∈ gt := gt_at 315 (by decide +kernel) (by decide +kernel)
theorem mS_X0_isOfKind : MS yX0_isOfKind cX0_isOfKind 4 (some .boolean) 2 := ⟨kK_X0_isOfKind, kX_X0_isOfKind, kI_X0, ⟨by decide +kernel, by decide +kernel, by decide +kernel⟩⟩
theorem kK_X3_push : Cond.code yX3_push cX3_push 3 (some .int) ∈ gt := gt_at 322 (by decide +kernel) (by decide +kernel)
theorem kX_X3_push : Cond.instanceMethod yX3_push ∈ gt := gt_at 320 (by decide +kernel) (by decide +kernel)
theorem kS_X3_push : Cond.selects RX3 yX3_push yX3_push ∈ gt := gt_at 321 (by decide +kernel) (by decide +kernel)
theorem mV_X3_push : MV yX3_push cX3_push 3 (some .int) 2 := ⟨kK_X3_push, kX_X3_push, kS_X3_push, kI_X3, ⟨by decide +kernel, by decide +kernel, by decide +kernel⟩⟩
theorem kK_X0_shove : Cond.code yX0_shove cX0_shove 3 none ∈ gt := gt_at 326 (by decide +kernel) (by decide +kernel)
theorem kX_X0_shove : Cond.instanceMethod yX0_shove ∈ gt := gt_at 324 (by decide +kernel) (by decide +kernel)
theorem kS_X0_shove : Cond.selects RX0 yX0_shove yX0_shove ∈ gt := gt_at 325 (by decide +kernel) (by decide +kernel)
theorem mV_X0_shove : MV yX0_shove cX0_shove 3 none 2 := ⟨kK_X0_shove, kX_X0_shove, kS_X0_shove, kI_X0, ⟨by decide +kernel, by decide +kernel, by decide +kernel⟩⟩
theorem kK_J9_min_7cf53 : Cond.code yJ9_min_7cf53 cJ9_min_7cf53 2 (some .int) ∈ gt := gt_at 329 (by decide +kernel) (by decide +kernel)
theorem kX_J9_min_7cf53 : Cond.static yJ9_min_7cf53 ∈ gt := gt_at 328 (by decide +kernel) (by decide +kernel)
theorem mS_J9_min_7cf53 : MS yJ9_min_7cf53 cJ9_min_7cf53 2 (some .int) 2 := ⟨kK_J9_min_7cf53, kX_J9_min_7cf53, kI_J9, ⟨by decide +kernel, by decide +kernel, by decide +kernel⟩⟩
theorem kK_X3_swap : Cond.code yX3_swap cX3_swap 3 (some .int) ∈ gt := gt_at 333 (by decide +kernel) (by decide +kernel)
theorem kX_X3_swap : Cond.instanceMethod yX3_swap ∈ gt := gt_at 331 (by decide +kernel) (by decide +kernel)
theorem kS_X3_swap : Cond.selects RX3 yX3_swap yX3_swap ∈ gt := gt_at 332 (by decide +kernel) (by decide +kernel)
theorem mV_X3_swap : MV yX3_swap cX3_swap 3 (some .int) 2 := ⟨kK_X3_swap, kX_X3_swap, kS_X3_swap, kI_X3, ⟨by decide +kernel, by decide +kernel, by decide +kernel⟩⟩
theorem kK_X3_areTwo : Cond.code yX3_areTwo cX3_areTwo 3 (some .boolean) ∈ gt := gt_at 337 (by decide +kernel) (by decide +kernel)
theorem kX_X3_areTwo : Cond.instanceMethod yX3_areTwo ∈ gt := gt_at 336 (by decide +kernel) (by decide +kernel)
theorem kS_X3_areTwo : Cond.selects RX3 yX3_areTwo yX3_areTwo ∈ gt := gt_at 6 (by decide +kernel) (by decide +kernel)
theorem mV_X3_areTwo : MV yX3_areTwo cX3_areTwo 3 (some .boolean) 2 := ⟨kK_X3_areTwo, kX_X3_areTwo, kS_X3_areTwo, kI_X3, ⟨by decide +kernel, by decide +kernel, by decide +kernel⟩⟩
theorem kK_X0_exchange : Cond.code yX0_exchange cX0_exchange 3 none ∈ gt := gt_at 341 (by decide +kernel) (by decide +kernel)
theorem kX_X0_exchange : Cond.instanceMethod yX0_exchange ∈ gt := gt_at 339 (by decide +kernel) (by decide +kernel)
theorem kS_X0_exchange : Cond.selects RX0 yX0_exchange yX0_exchange ∈ gt := gt_at 340 (by decide +kernel) (by decide +kernel)
theorem mV_X0_exchange : MV yX0_exchange cX0_exchange 3 none 2 := ⟨kK_X0_exchange, kX_X0_exchange, kS_X0_exchange, kI_X0, ⟨by decide +kernel, by decide +kernel, by decide +kernel⟩⟩
theorem kK_X0_exchangeIn : Cond.code yX0_exchangeIn cX0_exchangeIn 4 none ∈ gt := gt_at 344 (by decide +kernel) (by decide +kernel)
theorem kX_X0_exchangeIn : Cond.static yX0_exchangeIn ∈ gt := gt_at 343 (by decide +kernel) (by decide +kernel)
theorem mS_X0_exchangeIn : MS yX0_exchangeIn cX0_exchangeIn 4 none 3 := ⟨kK_X0_exchangeIn, kX_X0_exchangeIn, kI_X0, ⟨by decide +kernel, by decide +kernel, by decide +kernel⟩⟩
theorem kK_X3_minutes : Cond.code yX3_minutes cX3_minutes 2 (some .int) ∈ gt := gt_at 348 (by decide +kernel) (by decide +kernel)
theorem kX_X3_minutes : Cond.instanceMethod yX3_minutes ∈ gt := gt_at 346 (by decide +kernel) (by decide +kernel)
theorem kS_X3_minutes : Cond.selects RX3 yX3_minutes yX3_minutes ∈ gt := gt_at 347 (by decide +kernel) (by decide +kernel)
theorem mV_X3_minutes : MV yX3_minutes cX3_minutes 2 (some .int) 1 := ⟨kK_X3_minutes, kX_X3_minutes, kS_X3_minutes, kI_X3, ⟨by decide +kernel, by decide +kernel, by decide +kernel⟩⟩
theorem kK_X0_goOn : Cond.code yX0_goOn cX0_goOn 3 none ∈ gt := gt_at 353 (by decide +kernel) (by decide +kernel)
theorem kX_X0_goOn : Cond.instanceMethod yX0_goOn ∈ gt := gt_at 351 (by decide +kernel) (by decide +kernel)
theorem kS_X0_goOn : Cond.selects RX0 yX0_goOn yX0_goOn ∈ gt := gt_at 352 (by decide +kernel) (by decide +kernel)
theorem mV_X0_goOn : MV yX0_goOn cX0_goOn 3 none 1 := ⟨kK_X0_goOn, kX_X0_goOn, kS_X0_goOn, kI_X0, ⟨by decide +kernel, by decide +kernel, by decide +kernel⟩⟩
theorem kK_X0_goMinute : Cond.code yX0_goMinute cX0_goMinute 2 none ∈ gt := gt_at 357 (by decide +kernel) (by decide +kernel)
theorem kX_X0_goMinute : Cond.instanceMethod yX0_goMinute ∈ gt := gt_at 355 (by decide +kernel) (by decide +kernel)
theorem kS_X0_goMinute : Cond.selects RX0 yX0_goMinute yX0_goMinute ∈ gt := gt_at 356 (by decide +kernel) (by decide +kernel)
theorem mV_X0_goMinute : MV yX0_goMinute cX0_goMinute 2 none 0 := ⟨kK_X0_goMinute, kX_X0_goMinute, kS_X0_goMinute, kI_X0, ⟨by decide +kernel, by decide +kernel, by decide +kernel⟩⟩
theorem kK_X0_getMoreLevel : Cond.code yX0_getMoreLevel cX0_getMoreLevel 3 none ∈ gt := gt_at 362 (by decide +kernel) (by decide +kernel)
theorem kX_X0_getMoreLevel : Cond.instanceMethod yX0_getMoreLevel ∈ gt := gt_at 361 (by decide +kernel) (by decide +kernel)
theorem kS_X0_getMoreLevel : Cond.selects RX0 yX0_getMoreLevel yX0_getMoreLevel ∈ gt := gt_at 7 (by decide +kernel) (by decide +kernel)
theorem mV_X0_getMoreLevel : MV yX0_getMoreLevel cX0_getMoreLevel 3 none 0 := ⟨kK_X0_getMoreLevel, kX_X0_getMoreLevel, kS_X0_getMoreLevel, kI_X0, ⟨by decide +kernel, by decide +kernel, by decide +kernel⟩⟩
theorem kK_X0_carry : Cond.code yX0_carry cX0_carry 5 (some .int) ∈ gt := gt_at 366 (by decide +kernel) (by decide +kernel)
theorem kX_X0_carry : Cond.instanceMethod yX0_carry ∈ gt := gt_at 365 (by decide +kernel) (by decide +kernel)
theorem kS_X0_carry : Cond.selects RX0 yX0_carry yX0_carry ∈ gt := gt_at 8 (by decide +kernel) (by decide +kernel)
theorem mV_X0_carry : MV yX0_carry cX0_carry 5 (some .int) 3 := ⟨kK_X0_carry, kX_X0_carry, kS_X0_carry, kI_X0, ⟨by decide +kernel, by decide +kernel, by decide +kernel⟩⟩
theorem kK_J9_max_7cf53 : Cond.code yJ9_max_7cf53 cJ9_max_7cf53 2 (some .int) ∈ gt := gt_at 369 (by decide +kernel) (by decide +kernel)
theorem kX_J9_max_7cf53 : Cond.static yJ9_max_7cf53 ∈ gt := gt_at 368 (by decide +kernel) (by decide +kernel)
theorem mS_J9_max_7cf53 : MS yJ9_max_7cf53 cJ9_max_7cf53 2 (some .int) 2 := ⟨kK_J9_max_7cf53, kX_J9_max_7cf53, kI_J9, ⟨by decide +kernel, by decide +kernel, by decide +kernel⟩⟩
theorem kK_X0_deal : Cond.code yX0_deal cX0_deal 5 none ∈ gt := gt_at 373 (by decide +kernel) (by decide +kernel)
theorem kX_X0_deal : Cond.instanceMethod yX0_deal ∈ gt := gt_at 372 (by decide +kernel) (by decide +kernel)
theorem kS_X0_deal : Cond.selects RX0 yX0_deal yX0_deal ∈ gt := gt_at 9 (by decide +kernel) (by decide +kernel)
theorem mV_X0_deal : MV yX0_deal cX0_deal 5 none 1 := ⟨kK_X0_deal, kX_X0_deal, kS_X0_deal, kI_X0, ⟨by decide +kernel, by decide +kernel, by decide +kernel⟩⟩
theorem kK_X0_payFor : Cond.code yX0_payFor cX0_payFor 4 none ∈ gt := gt_at 380 (by decide +kernel) (by decide +kernel)
theorem kX_X0_payFor : Cond.instanceMethod yX0_payFor ∈ gt := gt_at 379 (by decide +kernel) (by decide +kernel)
theorem kS_X0_payFor : Cond.selects RX0 yX0_payFor yX0_payFor ∈ gt := gt_at 10 (by decide +kernel) (by decide +kernel)
theorem mV_X0_payFor : MV yX0_payFor cX0_payFor 4 none 2 := ⟨kK_X0_payFor, kX_X0_payFor, kS_X0_payFor, kI_X0, ⟨by decide +kernel, by decide +kernel, by decide +kernel⟩⟩
theorem kK_X3_on : Cond.code yX3_on cX3_on 4 (some .int) ∈ gt := gt_at 384 (by decide +kernel) (by decide +kernel)
theorem kX_X3_on : Cond.instanceMethod yX3_on ∈ gt := gt_at 382 (by decide +kernel) (by decide +kernel)
theorem kS_X3_on : Cond.selects RX3 yX3_on yX3_on ∈ gt := gt_at 383 (by decide +kernel) (by decide +kernel)
theorem mV_X3_on : MV yX3_on cX3_on 4 (some .int) 3 := ⟨kK_X3_on, kX_X3_on, kS_X3_on, kI_X3, ⟨by decide +kernel, by decide +kernel, by decide +kernel⟩⟩
theorem kK_X3_tryAsItIs : Cond.code yX3_tryAsItIs cX3_tryAsItIs 1 none ∈ gt := gt_at 388 (by decide +kernel) (by decide +kernel)
theorem kX_X3_tryAsItIs : Cond.instanceMethod yX3_tryAsItIs ∈ gt := gt_at 387 (by decide +kernel) (by decide +kernel)
theorem kS_X3_tryAsItIs : Cond.selects RX3 yX3_tryAsItIs yX3_tryAsItIs ∈ gt := gt_at 11 (by decide +kernel) (by decide +kernel)
theorem mV_X3_tryAsItIs : MV yX3_tryAsItIs cX3_tryAsItIs 1 none 0 := ⟨kK_X3_tryAsItIs, kX_X3_tryAsItIs, kS_X3_tryAsItIs, kI_X3, ⟨by decide +kernel, by decide +kernel, by decide +kernel⟩⟩
theorem kK_X0_becomeLike : Cond.code yX0_becomeLike cX0_becomeLike 2 none ∈ gt := gt_at 392 (by decide +kernel) (by decide +kernel)
theorem kX_X0_becomeLike : Cond.instanceMethod yX0_becomeLike ∈ gt := gt_at 390 (by decide +kernel) (by decide +kernel)
theorem kS_X0_becomeLike : Cond.selects RX0 yX0_becomeLike yX0_becomeLike ∈ gt := gt_at 391 (by decide +kernel) (by decide +kernel)
theorem mV_X0_becomeLike : MV yX0_becomeLike cX0_becomeLike 2 none 1 := ⟨kK_X0_becomeLike, kX_X0_becomeLike, kS_X0_becomeLike, kI_X0, ⟨by decide +kernel, by decide +kernel, by decide +kernel⟩⟩
theorem kK_X3_owes : Cond.code yX3_owes cX3_owes 3 (some .int) ∈ gt := gt_at 399 (by decide +kernel) (by decide +kernel)
theorem kX_X3_owes : Cond.instanceMethod yX3_owes ∈ gt := gt_at 397 (by decide +kernel) (by decide +kernel)
theorem kS_X3_owes : Cond.selects RX3 yX3_owes yX3_owes ∈ gt := gt_at 398 (by decide +kernel) (by decide +kernel)
theorem mV_X3_owes : MV yX3_owes cX3_owes 3 (some .int) 2 := ⟨kK_X3_owes, kX_X3_owes, kS_X3_owes, kI_X3, ⟨by decide +kernel, by decide +kernel, by decide +kernel⟩⟩
theorem kK_X3_level : Cond.code yX3_level cX3_level 2 (some .int) ∈ gt := gt_at 403 (by decide +kernel) (by decide +kernel)
theorem kX_X3_level : Cond.instanceMethod yX3_level ∈ gt := gt_at 401 (by decide +kernel) (by decide +kernel)
theorem kS_X3_level : Cond.selects RX3 yX3_level yX3_level ∈ gt := gt_at 402 (by decide +kernel) (by decide +kernel)
theorem mV_X3_level : MV yX3_level cX3_level 2 (some .int) 0 := ⟨kK_X3_level, kX_X3_level, kS_X3_level, kI_X3, ⟨by decide +kernel, by decide +kernel, by decide +kernel⟩⟩
theorem kK_X3_comes : Cond.code yX3_comes cX3_comes 3 (some .int) ∈ gt := gt_at 408 (by decide +kernel) (by decide +kernel)
theorem kX_X3_comes : Cond.instanceMethod yX3_comes ∈ gt := gt_at 406 (by decide +kernel) (by decide +kernel)
theorem kS_X3_comes : Cond.selects RX3 yX3_comes yX3_comes ∈ gt := gt_at 407 (by decide +kernel) (by decide +kernel)
theorem mV_X3_comes : MV yX3_comes cX3_comes 3 (some .int) 2 := ⟨kK_X3_comes, kX_X3_comes, kS_X3_comes, kI_X3, ⟨by decide +kernel, by decide +kernel, by decide +kernel⟩⟩
theorem kK_X3_firstMinuteWithin : Cond.code yX3_firstMinuteWithin cX3_firstMinuteWithin 5 (some .int) ∈ gt := gt_at 412 (by decide +kernel) (by decide +kernel)
theorem kX_X3_firstMinuteWithin : Cond.instanceMethod yX3_firstMinuteWithin ∈ gt := gt_at 411 (by decide +kernel) (by decide +kernel)
theorem kS_X3_firstMinuteWithin : Cond.selects RX3 yX3_firstMinuteWithin yX3_firstMinuteWithin ∈ gt := gt_at 12 (by decide +kernel) (by decide +kernel)
theorem mV_X3_firstMinuteWithin : MV yX3_firstMinuteWithin cX3_firstMinuteWithin 5 (some .int) 3 := ⟨kK_X3_firstMinuteWithin, kX_X3_firstMinuteWithin, kS_X3_firstMinuteWithin, kI_X3, ⟨by decide +kernel, by decide +kernel, by decide +kernel⟩⟩
theorem kK_X3_dust : Cond.code yX3_dust cX3_dust 2 (some .int) ∈ gt := gt_at 416 (by decide +kernel) (by decide +kernel)
theorem kX_X3_dust : Cond.instanceMethod yX3_dust ∈ gt := gt_at 414 (by decide +kernel) (by decide +kernel)
theorem kS_X3_dust : Cond.selects RX3 yX3_dust yX3_dust ∈ gt := gt_at 415 (by decide +kernel) (by decide +kernel)
theorem mV_X3_dust : MV yX3_dust cX3_dust 2 (some .int) 1 := ⟨kK_X3_dust, kX_X3_dust, kS_X3_dust, kI_X3, ⟨by decide +kernel, by decide +kernel, by decide +kernel⟩⟩
theorem kK_X3_place : Cond.code yX3_place cX3_place 7 (some .int) ∈ gt := gt_at 420 (by decide +kernel) (by decide +kernel)
theorem kX_X3_place : Cond.instanceMethod yX3_place ∈ gt := gt_at 418 (by decide +kernel) (by decide +kernel)
theorem kS_X3_place : Cond.selects RX3 yX3_place yX3_place ∈ gt := gt_at 419 (by decide +kernel) (by decide +kernel)
theorem mV_X3_place : MV yX3_place cX3_place 7 (some .int) 2 := ⟨kK_X3_place, kX_X3_place, kS_X3_place, kI_X3, ⟨by decide +kernel, by decide +kernel, by decide +kernel⟩⟩
theorem kK_X3_heightLater : Cond.code yX3_heightLater cX3_heightLater 3 (some .int) ∈ gt := gt_at 424 (by decide +kernel) (by decide +kernel)
theorem kX_X3_heightLater : Cond.instanceMethod yX3_heightLater ∈ gt := gt_at 423 (by decide +kernel) (by decide +kernel)
theorem kS_X3_heightLater : Cond.selects RX3 yX3_heightLater yX3_heightLater ∈ gt := gt_at 13 (by decide +kernel) (by decide +kernel)
theorem mV_X3_heightLater : MV yX3_heightLater cX3_heightLater 3 (some .int) 2 := ⟨kK_X3_heightLater, kX_X3_heightLater, kS_X3_heightLater, kI_X3, ⟨by decide +kernel, by decide +kernel, by decide +kernel⟩⟩
theorem kK_X3_kind : Cond.code yX3_kind cX3_kind 7 (some .int) ∈ gt := gt_at 428 (by decide +kernel) (by decide +kernel)
theorem kX_X3_kind : Cond.instanceMethod yX3_kind ∈ gt := gt_at 426 (by decide +kernel) (by decide +kernel)
theorem kS_X3_kind : Cond.selects RX3 yX3_kind yX3_kind ∈ gt := gt_at 427 (by decide +kernel) (by decide +kernel)
theorem mV_X3_kind : MV yX3_kind cX3_kind 7 (some .int) 2 := ⟨kK_X3_kind, kX_X3_kind, kS_X3_kind, kI_X3, ⟨by decide +kernel, by decide +kernel, by decide +kernel⟩⟩
theorem kK_X3_marbles : Cond.code yX3_marbles cX3_marbles 5 (some .int) ∈ gt := gt_at 432 (by decide +kernel) (by decide +kernel)
theorem kX_X3_marbles : Cond.instanceMethod yX3_marbles ∈ gt := gt_at 430 (by decide +kernel) (by decide +kernel)
theorem kS_X3_marbles : Cond.selects RX3 yX3_marbles yX3_marbles ∈ gt := gt_at 431 (by decide +kernel) (by decide +kernel)
theorem mV_X3_marbles : MV yX3_marbles cX3_marbles 5 (some .int) 3 := ⟨kK_X3_marbles, kX_X3_marbles, kS_X3_marbles, kI_X3, ⟨by decide +kernel, by decide +kernel, by decide +kernel⟩⟩
theorem kK_X3_night : Cond.code yX3_night cX3_night 6 (some .int) ∈ gt := gt_at 436 (by decide +kernel) (by decide +kernel)
theorem kX_X3_night : Cond.instanceMethod yX3_night ∈ gt := gt_at 434 (by decide +kernel) (by decide +kernel)
theorem kS_X3_night : Cond.selects RX3 yX3_night yX3_night ∈ gt := gt_at 435 (by decide +kernel) (by decide +kernel)
theorem mV_X3_night : MV yX3_night cX3_night 6 (some .int) 1 := ⟨kK_X3_night, kX_X3_night, kS_X3_night, kI_X3, ⟨by decide +kernel, by decide +kernel, by decide +kernel⟩⟩
theorem kK_X3_enough : Cond.code yX3_enough cX3_enough 5 (some .int) ∈ gt := gt_at 441 (by decide +kernel) (by decide +kernel)
theorem kX_X3_enough : Cond.instanceMethod yX3_enough ∈ gt := gt_at 439 (by decide +kernel) (by decide +kernel)
theorem kS_X3_enough : Cond.selects RX3 yX3_enough yX3_enough ∈ gt := gt_at 440 (by decide +kernel) (by decide +kernel)
theorem mV_X3_enough : MV yX3_enough cX3_enough 5 (some .int) 3 := ⟨kK_X3_enough, kX_X3_enough, kS_X3_enough, kI_X3, ⟨by decide +kernel, by decide +kernel, by decide +kernel⟩⟩
theorem kK_X3_whom : Cond.code yX3_whom cX3_whom 7 (some .int) ∈ gt := gt_at 445 (by decide +kernel) (by decide +kernel)
theorem kX_X3_whom : Cond.instanceMethod yX3_whom ∈ gt := gt_at 443 (by decide +kernel) (by decide +kernel)
theorem kS_X3_whom : Cond.selects RX3 yX3_whom yX3_whom ∈ gt := gt_at 444 (by decide +kernel) (by decide +kernel)
theorem mV_X3_whom : MV yX3_whom cX3_whom 7 (some .int) 2 := ⟨kK_X3_whom, kX_X3_whom, kS_X3_whom, kI_X3, ⟨by decide +kernel, by decide +kernel, by decide +kernel⟩⟩
theorem kK_X3_debtor : Cond.code yX3_debtor cX3_debtor 2 (some .int) ∈ gt := gt_at 449 (by decide +kernel) (by decide +kernel)
theorem kX_X3_debtor : Cond.instanceMethod yX3_debtor ∈ gt := gt_at 447 (by decide +kernel) (by decide +kernel)
theorem kS_X3_debtor : Cond.selects RX3 yX3_debtor yX3_debtor ∈ gt := gt_at 448 (by decide +kernel) (by decide +kernel)
theorem mV_X3_debtor : MV yX3_debtor cX3_debtor 2 (some .int) 1 := ⟨kK_X3_debtor, kX_X3_debtor, kS_X3_debtor, kI_X3, ⟨by decide +kernel, by decide +kernel, by decide +kernel⟩⟩
theorem kK_X3_feed : Cond.code yX3_feed cX3_feed 4 (some .int) ∈ gt := gt_at 454 (by decide +kernel) (by decide +kernel)
theorem kX_X3_feed : Cond.instanceMethod yX3_feed ∈ gt := gt_at 452 (by decide +kernel) (by decide +kernel)
theorem kS_X3_feed : Cond.selects RX3 yX3_feed yX3_feed ∈ gt := gt_at 453 (by decide +kernel) (by decide +kernel)
theorem mV_X3_feed : MV yX3_feed cX3_feed 4 (some .int) 2 := ⟨kK_X3_feed, kX_X3_feed, kS_X3_feed, kI_X3, ⟨by decide +kernel, by decide +kernel, by decide +kernel⟩⟩
theorem kK_X2_hasRoomFor : Cond.code yX2_hasRoomFor cX2_hasRoomFor 2 (some .boolean) ∈ gt := gt_at 458 (by decide +kernel) (by decide +kernel)
theorem kX_X2_hasRoomFor : Cond.instanceMethod yX2_hasRoomFor ∈ gt := gt_at 456 (by decide +kernel) (by decide +kernel)
theorem kS_X2_hasRoomFor : Cond.selects RX2 yX2_hasRoomFor yX2_hasRoomFor ∈ gt := gt_at 457 (by decide +kernel) (by decide +kernel)
theorem mV_X2_hasRoomFor : MV yX2_hasRoomFor cX2_hasRoomFor 2 (some .boolean) 1 := ⟨kK_X2_hasRoomFor, kX_X2_hasRoomFor, kS_X2_hasRoomFor, kI_X2, ⟨by decide +kernel, by decide +kernel, by decide +kernel⟩⟩
theorem kK_X2_append : Cond.code yX2_append cX2_append 2 none ∈ gt := gt_at 462 (by decide +kernel) (by decide +kernel)
theorem kX_X2_append : Cond.instanceMethod yX2_append ∈ gt := gt_at 460 (by decide +kernel) (by decide +kernel)
theorem kS_X2_append : Cond.selects RX2 yX2_append yX2_append ∈ gt := gt_at 461 (by decide +kernel) (by decide +kernel)
theorem mV_X2_append : MV yX2_append cX2_append 2 none 1 := ⟨kK_X2_append, kX_X2_append, kS_X2_append, kI_X2, ⟨by decide +kernel, by decide +kernel, by decide +kernel⟩⟩
theorem kK_X3_wipe : Cond.code yX3_wipe cX3_wipe 2 (some .int) ∈ gt := gt_at 466 (by decide +kernel) (by decide +kernel)
theorem kX_X3_wipe : Cond.instanceMethod yX3_wipe ∈ gt := gt_at 464 (by decide +kernel) (by decide +kernel)
theorem kS_X3_wipe : Cond.selects RX3 yX3_wipe yX3_wipe ∈ gt := gt_at 465 (by decide +kernel) (by decide +kernel)
theorem mV_X3_wipe : MV yX3_wipe cX3_wipe 2 (some .int) 0 := ⟨kK_X3_wipe, kX_X3_wipe, kS_X3_wipe, kI_X3, ⟨by decide +kernel, by decide +kernel, by decide +kernel⟩⟩
theorem kK_X3_ground : Cond.code yX3_ground cX3_ground 2 (some .int) ∈ gt := gt_at 470 (by decide +kernel) (by decide +kernel)
theorem kX_X3_ground : Cond.instanceMethod yX3_ground ∈ gt := gt_at 468 (by decide +kernel) (by decide +kernel)
theorem kS_X3_ground : Cond.selects RX3 yX3_ground yX3_ground ∈ gt := gt_at 469 (by decide +kernel) (by decide +kernel)
theorem mV_X3_ground : MV yX3_ground cX3_ground 2 (some .int) 0 := ⟨kK_X3_ground, kX_X3_ground, kS_X3_ground, kI_X3, ⟨by decide +kernel, by decide +kernel, by decide +kernel⟩⟩
theorem kK_X2_tellTo : Cond.code yX2_tellTo cX2_tellTo 3 (some .int) ∈ gt := gt_at 474 (by decide +kernel) (by decide +kernel)
theorem kX_X2_tellTo : Cond.instanceMethod yX2_tellTo ∈ gt := gt_at 472 (by decide +kernel) (by decide +kernel)
theorem kS_X2_tellTo : Cond.selects RX2 yX2_tellTo yX2_tellTo ∈ gt := gt_at 473 (by decide +kernel) (by decide +kernel)
theorem mV_X2_tellTo : MV yX2_tellTo cX2_tellTo 3 (some .int) 1 := ⟨kK_X2_tellTo, kX_X2_tellTo, kS_X2_tellTo, kI_X2, ⟨by decide +kernel, by decide +kernel, by decide +kernel⟩⟩
theorem kK_X2_advance : Cond.code yX2_advance cX2_advance 1 none ∈ gt := gt_at 478 (by decide +kernel) (by decide +kernel)
theorem kX_X2_advance : Cond.instanceMethod yX2_advance ∈ gt := gt_at 477 (by decide +kernel) (by decide +kernel)
theorem kS_X2_advance : Cond.selects RX2 yX2_advance yX2_advance ∈ gt := gt_at 14 (by decide +kernel) (by decide +kernel)
theorem mV_X2_advance : MV yX2_advance cX2_advance 1 none 0 := ⟨kK_X2_advance, kX_X2_advance, kS_X2_advance, kI_X2, ⟨by decide +kernel, by decide +kernel, by decide +kernel⟩⟩
theorem kK_X2_isLetter : Cond.code yX2_isLetter cX2_isLetter 2 (some .boolean) ∈ gt := gt_at 482 (by decide +kernel) (by decide +kernel)
theorem kX_X2_isLetter : Cond.instanceMethod yX2_isLetter ∈ gt := gt_at 481 (by decide +kernel) (by decide +kernel)
theorem kS_X2_isLetter : Cond.selects RX2 yX2_isLetter yX2_isLetter ∈ gt := gt_at 15 (by decide +kernel) (by decide +kernel)
theorem mV_X2_isLetter : MV yX2_isLetter cX2_isLetter 2 (some .boolean) 1 := ⟨kK_X2_isLetter, kX_X2_isLetter, kS_X2_isLetter, kI_X2, ⟨by decide +kernel, by decide +kernel, by decide +kernel⟩⟩
theorem kK_X2_isDigit : Cond.code yX2_isDigit cX2_isDigit 2 (some .boolean) ∈ gt := gt_at 486 (by decide +kernel) (by decide +kernel)
theorem kX_X2_isDigit : Cond.instanceMethod yX2_isDigit ∈ gt := gt_at 485 (by decide +kernel) (by decide +kernel)
theorem kS_X2_isDigit : Cond.selects RX2 yX2_isDigit yX2_isDigit ∈ gt := gt_at 16 (by decide +kernel) (by decide +kernel)
theorem mV_X2_isDigit : MV yX2_isDigit cX2_isDigit 2 (some .boolean) 1 := ⟨kK_X2_isDigit, kX_X2_isDigit, kS_X2_isDigit, kI_X2, ⟨by decide +kernel, by decide +kernel, by decide +kernel⟩⟩
theorem kK_X2_isItemTold : Cond.code yX2_isItemTold cX2_isItemTold 3 (some .boolean) ∈ gt := gt_at 491 (by decide +kernel) (by decide +kernel)
theorem kX_X2_isItemTold : Cond.instanceMethod yX2_isItemTold ∈ gt := gt_at 490 (by decide +kernel) (by decide +kernel)
theorem kS_X2_isItemTold : Cond.selects RX2 yX2_isItemTold yX2_isItemTold ∈ gt := gt_at 17 (by decide +kernel) (by decide +kernel)
theorem mV_X2_isItemTold : MV yX2_isItemTold cX2_isItemTold 3 (some .boolean) 1 := ⟨kK_X2_isItemTold, kX_X2_isItemTold, kS_X2_isItemTold, kI_X2, ⟨by decide +kernel, by decide +kernel, by decide +kernel⟩⟩
theorem kK_X2_isWord : Cond.code yX2_isWord cX2_isWord 3 (some .boolean) ∈ gt := gt_at 496 (by decide +kernel) (by decide +kernel)
theorem kX_X2_isWord : Cond.instanceMethod yX2_isWord ∈ gt := gt_at 495 (by decide +kernel) (by decide +kernel)
theorem kS_X2_isWord : Cond.selects RX2 yX2_isWord yX2_isWord ∈ gt := gt_at 18 (by decide +kernel) (by decide +kernel)
theorem mV_X2_isWord : MV yX2_isWord cX2_isWord 3 (some .boolean) 1 := ⟨kK_X2_isWord, kX_X2_isWord, kS_X2_isWord, kI_X2, ⟨by decide +kernel, by decide +kernel, by decide +kernel⟩⟩
theorem kK_J0_length_8abf5 : Cond.code yJ0_length_8abf5 cJ0_length_8abf5 1 (some .int) ∈ gt := gt_at 500 (by decide +kernel) (by decide +kernel)
theorem kX_J0_length_8abf5 : Cond.instanceMethod yJ0_length_8abf5 ∈ gt := gt_at 498 (by decide +kernel) (by decide +kernel)
theorem kS_J0_length_8abf5 : Cond.selects RJ0 yJ0_length_8abf5 yJ0_length_8abf5 ∈ gt := gt_at 499 (by decide +kernel) (by decide +kernel)
theorem mV_J0_length_8abf5 : MV yJ0_length_8abf5 cJ0_length_8abf5 1 (some .int) 0 := ⟨kK_J0_length_8abf5, kX_J0_length_8abf5, kS_J0_length_8abf5, kI_J0, ⟨by decide +kernel, by decide +kernel, by decide +kernel⟩⟩
theorem kK_J0_coder_7d493 : Cond.code yJ0_coder_7d493 cJ0_coder_7d493 1 (some .byte) ∈ gt := gt_at 504 (by decide +kernel) (by decide +kernel)
theorem kX_J0_coder_7d493 : Cond.instanceMethod yJ0_coder_7d493 ∈ gt := gt_at 502 (by decide +kernel) (by decide +kernel)
theorem kS_J0_coder_7d493 : Cond.selects RJ0 yJ0_coder_7d493 yJ0_coder_7d493 ∈ gt := gt_at 503 (by decide +kernel) (by decide +kernel)
theorem mV_J0_coder_7d493 : MV yJ0_coder_7d493 cJ0_coder_7d493 1 (some .byte) 0 := ⟨kK_J0_coder_7d493, kX_J0_coder_7d493, kS_J0_coder_7d493, kI_J0, ⟨by decide +kernel, by decide +kernel, by decide +kernel⟩⟩
theorem kK_J0_charAt_5068e : Cond.code yJ0_charAt_5068e cJ0_charAt_5068e 2 (some .char) ∈ gt := gt_at 510 (by decide +kernel) (by decide +kernel)
theorem kX_J0_charAt_5068e : Cond.instanceMethod yJ0_charAt_5068e ∈ gt := gt_at 508 (by decide +kernel) (by decide +kernel)
theorem kS_J0_charAt_5068e : Cond.selects RJ0 yJ0_charAt_5068e yJ0_charAt_5068e ∈ gt := gt_at 509 (by decide +kernel) (by decide +kernel)
theorem mV_J0_charAt_5068e : MV yJ0_charAt_5068e cJ0_charAt_5068e 2 (some .char) 1 := ⟨kK_J0_charAt_5068e, kX_J0_charAt_5068e, kS_J0_charAt_5068e, kI_J0, ⟨by decide +kernel, by decide +kernel, by decide +kernel⟩⟩
theorem kK_J0_isLatin1_aae02 : Cond.code yJ0_isLatin1_aae02 cJ0_isLatin1_aae02 1 (some .boolean) ∈ gt := gt_at 514 (by decide +kernel) (by decide +kernel)
theorem kX_J0_isLatin1_aae02 : Cond.instanceMethod yJ0_isLatin1_aae02 ∈ gt := gt_at 512 (by decide +kernel) (by decide +kernel)
theorem kS_J0_isLatin1_aae02 : Cond.selects RJ0 yJ0_isLatin1_aae02 yJ0_isLatin1_aae02 ∈ gt := gt_at 513 (by decide +kernel) (by decide +kernel)
theorem mV_J0_isLatin1_aae02 : MV yJ0_isLatin1_aae02 cJ0_isLatin1_aae02 1 (some .boolean) 0 := ⟨kK_J0_isLatin1_aae02, kX_J0_isLatin1_aae02, kS_J0_isLatin1_aae02, kI_J0, ⟨by decide +kernel, by decide +kernel, by decide +kernel⟩⟩
theorem kK_J1_charAt_3b067 : Cond.code yJ1_charAt_3b067 cJ1_charAt_3b067 2 (some .char) ∈ gt := gt_at 517 (by decide +kernel) (by decide +kernel)
theorem kX_J1_charAt_3b067 : Cond.static yJ1_charAt_3b067 ∈ gt := gt_at 516 (by decide +kernel) (by decide +kernel)
theorem mS_J1_charAt_3b067 : MS yJ1_charAt_3b067 cJ1_charAt_3b067 2 (some .char) 2 := ⟨kK_J1_charAt_3b067, kX_J1_charAt_3b067, kI_J1, ⟨by decide +kernel, by decide +kernel, by decide +kernel⟩⟩
theorem kK_J0_checkIndex_df160 : Cond.code yJ0_checkIndex_df160 cJ0_checkIndex_df160 2 none ∈ gt := gt_at 520 (by decide +kernel) (by decide +kernel)
theorem kX_J0_checkIndex_df160 : Cond.static yJ0_checkIndex_df160 ∈ gt := gt_at 519 (by decide +kernel) (by decide +kernel)
theorem mS_J0_checkIndex_df160 : MS yJ0_checkIndex_df160 cJ0_checkIndex_df160 2 none 2 := ⟨kK_J0_checkIndex_df160, kX_J0_checkIndex_df160, kI_J0, ⟨by decide +kernel, by decide +kernel, by decide +kernel⟩⟩
theorem kK_J3_checkIndex_8e157 : Cond.code yJ3_checkIndex_8e157 cJ3_checkIndex_8e157 3 (some .int) ∈ gt := gt_at 525 (by decide +kernel) (by decide +kernel)
theorem kX_J3_checkIndex_8e157 : Cond.static yJ3_checkIndex_8e157 ∈ gt := gt_at 524 (by decide +kernel) (by decide +kernel)
theorem mS_J3_checkIndex_8e157 : MS yJ3_checkIndex_8e157 cJ3_checkIndex_8e157 3 (some .int) 3 := ⟨kK_J3_checkIndex_8e157, kX_J3_checkIndex_8e157, kI_J3, ⟨by decide +kernel, by decide +kernel, by decide +kernel⟩⟩
theorem kK_J2_charAt_3b067 : Cond.code yJ2_charAt_3b067 cJ2_charAt_3b067 2 (some .char) ∈ gt := gt_at 528 (by decide +kernel) (by decide +kernel)
theorem kX_J2_charAt_3b067 : Cond.static yJ2_charAt_3b067 ∈ gt := gt_at 527 (by decide +kernel) (by decide +kernel)
theorem mS_J2_charAt_3b067 : MS yJ2_charAt_3b067 cJ2_charAt_3b067 2 (some .char) 2 := ⟨kK_J2_charAt_3b067, kX_J2_charAt_3b067, kI_J2, ⟨by decide +kernel, by decide +kernel, by decide +kernel⟩⟩
theorem kK_J2_checkIndex_2214a : Cond.code yJ2_checkIndex_2214a cJ2_checkIndex_2214a 2 none ∈ gt := gt_at 531 (by decide +kernel) (by decide +kernel)
theorem kX_J2_checkIndex_2214a : Cond.static yJ2_checkIndex_2214a ∈ gt := gt_at 530 (by decide +kernel) (by decide +kernel)
theorem mS_J2_checkIndex_2214a : MS yJ2_checkIndex_2214a cJ2_checkIndex_2214a 2 none 2 := ⟨kK_J2_checkIndex_2214a, kX_J2_checkIndex_2214a, kI_J2, ⟨by decide +kernel, by decide +kernel, by decide +kernel⟩⟩
theorem kK_J2_length_9d52b : Cond.code yJ2_length_9d52b cJ2_length_9d52b 1 (some .int) ∈ gt := gt_at 534 (by decide +kernel) (by decide +kernel)
theorem kX_J2_length_9d52b : Cond.static yJ2_length_9d52b ∈ gt := gt_at 533 (by decide +kernel) (by decide +kernel)
theorem mS_J2_length_9d52b : MS yJ2_length_9d52b cJ2_length_9d52b 1 (some .int) 1 := ⟨kK_J2_length_9d52b, kX_J2_length_9d52b, kI_J2, ⟨by decide +kernel, by decide +kernel, by decide +kernel⟩⟩
theorem kK_J2_getChar_3b067 : Cond.code yJ2_getChar_3b067 cJ2_getChar_3b067 2 (some .char) ∈ gt := gt_at 538 (by decide +kernel) (by decide +kernel)
theorem kX_J2_getChar_3b067 : Cond.static yJ2_getChar_3b067 ∈ gt := gt_at 537 (by decide +kernel) (by decide +kernel)
theorem mS_J2_getChar_3b067 : MS yJ2_getChar_3b067 cJ2_getChar_3b067 2 (some .char) 2 := ⟨kK_J2_getChar_3b067, kX_J2_getChar_3b067, kI_J2, ⟨by decide +kernel, by decide +kernel, by decide +kernel⟩⟩
theorem kK_X2_isPushTold : Cond.code yX2_isPushTold cX2_isPushTold 3 (some .boolean) ∈ gt := gt_at 548 (by decide +kernel) (by decide +kernel)
theorem kX_X2_isPushTold : Cond.instanceMethod yX2_isPushTold ∈ gt := gt_at 547 (by decide +kernel) (by decide +kernel)
theorem kS_X2_isPushTold : Cond.selects RX2 yX2_isPushTold yX2_isPushTold ∈ gt := gt_at 19 (by decide +kernel) (by decide +kernel)
theorem mV_X2_isPushTold : MV yX2_isPushTold cX2_isPushTold 3 (some .boolean) 1 := ⟨kK_X2_isPushTold, kX_X2_isPushTold, kS_X2_isPushTold, kI_X2, ⟨by decide +kernel, by decide +kernel, by decide +kernel⟩⟩
theorem kK_X2_isNumberWithin : Cond.code yX2_isNumberWithin cX2_isNumberWithin 3 (some .boolean) ∈ gt := gt_at 552 (by decide +kernel) (by decide +kernel)
theorem kX_X2_isNumberWithin : Cond.instanceMethod yX2_isNumberWithin ∈ gt := gt_at 551 (by decide +kernel) (by decide +kernel)
theorem kS_X2_isNumberWithin : Cond.selects RX2 yX2_isNumberWithin yX2_isNumberWithin ∈ gt := gt_at 20 (by decide +kernel) (by decide +kernel)
theorem mV_X2_isNumberWithin : MV yX2_isNumberWithin cX2_isNumberWithin 3 (some .boolean) 2 := ⟨kK_X2_isNumberWithin, kX_X2_isNumberWithin, kS_X2_isNumberWithin, kI_X2, ⟨by decide +kernel, by decide +kernel, by decide +kernel⟩⟩
theorem kK_X2_isDarkTold : Cond.code yX2_isDarkTold cX2_isDarkTold 2 (some .boolean) ∈ gt := gt_at 558 (by decide +kernel) (by decide +kernel)
theorem kX_X2_isDarkTold : Cond.instanceMethod yX2_isDarkTold ∈ gt := gt_at 557 (by decide +kernel) (by decide +kernel)
theorem kS_X2_isDarkTold : Cond.selects RX2 yX2_isDarkTold yX2_isDarkTold ∈ gt := gt_at 21 (by decide +kernel) (by decide +kernel)
theorem mV_X2_isDarkTold : MV yX2_isDarkTold cX2_isDarkTold 2 (some .boolean) 1 := ⟨kK_X2_isDarkTold, kX_X2_isDarkTold, kS_X2_isDarkTold, kI_X2, ⟨by decide +kernel, by decide +kernel, by decide +kernel⟩⟩
theorem kK_X2_kindNamed : Cond.code yX2_kindNamed cX2_kindNamed 2 (some .int) ∈ gt := gt_at 562 (by decide +kernel) (by decide +kernel)
theorem kX_X2_kindNamed : Cond.instanceMethod yX2_kindNamed ∈ gt := gt_at 561 (by decide +kernel) (by decide +kernel)
theorem kS_X2_kindNamed : Cond.selects RX2 yX2_kindNamed yX2_kindNamed ∈ gt := gt_at 22 (by decide +kernel) (by decide +kernel)
theorem mV_X2_kindNamed : MV yX2_kindNamed cX2_kindNamed 2 (some .int) 0 := ⟨kK_X2_kindNamed, kX_X2_kindNamed, kS_X2_kindNamed, kI_X2, ⟨by decide +kernel, by decide +kernel, by decide +kernel⟩⟩
theorem kK_X2_nameOf : Cond.code yX2_nameOf cX2_nameOf 1 (some (.object "java/lang/String")) ∈ gt := gt_at 565 (by decide +kernel) (by decide +kernel)
theorem kX_X2_nameOf : Cond.static yX2_nameOf ∈ gt := gt_at 564 (by decide +kernel) (by decide +kernel)
theorem mS_X2_nameOf : MS yX2_nameOf cX2_nameOf 1 (some (.object "java/lang/String")) 1 := ⟨kK_X2_nameOf, kX_X2_nameOf, kI_X2, ⟨by decide +kernel, by decide +kernel, by decide +kernel⟩⟩
theorem kK_X2_isChildTold : Cond.code yX2_isChildTold cX2_isChildTold 4 (some .boolean) ∈ gt := gt_at 576 (by decide +kernel) (by decide +kernel)
theorem kX_X2_isChildTold : Cond.instanceMethod yX2_isChildTold ∈ gt := gt_at 575 (by decide +kernel) (by decide +kernel)
theorem kS_X2_isChildTold : Cond.selects RX2 yX2_isChildTold yX2_isChildTold ∈ gt := gt_at 23 (by decide +kernel) (by decide +kernel)
theorem mV_X2_isChildTold : MV yX2_isChildTold cX2_isChildTold 4 (some .boolean) 2 := ⟨kK_X2_isChildTold, kX_X2_isChildTold, kS_X2_isChildTold, kI_X2, ⟨by decide +kernel, by decide +kernel, by decide +kernel⟩⟩
theorem kK_X2_isPartTold : Cond.code yX2_isPartTold cX2_isPartTold 5 (some .boolean) ∈ gt := gt_at 582 (by decide +kernel) (by decide +kernel)
theorem kX_X2_isPartTold : Cond.instanceMethod yX2_isPartTold ∈ gt := gt_at 581 (by decide +kernel) (by decide +kernel)
theorem kS_X2_isPartTold : Cond.selects RX2 yX2_isPartTold yX2_isPartTold ∈ gt := gt_at 24 (by decide +kernel) (by decide +kernel)
theorem mV_X2_isPartTold : MV yX2_isPartTold cX2_isPartTold 5 (some .boolean) 4 := ⟨kK_X2_isPartTold, kX_X2_isPartTold, kS_X2_isPartTold, kI_X2, ⟨by decide +kernel, by decide +kernel, by decide +kernel⟩⟩
theorem kK_X3_sheet : Cond.code yX3_sheet cX3_sheet 4 (some .int) ∈ gt := gt_at 587 (by decide +kernel) (by decide +kernel)
theorem kX_X3_sheet : Cond.instanceMethod yX3_sheet ∈ gt := gt_at 585 (by decide +kernel) (by decide +kernel)
theorem kS_X3_sheet : Cond.selects RX3 yX3_sheet yX3_sheet ∈ gt := gt_at 586 (by decide +kernel) (by decide +kernel)
theorem mV_X3_sheet : MV yX3_sheet cX3_sheet 4 (some .int) 3 := ⟨kK_X3_sheet, kX_X3_sheet, kS_X3_sheet, kI_X3, ⟨by decide +kernel, by decide +kernel, by decide +kernel⟩⟩
theorem kK_X3_isSheet : Cond.code yX3_isSheet cX3_isSheet 1 (some .boolean) ∈ gt := gt_at 590 (by decide +kernel) (by decide +kernel)
theorem kX_X3_isSheet : Cond.static yX3_isSheet ∈ gt := gt_at 589 (by decide +kernel) (by decide +kernel)
theorem mS_X3_isSheet : MS yX3_isSheet cX3_isSheet 1 (some .boolean) 1 := ⟨kK_X3_isSheet, kX_X3_isSheet, kI_X3, ⟨by decide +kernel, by decide +kernel, by decide +kernel⟩⟩
theorem kK_X1_areBits : Cond.code yX1_areBits cX1_areBits 1 (some .boolean) ∈ gt := gt_at 593 (by decide +kernel) (by decide +kernel)
theorem kX_X1_areBits : Cond.static yX1_areBits ∈ gt := gt_at 592 (by decide +kernel) (by decide +kernel)
theorem mS_X1_areBits : MS yX1_areBits cX1_areBits 1 (some .boolean) 1 := ⟨kK_X1_areBits, kX_X1_areBits, kI_X1, ⟨by decide +kernel, by decide +kernel, by decide +kernel⟩⟩
theorem kK_X1_renew : Cond.code yX1_renew cX1_renew 3 none ∈ gt := gt_at 597 (by decide +kernel) (by decide +kernel)
theorem kX_X1_renew : Cond.instanceMethod yX1_renew ∈ gt := gt_at 595 (by decide +kernel) (by decide +kernel)
theorem kS_X1_renew : Cond.selects RX1 yX1_renew yX1_renew ∈ gt := gt_at 596 (by decide +kernel) (by decide +kernel)
theorem mV_X1_renew : MV yX1_renew cX1_renew 3 none 2 := ⟨kK_X1_renew, kX_X1_renew, kS_X1_renew, kI_X1, ⟨by decide +kernel, by decide +kernel, by decide +kernel⟩⟩
theorem kK_J7_fill_d0a16 : Cond.code yJ7_fill_d0a16 cJ7_fill_d0a16 5 none ∈ gt := gt_at 600 (by decide +kernel) (by decide +kernel)
theorem kX_J7_fill_d0a16 : Cond.static yJ7_fill_d0a16 ∈ gt := gt_at 599 (by decide +kernel) (by decide +kernel)
theorem mS_J7_fill_d0a16 : MS yJ7_fill_d0a16 cJ7_fill_d0a16 5 none 2 := ⟨kK_J7_fill_d0a16, kX_J7_fill_d0a16, kI_J7, ⟨by decide +kernel, by decide +kernel, by decide +kernel⟩⟩
theorem kK_X3_write : Cond.code yX3_write cX3_write 8 (some .long) ∈ gt := gt_at 604 (by decide +kernel) (by decide +kernel)
theorem kX_X3_write : Cond.instanceMethod yX3_write ∈ gt := gt_at 602 (by decide +kernel) (by decide +kernel)
theorem kS_X3_write : Cond.selects RX3 yX3_write yX3_write ∈ gt := gt_at 603 (by decide +kernel) (by decide +kernel)
theorem mV_X3_write : MV yX3_write cX3_write 8 (some .long) 3 := ⟨kK_X3_write, kX_X3_write, kS_X3_write, kI_X3, ⟨by decide +kernel, by decide +kernel, by decide +kernel⟩⟩
theorem kK_X1_isMissing : Cond.code yX1_isMissing cX1_isMissing 1 (some .boolean) ∈ gt := gt_at 608 (by decide +kernel) (by decide +kernel)
theorem kX_X1_isMissing : Cond.instanceMethod yX1_isMissing ∈ gt := gt_at 606 (by decide +kernel) (by decide +kernel)
theorem kS_X1_isMissing : Cond.selects RX1 yX1_isMissing yX1_isMissing ∈ gt := gt_at 607 (by decide +kernel) (by decide +kernel)
theorem mV_X1_isMissing : MV yX1_isMissing cX1_isMissing 1 (some .boolean) 0 := ⟨kK_X1_isMissing, kX_X1_isMissing, kS_X1_isMissing, kI_X1, ⟨by decide +kernel, by decide +kernel, by decide +kernel⟩⟩
theorem kK_X1_has : Cond.code yX1_has cX1_has 3 (some .boolean) ∈ gt := gt_at 612 (by decide +kernel) (by decide +kernel)
theorem kX_X1_has : Cond.instanceMethod yX1_has ∈ gt := gt_at 610 (by decide +kernel) (by decide +kernel)
theorem kS_X1_has : Cond.selects RX1 yX1_has yX1_has ∈ gt := gt_at 611 (by decide +kernel) (by decide +kernel)
theorem mV_X1_has : MV yX1_has cX1_has 3 (some .boolean) 2 := ⟨kK_X1_has, kX_X1_has, kS_X1_has, kI_X1, ⟨by decide +kernel, by decide +kernel, by decide +kernel⟩⟩
theorem kK_X1_store : Cond.code yX1_store cX1_store 4 none ∈ gt := gt_at 616 (by decide +kernel) (by decide +kernel)
theorem kX_X1_store : Cond.instanceMethod yX1_store ∈ gt := gt_at 614 (by decide +kernel) (by decide +kernel)
theorem kS_X1_store : Cond.selects RX1 yX1_store yX1_store ∈ gt := gt_at 615 (by decide +kernel) (by decide +kernel)
theorem mV_X1_store : MV yX1_store cX1_store 4 none 2 := ⟨kK_X1_store, kX_X1_store, kS_X1_store, kI_X1, ⟨by decide +kernel, by decide +kernel, by decide +kernel⟩⟩
theorem kK_X3_copy : Cond.code yX3_copy cX3_copy 8 (some .int) ∈ gt := gt_at 620 (by decide +kernel) (by decide +kernel)
theorem kX_X3_copy : Cond.instanceMethod yX3_copy ∈ gt := gt_at 618 (by decide +kernel) (by decide +kernel)
theorem kS_X3_copy : Cond.selects RX3 yX3_copy yX3_copy ∈ gt := gt_at 619 (by decide +kernel) (by decide +kernel)
theorem mV_X3_copy : MV yX3_copy cX3_copy 8 (some .int) 5 := ⟨kK_X3_copy, kX_X3_copy, kS_X3_copy, kI_X3, ⟨by decide +kernel, by decide +kernel, by decide +kernel⟩⟩
theorem kK_X3_lays : Cond.code yX3_lays cX3_lays 8 (some .int) ∈ gt := gt_at 625 (by decide +kernel) (by decide +kernel)
theorem kX_X3_lays : Cond.instanceMethod yX3_lays ∈ gt := gt_at 623 (by decide +kernel) (by decide +kernel)
theorem kS_X3_lays : Cond.selects RX3 yX3_lays yX3_lays ∈ gt := gt_at 624 (by decide +kernel) (by decide +kernel)
theorem mV_X3_lays : MV yX3_lays cX3_lays 8 (some .int) 1 := ⟨kK_X3_lays, kX_X3_lays, kS_X3_lays, kI_X3, ⟨by decide +kernel, by decide +kernel, by decide +kernel⟩⟩
theorem kK_X3_book : Cond.code yX3_book cX3_book 5 (some .int) ∈ gt := gt_at 631 (by decide +kernel) (by decide +kernel)
theorem kX_X3_book : Cond.instanceMethod yX3_book ∈ gt := gt_at 629 (by decide +kernel) (by decide +kernel)
theorem kS_X3_book : Cond.selects RX3 yX3_book yX3_book ∈ gt := gt_at 630 (by decide +kernel) (by decide +kernel)
theorem mV_X3_book : MV yX3_book cX3_book 5 (some .int) 2 := ⟨kK_X3_book, kX_X3_book, kS_X3_book, kI_X3, ⟨by decide +kernel, by decide +kernel, by decide +kernel⟩⟩
theorem kK_X3_read : Cond.code yX3_read cX3_read 8 (some .int) ∈ gt := gt_at 635 (by decide +kernel) (by decide +kernel)
theorem kX_X3_read : Cond.instanceMethod yX3_read ∈ gt := gt_at 633 (by decide +kernel) (by decide +kernel)
theorem kS_X3_read : Cond.selects RX3 yX3_read yX3_read ∈ gt := gt_at 634 (by decide +kernel) (by decide +kernel)
theorem mV_X3_read : MV yX3_read cX3_read 8 (some .int) 3 := ⟨kK_X3_read, kX_X3_read, kS_X3_read, kI_X3, ⟨by decide +kernel, by decide +kernel, by decide +kernel⟩⟩
theorem kK_X3_wentAsBooked : Cond.code yX3_wentAsBooked cX3_wentAsBooked 4 (some .boolean) ∈ gt := gt_at 639 (by decide +kernel) (by decide +kernel)
theorem kX_X3_wentAsBooked : Cond.instanceMethod yX3_wentAsBooked ∈ gt := gt_at 638 (by decide +kernel) (by decide +kernel)
theorem kS_X3_wentAsBooked : Cond.selects RX3 yX3_wentAsBooked yX3_wentAsBooked ∈ gt := gt_at 25 (by decide +kernel) (by decide +kernel)
theorem mV_X3_wentAsBooked : MV yX3_wentAsBooked cX3_wentAsBooked 4 (some .boolean) 2 := ⟨kK_X3_wentAsBooked, kX_X3_wentAsBooked, kS_X3_wentAsBooked, kI_X3, ⟨by decide +kernel, by decide +kernel, by decide +kernel⟩⟩
theorem kK_X3_image : Cond.code yX3_image cX3_image 1 (some .int) ∈ gt := gt_at 643 (by decide +kernel) (by decide +kernel)
theorem kX_X3_image : Cond.instanceMethod yX3_image ∈ gt := gt_at 641 (by decide +kernel) (by decide +kernel)
theorem kS_X3_image : Cond.selects RX3 yX3_image yX3_image ∈ gt := gt_at 642 (by decide +kernel) (by decide +kernel)
theorem mV_X3_image : MV yX3_image cX3_image 1 (some .int) 0 := ⟨kK_X3_image, kX_X3_image, kS_X3_image, kI_X3, ⟨by decide +kernel, by decide +kernel, by decide +kernel⟩⟩
theorem kK_X3_undo : Cond.code yX3_undo cX3_undo 1 (some .int) ∈ gt := gt_at 647 (by decide +kernel) (by decide +kernel)
theorem kX_X3_undo : Cond.instanceMethod yX3_undo ∈ gt := gt_at 645 (by decide +kernel) (by decide +kernel)
theorem kS_X3_undo : Cond.selects RX3 yX3_undo yX3_undo ∈ gt := gt_at 646 (by decide +kernel) (by decide +kernel)
theorem mV_X3_undo : MV yX3_undo cX3_undo 1 (some .int) 0 := ⟨kK_X3_undo, kX_X3_undo, kS_X3_undo, kI_X3, ⟨by decide +kernel, by decide +kernel, by decide +kernel⟩⟩
theorem kK_X3_tear : Cond.code yX3_tear cX3_tear 2 (some .int) ∈ gt := gt_at 651 (by decide +kernel) (by decide +kernel)
theorem kX_X3_tear : Cond.instanceMethod yX3_tear ∈ gt := gt_at 649 (by decide +kernel) (by decide +kernel)
theorem kS_X3_tear : Cond.selects RX3 yX3_tear yX3_tear ∈ gt := gt_at 650 (by decide +kernel) (by decide +kernel)
theorem mV_X3_tear : MV yX3_tear cX3_tear 2 (some .int) 0 := ⟨kK_X3_tear, kX_X3_tear, kS_X3_tear, kI_X3, ⟨by decide +kernel, by decide +kernel, by decide +kernel⟩⟩
theorem kK_X3_count : Cond.code yX3_count cX3_count 2 (some .int) ∈ gt := gt_at 655 (by decide +kernel) (by decide +kernel)
theorem kX_X3_count : Cond.instanceMethod yX3_count ∈ gt := gt_at 653 (by decide +kernel) (by decide +kernel)
theorem kS_X3_count : Cond.selects RX3 yX3_count yX3_count ∈ gt := gt_at 654 (by decide +kernel) (by decide +kernel)
theorem mV_X3_count : MV yX3_count cX3_count 2 (some .int) 1 := ⟨kK_X3_count, kX_X3_count, kS_X3_count, kI_X3, ⟨by decide +kernel, by decide +kernel, by decide +kernel⟩⟩
theorem kK_X3_status : Cond.code yX3_status cX3_status 7 (some .int) ∈ gt := gt_at 659 (by decide +kernel) (by decide +kernel)
theorem kX_X3_status : Cond.instanceMethod yX3_status ∈ gt := gt_at 657 (by decide +kernel) (by decide +kernel)
theorem kS_X3_status : Cond.selects RX3 yX3_status yX3_status ∈ gt := gt_at 658 (by decide +kernel) (by decide +kernel)
theorem mV_X3_status : MV yX3_status cX3_status 7 (some .int) 1 := ⟨kK_X3_status, kX_X3_status, kS_X3_status, kI_X3, ⟨by decide +kernel, by decide +kernel, by decide +kernel⟩⟩
theorem kK_X4_init : Cond.code yX4_init cX4_init 1 none ∈ gt := gt_at 664 (by decide +kernel) (by decide +kernel)
theorem kX_X4_init : Cond.instanceMethod yX4_init ∈ gt := gt_at 663 (by decide +kernel) (by decide +kernel)
theorem kK_X4_dark : Cond.code yX4_dark cX4_dark 2 (some .int) ∈ gt := gt_at 727 (by decide +kernel) (by decide +kernel)
theorem kX_X4_dark : Cond.instanceMethod yX4_dark ∈ gt := gt_at 725 (by decide +kernel) (by decide +kernel)
theorem kS_X4_dark : Cond.selects RX4 yX4_dark yX4_dark ∈ gt := gt_at 726 (by decide +kernel) (by decide +kernel)
theorem mV_X4_dark : MV yX4_dark cX4_dark 2 (some .int) 1 := ⟨kK_X4_dark, kX_X4_dark, kS_X4_dark, kI_X4, ⟨by decide +kernel, by decide +kernel, by decide +kernel⟩⟩
theorem kK_X4_in : Cond.code yX4_in cX4_in 3 (some .boolean) ∈ gt := gt_at 730 (by decide +kernel) (by decide +kernel)
theorem kX_X4_in : Cond.static yX4_in ∈ gt := gt_at 729 (by decide +kernel) (by decide +kernel)
theorem mS_X4_in : MS yX4_in cX4_in 3 (some .boolean) 3 := ⟨kK_X4_in, kX_X4_in, kI_X4, ⟨by decide +kernel, by decide +kernel, by decide +kernel⟩⟩
theorem kK_X4_becomes : Cond.code yX4_becomes cX4_becomes 4 (some .int) ∈ gt := gt_at 734 (by decide +kernel) (by decide +kernel)
theorem kX_X4_becomes : Cond.instanceMethod yX4_becomes ∈ gt := gt_at 733 (by decide +kernel) (by decide +kernel)
theorem kS_X4_becomes : Cond.selects RX4 yX4_becomes yX4_becomes ∈ gt := gt_at 26 (by decide +kernel) (by decide +kernel)
theorem mV_X4_becomes : MV yX4_becomes cX4_becomes 4 (some .int) 2 := ⟨kK_X4_becomes, kX_X4_becomes, kS_X4_becomes, kI_X4, ⟨by decide +kernel, by decide +kernel, by decide +kernel⟩⟩
theorem kK_X4_finds : Cond.code yX4_finds cX4_finds 2 (some .int) ∈ gt := gt_at 739 (by decide +kernel) (by decide +kernel)
theorem kX_X4_finds : Cond.instanceMethod yX4_finds ∈ gt := gt_at 738 (by decide +kernel) (by decide +kernel)
theorem kS_X4_finds : Cond.selects RX4 yX4_finds yX4_finds ∈ gt := gt_at 27 (by decide +kernel) (by decide +kernel)
theorem mV_X4_finds : MV yX4_finds cX4_finds 2 (some .int) 1 := ⟨kK_X4_finds, kX_X4_finds, kS_X4_finds, kI_X4, ⟨by decide +kernel, by decide +kernel, by decide +kernel⟩⟩
theorem kK_X4_now : Cond.code yX4_now cX4_now 2 (some .int) ∈ gt := gt_at 743 (by decide +kernel) (by decide +kernel)
theorem kX_X4_now : Cond.instanceMethod yX4_now ∈ gt := gt_at 741 (by decide +kernel) (by decide +kernel)
theorem kS_X4_now : Cond.selects RX4 yX4_now yX4_now ∈ gt := gt_at 742 (by decide +kernel) (by decide +kernel)
theorem mV_X4_now : MV yX4_now cX4_now 2 (some .int) 1 := ⟨kK_X4_now, kX_X4_now, kS_X4_now, kI_X4, ⟨by decide +kernel, by decide +kernel, by decide +kernel⟩⟩
theorem kK_X4_isDusk : Cond.code yX4_isDusk cX4_isDusk 1 (some .boolean) ∈ gt := gt_at 747 (by decide +kernel) (by decide +kernel)
theorem kX_X4_isDusk : Cond.instanceMethod yX4_isDusk ∈ gt := gt_at 746 (by decide +kernel) (by decide +kernel)
theorem kS_X4_isDusk : Cond.selects RX4 yX4_isDusk yX4_isDusk ∈ gt := gt_at 28 (by decide +kernel) (by decide +kernel)
theorem mV_X4_isDusk : MV yX4_isDusk cX4_isDusk 1 (some .boolean) 0 := ⟨kK_X4_isDusk, kX_X4_isDusk, kS_X4_isDusk, kI_X4, ⟨by decide +kernel, by decide +kernel, by decide +kernel⟩⟩
theorem kK_X4_isSaturday : Cond.code yX4_isSaturday cX4_isSaturday 1 (some .boolean) ∈ gt := gt_at 751 (by decide +kernel) (by decide +kernel)
theorem kX_X4_isSaturday : Cond.instanceMethod yX4_isSaturday ∈ gt := gt_at 750 (by decide +kernel) (by decide +kernel)
theorem kS_X4_isSaturday : Cond.selects RX4 yX4_isSaturday yX4_isSaturday ∈ gt := gt_at 29 (by decide +kernel) (by decide +kernel)
theorem mV_X4_isSaturday : MV yX4_isSaturday cX4_isSaturday 1 (some .boolean) 0 := ⟨kK_X4_isSaturday, kX_X4_isSaturday, kS_X4_isSaturday, kI_X4, ⟨by decide +kernel, by decide +kernel, by decide +kernel⟩⟩
theorem kK_X4_sumOf : Cond.code yX4_sumOf cX4_sumOf 4 (some .int) ∈ gt := gt_at 755 (by decide +kernel) (by decide +kernel)
theorem kX_X4_sumOf : Cond.instanceMethod yX4_sumOf ∈ gt := gt_at 754 (by decide +kernel) (by decide +kernel)
theorem kS_X4_sumOf : Cond.selects RX4 yX4_sumOf yX4_sumOf ∈ gt := gt_at 30 (by decide +kernel) (by decide +kernel)
theorem mV_X4_sumOf : MV yX4_sumOf cX4_sumOf 4 (some .int) 1 := ⟨kK_X4_sumOf, kX_X4_sumOf, kS_X4_sumOf, kI_X4, ⟨by decide +kernel, by decide +kernel, by decide +kernel⟩⟩
theorem kK_X4_its : Cond.code yX4_its cX4_its 3 (some .int) ∈ gt := gt_at 759 (by decide +kernel) (by decide +kernel)
theorem kX_X4_its : Cond.instanceMethod yX4_its ∈ gt := gt_at 758 (by decide +kernel) (by decide +kernel)
theorem kS_X4_its : Cond.selects RX4 yX4_its yX4_its ∈ gt := gt_at 31 (by decide +kernel) (by decide +kernel)
theorem mV_X4_its : MV yX4_its cX4_its 3 (some .int) 2 := ⟨kK_X4_its, kX_X4_its, kS_X4_its, kI_X4, ⟨by decide +kernel, by decide +kernel, by decide +kernel⟩⟩
theorem kK_X4_difference : Cond.code yX4_difference cX4_difference 1 (some .int) ∈ gt := gt_at 763 (by decide +kernel) (by decide +kernel)
theorem kX_X4_difference : Cond.instanceMethod yX4_difference ∈ gt := gt_at 762 (by decide +kernel) (by decide +kernel)
theorem kS_X4_difference : Cond.selects RX4 yX4_difference yX4_difference ∈ gt := gt_at 32 (by decide +kernel) (by decide +kernel)
theorem mV_X4_difference : MV yX4_difference cX4_difference 1 (some .int) 0 := ⟨kK_X4_difference, kX_X4_difference, kS_X4_difference, kI_X4, ⟨by decide +kernel, by decide +kernel, by decide +kernel⟩⟩
theorem kK_X4_mostOf : Cond.code yX4_mostOf cX4_mostOf 4 (some .int) ∈ gt := gt_at 767 (by decide +kernel) (by decide +kernel)
theorem kX_X4_mostOf : Cond.instanceMethod yX4_mostOf ∈ gt := gt_at 766 (by decide +kernel) (by decide +kernel)
theorem kS_X4_mostOf : Cond.selects RX4 yX4_mostOf yX4_mostOf ∈ gt := gt_at 33 (by decide +kernel) (by decide +kernel)
theorem mV_X4_mostOf : MV yX4_mostOf cX4_mostOf 4 (some .int) 1 := ⟨kK_X4_mostOf, kX_X4_mostOf, kS_X4_mostOf, kI_X4, ⟨by decide +kernel, by decide +kernel, by decide +kernel⟩⟩
theorem kK_X4_lowest : Cond.code yX4_lowest cX4_lowest 3 (some .int) ∈ gt := gt_at 771 (by decide +kernel) (by decide +kernel)
theorem kX_X4_lowest : Cond.instanceMethod yX4_lowest ∈ gt := gt_at 770 (by decide +kernel) (by decide +kernel)
theorem kS_X4_lowest : Cond.selects RX4 yX4_lowest yX4_lowest ∈ gt := gt_at 34 (by decide +kernel) (by decide +kernel)
theorem mV_X4_lowest : MV yX4_lowest cX4_lowest 3 (some .int) 0 := ⟨kK_X4_lowest, kX_X4_lowest, kS_X4_lowest, kI_X4, ⟨by decide +kernel, by decide +kernel, by decide +kernel⟩⟩
theorem kK_X4_dustSet : Cond.code yX4_dustSet cX4_dustSet 3 (some .int) ∈ gt := gt_at 775 (by decide +kernel) (by decide +kernel)
theorem kX_X4_dustSet : Cond.instanceMethod yX4_dustSet ∈ gt := gt_at 774 (by decide +kernel) (by decide +kernel)
theorem kS_X4_dustSet : Cond.selects RX4 yX4_dustSet yX4_dustSet ∈ gt := gt_at 35 (by decide +kernel) (by decide +kernel)
theorem mV_X4_dustSet : MV yX4_dustSet cX4_dustSet 3 (some .int) 0 := ⟨kK_X4_dustSet, kX_X4_dustSet, kS_X4_dustSet, kI_X4, ⟨by decide +kernel, by decide +kernel, by decide +kernel⟩⟩
theorem kK_X4_child : Cond.code yX4_child cX4_child 2 (some .int) ∈ gt := gt_at 779 (by decide +kernel) (by decide +kernel)
theorem kX_X4_child : Cond.instanceMethod yX4_child ∈ gt := gt_at 777 (by decide +kernel) (by decide +kernel)
theorem kS_X4_child : Cond.selects RX4 yX4_child yX4_child ∈ gt := gt_at 778 (by decide +kernel) (by decide +kernel)
theorem mV_X4_child : MV yX4_child cX4_child 2 (some .int) 1 := ⟨kK_X4_child, kX_X4_child, kS_X4_child, kI_X4, ⟨by decide +kernel, by decide +kernel, by decide +kernel⟩⟩
theorem kK_X4_isKind : Cond.code yX4_isKind cX4_isKind 1 (some .boolean) ∈ gt := gt_at 782 (by decide +kernel) (by decide +kernel)
theorem kX_X4_isKind : Cond.static yX4_isKind ∈ gt := gt_at 781 (by decide +kernel) (by decide +kernel)
theorem mS_X4_isKind : MS yX4_isKind cX4_isKind 1 (some .boolean) 1 := ⟨kK_X4_isKind, kX_X4_isKind, kI_X4, ⟨by decide +kernel, by decide +kernel, by decide +kernel⟩⟩
theorem kK_X4_adds : Cond.code yX4_adds cX4_adds 5 none ∈ gt := gt_at 787 (by decide +kernel) (by decide +kernel)
theorem kX_X4_adds : Cond.instanceMethod yX4_adds ∈ gt := gt_at 786 (by decide +kernel) (by decide +kernel)
theorem kS_X4_adds : Cond.selects RX4 yX4_adds yX4_adds ∈ gt := gt_at 36 (by decide +kernel) (by decide +kernel)
theorem mV_X4_adds : MV yX4_adds cX4_adds 5 none 3 := ⟨kK_X4_adds, kX_X4_adds, kS_X4_adds, kI_X4, ⟨by decide +kernel, by decide +kernel, by decide +kernel⟩⟩
theorem kK_X4_puts : Cond.code yX4_puts cX4_puts 4 none ∈ gt := gt_at 791 (by decide +kernel) (by decide +kernel)
theorem kX_X4_puts : Cond.instanceMethod yX4_puts ∈ gt := gt_at 790 (by decide +kernel) (by decide +kernel)
theorem kS_X4_puts : Cond.selects RX4 yX4_puts yX4_puts ∈ gt := gt_at 37 (by decide +kernel) (by decide +kernel)
theorem mV_X4_puts : MV yX4_puts cX4_puts 4 none 3 := ⟨kK_X4_puts, kX_X4_puts, kS_X4_puts, kI_X4, ⟨by decide +kernel, by decide +kernel, by decide +kernel⟩⟩
theorem kK_X4_of : Cond.code yX4_of cX4_of 3 (some .int) ∈ gt := gt_at 795 (by decide +kernel) (by decide +kernel)
theorem kX_X4_of : Cond.instanceMethod yX4_of ∈ gt := gt_at 793 (by decide +kernel) (by decide +kernel)
theorem kS_X4_of : Cond.selects RX4 yX4_of yX4_of ∈ gt := gt_at 794 (by decide +kernel) (by decide +kernel)
theorem mV_X4_of : MV yX4_of cX4_of 3 (some .int) 2 := ⟨kK_X4_of, kX_X4_of, kS_X4_of, kI_X4, ⟨by decide +kernel, by decide +kernel, by decide +kernel⟩⟩
theorem kK_X4_isOne : Cond.code yX4_isOne cX4_isOne 2 (some .boolean) ∈ gt := gt_at 799 (by decide +kernel) (by decide +kernel)
theorem kX_X4_isOne : Cond.instanceMethod yX4_isOne ∈ gt := gt_at 798 (by decide +kernel) (by decide +kernel)
theorem kS_X4_isOne : Cond.selects RX4 yX4_isOne yX4_isOne ∈ gt := gt_at 38 (by decide +kernel) (by decide +kernel)
theorem mV_X4_isOne : MV yX4_isOne cX4_isOne 2 (some .boolean) 1 := ⟨kK_X4_isOne, kX_X4_isOne, kS_X4_isOne, kI_X4, ⟨by decide +kernel, by decide +kernel, by decide +kernel⟩⟩
theorem kK_X4_wants : Cond.code yX4_wants cX4_wants 2 (some .int) ∈ gt := gt_at 804 (by decide +kernel) (by decide +kernel)
theorem kX_X4_wants : Cond.instanceMethod yX4_wants ∈ gt := gt_at 803 (by decide +kernel) (by decide +kernel)
theorem kS_X4_wants : Cond.selects RX4 yX4_wants yX4_wants ∈ gt := gt_at 39 (by decide +kernel) (by decide +kernel)
theorem mV_X4_wants : MV yX4_wants cX4_wants 2 (some .int) 1 := ⟨kK_X4_wants, kX_X4_wants, kS_X4_wants, kI_X4, ⟨by decide +kernel, by decide +kernel, by decide +kernel⟩⟩
theorem kK_X4_next : Cond.code yX4_next cX4_next 2 (some .int) ∈ gt := gt_at 808 (by decide +kernel) (by decide +kernel)
theorem kX_X4_next : Cond.instanceMethod yX4_next ∈ gt := gt_at 807 (by decide +kernel) (by decide +kernel)
theorem kS_X4_next : Cond.selects RX4 yX4_next yX4_next ∈ gt := gt_at 40 (by decide +kernel) (by decide +kernel)
theorem mV_X4_next : MV yX4_next cX4_next 2 (some .int) 1 := ⟨kK_X4_next, kX_X4_next, kS_X4_next, kI_X4, ⟨by decide +kernel, by decide +kernel, by decide +kernel⟩⟩
theorem kK_X4_pays : Cond.code yX4_pays cX4_pays 2 (some .int) ∈ gt := gt_at 812 (by decide +kernel) (by decide +kernel)
theorem kX_X4_pays : Cond.instanceMethod yX4_pays ∈ gt := gt_at 811 (by decide +kernel) (by decide +kernel)
theorem kS_X4_pays : Cond.selects RX4 yX4_pays yX4_pays ∈ gt := gt_at 41 (by decide +kernel) (by decide +kernel)
theorem mV_X4_pays : MV yX4_pays cX4_pays 2 (some .int) 1 := ⟨kK_X4_pays, kX_X4_pays, kS_X4_pays, kI_X4, ⟨by decide +kernel, by decide +kernel, by decide +kernel⟩⟩
theorem kK_X4_yields : Cond.code yX4_yields cX4_yields 2 (some .int) ∈ gt := gt_at 816 (by decide +kernel) (by decide +kernel)
theorem kX_X4_yields : Cond.instanceMethod yX4_yields ∈ gt := gt_at 815 (by decide +kernel) (by decide +kernel)
theorem kS_X4_yields : Cond.selects RX4 yX4_yields yX4_yields ∈ gt := gt_at 42 (by decide +kernel) (by decide +kernel)
theorem mV_X4_yields : MV yX4_yields cX4_yields 2 (some .int) 1 := ⟨kK_X4_yields, kX_X4_yields, kS_X4_yields, kI_X4, ⟨by decide +kernel, by decide +kernel, by decide +kernel⟩⟩
theorem kK_X4_set : Cond.code yX4_set cX4_set 4 (some .int) ∈ gt := gt_at 820 (by decide +kernel) (by decide +kernel)
theorem kX_X4_set : Cond.instanceMethod yX4_set ∈ gt := gt_at 818 (by decide +kernel) (by decide +kernel)
theorem kS_X4_set : Cond.selects RX4 yX4_set yX4_set ∈ gt := gt_at 819 (by decide +kernel) (by decide +kernel)
theorem mV_X4_set : MV yX4_set cX4_set 4 (some .int) 3 := ⟨kK_X4_set, kX_X4_set, kS_X4_set, kI_X4, ⟨by decide +kernel, by decide +kernel, by decide +kernel⟩⟩
theorem kK_X4_isPart : Cond.code yX4_isPart cX4_isPart 2 (some .boolean) ∈ gt := gt_at 823 (by decide +kernel) (by decide +kernel)
theorem kX_X4_isPart : Cond.static yX4_isPart ∈ gt := gt_at 822 (by decide +kernel) (by decide +kernel)
theorem mS_X4_isPart : MS yX4_isPart cX4_isPart 2 (some .boolean) 2 := ⟨kK_X4_isPart, kX_X4_isPart, kI_X4, ⟨by decide +kernel, by decide +kernel, by decide +kernel⟩⟩
theorem kK_X4_turn : Cond.code yX4_turn cX4_turn 3 (some .int) ∈ gt := gt_at 827 (by decide +kernel) (by decide +kernel)
theorem kX_X4_turn : Cond.instanceMethod yX4_turn ∈ gt := gt_at 825 (by decide +kernel) (by decide +kernel)
theorem kS_X4_turn : Cond.selects RX4 yX4_turn yX4_turn ∈ gt := gt_at 826 (by decide +kernel) (by decide +kernel)
theorem mV_X4_turn : MV yX4_turn cX4_turn 3 (some .int) 2 := ⟨kK_X4_turn, kX_X4_turn, kS_X4_turn, kI_X4, ⟨by decide +kernel, by decide +kernel, by decide +kernel⟩⟩
theorem kK_X4_as : Cond.code yX4_as cX4_as 5 (some .int) ∈ gt := gt_at 831 (by decide +kernel) (by decide +kernel)
theorem kX_X4_as : Cond.instanceMethod yX4_as ∈ gt := gt_at 829 (by decide +kernel) (by decide +kernel)
theorem kS_X4_as : Cond.selects RX4 yX4_as yX4_as ∈ gt := gt_at 830 (by decide +kernel) (by decide +kernel)
theorem mV_X4_as : MV yX4_as cX4_as 5 (some .int) 2 := ⟨kK_X4_as, kX_X4_as, kS_X4_as, kI_X4, ⟨by decide +kernel, by decide +kernel, by decide +kernel⟩⟩
theorem kK_X4_push : Cond.code yX4_push cX4_push 3 (some .int) ∈ gt := gt_at 836 (by decide +kernel) (by decide +kernel)
theorem kX_X4_push : Cond.instanceMethod yX4_push ∈ gt := gt_at 834 (by decide +kernel) (by decide +kernel)
theorem kS_X4_push : Cond.selects RX4 yX4_push yX4_push ∈ gt := gt_at 835 (by decide +kernel) (by decide +kernel)
theorem mV_X4_push : MV yX4_push cX4_push 3 (some .int) 2 := ⟨kK_X4_push, kX_X4_push, kS_X4_push, kI_X4, ⟨by decide +kernel, by decide +kernel, by decide +kernel⟩⟩
theorem kK_X4_pushes : Cond.code yX4_pushes cX4_pushes 3 none ∈ gt := gt_at 840 (by decide +kernel) (by decide +kernel)
theorem kX_X4_pushes : Cond.instanceMethod yX4_pushes ∈ gt := gt_at 839 (by decide +kernel) (by decide +kernel)
theorem kS_X4_pushes : Cond.selects RX4 yX4_pushes yX4_pushes ∈ gt := gt_at 43 (by decide +kernel) (by decide +kernel)
theorem mV_X4_pushes : MV yX4_pushes cX4_pushes 3 none 2 := ⟨kK_X4_pushes, kX_X4_pushes, kS_X4_pushes, kI_X4, ⟨by decide +kernel, by decide +kernel, by decide +kernel⟩⟩
theorem kK_X4_lesser : Cond.code yX4_lesser cX4_lesser 2 (some .int) ∈ gt := gt_at 843 (by decide +kernel) (by decide +kernel)
theorem kX_X4_lesser : Cond.static yX4_lesser ∈ gt := gt_at 842 (by decide +kernel) (by decide +kernel)
theorem mS_X4_lesser : MS yX4_lesser cX4_lesser 2 (some .int) 2 := ⟨kK_X4_lesser, kX_X4_lesser, kI_X4, ⟨by decide +kernel, by decide +kernel, by decide +kernel⟩⟩
theorem kK_X4_swap : Cond.code yX4_swap cX4_swap 3 (some .int) ∈ gt := gt_at 847 (by decide +kernel) (by decide +kernel)
theorem kX_X4_swap : Cond.instanceMethod yX4_swap ∈ gt := gt_at 845 (by decide +kernel) (by decide +kernel)
theorem kS_X4_swap : Cond.selects RX4 yX4_swap yX4_swap ∈ gt := gt_at 846 (by decide +kernel) (by decide +kernel)
theorem mV_X4_swap : MV yX4_swap cX4_swap 3 (some .int) 2 := ⟨kK_X4_swap, kX_X4_swap, kS_X4_swap, kI_X4, ⟨by decide +kernel, by decide +kernel, by decide +kernel⟩⟩
theorem kK_X4_swaps : Cond.code yX4_swaps cX4_swaps 5 none ∈ gt := gt_at 851 (by decide +kernel) (by decide +kernel)
theorem kX_X4_swaps : Cond.instanceMethod yX4_swaps ∈ gt := gt_at 850 (by decide +kernel) (by decide +kernel)
theorem kS_X4_swaps : Cond.selects RX4 yX4_swaps yX4_swaps ∈ gt := gt_at 44 (by decide +kernel) (by decide +kernel)
theorem mV_X4_swaps : MV yX4_swaps cX4_swaps 5 none 2 := ⟨kK_X4_swaps, kX_X4_swaps, kS_X4_swaps, kI_X4, ⟨by decide +kernel, by decide +kernel, by decide +kernel⟩⟩
theorem kK_X4_minutes : Cond.code yX4_minutes cX4_minutes 2 (some .int) ∈ gt := gt_at 855 (by decide +kernel) (by decide +kernel)
theorem kX_X4_minutes : Cond.instanceMethod yX4_minutes ∈ gt := gt_at 853 (by decide +kernel) (by decide +kernel)
theorem kS_X4_minutes : Cond.selects RX4 yX4_minutes yX4_minutes ∈ gt := gt_at 854 (by decide +kernel) (by decide +kernel)
theorem mV_X4_minutes : MV yX4_minutes cX4_minutes 2 (some .int) 1 := ⟨kK_X4_minutes, kX_X4_minutes, kS_X4_minutes, kI_X4, ⟨by decide +kernel, by decide +kernel, by decide +kernel⟩⟩
theorem kK_X4_passes : Cond.code yX4_passes cX4_passes 3 none ∈ gt := gt_at 861 (by decide +kernel) (by decide +kernel)
theorem kX_X4_passes : Cond.instanceMethod yX4_passes ∈ gt := gt_at 860 (by decide +kernel) (by decide +kernel)
theorem kS_X4_passes : Cond.selects RX4 yX4_passes yX4_passes ∈ gt := gt_at 45 (by decide +kernel) (by decide +kernel)
theorem mV_X4_passes : MV yX4_passes cX4_passes 3 none 1 := ⟨kK_X4_passes, kX_X4_passes, kS_X4_passes, kI_X4, ⟨by decide +kernel, by decide +kernel, by decide +kernel⟩⟩
theorem kK_X4_oneMinute : Cond.code yX4_oneMinute cX4_oneMinute 2 none ∈ gt := gt_at 865 (by decide +kernel) (by decide +kernel)
theorem kX_X4_oneMinute : Cond.instanceMethod yX4_oneMinute ∈ gt := gt_at 864 (by decide +kernel) (by decide +kernel)
theorem kS_X4_oneMinute : Cond.selects RX4 yX4_oneMinute yX4_oneMinute ∈ gt := gt_at 46 (by decide +kernel) (by decide +kernel)
theorem mV_X4_oneMinute : MV yX4_oneMinute cX4_oneMinute 2 none 0 := ⟨kK_X4_oneMinute, kX_X4_oneMinute, kS_X4_oneMinute, kI_X4, ⟨by decide +kernel, by decide +kernel, by decide +kernel⟩⟩
theorem kK_X4_levels : Cond.code yX4_levels cX4_levels 3 none ∈ gt := gt_at 869 (by decide +kernel) (by decide +kernel)
theorem kX_X4_levels : Cond.instanceMethod yX4_levels ∈ gt := gt_at 868 (by decide +kernel) (by decide +kernel)
theorem kS_X4_levels : Cond.selects RX4 yX4_levels yX4_levels ∈ gt := gt_at 47 (by decide +kernel) (by decide +kernel)
theorem mV_X4_levels : MV yX4_levels cX4_levels 3 none 0 := ⟨kK_X4_levels, kX_X4_levels, kS_X4_levels, kI_X4, ⟨by decide +kernel, by decide +kernel, by decide +kernel⟩⟩
theorem kK_X4_goes : Cond.code yX4_goes cX4_goes 4 none ∈ gt := gt_at 873 (by decide +kernel) (by decide +kernel)
theorem kX_X4_goes : Cond.instanceMethod yX4_goes ∈ gt := gt_at 872 (by decide +kernel) (by decide +kernel)
theorem kS_X4_goes : Cond.selects RX4 yX4_goes yX4_goes ∈ gt := gt_at 48 (by decide +kernel) (by decide +kernel)
theorem mV_X4_goes : MV yX4_goes cX4_goes 4 none 3 := ⟨kK_X4_goes, kX_X4_goes, kS_X4_goes, kI_X4, ⟨by decide +kernel, by decide +kernel, by decide +kernel⟩⟩
theorem kK_X4_held : Cond.code yX4_held cX4_held 3 (some .int) ∈ gt := gt_at 876 (by decide +kernel) (by decide +kernel)
theorem kX_X4_held : Cond.static yX4_held ∈ gt := gt_at 875 (by decide +kernel) (by decide +kernel)
theorem mS_X4_held : MS yX4_held cX4_held 3 (some .int) 3 := ⟨kK_X4_held, kX_X4_held, kI_X4, ⟨by decide +kernel, by decide +kernel, by decide +kernel⟩⟩
theorem kK_X4_swings : Cond.code yX4_swings cX4_swings 5 none ∈ gt := gt_at 880 (by decide +kernel) (by decide +kernel)
theorem kX_X4_swings : Cond.instanceMethod yX4_swings ∈ gt := gt_at 879 (by decide +kernel) (by decide +kernel)
theorem kS_X4_swings : Cond.selects RX4 yX4_swings yX4_swings ∈ gt := gt_at 49 (by decide +kernel) (by decide +kernel)
theorem mV_X4_swings : MV yX4_swings cX4_swings 5 none 1 := ⟨kK_X4_swings, kX_X4_swings, kS_X4_swings, kI_X4, ⟨by decide +kernel, by decide +kernel, by decide +kernel⟩⟩
theorem kK_X4_mayGo : Cond.code yX4_mayGo cX4_mayGo 4 (some .int) ∈ gt := gt_at 884 (by decide +kernel) (by decide +kernel)
theorem kX_X4_mayGo : Cond.instanceMethod yX4_mayGo ∈ gt := gt_at 883 (by decide +kernel) (by decide +kernel)
theorem kS_X4_mayGo : Cond.selects RX4 yX4_mayGo yX4_mayGo ∈ gt := gt_at 50 (by decide +kernel) (by decide +kernel)
theorem mV_X4_mayGo : MV yX4_mayGo cX4_mayGo 4 (some .int) 3 := ⟨kK_X4_mayGo, kX_X4_mayGo, kS_X4_mayGo, kI_X4, ⟨by decide +kernel, by decide +kernel, by decide +kernel⟩⟩
theorem kK_X4_on : Cond.code yX4_on cX4_on 4 (some .int) ∈ gt := gt_at 888 (by decide +kernel) (by decide +kernel)
theorem kX_X4_on : Cond.instanceMethod yX4_on ∈ gt := gt_at 886 (by decide +kernel) (by decide +kernel)
theorem kS_X4_on : Cond.selects RX4 yX4_on yX4_on ∈ gt := gt_at 887 (by decide +kernel) (by decide +kernel)
theorem mV_X4_on : MV yX4_on cX4_on 4 (some .int) 3 := ⟨kK_X4_on, kX_X4_on, kS_X4_on, kI_X4, ⟨by decide +kernel, by decide +kernel, by decide +kernel⟩⟩
theorem kK_X4_moveAll : Cond.code yX4_moveAll cX4_moveAll 4 none ∈ gt := gt_at 892 (by decide +kernel) (by decide +kernel)
theorem kX_X4_moveAll : Cond.instanceMethod yX4_moveAll ∈ gt := gt_at 891 (by decide +kernel) (by decide +kernel)
theorem kS_X4_moveAll : Cond.selects RX4 yX4_moveAll yX4_moveAll ∈ gt := gt_at 51 (by decide +kernel) (by decide +kernel)
theorem mV_X4_moveAll : MV yX4_moveAll cX4_moveAll 4 none 2 := ⟨kK_X4_moveAll, kX_X4_moveAll, kS_X4_moveAll, kI_X4, ⟨by decide +kernel, by decide +kernel, by decide +kernel⟩⟩
theorem kK_X4_behind : Cond.code yX4_behind cX4_behind 4 (some .int) ∈ gt := gt_at 896 (by decide +kernel) (by decide +kernel)
theorem kX_X4_behind : Cond.instanceMethod yX4_behind ∈ gt := gt_at 895 (by decide +kernel) (by decide +kernel)
theorem kS_X4_behind : Cond.selects RX4 yX4_behind yX4_behind ∈ gt := gt_at 52 (by decide +kernel) (by decide +kernel)
theorem mV_X4_behind : MV yX4_behind cX4_behind 4 (some .int) 2 := ⟨kK_X4_behind, kX_X4_behind, kS_X4_behind, kI_X4, ⟨by decide +kernel, by decide +kernel, by decide +kernel⟩⟩
theorem kK_X4_owes : Cond.code yX4_owes cX4_owes 3 (some .int) ∈ gt := gt_at 900 (by decide +kernel) (by decide +kernel)
theorem kX_X4_owes : Cond.instanceMethod yX4_owes ∈ gt := gt_at 898 (by decide +kernel) (by decide +kernel)
theorem kS_X4_owes : Cond.selects RX4 yX4_owes yX4_owes ∈ gt := gt_at 899 (by decide +kernel) (by decide +kernel)
theorem mV_X4_owes : MV yX4_owes cX4_owes 3 (some .int) 2 := ⟨kK_X4_owes, kX_X4_owes, kS_X4_owes, kI_X4, ⟨by decide +kernel, by decide +kernel, by decide +kernel⟩⟩
theorem kK_X4_level : Cond.code yX4_level cX4_level 2 (some .int) ∈ gt := gt_at 904 (by decide +kernel) (by decide +kernel)
theorem kX_X4_level : Cond.instanceMethod yX4_level ∈ gt := gt_at 902 (by decide +kernel) (by decide +kernel)
theorem kS_X4_level : Cond.selects RX4 yX4_level yX4_level ∈ gt := gt_at 903 (by decide +kernel) (by decide +kernel)
theorem mV_X4_level : MV yX4_level cX4_level 2 (some .int) 0 := ⟨kK_X4_level, kX_X4_level, kS_X4_level, kI_X4, ⟨by decide +kernel, by decide +kernel, by decide +kernel⟩⟩
theorem kK_X4_comes : Cond.code yX4_comes cX4_comes 4 (some .int) ∈ gt := gt_at 909 (by decide +kernel) (by decide +kernel)
theorem kX_X4_comes : Cond.instanceMethod yX4_comes ∈ gt := gt_at 907 (by decide +kernel) (by decide +kernel)
theorem kS_X4_comes : Cond.selects RX4 yX4_comes yX4_comes ∈ gt := gt_at 908 (by decide +kernel) (by decide +kernel)
theorem mV_X4_comes : MV yX4_comes cX4_comes 4 (some .int) 2 := ⟨kK_X4_comes, kX_X4_comes, kS_X4_comes, kI_X4, ⟨by decide +kernel, by decide +kernel, by decide +kernel⟩⟩
theorem kK_X4_dust : Cond.code yX4_dust cX4_dust 3 (some .int) ∈ gt := gt_at 913 (by decide +kernel) (by decide +kernel)
theorem kX_X4_dust : Cond.instanceMethod yX4_dust ∈ gt := gt_at 911 (by decide +kernel) (by decide +kernel)
theorem kS_X4_dust : Cond.selects RX4 yX4_dust yX4_dust ∈ gt := gt_at 912 (by decide +kernel) (by decide +kernel)
theorem mV_X4_dust : MV yX4_dust cX4_dust 3 (some .int) 1 := ⟨kK_X4_dust, kX_X4_dust, kS_X4_dust, kI_X4, ⟨by decide +kernel, by decide +kernel, by decide +kernel⟩⟩
theorem kK_X4_place : Cond.code yX4_place cX4_place 7 (some .int) ∈ gt := gt_at 917 (by decide +kernel) (by decide +kernel)
theorem kX_X4_place : Cond.instanceMethod yX4_place ∈ gt := gt_at 915 (by decide +kernel) (by decide +kernel)
theorem kS_X4_place : Cond.selects RX4 yX4_place yX4_place ∈ gt := gt_at 916 (by decide +kernel) (by decide +kernel)
theorem mV_X4_place : MV yX4_place cX4_place 7 (some .int) 2 := ⟨kK_X4_place, kX_X4_place, kS_X4_place, kI_X4, ⟨by decide +kernel, by decide +kernel, by decide +kernel⟩⟩
theorem kK_X4_heightAt : Cond.code yX4_heightAt cX4_heightAt 1 (some .int) ∈ gt := gt_at 920 (by decide +kernel) (by decide +kernel)
theorem kX_X4_heightAt : Cond.static yX4_heightAt ∈ gt := gt_at 919 (by decide +kernel) (by decide +kernel)
theorem mS_X4_heightAt : MS yX4_heightAt cX4_heightAt 1 (some .int) 1 := ⟨kK_X4_heightAt, kX_X4_heightAt, kI_X4, ⟨by decide +kernel, by decide +kernel, by decide +kernel⟩⟩
theorem kK_X4_kind : Cond.code yX4_kind cX4_kind 7 (some .int) ∈ gt := gt_at 924 (by decide +kernel) (by decide +kernel)
theorem kX_X4_kind : Cond.instanceMethod yX4_kind ∈ gt := gt_at 922 (by decide +kernel) (by decide +kernel)
theorem kS_X4_kind : Cond.selects RX4 yX4_kind yX4_kind ∈ gt := gt_at 923 (by decide +kernel) (by decide +kernel)
theorem mV_X4_kind : MV yX4_kind cX4_kind 7 (some .int) 2 := ⟨kK_X4_kind, kX_X4_kind, kS_X4_kind, kI_X4, ⟨by decide +kernel, by decide +kernel, by decide +kernel⟩⟩
theorem kK_X4_marbles : Cond.code yX4_marbles cX4_marbles 6 (some .int) ∈ gt := gt_at 928 (by decide +kernel) (by decide +kernel)
theorem kX_X4_marbles : Cond.instanceMethod yX4_marbles ∈ gt := gt_at 926 (by decide +kernel) (by decide +kernel)
theorem kS_X4_marbles : Cond.selects RX4 yX4_marbles yX4_marbles ∈ gt := gt_at 927 (by decide +kernel) (by decide +kernel)
theorem mV_X4_marbles : MV yX4_marbles cX4_marbles 6 (some .int) 3 := ⟨kK_X4_marbles, kX_X4_marbles, kS_X4_marbles, kI_X4, ⟨by decide +kernel, by decide +kernel, by decide +kernel⟩⟩
theorem kK_X4_night : Cond.code yX4_night cX4_night 6 (some .int) ∈ gt := gt_at 932 (by decide +kernel) (by decide +kernel)
theorem kX_X4_night : Cond.instanceMethod yX4_night ∈ gt := gt_at 930 (by decide +kernel) (by decide +kernel)
theorem kS_X4_night : Cond.selects RX4 yX4_night yX4_night ∈ gt := gt_at 931 (by decide +kernel) (by decide +kernel)
theorem mV_X4_night : MV yX4_night cX4_night 6 (some .int) 1 := ⟨kK_X4_night, kX_X4_night, kS_X4_night, kI_X4, ⟨by decide +kernel, by decide +kernel, by decide +kernel⟩⟩
theorem kK_X4_enough : Cond.code yX4_enough cX4_enough 6 (some .int) ∈ gt := gt_at 936 (by decide +kernel) (by decide +kernel)
theorem kX_X4_enough : Cond.instanceMethod yX4_enough ∈ gt := gt_at 934 (by decide +kernel) (by decide +kernel)
theorem kS_X4_enough : Cond.selects RX4 yX4_enough yX4_enough ∈ gt := gt_at 935 (by decide +kernel) (by decide +kernel)
theorem mV_X4_enough : MV yX4_enough cX4_enough 6 (some .int) 3 := ⟨kK_X4_enough, kX_X4_enough, kS_X4_enough, kI_X4, ⟨by decide +kernel, by decide +kernel, by decide +kernel⟩⟩
theorem kK_X4_whom : Cond.code yX4_whom cX4_whom 7 (some .int) ∈ gt := gt_at 940 (by decide +kernel) (by decide +kernel)
theorem kX_X4_whom : Cond.instanceMethod yX4_whom ∈ gt := gt_at 938 (by decide +kernel) (by decide +kernel)
theorem kS_X4_whom : Cond.selects RX4 yX4_whom yX4_whom ∈ gt := gt_at 939 (by decide +kernel) (by decide +kernel)
theorem mV_X4_whom : MV yX4_whom cX4_whom 7 (some .int) 2 := ⟨kK_X4_whom, kX_X4_whom, kS_X4_whom, kI_X4, ⟨by decide +kernel, by decide +kernel, by decide +kernel⟩⟩
theorem kK_X4_debtor : Cond.code yX4_debtor cX4_debtor 3 (some .int) ∈ gt := gt_at 944 (by decide +kernel) (by decide +kernel)
theorem kX_X4_debtor : Cond.instanceMethod yX4_debtor ∈ gt := gt_at 942 (by decide +kernel) (by decide +kernel)
theorem kS_X4_debtor : Cond.selects RX4 yX4_debtor yX4_debtor ∈ gt := gt_at 943 (by decide +kernel) (by decide +kernel)
theorem mV_X4_debtor : MV yX4_debtor cX4_debtor 3 (some .int) 1 := ⟨kK_X4_debtor, kX_X4_debtor, kS_X4_debtor, kI_X4, ⟨by decide +kernel, by decide +kernel, by decide +kernel⟩⟩
theorem kK_X4_feed : Cond.code yX4_feed cX4_feed 4 (some .int) ∈ gt := gt_at 948 (by decide +kernel) (by decide +kernel)
theorem kX_X4_feed : Cond.instanceMethod yX4_feed ∈ gt := gt_at 946 (by decide +kernel) (by decide +kernel)
theorem kS_X4_feed : Cond.selects RX4 yX4_feed yX4_feed ∈ gt := gt_at 947 (by decide +kernel) (by decide +kernel)
theorem mV_X4_feed : MV yX4_feed cX4_feed 4 (some .int) 2 := ⟨kK_X4_feed, kX_X4_feed, kS_X4_feed, kI_X4, ⟨by decide +kernel, by decide +kernel, by decide +kernel⟩⟩
theorem kK_X4_wipe : Cond.code yX4_wipe cX4_wipe 2 (some .int) ∈ gt := gt_at 952 (by decide +kernel) (by decide +kernel)
theorem kX_X4_wipe : Cond.instanceMethod yX4_wipe ∈ gt := gt_at 950 (by decide +kernel) (by decide +kernel)
theorem kS_X4_wipe : Cond.selects RX4 yX4_wipe yX4_wipe ∈ gt := gt_at 951 (by decide +kernel) (by decide +kernel)
theorem mV_X4_wipe : MV yX4_wipe cX4_wipe 2 (some .int) 0 := ⟨kK_X4_wipe, kX_X4_wipe, kS_X4_wipe, kI_X4, ⟨by decide +kernel, by decide +kernel, by decide +kernel⟩⟩
theorem kK_X4_ground : Cond.code yX4_ground cX4_ground 3 (some .int) ∈ gt := gt_at 956 (by decide +kernel) (by decide +kernel)
theorem kX_X4_ground : Cond.instanceMethod yX4_ground ∈ gt := gt_at 954 (by decide +kernel) (by decide +kernel)
theorem kS_X4_ground : Cond.selects RX4 yX4_ground yX4_ground ∈ gt := gt_at 955 (by decide +kernel) (by decide +kernel)
theorem mV_X4_ground : MV yX4_ground cX4_ground 3 (some .int) 0 := ⟨kK_X4_ground, kX_X4_ground, kS_X4_ground, kI_X4, ⟨by decide +kernel, by decide +kernel, by decide +kernel⟩⟩
theorem kK_X4_advance : Cond.code yX4_advance cX4_advance 2 none ∈ gt := gt_at 960 (by decide +kernel) (by decide +kernel)
theorem kX_X4_advance : Cond.instanceMethod yX4_advance ∈ gt := gt_at 959 (by decide +kernel) (by decide +kernel)
theorem kS_X4_advance : Cond.selects RX4 yX4_advance yX4_advance ∈ gt := gt_at 53 (by decide +kernel) (by decide +kernel)
theorem mV_X4_advance : MV yX4_advance cX4_advance 2 none 0 := ⟨kK_X4_advance, kX_X4_advance, kS_X4_advance, kI_X4, ⟨by decide +kernel, by decide +kernel, by decide +kernel⟩⟩
theorem kK_X4_byteAt : Cond.code yX4_byteAt cX4_byteAt 2 (some .int) ∈ gt := gt_at 964 (by decide +kernel) (by decide +kernel)
theorem kX_X4_byteAt : Cond.instanceMethod yX4_byteAt ∈ gt := gt_at 963 (by decide +kernel) (by decide +kernel)
theorem kS_X4_byteAt : Cond.selects RX4 yX4_byteAt yX4_byteAt ∈ gt := gt_at 54 (by decide +kernel) (by decide +kernel)
theorem mV_X4_byteAt : MV yX4_byteAt cX4_byteAt 2 (some .int) 1 := ⟨kK_X4_byteAt, kX_X4_byteAt, kS_X4_byteAt, kI_X4, ⟨by decide +kernel, by decide +kernel, by decide +kernel⟩⟩
theorem kK_X4_isLetter : Cond.code yX4_isLetter cX4_isLetter 1 (some .boolean) ∈ gt := gt_at 967 (by decide +kernel) (by decide +kernel)
theorem kX_X4_isLetter : Cond.static yX4_isLetter ∈ gt := gt_at 966 (by decide +kernel) (by decide +kernel)
theorem mS_X4_isLetter : MS yX4_isLetter cX4_isLetter 1 (some .boolean) 1 := ⟨kK_X4_isLetter, kX_X4_isLetter, kI_X4, ⟨by decide +kernel, by decide +kernel, by decide +kernel⟩⟩
theorem kK_X4_isDigit : Cond.code yX4_isDigit cX4_isDigit 1 (some .boolean) ∈ gt := gt_at 970 (by decide +kernel) (by decide +kernel)
theorem kX_X4_isDigit : Cond.static yX4_isDigit ∈ gt := gt_at 969 (by decide +kernel) (by decide +kernel)
theorem mS_X4_isDigit : MS yX4_isDigit cX4_isDigit 1 (some .boolean) 1 := ⟨kK_X4_isDigit, kX_X4_isDigit, kI_X4, ⟨by decide +kernel, by decide +kernel, by decide +kernel⟩⟩
theorem kK_X4_wantItem : Cond.code yX4_wantItem cX4_wantItem 2 none ∈ gt := gt_at 977 (by decide +kernel) (by decide +kernel)
theorem kX_X4_wantItem : Cond.instanceMethod yX4_wantItem ∈ gt := gt_at 976 (by decide +kernel) (by decide +kernel)
theorem kS_X4_wantItem : Cond.selects RX4 yX4_wantItem yX4_wantItem ∈ gt := gt_at 55 (by decide +kernel) (by decide +kernel)
theorem mV_X4_wantItem : MV yX4_wantItem cX4_wantItem 2 none 0 := ⟨kK_X4_wantItem, kX_X4_wantItem, kS_X4_wantItem, kI_X4, ⟨by decide +kernel, by decide +kernel, by decide +kernel⟩⟩
theorem kK_X4_kindHere : Cond.code yX4_kindHere cX4_kindHere 1 (some .int) ∈ gt := gt_at 981 (by decide +kernel) (by decide +kernel)
theorem kX_X4_kindHere : Cond.instanceMethod yX4_kindHere ∈ gt := gt_at 980 (by decide +kernel) (by decide +kernel)
theorem kS_X4_kindHere : Cond.selects RX4 yX4_kindHere yX4_kindHere ∈ gt := gt_at 56 (by decide +kernel) (by decide +kernel)
theorem mV_X4_kindHere : MV yX4_kindHere cX4_kindHere 1 (some .int) 0 := ⟨kK_X4_kindHere, kX_X4_kindHere, kS_X4_kindHere, kI_X4, ⟨by decide +kernel, by decide +kernel, by decide +kernel⟩⟩
theorem kK_X4_isWord : Cond.code yX4_isWord cX4_isWord 3 (some .boolean) ∈ gt := gt_at 986 (by decide +kernel) (by decide +kernel)
theorem kX_X4_isWord : Cond.instanceMethod yX4_isWord ∈ gt := gt_at 985 (by decide +kernel) (by decide +kernel)
theorem kS_X4_isWord : Cond.selects RX4 yX4_isWord yX4_isWord ∈ gt := gt_at 57 (by decide +kernel) (by decide +kernel)
theorem mV_X4_isWord : MV yX4_isWord cX4_isWord 3 (some .boolean) 1 := ⟨kK_X4_isWord, kX_X4_isWord, kS_X4_isWord, kI_X4, ⟨by decide +kernel, by decide +kernel, by decide +kernel⟩⟩
theorem kK_X4_wantOne : Cond.code yX4_wantOne cX4_wantOne 4 none ∈ gt := gt_at 995 (by decide +kernel) (by decide +kernel)
theorem kX_X4_wantOne : Cond.instanceMethod yX4_wantOne ∈ gt := gt_at 994 (by decide +kernel) (by decide +kernel)
theorem kS_X4_wantOne : Cond.selects RX4 yX4_wantOne yX4_wantOne ∈ gt := gt_at 58 (by decide +kernel) (by decide +kernel)
theorem mV_X4_wantOne : MV yX4_wantOne cX4_wantOne 4 none 1 := ⟨kK_X4_wantOne, kX_X4_wantOne, kS_X4_wantOne, kI_X4, ⟨by decide +kernel, by decide +kernel, by decide +kernel⟩⟩
theorem kK_X4_mayWant : Cond.code yX4_mayWant cX4_mayWant 6 (some .int) ∈ gt := gt_at 1000 (by decide +kernel) (by decide +kernel)
theorem kX_X4_mayWant : Cond.instanceMethod yX4_mayWant ∈ gt := gt_at 999 (by decide +kernel) (by decide +kernel)
theorem kS_X4_mayWant : Cond.selects RX4 yX4_mayWant yX4_mayWant ∈ gt := gt_at 59 (by decide +kernel) (by decide +kernel)
theorem mV_X4_mayWant : MV yX4_mayWant cX4_mayWant 6 (some .int) 4 := ⟨kK_X4_mayWant, kX_X4_mayWant, kS_X4_mayWant, kI_X4, ⟨by decide +kernel, by decide +kernel, by decide +kernel⟩⟩
theorem kK_X4_wantNumber : Cond.code yX4_wantNumber cX4_wantNumber 4 (some .int) ∈ gt := gt_at 1004 (by decide +kernel) (by decide +kernel)
theorem kX_X4_wantNumber : Cond.instanceMethod yX4_wantNumber ∈ gt := gt_at 1003 (by decide +kernel) (by decide +kernel)
theorem kS_X4_wantNumber : Cond.selects RX4 yX4_wantNumber yX4_wantNumber ∈ gt := gt_at 60 (by decide +kernel) (by decide +kernel)
theorem mV_X4_wantNumber : MV yX4_wantNumber cX4_wantNumber 4 (some .int) 2 := ⟨kK_X4_wantNumber, kX_X4_wantNumber, kS_X4_wantNumber, kI_X4, ⟨by decide +kernel, by decide +kernel, by decide +kernel⟩⟩
theorem kK_X4_wantPush : Cond.code yX4_wantPush cX4_wantPush 3 none ∈ gt := gt_at 1010 (by decide +kernel) (by decide +kernel)
theorem kX_X4_wantPush : Cond.instanceMethod yX4_wantPush ∈ gt := gt_at 1009 (by decide +kernel) (by decide +kernel)
theorem kS_X4_wantPush : Cond.selects RX4 yX4_wantPush yX4_wantPush ∈ gt := gt_at 61 (by decide +kernel) (by decide +kernel)
theorem mV_X4_wantPush : MV yX4_wantPush cX4_wantPush 3 none 0 := ⟨kK_X4_wantPush, kX_X4_wantPush, kS_X4_wantPush, kI_X4, ⟨by decide +kernel, by decide +kernel, by decide +kernel⟩⟩
theorem kK_X4_sheet : Cond.code yX4_sheet cX4_sheet 5 (some .int) ∈ gt := gt_at 1015 (by decide +kernel) (by decide +kernel)
theorem kX_X4_sheet : Cond.instanceMethod yX4_sheet ∈ gt := gt_at 1013 (by decide +kernel) (by decide +kernel)
theorem kS_X4_sheet : Cond.selects RX4 yX4_sheet yX4_sheet ∈ gt := gt_at 1014 (by decide +kernel) (by decide +kernel)
theorem mV_X4_sheet : MV yX4_sheet cX4_sheet 5 (some .int) 3 := ⟨kK_X4_sheet, kX_X4_sheet, kS_X4_sheet, kI_X4, ⟨by decide +kernel, by decide +kernel, by decide +kernel⟩⟩
theorem kK_X4_isSheet : Cond.code yX4_isSheet cX4_isSheet 1 (some .boolean) ∈ gt := gt_at 1018 (by decide +kernel) (by decide +kernel)
theorem kX_X4_isSheet : Cond.static yX4_isSheet ∈ gt := gt_at 1017 (by decide +kernel) (by decide +kernel)
theorem mS_X4_isSheet : MS yX4_isSheet cX4_isSheet 1 (some .boolean) 1 := ⟨kK_X4_isSheet, kX_X4_isSheet, kI_X4, ⟨by decide +kernel, by decide +kernel, by decide +kernel⟩⟩
theorem kK_X4_write : Cond.code yX4_write cX4_write 7 (some .long) ∈ gt := gt_at 1023 (by decide +kernel) (by decide +kernel)
theorem kX_X4_write : Cond.instanceMethod yX4_write ∈ gt := gt_at 1021 (by decide +kernel) (by decide +kernel)
theorem kS_X4_write : Cond.selects RX4 yX4_write yX4_write ∈ gt := gt_at 1022 (by decide +kernel) (by decide +kernel)
theorem mV_X4_write : MV yX4_write cX4_write 7 (some .long) 3 := ⟨kK_X4_write, kX_X4_write, kS_X4_write, kI_X4, ⟨by decide +kernel, by decide +kernel, by decide +kernel⟩⟩
theorem kK_X4_narrow : Cond.code yX4_narrow cX4_narrow 3 (some .long) ∈ gt := gt_at 1027 (by decide +kernel) (by decide +kernel)
theorem kX_X4_narrow : Cond.static yX4_narrow ∈ gt := gt_at 1026 (by decide +kernel) (by decide +kernel)
theorem mS_X4_narrow : MS yX4_narrow cX4_narrow 3 (some .long) 2 := ⟨kK_X4_narrow, kX_X4_narrow, kI_X4, ⟨by decide +kernel, by decide +kernel, by decide +kernel⟩⟩
theorem kK_X4_copy : Cond.code yX4_copy cX4_copy 7 (some .int) ∈ gt := gt_at 1031 (by decide +kernel) (by decide +kernel)
theorem kX_X4_copy : Cond.instanceMethod yX4_copy ∈ gt := gt_at 1029 (by decide +kernel) (by decide +kernel)
theorem kS_X4_copy : Cond.selects RX4 yX4_copy yX4_copy ∈ gt := gt_at 1030 (by decide +kernel) (by decide +kernel)
theorem mV_X4_copy : MV yX4_copy cX4_copy 7 (some .int) 5 := ⟨kK_X4_copy, kX_X4_copy, kS_X4_copy, kI_X4, ⟨by decide +kernel, by decide +kernel, by decide +kernel⟩⟩
theorem kK_X4_isPart_ : Cond.code yX4_isPart_ cX4_isPart_ 4 (some .boolean) ∈ gt := gt_at 1035 (by decide +kernel) (by decide +kernel)
theorem kX_X4_isPart_ : Cond.instanceMethod yX4_isPart_ ∈ gt := gt_at 1034 (by decide +kernel) (by decide +kernel)
theorem kS_X4_isPart_ : Cond.selects RX4 yX4_isPart_ yX4_isPart_ ∈ gt := gt_at 62 (by decide +kernel) (by decide +kernel)
theorem mV_X4_isPart_ : MV yX4_isPart_ cX4_isPart_ 4 (some .boolean) 3 := ⟨kK_X4_isPart_, kX_X4_isPart_, kS_X4_isPart_, kI_X4, ⟨by decide +kernel, by decide +kernel, by decide +kernel⟩⟩
theorem kK_X4_lays : Cond.code yX4_lays cX4_lays 7 (some .int) ∈ gt := gt_at 1039 (by decide +kernel) (by decide +kernel)
theorem kX_X4_lays : Cond.instanceMethod yX4_lays ∈ gt := gt_at 1037 (by decide +kernel) (by decide +kernel)
theorem kS_X4_lays : Cond.selects RX4 yX4_lays yX4_lays ∈ gt := gt_at 1038 (by decide +kernel) (by decide +kernel)
theorem mV_X4_lays : MV yX4_lays cX4_lays 7 (some .int) 1 := ⟨kK_X4_lays, kX_X4_lays, kS_X4_lays, kI_X4, ⟨by decide +kernel, by decide +kernel, by decide +kernel⟩⟩
theorem kK_X4_badSheet : Cond.code yX4_badSheet cX4_badSheet 2 (some .int) ∈ gt := gt_at 1043 (by decide +kernel) (by decide +kernel)
theorem kX_X4_badSheet : Cond.instanceMethod yX4_badSheet ∈ gt := gt_at 1042 (by decide +kernel) (by decide +kernel)
theorem kS_X4_badSheet : Cond.selects RX4 yX4_badSheet yX4_badSheet ∈ gt := gt_at 63 (by decide +kernel) (by decide +kernel)
theorem mV_X4_badSheet : MV yX4_badSheet cX4_badSheet 2 (some .int) 1 := ⟨kK_X4_badSheet, kX_X4_badSheet, kS_X4_badSheet, kI_X4, ⟨by decide +kernel, by decide +kernel, by decide +kernel⟩⟩
theorem kK_X4_book : Cond.code yX4_book cX4_book 5 (some .int) ∈ gt := gt_at 1048 (by decide +kernel) (by decide +kernel)
theorem kX_X4_book : Cond.instanceMethod yX4_book ∈ gt := gt_at 1046 (by decide +kernel) (by decide +kernel)
theorem kS_X4_book : Cond.selects RX4 yX4_book yX4_book ∈ gt := gt_at 1047 (by decide +kernel) (by decide +kernel)
theorem mV_X4_book : MV yX4_book cX4_book 5 (some .int) 2 := ⟨kK_X4_book, kX_X4_book, kS_X4_book, kI_X4, ⟨by decide +kernel, by decide +kernel, by decide +kernel⟩⟩
theorem kK_X4_read : Cond.code yX4_read cX4_read 7 (some .int) ∈ gt := gt_at 1052 (by decide +kernel) (by decide +kernel)
theorem kX_X4_read : Cond.instanceMethod yX4_read ∈ gt := gt_at 1050 (by decide +kernel) (by decide +kernel)
theorem kS_X4_read : Cond.selects RX4 yX4_read yX4_read ∈ gt := gt_at 1051 (by decide +kernel) (by decide +kernel)
theorem mV_X4_read : MV yX4_read cX4_read 7 (some .int) 3 := ⟨kK_X4_read, kX_X4_read, kS_X4_read, kI_X4, ⟨by decide +kernel, by decide +kernel, by decide +kernel⟩⟩
theorem kK_X4_isSo : Cond.code yX4_isSo cX4_isSo 5 (some .boolean) ∈ gt := gt_at 1056 (by decide +kernel) (by decide +kernel)
theorem kX_X4_isSo : Cond.instanceMethod yX4_isSo ∈ gt := gt_at 1055 (by decide +kernel) (by decide +kernel)
theorem kS_X4_isSo : Cond.selects RX4 yX4_isSo yX4_isSo ∈ gt := gt_at 64 (by decide +kernel) (by decide +kernel)
theorem mV_X4_isSo : MV yX4_isSo cX4_isSo 5 (some .boolean) 2 := ⟨kK_X4_isSo, kX_X4_isSo, kS_X4_isSo, kI_X4, ⟨by decide +kernel, by decide +kernel, by decide +kernel⟩⟩
theorem kK_X4_image : Cond.code yX4_image cX4_image 1 (some .int) ∈ gt := gt_at 1060 (by decide +kernel) (by decide +kernel)
theorem kX_X4_image : Cond.instanceMethod yX4_image ∈ gt := gt_at 1058 (by decide +kernel) (by decide +kernel)
theorem kS_X4_image : Cond.selects RX4 yX4_image yX4_image ∈ gt := gt_at 1059 (by decide +kernel) (by decide +kernel)
theorem mV_X4_image : MV yX4_image cX4_image 1 (some .int) 0 := ⟨kK_X4_image, kX_X4_image, kS_X4_image, kI_X4, ⟨by decide +kernel, by decide +kernel, by decide +kernel⟩⟩
theorem kK_X4_undo : Cond.code yX4_undo cX4_undo 1 (some .int) ∈ gt := gt_at 1064 (by decide +kernel) (by decide +kernel)
theorem kX_X4_undo : Cond.instanceMethod yX4_undo ∈ gt := gt_at 1062 (by decide +kernel) (by decide +kernel)
theorem kS_X4_undo : Cond.selects RX4 yX4_undo yX4_undo ∈ gt := gt_at 1063 (by decide +kernel) (by decide +kernel)
theorem mV_X4_undo : MV yX4_undo cX4_undo 1 (some .int) 0 := ⟨kK_X4_undo, kX_X4_undo, kS_X4_undo, kI_X4, ⟨by decide +kernel, by decide +kernel, by decide +kernel⟩⟩
theorem kK_X4_tear : Cond.code yX4_tear cX4_tear 2 (some .int) ∈ gt := gt_at 1068 (by decide +kernel) (by decide +kernel)
theorem kX_X4_tear : Cond.instanceMethod yX4_tear ∈ gt := gt_at 1066 (by decide +kernel) (by decide +kernel)
theorem kS_X4_tear : Cond.selects RX4 yX4_tear yX4_tear ∈ gt := gt_at 1067 (by decide +kernel) (by decide +kernel)
theorem mV_X4_tear : MV yX4_tear cX4_tear 2 (some .int) 0 := ⟨kK_X4_tear, kX_X4_tear, kS_X4_tear, kI_X4, ⟨by decide +kernel, by decide +kernel, by decide +kernel⟩⟩
theorem kK_X4_count : Cond.code yX4_count cX4_count 2 (some .int) ∈ gt := gt_at 1072 (by decide +kernel) (by decide +kernel)
theorem kX_X4_count : Cond.instanceMethod yX4_count ∈ gt := gt_at 1070 (by decide +kernel) (by decide +kernel)
theorem kS_X4_count : Cond.selects RX4 yX4_count yX4_count ∈ gt := gt_at 1071 (by decide +kernel) (by decide +kernel)
theorem mV_X4_count : MV yX4_count cX4_count 2 (some .int) 1 := ⟨kK_X4_count, kX_X4_count, kS_X4_count, kI_X4, ⟨by decide +kernel, by decide +kernel, by decide +kernel⟩⟩
theorem kK_X4_status : Cond.code yX4_status cX4_status 4 (some .int) ∈ gt := gt_at 1076 (by decide +kernel) (by decide +kernel)
theorem kX_X4_status : Cond.instanceMethod yX4_status ∈ gt := gt_at 1074 (by decide +kernel) (by decide +kernel)
theorem kS_X4_status : Cond.selects RX4 yX4_status yX4_status ∈ gt := gt_at 1075 (by decide +kernel) (by decide +kernel)
theorem mV_X4_status : MV yX4_status cX4_status 4 (some .int) 1 := ⟨kK_X4_status, kX_X4_status, kS_X4_status, kI_X4, ⟨by decide +kernel, by decide +kernel, by decide +kernel⟩⟩
theorem kS_min : Cond.static Lib.Math.min.name ∈ gt := gt_at 328 (by decide +kernel) (by decide +kernel)
theorem kK_min : Cond.code Lib.Math.min.name Lib.Math.min.code 2 (some .int) ∈ gt := gt_at 329 (by decide +kernel) (by decide +kernel)
theorem mmin_X0_41 : MMin RX0 41 := ⟨kM_X0_41, kS_min, kI_Math, kK_min⟩
theorem mmin_X2_130 : MMin RX2 130 := ⟨kM_X2_130, kS_min, kI_Math, kK_min⟩
theorem mmin_X3_219 : MMin RX3 219 := ⟨kM_X3_219, kS_min, kI_Math, kK_min⟩
theorem kS_max : Cond.static Lib.Math.max.name ∈ gt := gt_at 368 (by decide +kernel) (by decide +kernel)
theorem kK_max : Cond.code Lib.Math.max.name Lib.Math.max.code 2 (some .int) ∈ gt := gt_at 369 (by decide +kernel) (by decide +kernel)
theorem mmax_X0_106 : MMax RX0 106 := ⟨kM_X0_106, kS_max, kI_Math, kK_max⟩
theorem kN_cpy : Cond.native arraycopyName ∈ gt := gt_at 395 (by decide +kernel) (by decide +kernel)
theorem kS_cpy : Cond.static arraycopyName ∈ gt := gt_at 394 (by decide +kernel) (by decide +kernel)
theorem mcpy_X0_32 : MCpy RX0 32 := ⟨kM_X0_32, kN_cpy, kS_cpy, kI_System⟩
theorem mcpy_X3_213 : MCpy RX3 213 := ⟨kM_X3_213, kN_cpy, kS_cpy, kI_System⟩
end
section
/-! the ground as a table: g 0 KIND, g 1 HEIGHT, g 2 MARBLES, g 3 OWES of one; g 4: 0 MINUTE, 1 DARK, 2 how many -/
abbrev Gd : Type := Int → Int → Int
def up1 (F : Int → Int) (c v : Int) : Int → Int := fun j => if j = c then v else F j
def up2 (g : Gd) (w c v : Int) : Gd := fun w2 c2 => if w2 = w then (if c2 = c then v else g w2 c2) else g w2 c2
def ar (F : Int → Int) : Nat → Int32 := fun i => iI (F (i : Int))
def aG (g : Gd) (w : Int) : Nat → Int32 := fun i => iI (g w (i : Int))
def rowA (g : Gd) : Nat → Int32 := fun j => if j < 3 then iI (g 4 (j : Int)) else iI (g (((j - 3) % 4 : Nat) : Int) (((j - 3) / 4 : Nat) : Int))
abbrev oG (g : Gd) (k h m o : Nat) : va_E := .inr (0, [.int (iI (g 4 0)), .int (iI (g 4 1)), .int (iI (g 4 2)), .ref k, .ref h, .ref m, .ref o])
theorem ar_at {F : Int → Int} {z : Int} (h : 0 ≤ z) : ar F z.toNat = iI (F z) := by unfold ar; rw [Int.toNat_of_nonneg h]
theorem aG_at {g : Gd} {w z : Int} (h : 0 ≤ z) : aG g w z.toNat = iI (g w z) := by unfold aG; rw [Int.toNat_of_nonneg h]
theorem ar_up {F : Int → Int} {z v : Int} (h : 0 ≤ z) : upd (ar F) z.toNat (iI v) = ar (up1 F z v) := by
  funext i
  unfold upd ar up1
  by_cases q : i = z.toNat
  · rw [if_pos q, if_pos (by omega)]
  · rw [if_neg q, if_neg (by omega)]
theorem aG_up {g : Gd} {w z v : Int} (h : 0 ≤ z) : upd (aG g w) z.toNat (iI v) = aG (up2 g w z v) w := by
  funext i
  unfold upd aG up2
  rw [if_pos rfl]
  by_cases q : i = z.toNat
  · rw [if_pos q, if_pos (by omega)]
  · rw [if_neg q, if_neg (by omega)]
theorem rowA_4 {g : Gd} {z : Int} (h : 0 ≤ z) (h2 : z < 3) : rowA g z.toNat = iI (g 4 z) := by
  unfold rowA
  rw [if_pos (by omega), Int.toNat_of_nonneg h]
theorem rowA_at {g : Gd} {w c z : Int} (h : 0 ≤ c) (h1 : 0 ≤ w) (h2 : w < 4) (hz : z = 3 + 4 * c + w) : rowA g z.toNat = iI (g w c) := by
  unfold rowA
  rw [if_neg (by omega)]
  have e1 : (((z.toNat - 3) % 4 : Nat) : Int) = w := by omega
  have e2 : (((z.toNat - 3) / 4 : Nat) : Int) = c := by omega
  rw [e1, e2]
theorem rowA_up4 {g : Gd} {z v : Int} (h : 0 ≤ z) (h2 : z < 3) : upd (rowA g) z.toNat (iI v) = rowA (up2 g 4 z v) := by
  funext j
  unfold upd
  by_cases q : j = z.toNat
  · rw [if_pos q]; subst q; rw [rowA_4 h h2]; unfold up2; rw [if_pos rfl, if_pos rfl]
  · rw [if_neg q]
    unfold rowA up2
    by_cases q3 : j < 3
    · rw [if_pos q3, if_pos q3, if_pos rfl, if_neg (by omega)]
    · rw [if_neg q3, if_neg q3, if_neg (by omega)]
theorem rowA_up {g : Gd} {w c z v : Int} (h : 0 ≤ c) (h1 : 0 ≤ w) (h2 : w < 4) (hz : z = 3 + 4 * c + w) : upd (rowA g) z.toNat (iI v) = rowA (up2 g w c v) := by
  funext j
  unfold upd
  by_cases q : j = z.toNat
  · rw [if_pos q]; subst q; rw [rowA_at h h1 h2 hz]; unfold up2; rw [if_pos rfl, if_pos rfl]
  · rw [if_neg q]
    unfold rowA up2
    by_cases q3 : j < 3
    · rw [if_pos q3, if_pos q3, if_neg (by omega)]
    · rw [if_neg q3, if_neg q3]
      by_cases q4 : (((j - 3) % 4 : Nat) : Int) = w
      · rw [if_pos q4, if_neg (by omega)]
      · rw [if_neg q4]
theorem up2_same (g : Gd) (w c v : Int) : up2 g w c v w c = v := by unfold up2; rw [if_pos rfl, if_pos rfl]
theorem up2_c (g : Gd) (w : Int) {c d : Int} (v : Int) (h : d ≠ c) : up2 g w c v w d = g w d := by unfold up2; rw [if_pos rfl, if_neg h]
theorem up2_w (g : Gd) {w w2 : Int} (c d v : Int) (h : w2 ≠ w) : up2 g w c v w2 d = g w2 d := by unfold up2; rw [if_neg h]
theorem up2_if (g : Gd) (w c v d : Int) : up2 g w c v w d = if d = c then v else g w d := by unfold up2; rw [if_pos rfl]
def Ok (g : Gd) : Prop := (0 ≤ g 4 0 ∧ g 4 0 ≤ 1000000) ∧ (0 ≤ g 4 1 ∧ g 4 1 ≤ 59) ∧ (0 ≤ g 4 2 ∧ g 4 2 ≤ 8) ∧ ∀ c : Int, (0 ≤ g 0 c ∧ g 0 c ≤ 5) ∧ (0 ≤ g 1 c ∧ g 1 c ≤ 200) ∧ (0 ≤ g 2 c ∧ g 2 c ≤ 99) ∧ (-9999 ≤ g 3 c ∧ g 3 c ≤ 9999)
theorem ok0 {g : Gd} (h : Ok g) : 0 ≤ g 4 0 ∧ g 4 0 ≤ 1000000 := h.1
theorem ok1 {g : Gd} (h : Ok g) : 0 ≤ g 4 1 ∧ g 4 1 ≤ 59 := h.2.1
theorem ok2 {g : Gd} (h : Ok g) : 0 ≤ g 4 2 ∧ g 4 2 ≤ 8 := h.2.2.1
theorem okK {g : Gd} (h : Ok g) (c : Int) : 0 ≤ g 0 c ∧ g 0 c ≤ 5 := (h.2.2.2 c).1
theorem okH {g : Gd} (h : Ok g) (c : Int) : 0 ≤ g 1 c ∧ g 1 c ≤ 200 := (h.2.2.2 c).2.1
theorem okM {g : Gd} (h : Ok g) (c : Int) : 0 ≤ g 2 c ∧ g 2 c ≤ 99 := (h.2.2.2 c).2.2.1
theorem okO {g : Gd} (h : Ok g) (c : Int) : -9999 ≤ g 3 c ∧ g 3 c ≤ 9999 := (h.2.2.2 c).2.2.2
theorem Ok.upK {g : Gd} (h : Ok g) (c : Int) {v : Int} (h1 : 0 ≤ v ∧ v ≤ 5) : Ok (up2 g 0 c v) := by
  refine ⟨h.1, h.2.1, h.2.2.1, fun d => ⟨?_, (h.2.2.2 d).2⟩⟩
  rw [up2_if]; split
  · exact h1
  · exact (h.2.2.2 d).1
theorem Ok.upH {g : Gd} (h : Ok g) (c : Int) {v : Int} (h1 : 0 ≤ v ∧ v ≤ 200) : Ok (up2 g 1 c v) := by
  refine ⟨h.1, h.2.1, h.2.2.1, fun d => ⟨(h.2.2.2 d).1, ?_, (h.2.2.2 d).2.2⟩⟩
  rw [up2_if]; split
  · exact h1
  · exact (h.2.2.2 d).2.1
theorem Ok.upM {g : Gd} (h : Ok g) (c : Int) {v : Int} (h1 : 0 ≤ v ∧ v ≤ 99) : Ok (up2 g 2 c v) := by
  refine ⟨h.1, h.2.1, h.2.2.1, fun d => ⟨(h.2.2.2 d).1, (h.2.2.2 d).2.1, ?_, (h.2.2.2 d).2.2.2⟩⟩
  rw [up2_if]; split
  · exact h1
  · exact (h.2.2.2 d).2.2.1
theorem Ok.upO {g : Gd} (h : Ok g) (c : Int) {v : Int} (h1 : -9999 ≤ v ∧ v ≤ 9999) : Ok (up2 g 3 c v) := by
  refine ⟨h.1, h.2.1, h.2.2.1, fun d => ⟨(h.2.2.2 d).1, (h.2.2.2 d).2.1, (h.2.2.2 d).2.2.1, ?_⟩⟩
  rw [up2_if]; split
  · exact h1
  · exact (h.2.2.2 d).2.2.2
theorem Ok.up0 {g : Gd} (h : Ok g) {v : Int} (h1 : 0 ≤ v ∧ v ≤ 1000000) : Ok (up2 g 4 0 v) := ⟨h1, h.2.1, h.2.2.1, h.2.2.2⟩
theorem Ok.up1 {g : Gd} (h : Ok g) {v : Int} (h1 : 0 ≤ v ∧ v ≤ 59) : Ok (up2 g 4 1 v) := ⟨h.1, h1, h.2.2.1, h.2.2.2⟩
theorem Ok.up2 {g : Gd} (h : Ok g) {v : Int} (h1 : 0 ≤ v ∧ v ≤ 8) : Ok (up2 g 4 2 v) := ⟨h.1, h.2.1, h1, h.2.2.2⟩
/-! what the ground says -/
abbrev dusk (g : Gd) : Prop := g 4 1 ≤ g 4 0 % 60
abbrev satur (g : Gd) : Prop := g 4 0 / 60 % 7 = 5
def mostN (f : Int → Int) : Nat → Int
  | 0 => -1
  | n + 1 => if mostN f n < 0 ∨ f (mostN f n) < f (n : Int) then (n : Int) else mostN f n
def lowN (f : Int → Int) : Nat → Int
  | 0 => -1
  | n + 1 => if lowN f n < 0 ∨ f (n : Int) < f (lowN f n) then (n : Int) else lowN f n
def sumN (f : Int → Int) : Nat → Int
  | 0 => 0
  | n + 1 => sumN f n + f (n : Int)
def dustN (f : Int → Int) : Nat → Int32
  | 0 => iI 0
  | n + 1 => if f (n : Int) = 0 then dustN f n ||| (iI 1 <<< (iI (n : Int) &&& 31)) else dustN f n
theorem mostN_rng (f : Int → Int) : ∀ n : Nat, -1 ≤ mostN f n ∧ mostN f n < n ∧ (0 < n → 0 ≤ mostN f n)
  | 0 => ⟨Int.le_refl _, by show (-1 : Int) < ((0 : Nat) : Int); decide, fun h => absurd h (Nat.lt_irrefl 0)⟩
  | n + 1 => by
    have ih := mostN_rng f n
    unfold mostN
    split
    · omega
    · omega
theorem lowN_rng (f : Int → Int) : ∀ n : Nat, -1 ≤ lowN f n ∧ lowN f n < n ∧ (0 < n → 0 ≤ lowN f n)
  | 0 => ⟨Int.le_refl _, by show (-1 : Int) < ((0 : Nat) : Int); decide, fun h => absurd h (Nat.lt_irrefl 0)⟩
  | n + 1 => by
    have ih := lowN_rng f n
    unfold lowN
    split
    · omega
    · omega
abbrev many (g : Gd) : Nat := (g 4 2).toNat
abbrev highG (g : Gd) : Int := mostN (g 1) (many g)
abbrev lowG (g : Gd) : Int := lowN (g 1) (many g)
def diffG (g : Gd) : Int := if g 4 2 = 0 then 0 else g 1 (highG g) - g 1 (lowG g)
theorem highG_rng {g : Gd} (h : Ok g) : -1 ≤ highG g ∧ highG g < g 4 2 ∧ (0 < g 4 2 → 0 ≤ highG g) := by
  have h1 := mostN_rng (g 1) (many g)
  have h2 := ok2 h
  unfold many at h1
  refine ⟨h1.1, ?_, fun q => h1.2.2 (by omega)⟩
  have := h1.2.1
  unfold highG many
  omega
theorem lowG_rng {g : Gd} (h : Ok g) : -1 ≤ lowG g ∧ lowG g < g 4 2 ∧ (0 < g 4 2 → 0 ≤ lowG g) := by
  have h1 := lowN_rng (g 1) (many g)
  have h2 := ok2 h
  unfold many at h1
  refine ⟨h1.1, ?_, fun q => h1.2.2 (by omega)⟩
  have := h1.2.1
  unfold lowG many
  omega
def nextG (g : Gd) (c : Int) : Int := if c + 1 < g 4 2 then c + 1 else 0
def wantsG (g : Gd) (c : Int) : Int :=
  if g 4 2 < 2 then 0
  else if g 0 c = 1 then 5
  else if g 0 c = 2 then 1
  else if g 0 c = 3 then (if g 1 (nextG g c) < g 1 c then -3 else 0)
  else if g 0 c = 4 then (if satur g then 10 else 5)
  else if g 0 c = 5 then (if 60 < g 1 c then 0 else 1)
  else 2
def paysG (g : Gd) (c : Int) : Int := if g 0 c = 2 then 1 else 0
def yieldsG (g : Gd) (c : Int) : Int :=
  if g 0 c = 1 then 2
  else if g 0 c = 2 then 8
  else if g 0 c = 3 then g 1 c
  else if g 0 c = 4 then (if satur g then 0 else 2)
  else if g 0 c = 5 then 8
  else 4
theorem wantsG_rng (g : Gd) (c : Int) : -3 ≤ wantsG g c ∧ wantsG g c ≤ 10 := by
  unfold wantsG; repeat' split
  all_goals omega
theorem paysG_rng (g : Gd) (c : Int) : 0 ≤ paysG g c ∧ paysG g c ≤ 1 := by
  unfold paysG; split <;> omega
theorem yieldsG_rng {g : Gd} (h : Ok g) (c : Int) : 0 ≤ yieldsG g c ∧ yieldsG g c ≤ 200 := by
  have := okH h c
  unfold yieldsG; repeat' split
  all_goals omega
theorem nextG_rng {g : Gd} (h : Ok g) {c : Int} (h0 : 0 ≤ c) (h1 : c < g 4 2) : 0 ≤ nextG g c ∧ nextG g c < g 4 2 := by
  unfold nextG; split <;> omega
/-! what moves -/
def mayG (g : Gd) (f t n : Int) : Int := min n (min (g 1 f) (200 - g 1 t))
def goesG (g : Gd) (f t n : Int) : Gd :=
  let g1 := up2 g 1 f (g 1 f - n)
  let g2 := up2 g1 1 t (g1 1 t + n)
  let g3 := up2 g2 3 f (max (g2 3 f - n) (-9999))
  up2 g3 3 t (min (g3 3 t + n) 9999)
def addG (g : Gd) (k h m : Int) : Gd :=
  let n := g 4 2
  up2 (up2 (up2 (up2 (up2 g 0 n k) 1 n h) 2 n m) 3 n 0) 4 2 (n + 1)
def pushG (g : Gd) (c v : Int) : Gd := up2 g 1 c (min (g 1 c + v) 200)
def swapG (g : Gd) (a b : Int) : Gd := fun w c => if w = 4 then g w c else if c = b then g w a else if c = a then g w b else g w c
def likeG (g t : Gd) : Gd := fun w c => if w = 4 then t w c else if c < t 4 2 then t w c else g w c
def payG (g : Gd) (c o : Int) : Gd :=
  let g1 := up2 g 2 c (g 2 c - paysG g c)
  up2 g1 2 o (min (g1 2 o + paysG g c) 99)
def haveG (g : Gd) (c : Int) : Gd :=
  let o := nextG g c
  let n := mayG g o c (min (wantsG g c) (yieldsG g o))
  if 0 < n then payG (goesG g o c n) c o else goesG g o c n
def dealG (g : Gd) (c : Int) : Gd :=
  if 0 < wantsG g c ∧ paysG g c ≤ g 2 c then haveG g c
  else if wantsG g c < 0 then goesG g c (nextG g c) (mayG g c (nextG g c) (-(wantsG g c)))
  else g
def dealsG (g : Gd) : Nat → Gd
  | 0 => g
  | n + 1 => dealG (dealsG g n) (n : Int)
def levG (g : Gd) : Gd := if 2 ≤ diffG g then goesG g (highG g) (lowG g) 1 else g
def minG (g : Gd) : Gd :=
  let g1 := if dusk g then levG g else dealsG g (many g)
  up2 g1 4 0 (g1 4 0 + 1)
def minsG (g : Gd) : Nat → Gd
  | 0 => g
  | n + 1 => minG (minsG g n)
end
section
theorem mayG_rng {g : Gd} (h : Ok g) (f t : Int) {n : Int} (hn : 0 ≤ n) : 0 ≤ mayG g f t n ∧ mayG g f t n ≤ n ∧ mayG g f t n ≤ g 1 f ∧ mayG g f t n ≤ 200 - g 1 t := by
  have h1 := okH h f
  have h2 := okH h t
  unfold mayG
  omega
theorem goesG_ok {g : Gd} (h : Ok g) (f t : Int) {n : Int} (hn : 0 ≤ n) (h1 : n ≤ g 1 f) (h2 : n ≤ 200 - g 1 t) : Ok (goesG g f t n) := by
  have a1 := okH h f
  have a2 := okH h t
  have k1 : Ok (up2 g 1 f (g 1 f - n)) := h.upH f (by omega)
  have k2 : Ok (up2 (up2 g 1 f (g 1 f - n)) 1 t (up2 g 1 f (g 1 f - n) 1 t + n)) := by
    refine k1.upH t ?_
    rw [up2_if]
    split
    · omega
    · omega
  have k3 : ∀ {x : Gd}, Ok x → Ok (up2 x 3 f (max (x 3 f - n) (-9999))) := fun {x} hx => hx.upO f (by have := okO hx f; omega)
  have k4 : ∀ {x : Gd}, Ok x → Ok (up2 x 3 t (min (x 3 t + n) 9999)) := fun {x} hx => hx.upO t (by have := okO hx t; omega)
  exact k4 (k3 k2)
theorem goesG_4 (g : Gd) (f t n c : Int) : goesG g f t n 4 c = g 4 c := rfl
theorem goesG_0 (g : Gd) (f t n c : Int) : goesG g f t n 0 c = g 0 c := rfl
theorem goesG_2 (g : Gd) (f t n c : Int) : goesG g f t n 2 c = g 2 c := rfl
theorem pushG_ok {g : Gd} (h : Ok g) (c : Int) {v : Int} (hv : 0 ≤ v) : Ok (pushG g c v) := h.upH c (by have := okH h c; omega)
theorem addG_ok {g : Gd} (h : Ok g) {k a m : Int} (h0 : g 4 2 < 8) (hk : 0 ≤ k ∧ k ≤ 5) (ha : 0 ≤ a ∧ a ≤ 200) (hm : 0 ≤ m ∧ m ≤ 99) : Ok (addG g k a m) := by
  have := ok2 h
  exact Ok.up2 ((((h.upK _ hk).upH _ ha).upM _ hm).upO _ (by omega)) (by omega)
theorem swapG_ok {g : Gd} (h : Ok g) (a b : Int) : Ok (swapG g a b) := by
  refine ⟨h.1, h.2.1, h.2.2.1, fun c => ?_⟩
  show ((0 : Int) ≤ (if c = b then g 0 a else if c = a then g 0 b else g 0 c) ∧ (if c = b then g 0 a else if c = a then g 0 b else g 0 c) ≤ 5) ∧ ((0 : Int) ≤ (if c = b then g 1 a else if c = a then g 1 b else g 1 c) ∧ (if c = b then g 1 a else if c = a then g 1 b else g 1 c) ≤ 200) ∧ ((0 : Int) ≤ (if c = b then g 2 a else if c = a then g 2 b else g 2 c) ∧ (if c = b then g 2 a else if c = a then g 2 b else g 2 c) ≤ 99) ∧ ((-9999 : Int) ≤ (if c = b then g 3 a else if c = a then g 3 b else g 3 c) ∧ (if c = b then g 3 a else if c = a then g 3 b else g 3 c) ≤ 9999)
  by_cases q : c = b
  · simp only [if_pos q]; exact h.2.2.2 a
  · simp only [if_neg q]
    by_cases q2 : c = a
    · simp only [if_pos q2]; exact h.2.2.2 b
    · simp only [if_neg q2]; exact h.2.2.2 c
theorem likeG_ok {g t : Gd} (h : Ok g) (ht : Ok t) : Ok (likeG g t) := by
  refine ⟨ht.1, ht.2.1, ht.2.2.1, fun c => ?_⟩
  show ((0 : Int) ≤ (if c < t 4 2 then t 0 c else g 0 c) ∧ (if c < t 4 2 then t 0 c else g 0 c) ≤ 5) ∧ ((0 : Int) ≤ (if c < t 4 2 then t 1 c else g 1 c) ∧ (if c < t 4 2 then t 1 c else g 1 c) ≤ 200) ∧ ((0 : Int) ≤ (if c < t 4 2 then t 2 c else g 2 c) ∧ (if c < t 4 2 then t 2 c else g 2 c) ≤ 99) ∧ ((-9999 : Int) ≤ (if c < t 4 2 then t 3 c else g 3 c) ∧ (if c < t 4 2 then t 3 c else g 3 c) ≤ 9999)
  by_cases q : c < t 4 2
  · simp only [if_pos q]; exact ht.2.2.2 c
  · simp only [if_neg q]; exact h.2.2.2 c
theorem payG_ok {g : Gd} (h : Ok g) (c o : Int) (hp : paysG g c ≤ g 2 c) : Ok (payG g c o) := by
  have h1 := paysG_rng g c
  have h2 := okM h c
  have k1 : Ok (up2 g 2 c (g 2 c - paysG g c)) := h.upM c (by omega)
  have h3 := okM k1 o
  exact k1.upM o (by omega)
theorem payG_4 (g : Gd) (c o d : Int) : payG g c o 4 d = g 4 d := rfl
theorem haveG_ok {g : Gd} (h : Ok g) (c : Int) (hw : 0 < wantsG g c) (hp : paysG g c ≤ g 2 c) : Ok (haveG g c) := by
  have h1 := yieldsG_rng h (nextG g c)
  have h2 := mayG_rng h (nextG g c) c (n := min (wantsG g c) (yieldsG g (nextG g c))) (by omega)
  have k1 : Ok (goesG g (nextG g c) c (mayG g (nextG g c) c (min (wantsG g c) (yieldsG g (nextG g c))))) := goesG_ok h _ _ h2.1 h2.2.2.1 h2.2.2.2
  unfold haveG
  try dsimp only
  split
  · exact payG_ok k1 _ _ hp
  · exact k1
theorem haveG_4 (g : Gd) (c d : Int) : haveG g c 4 d = g 4 d := by
  unfold haveG
  try dsimp only
  split <;> rfl
theorem dealG_4 (g : Gd) (c d : Int) : dealG g c 4 d = g 4 d := by
  unfold dealG
  split
  · exact haveG_4 g c d
  · split <;> rfl
theorem dealG_ok {g : Gd} (h : Ok g) (c : Int) : Ok (dealG g c) := by
  unfold dealG
  split
  · rename_i q; exact haveG_ok h c q.1 q.2
  · split
    · have h2 := mayG_rng h c (nextG g c) (n := -(wantsG g c)) (by omega)
      exact goesG_ok h _ _ h2.1 h2.2.2.1 h2.2.2.2
    · exact h
theorem dealsG_4 (g : Gd) (d : Int) : ∀ n : Nat, dealsG g n 4 d = g 4 d
  | 0 => rfl
  | n + 1 => by
    show dealG (dealsG g n) (n : Int) 4 d = g 4 d
    rw [dealG_4, dealsG_4 g d n]
theorem dealsG_ok {g : Gd} (h : Ok g) : ∀ n : Nat, Ok (dealsG g n)
  | 0 => h
  | n + 1 => dealG_ok (dealsG_ok h n) _
theorem levG_4 (g : Gd) (d : Int) : levG g 4 d = g 4 d := by unfold levG; split <;> rfl
theorem mostN_max (f : Int → Int) : ∀ (n : Nat) (c : Int), 0 ≤ c → c < n → f c ≤ f (mostN f n)
  | 0, c, h0, h1 => by omega
  | n + 1, c, h0, h1 => by
    have r := mostN_rng f n
    unfold mostN
    by_cases q : c < n
    · have ih := mostN_max f n c h0 q
      split
      · rename_i z
        rcases z with z | z
        · have := r.2.2 (by omega); omega
        · omega
      · exact ih
    · have e : c = (n : Int) := by omega
      subst e
      split
      · exact Int.le_refl _
      · omega
theorem lowN_min (f : Int → Int) : ∀ (n : Nat) (c : Int), 0 ≤ c → c < n → f (lowN f n) ≤ f c
  | 0, c, h0, h1 => by omega
  | n + 1, c, h0, h1 => by
    have r := lowN_rng f n
    unfold lowN
    by_cases q : c < n
    · have ih := lowN_min f n c h0 q
      split
      · rename_i z
        rcases z with z | z
        · have := r.2.2 (by omega); omega
        · omega
      · exact ih
    · have e : c = (n : Int) := by omega
      subst e
      split
      · exact Int.le_refl _
      · omega
theorem diffG_rng {g : Gd} (h : Ok g) : 0 ≤ diffG g ∧ diffG g ≤ 200 := by
  have h1 := okH h (highG g)
  have h2 := okH h (lowG g)
  have h3 := highG_rng h
  have h5 := ok2 h
  unfold diffG
  split
  · omega
  · have := lowN_min (g 1) (many g) (highG g) (h3.2.2 (by omega)) (by have := h3.2.1; unfold many; omega)
    unfold lowG at *
    omega
theorem levG_ok {g : Gd} (h : Ok g) : Ok (levG g) := by
  unfold levG
  split
  · rename_i q
    have h1 := okH h (highG g)
    have h2 := okH h (lowG g)
    unfold diffG at q
    by_cases z : g 4 2 = 0
    · rw [if_pos z] at q; omega
    · rw [if_neg z] at q
      exact goesG_ok h _ _ (by omega) (by omega) (by omega)
  · exact h
theorem minG_42 (g : Gd) : minG g 4 2 = g 4 2 := by
  unfold minG
  try dsimp only
  show (if dusk g then levG g else dealsG g (many g)) 4 2 = g 4 2
  split
  · exact levG_4 g 2
  · exact dealsG_4 g 2 _
theorem minG_41 (g : Gd) : minG g 4 1 = g 4 1 := by
  unfold minG
  try dsimp only
  show (if dusk g then levG g else dealsG g (many g)) 4 1 = g 4 1
  split
  · exact levG_4 g 1
  · exact dealsG_4 g 1 _
theorem minG_40 (g : Gd) : minG g 4 0 = g 4 0 + 1 := by
  unfold minG
  try dsimp only
  rw [up2_same]
  congr 1
  split
  · exact levG_4 g 0
  · exact dealsG_4 g 0 _
theorem minG_ok {g : Gd} (h : Ok g) (hm : g 4 0 < 1000000) : Ok (minG g) := by
  have k : Ok (if dusk g then levG g else dealsG g (many g)) := by
    split
    · exact levG_ok h
    · exact dealsG_ok h _
  have e : (if dusk g then levG g else dealsG g (many g)) 4 0 = g 4 0 := by
    split
    · exact levG_4 g 0
    · exact dealsG_4 g 0 _
  have := ok0 h
  exact k.up0 (by omega)
theorem minsG_42 (g : Gd) : ∀ n : Nat, minsG g n 4 2 = g 4 2
  | 0 => rfl
  | n + 1 => by
    show minG (minsG g n) 4 2 = g 4 2
    rw [minG_42, minsG_42 g n]
theorem minsG_41 (g : Gd) : ∀ n : Nat, minsG g n 4 1 = g 4 1
  | 0 => rfl
  | n + 1 => by
    show minG (minsG g n) 4 1 = g 4 1
    rw [minG_41, minsG_41 g n]
theorem minsG_40 (g : Gd) : ∀ n : Nat, minsG g n 4 0 = g 4 0 + n
  | 0 => by show g 4 0 = g 4 0 + ((0 : Nat) : Int); omega
  | n + 1 => by
    show minG (minsG g n) 4 0 = g 4 0 + ((n + 1 : Nat) : Int)
    rw [minG_40, minsG_40 g n]
    omega
theorem minsG_ok {g : Gd} (h : Ok g) : ∀ n : Nat, g 4 0 + n ≤ 1000000 → Ok (minsG g n)
  | 0, _ => h
  | n + 1, hm => minG_ok (minsG_ok h n (by omega)) (by rw [minsG_40]; omega)
theorem tn_s {i : Int} (h : 0 ≤ i) : (i + 1).toNat = i.toNat + 1 := by omega
theorem mostN_s (f : Int → Int) {i : Int} (h : 0 ≤ i) : mostN f (i + 1).toNat = if mostN f i.toNat < 0 ∨ f (mostN f i.toNat) < f i then i else mostN f i.toNat := by
  rw [tn_s h]
  show (if mostN f i.toNat < 0 ∨ f (mostN f i.toNat) < f ((i.toNat : Nat) : Int) then ((i.toNat : Nat) : Int) else mostN f i.toNat) = _
  rw [Int.toNat_of_nonneg h]
theorem lowN_s (f : Int → Int) {i : Int} (h : 0 ≤ i) : lowN f (i + 1).toNat = if lowN f i.toNat < 0 ∨ f i < f (lowN f i.toNat) then i else lowN f i.toNat := by
  rw [tn_s h]
  show (if lowN f i.toNat < 0 ∨ f ((i.toNat : Nat) : Int) < f (lowN f i.toNat) then ((i.toNat : Nat) : Int) else lowN f i.toNat) = _
  rw [Int.toNat_of_nonneg h]
theorem sumN_s (f : Int → Int) {i : Int} (h : 0 ≤ i) : sumN f (i + 1).toNat = sumN f i.toNat + f i := by
  rw [tn_s h]
  show sumN f i.toNat + f ((i.toNat : Nat) : Int) = _
  rw [Int.toNat_of_nonneg h]
theorem dustN_s (f : Int → Int) {i : Int} (h : 0 ≤ i) : dustN f (i + 1).toNat = if f i = 0 then dustN f i.toNat ||| (iI 1 <<< (iI i &&& 31)) else dustN f i.toNat := by
  rw [tn_s h]
  show (if f ((i.toNat : Nat) : Int) = 0 then dustN f i.toNat ||| (iI 1 <<< (iI ((i.toNat : Nat) : Int) &&& 31)) else dustN f i.toNat) = _
  rw [Int.toNat_of_nonneg h]
theorem dealsG_s (g : Gd) {i : Int} (h : 0 ≤ i) : dealsG g (i + 1).toNat = dealG (dealsG g i.toNat) i := by
  rw [tn_s h]
  show dealG (dealsG g i.toNat) ((i.toNat : Nat) : Int) = _
  rw [Int.toNat_of_nonneg h]
theorem minsG_s (g : Gd) {i : Int} (h : 0 ≤ i) : minsG g (i + 1).toNat = minG (minsG g i.toNat) := by
  rw [tn_s h]; rfl
theorem like_cpy {g t : Gd} (ht : Ok t) {w : Int} (hw : w ≠ 4) : va_cpy (aG t w) (aG g w) (Int.toNat 0) (Int.toNat 0) (Int.toNat (t 4 2)) = aG (likeG g t) w := by
  have := ok2 ht
  funext i
  unfold va_cpy aG likeG
  rw [if_neg hw]
  by_cases q : (i : Int) < t 4 2
  · rw [if_pos q, if_pos ⟨Nat.zero_le _, by omega⟩]
    congr 2
    omega
  · rw [if_neg q, if_neg (fun z => q (by omega))]
theorem swap_cpy {g : Gd} {a b w : Int} (ha : 0 ≤ a) (hb : 0 ≤ b) (hw : w ≠ 4) : upd (upd (aG g w) (Int.toNat a) (aG g w (Int.toNat b))) (Int.toNat b) (aG g w (Int.toNat a)) = aG (swapG g a b) w := by
  rw [aG_at ha, aG_at hb]
  funext i
  unfold upd aG swapG
  rw [if_neg hw]
  by_cases q : i = Int.toNat b
  · rw [if_pos q, if_pos (by omega)]
  · rw [if_neg q, if_neg (show ¬ ((i : Int) = b) by omega)]
    by_cases q2 : i = Int.toNat a
    · rw [if_pos q2, if_pos (show (i : Int) = a by omega)]
    · rw [if_neg q2, if_neg (show ¬ ((i : Int) = a) by omega)]
end
section
set_option maxHeartbeats 8000000 in
set_option maxRecDepth 100000 in
theorem c_X0_hasRoom (l : Launch) (D : va_G) (cI cJ cB cS : ClassId) (xa : XA) (h hK hH hM hO : Nat) (g : Gd) (ok : Ok g) : Ct l D cI cJ cB cS xa yX0_hasRoom cX0_hasRoom 1 (some .boolean) 0 0 [.ref h] [(h, oG g hK hH hM hO)] (some (.int (bI (g 4 2 < 8)))) [(h, oG g hK hH hM hO)] := by
  have o0 := ok0 ok
  have o1 := ok1 ok
  have o2 := ok2 ok
  refine CtE.of (own := RX0) (lv := [(0, .ref h)]) (by decide) rfl rfl (Nat.le_of_ble_eq_true rfl) ?_
  intro xp xe xs xm xb xt xc
  refine z_aload_n (pc := 0) dX0_hasRoom_0 0 rfl ?_
  refine z_get (pc := 1) (q0 := 0) (v := .int (iI (g 4 2))) fL_X0_16 dX0_hasRoom_1 rfl rfl ?_
  refine z_bipush (pc := 4) dX0_hasRoom_4 (by decide) ?_
  refine z_icmp_ge (pc := 6) (tgt := 13) dX0_hasRoom_6 (by decide) (by omega) (by omega) (fun h6 => ?_) (fun h6 => ?_)
  · skip
    refine z_iconst (pc := 13) dX0_hasRoom_13 ?_
    exact z_zret (pc := 14) (by decide) dX0_hasRoom_14 (congrArg (fun z => some (Value.int z)) (bI_f (by omega))) rfl
  · skip
    refine z_iconst (pc := 9) dX0_hasRoom_9 ?_
    refine z_goto (pc := 10) (tgt := 14) dX0_hasRoom_10 (by decide) ?_
    exact z_zret (pc := 14) (by decide) dX0_hasRoom_14 (congrArg (fun z => some (Value.int z)) (bI_t (by omega))) rfl
set_option maxHeartbeats 8000000 in
set_option maxRecDepth 100000 in
theorem c_X0_minuteOfDay (l : Launch) (D : va_G) (cI cJ cB cS : ClassId) (xa : XA) (h hK hH hM hO : Nat) (g : Gd) (ok : Ok g) : Ct l D cI cJ cB cS xa yX0_minuteOfDay cX0_minuteOfDay 1 (some .int) 0 0 [.ref h] [(h, oG g hK hH hM hO)] (some (.int (iI (g 4 0 % 60)))) [(h, oG g hK hH hM hO)] := by
  have o0 := ok0 ok
  have o1 := ok1 ok
  have o2 := ok2 ok
  refine CtE.of (own := RX0) (lv := [(0, .ref h)]) (by decide) rfl rfl (Nat.le_of_ble_eq_true rfl) ?_
  intro xp xe xs xm xb xt xc
  refine z_aload_n (pc := 0) dX0_minuteOfDay_0 0 rfl ?_
  refine z_get (pc := 1) (q0 := 0) (v := .int (iI (g 4 0))) fL_X0_7 dX0_minuteOfDay_1 rfl rfl ?_
  refine z_bipush (pc := 4) dX0_minuteOfDay_4 (by decide) ?_
  refine z_irem (pc := 6) dX0_minuteOfDay_6 (by omega) ?_
  exact z_iret (pc := 7) dX0_minuteOfDay_7 (congrArg (fun z => some (Value.int (iI z))) (show g 4 0 % 60 = (g 4 0) % 60 from by omega)) rfl
set_option maxHeartbeats 8000000 in
set_option maxRecDepth 100000 in
theorem c_X0_isDusk (l : Launch) (D : va_G) (cI cJ cB cS : ClassId) (xa : XA) (h hK hH hM hO : Nat) (g : Gd) (ok : Ok g) : Ct l D cI cJ cB cS xa yX0_isDusk cX0_isDusk 1 (some .boolean) 1 20 [.ref h] [(h, oG g hK hH hM hO)] (some (.int (bI (dusk g)))) [(h, oG g hK hH hM hO)] := by
  have o0 := ok0 ok
  have o1 := ok1 ok
  have o2 := ok2 ok
  refine CtE.of (own := RX0) (lv := [(0, .ref h)]) (by decide) rfl rfl (Nat.le_of_ble_eq_true rfl) ?_
  intro xp xe xs xm xb xt xc
  refine z_aload_n (pc := 0) dX0_isDusk_0 0 rfl ?_
  refine z_callV (pc := 1) (st := []) (st2 := [.int (iI (g 4 0 % 60))]) (ws2 := [(h, oG g hK hH hM hO)]) (q0 := 0) (c_X0_minuteOfDay l D cI cJ cB cS xa h hK hH hM hO g ok) mV_X0_minuteOfDay kM_X0_51 dX0_isDusk_1 rfl rfl [0] rfl rfl rfl rfl rfl rfl rfl rfl ⟨Nat.le_of_ble_eq_true rfl, Nat.le_of_ble_eq_true rfl, Nat.le_of_ble_eq_true rfl⟩ ?_
  refine z_aload_n (pc := 4) dX0_isDusk_4 0 rfl ?_
  refine z_get (pc := 5) (q0 := 0) (v := .int (iI (g 4 1))) fL_X0_13 dX0_isDusk_5 rfl rfl ?_
  refine z_icmp_lt (pc := 8) (tgt := 15) dX0_isDusk_8 (by decide) (by omega) (by omega) (fun h8 => ?_) (fun h8 => ?_)
  · skip
    refine z_iconst (pc := 15) dX0_isDusk_15 ?_
    exact z_zret (pc := 16) (by decide) dX0_isDusk_16 (congrArg (fun z => some (Value.int z)) (bI_f (by omega))) rfl
  · skip
    refine z_iconst (pc := 11) dX0_isDusk_11 ?_
    refine z_goto (pc := 12) (tgt := 16) dX0_isDusk_12 (by decide) ?_
    exact z_zret (pc := 16) (by decide) dX0_isDusk_16 (congrArg (fun z => some (Value.int z)) (bI_t (by omega))) rfl
set_option maxHeartbeats 8000000 in
set_option maxRecDepth 100000 in
theorem c_X0_isSaturday (l : Launch) (D : va_G) (cI cJ cB cS : ClassId) (xa : XA) (h hK hH hM hO : Nat) (g : Gd) (ok : Ok g) : Ct l D cI cJ cB cS xa yX0_isSaturday cX0_isSaturday 1 (some .boolean) 0 0 [.ref h] [(h, oG g hK hH hM hO)] (some (.int (bI (satur g)))) [(h, oG g hK hH hM hO)] := by
  have o0 := ok0 ok
  have o1 := ok1 ok
  have o2 := ok2 ok
  refine CtE.of (own := RX0) (lv := [(0, .ref h)]) (by decide) rfl rfl (Nat.le_of_ble_eq_true rfl) ?_
  intro xp xe xs xm xb xt xc
  refine z_aload_n (pc := 0) dX0_isSaturday_0 0 rfl ?_
  refine z_get (pc := 1) (q0 := 0) (v := .int (iI (g 4 0))) fL_X0_7 dX0_isSaturday_1 rfl rfl ?_
  refine z_bipush (pc := 4) dX0_isSaturday_4 (by decide) ?_
  refine z_idiv (pc := 6) dX0_isSaturday_6 (by omega) ?_
  refine z_bipush (pc := 7) dX0_isSaturday_7 (by decide) ?_
  refine z_irem (pc := 9) dX0_isSaturday_9 (by omega) ?_
  refine z_iconst (pc := 10) dX0_isSaturday_10 ?_
  refine z_icmp_ne (pc := 11) (tgt := 18) dX0_isSaturday_11 (by decide) (by omega) (by omega) (fun h11 => ?_) (fun h11 => ?_)
  · skip
    refine z_iconst (pc := 18) dX0_isSaturday_18 ?_
    exact z_zret (pc := 19) (by decide) dX0_isSaturday_19 (congrArg (fun z => some (Value.int z)) (bI_f (by omega))) rfl
  · skip
    refine z_iconst (pc := 14) dX0_isSaturday_14 ?_
    refine z_goto (pc := 15) (tgt := 19) dX0_isSaturday_15 (by decide) ?_
    exact z_zret (pc := 19) (by decide) dX0_isSaturday_19 (congrArg (fun z => some (Value.int z)) (bI_t (by omega))) rfl
set_option maxHeartbeats 8000000 in
set_option maxRecDepth 100000 in
theorem c_X0_nextOf (l : Launch) (D : va_G) (cI cJ cB cS : ClassId) (xa : XA) (h hK hH hM hO : Nat) (g : Gd) (c : Int) (ok : Ok g) (hc0 : 0 ≤ c) (hc1 : c < g 4 2) : Ct l D cI cJ cB cS xa yX0_nextOf cX0_nextOf 2 (some .int) 0 0 [.ref h, .int (iI c)] [(h, oG g hK hH hM hO)] (some (.int (iI (nextG g c)))) [(h, oG g hK hH hM hO)] := by
  have o0 := ok0 ok
  have o1 := ok1 ok
  have o2 := ok2 ok
  refine CtE.of (own := RX0) (lv := [(0, .ref h), (1, .int (iI c))]) (by decide) rfl rfl (Nat.le_of_ble_eq_true rfl) ?_
  intro xp xe xs xm xb xt xc
  refine z_iload_n (pc := 0) dX0_nextOf_0 1 rfl ?_
  refine z_iconst (pc := 1) dX0_nextOf_1 ?_
  refine z_iadd (pc := 2) dX0_nextOf_2 ?_
  refine z_aload_n (pc := 3) dX0_nextOf_3 0 rfl ?_
  refine z_get (pc := 4) (q0 := 0) (v := .int (iI (g 4 2))) fL_X0_16 dX0_nextOf_4 rfl rfl ?_
  refine z_icmp_ge (pc := 7) (tgt := 16) dX0_nextOf_7 (by decide) (by omega) (by omega) (fun h7 => ?_) (fun h7 => ?_)
  · skip
    refine z_iconst (pc := 16) dX0_nextOf_16 ?_
    exact z_iret (pc := 17) dX0_nextOf_17 (congrArg (fun z => some (Value.int (iI z))) (show nextG g c = 0 from by unfold nextG; split <;> omega)) rfl
  · skip
    refine z_iload_n (pc := 10) dX0_nextOf_10 1 rfl ?_
    refine z_iconst (pc := 11) dX0_nextOf_11 ?_
    refine z_iadd (pc := 12) dX0_nextOf_12 ?_
    refine z_goto (pc := 13) (tgt := 17) dX0_nextOf_13 (by decide) ?_
    exact z_iret (pc := 17) dX0_nextOf_17 (congrArg (fun z => some (Value.int (iI z))) (show nextG g c = c + 1 from by unfold nextG; split <;> omega)) rfl
set_option maxHeartbeats 8000000 in
set_option maxRecDepth 100000 in
theorem c_X0_paysOf (l : Launch) (D : va_G) (cI cJ cB cS : ClassId) (xa : XA) (h hK hH hM hO : Nat) (g : Gd) (c : Int) (ok : Ok g) (hc0 : 0 ≤ c) (hc1 : c < g 4 2) : Ct l D cI cJ cB cS xa yX0_paysOf cX0_paysOf 2 (some .int) 0 0 [.ref h, .int (iI c)] [(h, oG g hK hH hM hO), (hK, .inl (cI, 8, .inl (aG g 0)))] (some (.int (iI (paysG g c)))) [(h, oG g hK hH hM hO), (hK, .inl (cI, 8, .inl (aG g 0)))] := by
  have o0 := ok0 ok
  have o1 := ok1 ok
  have o2 := ok2 ok
  refine CtE.of (own := RX0) (lv := [(0, .ref h), (1, .int (iI c))]) (by decide) rfl rfl (Nat.le_of_ble_eq_true rfl) ?_
  intro xp xe xs xm xb xt xc
  refine z_aload_n (pc := 0) dX0_paysOf_0 0 rfl ?_
  refine z_get (pc := 1) (q0 := 0) (v := .ref hK) fL_X0_19 dX0_paysOf_1 rfl rfl ?_
  refine z_iload_n (pc := 4) dX0_paysOf_4 1 rfl ?_
  refine z_iald (pc := 5) (q0 := 1) (v := (iI (g 0 c))) dX0_paysOf_5 rfl (by omega) (by decide) (aG_at (by omega)) ?_
  have b1 := okK ok c
  refine z_iconst (pc := 6) dX0_paysOf_6 ?_
  refine z_icmp_ne (pc := 7) (tgt := 14) dX0_paysOf_7 (by decide) (by omega) (by omega) (fun h7 => ?_) (fun h7 => ?_)
  · skip
    refine z_iconst (pc := 14) dX0_paysOf_14 ?_
    exact z_iret (pc := 15) dX0_paysOf_15 (congrArg (fun z => some (Value.int (iI z))) (show paysG g c = 0 from by unfold paysG; split <;> omega)) rfl
  · skip
    refine z_iconst (pc := 10) dX0_paysOf_10 ?_
    refine z_goto (pc := 11) (tgt := 15) dX0_paysOf_11 (by decide) ?_
    exact z_iret (pc := 15) dX0_paysOf_15 (congrArg (fun z => some (Value.int (iI z))) (show paysG g c = 1 from by unfold paysG; split <;> omega)) rfl
set_option maxHeartbeats 8000000 in
set_option maxRecDepth 100000 in
theorem c_X0_shove (l : Launch) (D : va_G) (cI cJ cB cS : ClassId) (xa : XA) (h hK hH hM hO : Nat) (g : Gd) (c v : Int) (ok : Ok g) (hc0 : 0 ≤ c) (hc1 : c < g 4 2) (hv : 0 ≤ v ∧ v ≤ 99) : Ct l D cI cJ cB cS xa yX0_shove cX0_shove 3 none 1 21 [.ref h, .int (iI c), .int (iI v)] [(h, oG g hK hH hM hO), (hK, .inl (cI, 8, .inl (aG g 0))), (hH, .inl (cI, 8, .inl (aG g 1))), (hM, .inl (cI, 8, .inl (aG g 2))), (hO, .inl (cI, 8, .inl (aG g 3)))] none [(h, oG (pushG g c v) hK hH hM hO), (hK, .inl (cI, 8, .inl (aG (pushG g c v) 0))), (hH, .inl (cI, 8, .inl (aG (pushG g c v) 1))), (hM, .inl (cI, 8, .inl (aG (pushG g c v) 2))), (hO, .inl (cI, 8, .inl (aG (pushG g c v) 3)))] := by
  have o0 := ok0 ok
  have o1 := ok1 ok
  have o2 := ok2 ok
  refine CtE.of (own := RX0) (lv := [(0, .ref h), (1, .int (iI c)), (2, .int (iI v))]) (by decide) rfl rfl (Nat.le_of_ble_eq_true rfl) ?_
  intro xp xe xs xm xb xt xc
  refine z_aload_n (pc := 0) dX0_shove_0 0 rfl ?_
  refine z_get (pc := 1) (q0 := 0) (v := .ref hH) fL_X0_23 dX0_shove_1 rfl rfl ?_
  refine z_iload_n (pc := 4) dX0_shove_4 1 rfl ?_
  refine z_aload_n (pc := 5) dX0_shove_5 0 rfl ?_
  refine z_get (pc := 6) (q0 := 0) (v := .ref hH) fL_X0_23 dX0_shove_6 rfl rfl ?_
  refine z_iload_n (pc := 9) dX0_shove_9 1 rfl ?_
  refine z_iald (pc := 10) (q0 := 2) (v := (iI (g 1 c))) dX0_shove_10 rfl (by omega) (by decide) (aG_at (by omega)) ?_
  have b1 := okH ok c
  refine z_iload_n (pc := 11) dX0_shove_11 2 rfl ?_
  refine z_iadd (pc := 12) dX0_shove_12 ?_
  refine z_sipush (pc := 13) dX0_shove_13 (by decide) ?_
  refine z_min (pc := 16) mmin_X0_41 dX0_shove_16 (by omega) (by omega) ⟨Nat.le_of_ble_eq_true rfl, Nat.le_of_ble_eq_true rfl⟩ ?_
  refine z_iast (pc := 19) (q0 := 2) (ws2 := [(h, oG (up2 g 1 c (min ((g 1 c) + v) 200)) hK hH hM hO), (hK, .inl (cI, 8, .inl (aG (up2 g 1 c (min ((g 1 c) + v) 200)) 0))), (hH, .inl (cI, 8, .inl (aG (up2 g 1 c (min ((g 1 c) + v) 200)) 1))), (hM, .inl (cI, 8, .inl (aG (up2 g 1 c (min ((g 1 c) + v) 200)) 2))), (hO, .inl (cI, 8, .inl (aG (up2 g 1 c (min ((g 1 c) + v) 200)) 3)))]) dX0_shove_19 rfl (by omega) (by decide) (by rw [aG_up (by omega)]; rfl) ?_
  exact z_vret (pc := 20) dX0_shove_20 rfl rfl
set_option maxHeartbeats 8000000 in
set_option maxRecDepth 100000 in
theorem c_X0_becomeLike (l : Launch) (D : va_G) (cI cJ cB cS : ClassId) (xa : XA) (h hK hH hM hO : Nat) (g : Gd) (t tK tH tM tO : Nat) (gt : Gd) (ok : Ok g) (okt : Ok gt) : Ct l D cI cJ cB cS xa yX0_becomeLike cX0_becomeLike 2 none 1 26 [.ref h, .ref t] [(h, oG g hK hH hM hO), (hK, .inl (cI, 8, .inl (aG g 0))), (hH, .inl (cI, 8, .inl (aG g 1))), (hM, .inl (cI, 8, .inl (aG g 2))), (hO, .inl (cI, 8, .inl (aG g 3))), (t, oG gt tK tH tM tO), (tK, .inl (cI, 8, .inl (aG gt 0))), (tH, .inl (cI, 8, .inl (aG gt 1))), (tM, .inl (cI, 8, .inl (aG gt 2))), (tO, .inl (cI, 8, .inl (aG gt 3)))] none [(h, oG (likeG g gt) hK hH hM hO), (hK, .inl (cI, 8, .inl (aG (likeG g gt) 0))), (hH, .inl (cI, 8, .inl (aG (likeG g gt) 1))), (hM, .inl (cI, 8, .inl (aG (likeG g gt) 2))), (hO, .inl (cI, 8, .inl (aG (likeG g gt) 3))), (t, oG gt tK tH tM tO), (tK, .inl (cI, 8, .inl (aG gt 0))), (tH, .inl (cI, 8, .inl (aG gt 1))), (tM, .inl (cI, 8, .inl (aG gt 2))), (tO, .inl (cI, 8, .inl (aG gt 3)))] := by
  have o0 := ok0 ok
  have o2 := ok2 okt
  refine CtE.of (own := RX0) (lv := [(0, .ref h), (1, .ref t)]) (by decide) rfl rfl (Nat.le_of_ble_eq_true rfl) ?_
  intro xp xe xs xm xb xt xc
  refine z_aload_n (pc := 0) dX0_becomeLike_0 0 rfl ?_
  refine z_aload_n (pc := 1) dX0_becomeLike_1 1 rfl ?_
  refine z_get (pc := 2) (q0 := 5) (v := .int (iI (gt 4 0))) fL_X0_7 dX0_becomeLike_2 rfl rfl ?_
  refine z_put (pc := 5) (q0 := 0) (ws2 := [(h, oG (up2 g 4 0 (gt 4 0)) hK hH hM hO), (hK, .inl (cI, 8, .inl (aG (up2 g 4 0 (gt 4 0)) 0))), (hH, .inl (cI, 8, .inl (aG (up2 g 4 0 (gt 4 0)) 1))), (hM, .inl (cI, 8, .inl (aG (up2 g 4 0 (gt 4 0)) 2))), (hO, .inl (cI, 8, .inl (aG (up2 g 4 0 (gt 4 0)) 3))), (t, oG gt tK tH tM tO), (tK, .inl (cI, 8, .inl (aG gt 0))), (tH, .inl (cI, 8, .inl (aG gt 1))), (tM, .inl (cI, 8, .inl (aG gt 2))), (tO, .inl (cI, 8, .inl (aG gt 3)))]) fP_X0_7 dX0_becomeLike_5 rfl rfl rfl (Nat.le_of_ble_eq_true rfl) rfl ?_
  refine z_aload_n (pc := 8) dX0_becomeLike_8 0 rfl ?_
  refine z_aload_n (pc := 9) dX0_becomeLike_9 1 rfl ?_
  refine z_get (pc := 10) (q0 := 5) (v := .int (iI (gt 4 1))) fL_X0_13 dX0_becomeLike_10 rfl rfl ?_
  refine z_put (pc := 13) (q0 := 0) (ws2 := [(h, oG (up2 (up2 g 4 0 (gt 4 0)) 4 1 (gt 4 1)) hK hH hM hO), (hK, .inl (cI, 8, .inl (aG (up2 (up2 g 4 0 (gt 4 0)) 4 1 (gt 4 1)) 0))), (hH, .inl (cI, 8, .inl (aG (up2 (up2 g 4 0 (gt 4 0)) 4 1 (gt 4 1)) 1))), (hM, .inl (cI, 8, .inl (aG (up2 (up2 g 4 0 (gt 4 0)) 4 1 (gt 4 1)) 2))), (hO, .inl (cI, 8, .inl (aG (up2 (up2 g 4 0 (gt 4 0)) 4 1 (gt 4 1)) 3))), (t, oG gt tK tH tM tO), (tK, .inl (cI, 8, .inl (aG gt 0))), (tH, .inl (cI, 8, .inl (aG gt 1))), (tM, .inl (cI, 8, .inl (aG gt 2))), (tO, .inl (cI, 8, .inl (aG gt 3)))]) fP_X0_13 dX0_becomeLike_13 rfl rfl rfl (Nat.le_of_ble_eq_true rfl) rfl ?_
  refine z_aload_n (pc := 16) dX0_becomeLike_16 0 rfl ?_
  refine z_aload_n (pc := 17) dX0_becomeLike_17 1 rfl ?_
  refine z_get (pc := 18) (q0 := 5) (v := .int (iI (gt 4 2))) fL_X0_16 dX0_becomeLike_18 rfl rfl ?_
  refine z_put (pc := 21) (q0 := 0) (ws2 := [(h, oG (up2 (up2 (up2 g 4 0 (gt 4 0)) 4 1 (gt 4 1)) 4 2 (gt 4 2)) hK hH hM hO), (hK, .inl (cI, 8, .inl (aG (up2 (up2 (up2 g 4 0 (gt 4 0)) 4 1 (gt 4 1)) 4 2 (gt 4 2)) 0))), (hH, .inl (cI, 8, .inl (aG (up2 (up2 (up2 g 4 0 (gt 4 0)) 4 1 (gt 4 1)) 4 2 (gt 4 2)) 1))), (hM, .inl (cI, 8, .inl (aG (up2 (up2 (up2 g 4 0 (gt 4 0)) 4 1 (gt 4 1)) 4 2 (gt 4 2)) 2))), (hO, .inl (cI, 8, .inl (aG (up2 (up2 (up2 g 4 0 (gt 4 0)) 4 1 (gt 4 1)) 4 2 (gt 4 2)) 3))), (t, oG gt tK tH tM tO), (tK, .inl (cI, 8, .inl (aG gt 0))), (tH, .inl (cI, 8, .inl (aG gt 1))), (tM, .inl (cI, 8, .inl (aG gt 2))), (tO, .inl (cI, 8, .inl (aG gt 3)))]) fP_X0_16 dX0_becomeLike_21 rfl rfl rfl (Nat.le_of_ble_eq_true rfl) rfl ?_
  refine z_aload_n (pc := 24) dX0_becomeLike_24 1 rfl ?_
  refine z_get (pc := 25) (q0 := 5) (v := .ref tK) fL_X0_19 dX0_becomeLike_25 rfl rfl ?_
  refine z_iconst (pc := 28) dX0_becomeLike_28 ?_
  refine z_aload_n (pc := 29) dX0_becomeLike_29 0 rfl ?_
  refine z_get (pc := 30) (q0 := 0) (v := .ref hK) fL_X0_19 dX0_becomeLike_30 rfl rfl ?_
  refine z_iconst (pc := 33) dX0_becomeLike_33 ?_
  refine z_aload_n (pc := 34) dX0_becomeLike_34 0 rfl ?_
  refine z_get (pc := 35) (q0 := 0) (v := .int (iI (gt 4 2))) fL_X0_16 dX0_becomeLike_35 rfl rfl ?_
  refine z_copyi (pc := 38) (q0 := 6) (q1 := 1) (ws2 := [(h, oG (up2 (up2 (up2 g 4 0 (gt 4 0)) 4 1 (gt 4 1)) 4 2 (gt 4 2)) hK hH hM hO), (hK, .inl (cI, 8, .inl (va_cpy (aG gt 0) (aG (up2 (up2 (up2 g 4 0 (gt 4 0)) 4 1 (gt 4 1)) 4 2 (gt 4 2)) 0) (Int.toNat 0) (Int.toNat 0) (Int.toNat (gt 4 2))))), (hH, .inl (cI, 8, .inl (aG (up2 (up2 (up2 g 4 0 (gt 4 0)) 4 1 (gt 4 1)) 4 2 (gt 4 2)) 1))), (hM, .inl (cI, 8, .inl (aG (up2 (up2 (up2 g 4 0 (gt 4 0)) 4 1 (gt 4 1)) 4 2 (gt 4 2)) 2))), (hO, .inl (cI, 8, .inl (aG (up2 (up2 (up2 g 4 0 (gt 4 0)) 4 1 (gt 4 1)) 4 2 (gt 4 2)) 3))), (t, oG gt tK tH tM tO), (tK, .inl (cI, 8, .inl (aG gt 0))), (tH, .inl (cI, 8, .inl (aG gt 1))), (tM, .inl (cI, 8, .inl (aG gt 2))), (tO, .inl (cI, 8, .inl (aG gt 3)))]) mcpy_X0_32 dX0_becomeLike_38 rfl rfl (by omega) ⟨Nat.le_of_ble_eq_true rfl, Nat.le_of_ble_eq_true rfl⟩ rfl ?_
  refine z_aload_n (pc := 41) dX0_becomeLike_41 1 rfl ?_
  refine z_get (pc := 42) (q0 := 5) (v := .ref tH) fL_X0_23 dX0_becomeLike_42 rfl rfl ?_
  refine z_iconst (pc := 45) dX0_becomeLike_45 ?_
  refine z_aload_n (pc := 46) dX0_becomeLike_46 0 rfl ?_
  refine z_get (pc := 47) (q0 := 0) (v := .ref hH) fL_X0_23 dX0_becomeLike_47 rfl rfl ?_
  refine z_iconst (pc := 50) dX0_becomeLike_50 ?_
  refine z_aload_n (pc := 51) dX0_becomeLike_51 0 rfl ?_
  refine z_get (pc := 52) (q0 := 0) (v := .int (iI (gt 4 2))) fL_X0_16 dX0_becomeLike_52 rfl rfl ?_
  refine z_copyi (pc := 55) (q0 := 7) (q1 := 2) (ws2 := [(h, oG (up2 (up2 (up2 g 4 0 (gt 4 0)) 4 1 (gt 4 1)) 4 2 (gt 4 2)) hK hH hM hO), (hK, .inl (cI, 8, .inl (va_cpy (aG gt 0) (aG (up2 (up2 (up2 g 4 0 (gt 4 0)) 4 1 (gt 4 1)) 4 2 (gt 4 2)) 0) (Int.toNat 0) (Int.toNat 0) (Int.toNat (gt 4 2))))), (hH, .inl (cI, 8, .inl (va_cpy (aG gt 1) (aG (up2 (up2 (up2 g 4 0 (gt 4 0)) 4 1 (gt 4 1)) 4 2 (gt 4 2)) 1) (Int.toNat 0) (Int.toNat 0) (Int.toNat (gt 4 2))))), (hM, .inl (cI, 8, .inl (aG (up2 (up2 (up2 g 4 0 (gt 4 0)) 4 1 (gt 4 1)) 4 2 (gt 4 2)) 2))), (hO, .inl (cI, 8, .inl (aG (up2 (up2 (up2 g 4 0 (gt 4 0)) 4 1 (gt 4 1)) 4 2 (gt 4 2)) 3))), (t, oG gt tK tH tM tO), (tK, .inl (cI, 8, .inl (aG gt 0))), (tH, .inl (cI, 8, .inl (aG gt 1))), (tM, .inl (cI, 8, .inl (aG gt 2))), (tO, .inl (cI, 8, .inl (aG gt 3)))]) mcpy_X0_32 dX0_becomeLike_55 rfl rfl (by omega) ⟨Nat.le_of_ble_eq_true rfl, Nat.le_of_ble_eq_true rfl⟩ rfl ?_
  refine z_aload_n (pc := 58) dX0_becomeLike_58 1 rfl ?_
  refine z_get (pc := 59) (q0 := 5) (v := .ref tM) fL_X0_26 dX0_becomeLike_59 rfl rfl ?_
  refine z_iconst (pc := 62) dX0_becomeLike_62 ?_
  refine z_aload_n (pc := 63) dX0_becomeLike_63 0 rfl ?_
  refine z_get (pc := 64) (q0 := 0) (v := .ref hM) fL_X0_26 dX0_becomeLike_64 rfl rfl ?_
  refine z_iconst (pc := 67) dX0_becomeLike_67 ?_
  refine z_aload_n (pc := 68) dX0_becomeLike_68 0 rfl ?_
  refine z_get (pc := 69) (q0 := 0) (v := .int (iI (gt 4 2))) fL_X0_16 dX0_becomeLike_69 rfl rfl ?_
  refine z_copyi (pc := 72) (q0 := 8) (q1 := 3) (ws2 := [(h, oG (up2 (up2 (up2 g 4 0 (gt 4 0)) 4 1 (gt 4 1)) 4 2 (gt 4 2)) hK hH hM hO), (hK, .inl (cI, 8, .inl (va_cpy (aG gt 0) (aG (up2 (up2 (up2 g 4 0 (gt 4 0)) 4 1 (gt 4 1)) 4 2 (gt 4 2)) 0) (Int.toNat 0) (Int.toNat 0) (Int.toNat (gt 4 2))))), (hH, .inl (cI, 8, .inl (va_cpy (aG gt 1) (aG (up2 (up2 (up2 g 4 0 (gt 4 0)) 4 1 (gt 4 1)) 4 2 (gt 4 2)) 1) (Int.toNat 0) (Int.toNat 0) (Int.toNat (gt 4 2))))), (hM, .inl (cI, 8, .inl (va_cpy (aG gt 2) (aG (up2 (up2 (up2 g 4 0 (gt 4 0)) 4 1 (gt 4 1)) 4 2 (gt 4 2)) 2) (Int.toNat 0) (Int.toNat 0) (Int.toNat (gt 4 2))))), (hO, .inl (cI, 8, .inl (aG (up2 (up2 (up2 g 4 0 (gt 4 0)) 4 1 (gt 4 1)) 4 2 (gt 4 2)) 3))), (t, oG gt tK tH tM tO), (tK, .inl (cI, 8, .inl (aG gt 0))), (tH, .inl (cI, 8, .inl (aG gt 1))), (tM, .inl (cI, 8, .inl (aG gt 2))), (tO, .inl (cI, 8, .inl (aG gt 3)))]) mcpy_X0_32 dX0_becomeLike_72 rfl rfl (by omega) ⟨Nat.le_of_ble_eq_true rfl, Nat.le_of_ble_eq_true rfl⟩ rfl ?_
  refine z_aload_n (pc := 75) dX0_becomeLike_75 1 rfl ?_
  refine z_get (pc := 76) (q0 := 5) (v := .ref tO) fL_X0_29 dX0_becomeLike_76 rfl rfl ?_
  refine z_iconst (pc := 79) dX0_becomeLike_79 ?_
  refine z_aload_n (pc := 80) dX0_becomeLike_80 0 rfl ?_
  refine z_get (pc := 81) (q0 := 0) (v := .ref hO) fL_X0_29 dX0_becomeLike_81 rfl rfl ?_
  refine z_iconst (pc := 84) dX0_becomeLike_84 ?_
  refine z_aload_n (pc := 85) dX0_becomeLike_85 0 rfl ?_
  refine z_get (pc := 86) (q0 := 0) (v := .int (iI (gt 4 2))) fL_X0_16 dX0_becomeLike_86 rfl rfl ?_
  refine z_copyi (pc := 89) (q0 := 9) (q1 := 4) (ws2 := [(h, oG (up2 (up2 (up2 g 4 0 (gt 4 0)) 4 1 (gt 4 1)) 4 2 (gt 4 2)) hK hH hM hO), (hK, .inl (cI, 8, .inl (va_cpy (aG gt 0) (aG (up2 (up2 (up2 g 4 0 (gt 4 0)) 4 1 (gt 4 1)) 4 2 (gt 4 2)) 0) (Int.toNat 0) (Int.toNat 0) (Int.toNat (gt 4 2))))), (hH, .inl (cI, 8, .inl (va_cpy (aG gt 1) (aG (up2 (up2 (up2 g 4 0 (gt 4 0)) 4 1 (gt 4 1)) 4 2 (gt 4 2)) 1) (Int.toNat 0) (Int.toNat 0) (Int.toNat (gt 4 2))))), (hM, .inl (cI, 8, .inl (va_cpy (aG gt 2) (aG (up2 (up2 (up2 g 4 0 (gt 4 0)) 4 1 (gt 4 1)) 4 2 (gt 4 2)) 2) (Int.toNat 0) (Int.toNat 0) (Int.toNat (gt 4 2))))), (hO, .inl (cI, 8, .inl (va_cpy (aG gt 3) (aG (up2 (up2 (up2 g 4 0 (gt 4 0)) 4 1 (gt 4 1)) 4 2 (gt 4 2)) 3) (Int.toNat 0) (Int.toNat 0) (Int.toNat (gt 4 2))))), (t, oG gt tK tH tM tO), (tK, .inl (cI, 8, .inl (aG gt 0))), (tH, .inl (cI, 8, .inl (aG gt 1))), (tM, .inl (cI, 8, .inl (aG gt 2))), (tO, .inl (cI, 8, .inl (aG gt 3)))]) mcpy_X0_32 dX0_becomeLike_89 rfl rfl (by omega) ⟨Nat.le_of_ble_eq_true rfl, Nat.le_of_ble_eq_true rfl⟩ rfl ?_
  exact z_vret (pc := 92) dX0_becomeLike_92 rfl (by rw [← like_cpy (g := g) okt (w := 0) (by decide), ← like_cpy (g := g) okt (w := 1) (by decide), ← like_cpy (g := g) okt (w := 2) (by decide), ← like_cpy (g := g) okt (w := 3) (by decide)]; rfl)
set_option maxHeartbeats 8000000 in
set_option maxRecDepth 100000 in
theorem c_X0_exchangeIn (l : Launch) (D : va_G) (cI cJ cB cS : ClassId) (xa : XA) (r : Nat) (f : Nat → Int32) (a b : Int) (ha : 0 ≤ a ∧ a < 8) (hb : 0 ≤ b ∧ b < 8) : Ct l D cI cJ cB cS xa yX0_exchangeIn cX0_exchangeIn 4 none 0 0 [.ref r, .int (iI a), .int (iI b)] [(r, .inl (cI, 8, .inl f))] none [(r, .inl (cI, 8, .inl (upd (upd f (Int.toNat a) (f (Int.toNat b))) (Int.toNat b) (f (Int.toNat a)))))] := by
  refine CtE.of (own := RX0) (lv := [(0, .ref r), (1, .int (iI a)), (2, .int (iI b))]) (by decide) rfl rfl (Nat.le_of_ble_eq_true rfl) ?_
  intro xp xe xs xm xb xt xc
  refine z_aload_n (pc := 0) dX0_exchangeIn_0 0 rfl ?_
  refine z_iload_n (pc := 1) dX0_exchangeIn_1 1 rfl ?_
  refine z_iald (pc := 2) (q0 := 0) (v := (f (Int.toNat a))) dX0_exchangeIn_2 rfl (by omega) (by decide) rfl ?_
  refine z_istore_n (pc := 3) (lv2 := [(3, .int (f (Int.toNat a))), (0, .ref r), (1, .int (iI a)), (2, .int (iI b))]) dX0_exchangeIn_3 rfl (by decide) rfl ?_
  refine z_aload_n (pc := 4) dX0_exchangeIn_4 1 rfl ?_
  refine z_iload_n (pc := 5) dX0_exchangeIn_5 2 rfl ?_
  refine z_aload_n (pc := 6) dX0_exchangeIn_6 1 rfl ?_
  refine z_iload_n (pc := 7) dX0_exchangeIn_7 3 rfl ?_
  refine z_iald (pc := 8) (q0 := 0) (v := (f (Int.toNat b))) dX0_exchangeIn_8 rfl (by omega) (by decide) rfl ?_
  refine z_iast (pc := 9) (q0 := 0) (ws2 := [(r, .inl (cI, 8, .inl (upd f (Int.toNat a) (f (Int.toNat b)))))]) dX0_exchangeIn_9 rfl (by omega) (by decide) rfl ?_
  refine z_aload_n (pc := 10) dX0_exchangeIn_10 1 rfl ?_
  refine z_iload_n (pc := 11) dX0_exchangeIn_11 3 rfl ?_
  refine z_iload_n (pc := 12) dX0_exchangeIn_12 0 rfl ?_
  refine z_iast (pc := 13) (q0 := 0) (ws2 := [(r, .inl (cI, 8, .inl (upd (upd f (Int.toNat a) (f (Int.toNat b))) (Int.toNat b) (f (Int.toNat a)))))]) dX0_exchangeIn_13 rfl (by omega) (by decide) rfl ?_
  exact z_vret (pc := 14) dX0_exchangeIn_14 rfl rfl
set_option maxHeartbeats 8000000 in
set_option maxRecDepth 100000 in
theorem c_X0_exchange (l : Launch) (D : va_G) (cI cJ cB cS : ClassId) (xa : XA) (h hK hH hM hO : Nat) (g : Gd) (a b : Int) (ok : Ok g) (ha : 0 ≤ a ∧ a < g 4 2) (hb : 0 ≤ b ∧ b < g 4 2) : Ct l D cI cJ cB cS xa yX0_exchange cX0_exchange 3 none 1 23 [.ref h, .int (iI a), .int (iI b)] [(h, oG g hK hH hM hO), (hK, .inl (cI, 8, .inl (aG g 0))), (hH, .inl (cI, 8, .inl (aG g 1))), (hM, .inl (cI, 8, .inl (aG g 2))), (hO, .inl (cI, 8, .inl (aG g 3)))] none [(h, oG (swapG g a b) hK hH hM hO), (hK, .inl (cI, 8, .inl (aG (swapG g a b) 0))), (hH, .inl (cI, 8, .inl (aG (swapG g a b) 1))), (hM, .inl (cI, 8, .inl (aG (swapG g a b) 2))), (hO, .inl (cI, 8, .inl (aG (swapG g a b) 3)))] := by
  have o0 := ok0 ok
  have o1 := ok1 ok
  have o2 := ok2 ok
  refine CtE.of (own := RX0) (lv := [(0, .ref h), (1, .int (iI a)), (2, .int (iI b))]) (by decide) rfl rfl (Nat.le_of_ble_eq_true rfl) ?_
  intro xp xe xs xm xb xt xc
  refine z_aload_n (pc := 0) dX0_exchange_0 0 rfl ?_
  refine z_get (pc := 1) (q0 := 0) (v := .ref hK) fL_X0_19 dX0_exchange_1 rfl rfl ?_
  refine z_iload_n (pc := 4) dX0_exchange_4 1 rfl ?_
  refine z_iload_n (pc := 5) dX0_exchange_5 2 rfl ?_
  refine z_callS (pc := 6) (st := []) (st2 := []) (ws2 := [(h, oG g hK hH hM hO), (hK, .inl (cI, 8, .inl (upd (upd (aG g 0) (Int.toNat a) ((aG g 0) (Int.toNat b))) (Int.toNat b) ((aG g 0) (Int.toNat a))))), (hH, .inl (cI, 8, .inl (aG g 1))), (hM, .inl (cI, 8, .inl (aG g 2))), (hO, .inl (cI, 8, .inl (aG g 3)))]) (c_X0_exchangeIn l D cI cJ cB cS xa hK (aG g 0) a b (by omega) (by omega)) mS_X0_exchangeIn kM_X0_47 dX0_exchange_6 [1] rfl rfl rfl rfl rfl rfl rfl rfl ⟨Nat.le_of_ble_eq_true rfl, Nat.le_of_ble_eq_true rfl, Nat.le_of_ble_eq_true rfl⟩ ?_
  refine z_aload_n (pc := 9) dX0_exchange_9 0 rfl ?_
  refine z_get (pc := 10) (q0 := 0) (v := .ref hH) fL_X0_23 dX0_exchange_10 rfl rfl ?_
  refine z_iload_n (pc := 13) dX0_exchange_13 1 rfl ?_
  refine z_iload_n (pc := 14) dX0_exchange_14 2 rfl ?_
  refine z_callS (pc := 15) (st := []) (st2 := []) (ws2 := [(h, oG g hK hH hM hO), (hK, .inl (cI, 8, .inl (upd (upd (aG g 0) (Int.toNat a) ((aG g 0) (Int.toNat b))) (Int.toNat b) ((aG g 0) (Int.toNat a))))), (hH, .inl (cI, 8, .inl (upd (upd (aG g 1) (Int.toNat a) ((aG g 1) (Int.toNat b))) (Int.toNat b) ((aG g 1) (Int.toNat a))))), (hM, .inl (cI, 8, .inl (aG g 2))), (hO, .inl (cI, 8, .inl (aG g 3)))]) (c_X0_exchangeIn l D cI cJ cB cS xa hH (aG g 1) a b (by omega) (by omega)) mS_X0_exchangeIn kM_X0_47 dX0_exchange_15 [2] rfl rfl rfl rfl rfl rfl rfl rfl ⟨Nat.le_of_ble_eq_true rfl, Nat.le_of_ble_eq_true rfl, Nat.le_of_ble_eq_true rfl⟩ ?_
  refine z_aload_n (pc := 18) dX0_exchange_18 0 rfl ?_
  refine z_get (pc := 19) (q0 := 0) (v := .ref hM) fL_X0_26 dX0_exchange_19 rfl rfl ?_
  refine z_iload_n (pc := 22) dX0_exchange_22 1 rfl ?_
  refine z_iload_n (pc := 23) dX0_exchange_23 2 rfl ?_
  refine z_callS (pc := 24) (st := []) (st2 := []) (ws2 := [(h, oG g hK hH hM hO), (hK, .inl (cI, 8, .inl (upd (upd (aG g 0) (Int.toNat a) ((aG g 0) (Int.toNat b))) (Int.toNat b) ((aG g 0) (Int.toNat a))))), (hH, .inl (cI, 8, .inl (upd (upd (aG g 1) (Int.toNat a) ((aG g 1) (Int.toNat b))) (Int.toNat b) ((aG g 1) (Int.toNat a))))), (hM, .inl (cI, 8, .inl (upd (upd (aG g 2) (Int.toNat a) ((aG g 2) (Int.toNat b))) (Int.toNat b) ((aG g 2) (Int.toNat a))))), (hO, .inl (cI, 8, .inl (aG g 3)))]) (c_X0_exchangeIn l D cI cJ cB cS xa hM (aG g 2) a b (by omega) (by omega)) mS_X0_exchangeIn kM_X0_47 dX0_exchange_24 [3] rfl rfl rfl rfl rfl rfl rfl rfl ⟨Nat.le_of_ble_eq_true rfl, Nat.le_of_ble_eq_true rfl, Nat.le_of_ble_eq_true rfl⟩ ?_
  refine z_aload_n (pc := 27) dX0_exchange_27 0 rfl ?_
  refine z_get (pc := 28) (q0 := 0) (v := .ref hO) fL_X0_29 dX0_exchange_28 rfl rfl ?_
  refine z_iload_n (pc := 31) dX0_exchange_31 1 rfl ?_
  refine z_iload_n (pc := 32) dX0_exchange_32 2 rfl ?_
  refine z_callS (pc := 33) (st := []) (st2 := []) (ws2 := [(h, oG g hK hH hM hO), (hK, .inl (cI, 8, .inl (upd (upd (aG g 0) (Int.toNat a) ((aG g 0) (Int.toNat b))) (Int.toNat b) ((aG g 0) (Int.toNat a))))), (hH, .inl (cI, 8, .inl (upd (upd (aG g 1) (Int.toNat a) ((aG g 1) (Int.toNat b))) (Int.toNat b) ((aG g 1) (Int.toNat a))))), (hM, .inl (cI, 8, .inl (upd (upd (aG g 2) (Int.toNat a) ((aG g 2) (Int.toNat b))) (Int.toNat b) ((aG g 2) (Int.toNat a))))), (hO, .inl (cI, 8, .inl (upd (upd (aG g 3) (Int.toNat a) ((aG g 3) (Int.toNat b))) (Int.toNat b) ((aG g 3) (Int.toNat a)))))]) (c_X0_exchangeIn l D cI cJ cB cS xa hO (aG g 3) a b (by omega) (by omega)) mS_X0_exchangeIn kM_X0_47 dX0_exchange_33 [4] rfl rfl rfl rfl rfl rfl rfl rfl ⟨Nat.le_of_ble_eq_true rfl, Nat.le_of_ble_eq_true rfl, Nat.le_of_ble_eq_true rfl⟩ ?_
  exact z_vret (pc := 36) dX0_exchange_36 rfl (by rw [← swap_cpy (g := g) (w := 0) ha.1 hb.1 (by decide), ← swap_cpy (g := g) (w := 1) ha.1 hb.1 (by decide), ← swap_cpy (g := g) (w := 2) ha.1 hb.1 (by decide), ← swap_cpy (g := g) (w := 3) ha.1 hb.1 (by decide)]; rfl)
set_option maxHeartbeats 8000000 in
set_option maxRecDepth 100000 in
theorem c_X0_firstOfMost (l : Launch) (D : va_G) (cI cJ cB cS : ClassId) (xa : XA) (h hK hH hM hO : Nat) (g : Gd) (r : Nat) (w : Int) (ok : Ok g) (hw : ∀ c, -10000 ≤ g w c ∧ g w c ≤ 10000) : Ct l D cI cJ cB cS xa yX0_firstOfMost cX0_firstOfMost 4 (some .int) 0 0 [.ref h, .ref r] [(h, oG g hK hH hM hO), (r, .inl (cI, 8, .inl (aG g w)))] (some (.int (iI (mostN (g w) (many g))))) [(h, oG g hK hH hM hO), (r, .inl (cI, 8, .inl (aG g w)))] := by
  have o0 := ok0 ok
  have o1 := ok1 ok
  have o2 := ok2 ok
  refine CtE.of (own := RX0) (lv := [(0, .ref h), (1, .ref r)]) (by decide) rfl rfl (Nat.le_of_ble_eq_true rfl) ?_
  intro xp xe xs xm xb xt xc
  refine z_iconst (pc := 0) dX0_firstOfMost_0 ?_
  refine z_istore_n (pc := 1) (lv2 := [(2, .int (iI (-1))), (0, .ref h), (1, .ref r)]) dX0_firstOfMost_1 rfl (by decide) rfl ?_
  refine z_iconst (pc := 2) dX0_firstOfMost_2 ?_
  refine z_istore_n (pc := 3) (lv2 := [(3, .int (iI 0)), (2, .int (iI (-1))), (0, .ref h), (1, .ref r)]) dX0_firstOfMost_3 rfl (by decide) rfl ?_
  have LP4 : ∀ (n : Nat) (i : Int) (b : Int), 0 ≤ i → i ≤ g 4 2 → b = mostN (g w) i.toNat → (g 4 2 - i).toNat < n → Z xp l xe { frames := 0, cells := 0, slots := 0, locals := 0 } xs xm ([.ref h, .ref r] : List Value).toArray xb xt xc 0 0 (MQ xb (Cq (S := Unit) D [(h, oG g hK hH hM hO), (r, .inl (cI, 8, .inl (aG g w)))] (fun _ => True) (fun _ => (some (.int (iI (mostN (g w) (many g)))))) (fun _ => [(h, oG g hK hH hM hO), (r, .inl (cI, 8, .inl (aG g w)))])) ([.ref h, .ref r] : List Value).toArray xs 0 0 (va_A0 [(h, oG g hK hH hM hO), (r, .inl (cI, 8, .inl (aG g w)))])) cX0_firstOfMost RX0 4 (some .int) D cI cJ cB cS xa (va_A0 [(h, oG g hK hH hM hO), (r, .inl (cI, 8, .inl (aG g w)))]) [(h, oG g hK hH hM hO), (r, .inl (cI, 8, .inl (aG g w)))] [(0, .ref h), (1, .ref r), (2, .int (iI b)), (3, .int (iI i))] 4 [] := by
    intro n
    induction n with
    | zero => intro i b hi0 hi1 hb hms; exact absurd hms (Nat.not_lt_zero _)
    | succ n ih =>
      intro i b hi0 hi1 hb hms
      have rb := mostN_rng (g w) i.toNat
      rw [← hb] at rb
      have rc := hw i
      have rd := hw b
      have ih4 := ih
      clear ih
      refine z_iload_n (pc := 4) dX0_firstOfMost_4 3 rfl ?_
      refine z_aload_n (pc := 5) dX0_firstOfMost_5 0 rfl ?_
      refine z_get (pc := 6) (q0 := 0) (v := .int (iI (g 4 2))) fL_X0_16 dX0_firstOfMost_6 rfl rfl ?_
      refine z_icmp_ge (pc := 9) (tgt := 33) dX0_firstOfMost_9 (by decide) (by omega) (by omega) (fun h9 => ?_) (fun h9 => ?_)
      · skip
        obtain rfl : i = g 4 2 := by omega
        refine z_iload_n (pc := 33) dX0_firstOfMost_33 2 rfl ?_
        exact z_iret (pc := 34) dX0_firstOfMost_34 (congrArg (fun z => some (Value.int (iI z))) (show mostN (g w) (many g) = b from by exact hb.symm)) rfl
      · skip
        refine z_iload_n (pc := 12) dX0_firstOfMost_12 2 rfl ?_
        refine z_if_lt (pc := 13) (tgt := 25) dX0_firstOfMost_13 (by decide) (by omega) (fun h13 => ?_) (fun h13 => ?_)
        · skip
          refine z_iload_n (pc := 25) dX0_firstOfMost_25 3 rfl ?_
          refine z_istore_n (pc := 26) (lv2 := [(2, .int (iI i)), (0, .ref h), (1, .ref r), (3, .int (iI i))]) dX0_firstOfMost_26 rfl (by decide) rfl ?_
          refine z_iinc (pc := 27) (lv2 := [(3, .int (iI (i + 1))), (2, .int (iI i)), (0, .ref h), (1, .ref r)]) dX0_firstOfMost_27 3 rfl (by decide) rfl ?_
          refine z_goto (pc := 30) (tgt := 4) dX0_firstOfMost_30 (by decide) ?_
          refine z_lv (lv2 := [(0, .ref h), (1, .ref r), (2, .int (iI i)), (3, .int (iI (i + 1)))]) [2, 3, 1, 0] rfl ?_
          exact ih4 (i + 1) i (by omega) (by omega) (by rw [mostN_s _ hi0, ← hb]; split <;> omega) (by omega)
        · skip
          refine z_aload_n (pc := 16) dX0_firstOfMost_16 1 rfl ?_
          refine z_iload_n (pc := 17) dX0_firstOfMost_17 3 rfl ?_
          refine z_iald (pc := 18) (q0 := 1) (v := (iI (g w i))) dX0_firstOfMost_18 rfl (by omega) (by decide) (aG_at (by omega)) ?_
          refine z_aload_n (pc := 19) dX0_firstOfMost_19 1 rfl ?_
          refine z_iload_n (pc := 20) dX0_firstOfMost_20 2 rfl ?_
          refine z_iald (pc := 21) (q0 := 1) (v := (iI (g w b))) dX0_firstOfMost_21 rfl (by omega) (by decide) (aG_at (by omega)) ?_
          refine z_icmp_le (pc := 22) (tgt := 27) dX0_firstOfMost_22 (by decide) (by omega) (by omega) (fun h22 => ?_) (fun h22 => ?_)
          · skip
            refine z_iinc (pc := 27) (lv2 := [(3, .int (iI (i + 1))), (0, .ref h), (1, .ref r), (2, .int (iI b))]) dX0_firstOfMost_27 3 rfl (by decide) rfl ?_
            refine z_goto (pc := 30) (tgt := 4) dX0_firstOfMost_30 (by decide) ?_
            refine z_lv (lv2 := [(0, .ref h), (1, .ref r), (2, .int (iI b)), (3, .int (iI (i + 1)))]) [1, 2, 3, 0] rfl ?_
            exact ih4 (i + 1) b (by omega) (by omega) (by rw [mostN_s _ hi0, ← hb]; split <;> omega) (by omega)
          · skip
            refine z_iload_n (pc := 25) dX0_firstOfMost_25 3 rfl ?_
            refine z_istore_n (pc := 26) (lv2 := [(2, .int (iI i)), (0, .ref h), (1, .ref r), (3, .int (iI i))]) dX0_firstOfMost_26 rfl (by decide) rfl ?_
            refine z_iinc (pc := 27) (lv2 := [(3, .int (iI (i + 1))), (2, .int (iI i)), (0, .ref h), (1, .ref r)]) dX0_firstOfMost_27 3 rfl (by decide) rfl ?_
            refine z_goto (pc := 30) (tgt := 4) dX0_firstOfMost_30 (by decide) ?_
            refine z_lv (lv2 := [(0, .ref h), (1, .ref r), (2, .int (iI i)), (3, .int (iI (i + 1)))]) [2, 3, 1, 0] rfl ?_
            exact ih4 (i + 1) i (by omega) (by omega) (by rw [mostN_s _ hi0, ← hb]; split <;> omega) (by omega)
  refine z_lv (lv2 := [(0, .ref h), (1, .ref r), (2, .int (iI (-1))), (3, .int (iI 0))]) [2, 3, 1, 0] rfl ?_
  exact LP4 _ 0 (-1) (by omega) (by omega) (by rfl) (Nat.lt_succ_self _)
set_option maxHeartbeats 8000000 in
set_option maxRecDepth 100000 in
theorem c_X0_highest (l : Launch) (D : va_G) (cI cJ cB cS : ClassId) (xa : XA) (h hK hH hM hO : Nat) (g : Gd) (ok : Ok g) : Ct l D cI cJ cB cS xa yX0_highest cX0_highest 1 (some .int) 1 23 [.ref h] [(h, oG g hK hH hM hO), (hH, .inl (cI, 8, .inl (aG g 1)))] (some (.int (iI (highG g)))) [(h, oG g hK hH hM hO), (hH, .inl (cI, 8, .inl (aG g 1)))] := by
  have o0 := ok0 ok
  have o1 := ok1 ok
  have o2 := ok2 ok
  refine CtE.of (own := RX0) (lv := [(0, .ref h)]) (by decide) rfl rfl (Nat.le_of_ble_eq_true rfl) ?_
  intro xp xe xs xm xb xt xc
  refine z_aload_n (pc := 0) dX0_highest_0 0 rfl ?_
  refine z_aload_n (pc := 1) dX0_highest_1 0 rfl ?_
  refine z_get (pc := 2) (q0 := 0) (v := .ref hH) fL_X0_23 dX0_highest_2 rfl rfl ?_
  refine z_callV (pc := 5) (st := []) (st2 := [.int (iI (mostN (g 1) (many g)))]) (ws2 := [(h, oG g hK hH hM hO), (hH, .inl (cI, 8, .inl (aG g 1)))]) (q0 := 0) (c_X0_firstOfMost l D cI cJ cB cS xa h hK hH hM hO g hH 1 ok (fun c => ⟨by have := okH ok c; omega, by have := okH ok c; omega⟩)) mV_X0_firstOfMost kM_X0_55 dX0_highest_5 rfl rfl [0, 1] rfl rfl rfl rfl rfl rfl rfl rfl ⟨Nat.le_of_ble_eq_true rfl, Nat.le_of_ble_eq_true rfl, Nat.le_of_ble_eq_true rfl⟩ ?_
  have f5_1 := mostN_rng (g 1) (many g)
  exact z_iret (pc := 8) dX0_highest_8 (congrArg (fun z => some (Value.int (iI z))) (show highG g = mostN (g 1) (many g) from by rfl)) rfl
set_option maxHeartbeats 8000000 in
set_option maxRecDepth 100000 in
theorem c_X0_lowest (l : Launch) (D : va_G) (cI cJ cB cS : ClassId) (xa : XA) (h hK hH hM hO : Nat) (g : Gd) (ok : Ok g) : Ct l D cI cJ cB cS xa yX0_lowest cX0_lowest 3 (some .int) 0 0 [.ref h] [(h, oG g hK hH hM hO), (hH, .inl (cI, 8, .inl (aG g 1)))] (some (.int (iI (lowG g)))) [(h, oG g hK hH hM hO), (hH, .inl (cI, 8, .inl (aG g 1)))] := by
  have o0 := ok0 ok
  have o1 := ok1 ok
  have o2 := ok2 ok
  refine CtE.of (own := RX0) (lv := [(0, .ref h)]) (by decide) rfl rfl (Nat.le_of_ble_eq_true rfl) ?_
  intro xp xe xs xm xb xt xc
  refine z_iconst (pc := 0) dX0_lowest_0 ?_
  refine z_istore_n (pc := 1) (lv2 := [(1, .int (iI (-1))), (0, .ref h)]) dX0_lowest_1 rfl (by decide) rfl ?_
  refine z_iconst (pc := 2) dX0_lowest_2 ?_
  refine z_istore_n (pc := 3) (lv2 := [(2, .int (iI 0)), (1, .int (iI (-1))), (0, .ref h)]) dX0_lowest_3 rfl (by decide) rfl ?_
  have LP4 : ∀ (n : Nat) (i : Int) (b : Int), 0 ≤ i → i ≤ g 4 2 → b = lowN (g 1) i.toNat → (g 4 2 - i).toNat < n → Z xp l xe { frames := 0, cells := 0, slots := 0, locals := 0 } xs xm ([.ref h] : List Value).toArray xb xt xc 0 0 (MQ xb (Cq (S := Unit) D [(h, oG g hK hH hM hO), (hH, .inl (cI, 8, .inl (aG g 1)))] (fun _ => True) (fun _ => (some (.int (iI (lowG g))))) (fun _ => [(h, oG g hK hH hM hO), (hH, .inl (cI, 8, .inl (aG g 1)))])) ([.ref h] : List Value).toArray xs 0 0 (va_A0 [(h, oG g hK hH hM hO), (hH, .inl (cI, 8, .inl (aG g 1)))])) cX0_lowest RX0 3 (some .int) D cI cJ cB cS xa (va_A0 [(h, oG g hK hH hM hO), (hH, .inl (cI, 8, .inl (aG g 1)))]) [(h, oG g hK hH hM hO), (hH, .inl (cI, 8, .inl (aG g 1)))] [(0, .ref h), (1, .int (iI b)), (2, .int (iI i))] 4 [] := by
    intro n
    induction n with
    | zero => intro i b hi0 hi1 hb hms; exact absurd hms (Nat.not_lt_zero _)
    | succ n ih =>
      intro i b hi0 hi1 hb hms
      have rb := lowN_rng (g 1) i.toNat
      rw [← hb] at rb
      have ih4 := ih
      clear ih
      refine z_iload_n (pc := 4) dX0_lowest_4 2 rfl ?_
      refine z_aload_n (pc := 5) dX0_lowest_5 0 rfl ?_
      refine z_get (pc := 6) (q0 := 0) (v := .int (iI (g 4 2))) fL_X0_16 dX0_lowest_6 rfl rfl ?_
      refine z_icmp_ge (pc := 9) (tgt := 39) dX0_lowest_9 (by decide) (by omega) (by omega) (fun h9 => ?_) (fun h9 => ?_)
      · skip
        obtain rfl : i = g 4 2 := by omega
        refine z_iload_n (pc := 39) dX0_lowest_39 1 rfl ?_
        exact z_iret (pc := 40) dX0_lowest_40 (congrArg (fun z => some (Value.int (iI z))) (show lowG g = b from by exact hb.symm)) rfl
      · skip
        refine z_iload_n (pc := 12) dX0_lowest_12 1 rfl ?_
        refine z_if_lt (pc := 13) (tgt := 31) dX0_lowest_13 (by decide) (by omega) (fun h13 => ?_) (fun h13 => ?_)
        · skip
          refine z_iload_n (pc := 31) dX0_lowest_31 2 rfl ?_
          refine z_istore_n (pc := 32) (lv2 := [(1, .int (iI i)), (0, .ref h), (2, .int (iI i))]) dX0_lowest_32 rfl (by decide) rfl ?_
          refine z_iinc (pc := 33) (lv2 := [(2, .int (iI (i + 1))), (1, .int (iI i)), (0, .ref h)]) dX0_lowest_33 2 rfl (by decide) rfl ?_
          refine z_goto (pc := 36) (tgt := 4) dX0_lowest_36 (by decide) ?_
          refine z_lv (lv2 := [(0, .ref h), (1, .int (iI i)), (2, .int (iI (i + 1)))]) [2, 1, 0] rfl ?_
          exact ih4 (i + 1) i (by omega) (by omega) (by rw [lowN_s _ hi0, ← hb]; split <;> omega) (by omega)
        · skip
          refine z_aload_n (pc := 16) dX0_lowest_16 0 rfl ?_
          refine z_get (pc := 17) (q0 := 0) (v := .ref hH) fL_X0_23 dX0_lowest_17 rfl rfl ?_
          refine z_iload_n (pc := 20) dX0_lowest_20 2 rfl ?_
          refine z_iald (pc := 21) (q0 := 1) (v := (iI (g 1 i))) dX0_lowest_21 rfl (by omega) (by decide) (aG_at (by omega)) ?_
          have b1 := okH ok i
          refine z_aload_n (pc := 22) dX0_lowest_22 0 rfl ?_
          refine z_get (pc := 23) (q0 := 0) (v := .ref hH) fL_X0_23 dX0_lowest_23 rfl rfl ?_
          refine z_iload_n (pc := 26) dX0_lowest_26 1 rfl ?_
          refine z_iald (pc := 27) (q0 := 1) (v := (iI (g 1 b))) dX0_lowest_27 rfl (by omega) (by decide) (aG_at (by omega)) ?_
          have b2 := okH ok b
          refine z_icmp_ge (pc := 28) (tgt := 33) dX0_lowest_28 (by decide) (by omega) (by omega) (fun h28 => ?_) (fun h28 => ?_)
          · skip
            refine z_iinc (pc := 33) (lv2 := [(2, .int (iI (i + 1))), (0, .ref h), (1, .int (iI b))]) dX0_lowest_33 2 rfl (by decide) rfl ?_
            refine z_goto (pc := 36) (tgt := 4) dX0_lowest_36 (by decide) ?_
            refine z_lv (lv2 := [(0, .ref h), (1, .int (iI b)), (2, .int (iI (i + 1)))]) [1, 2, 0] rfl ?_
            exact ih4 (i + 1) b (by omega) (by omega) (by rw [lowN_s _ hi0, ← hb]; split <;> omega) (by omega)
          · skip
            refine z_iload_n (pc := 31) dX0_lowest_31 2 rfl ?_
            refine z_istore_n (pc := 32) (lv2 := [(1, .int (iI i)), (0, .ref h), (2, .int (iI i))]) dX0_lowest_32 rfl (by decide) rfl ?_
            refine z_iinc (pc := 33) (lv2 := [(2, .int (iI (i + 1))), (1, .int (iI i)), (0, .ref h)]) dX0_lowest_33 2 rfl (by decide) rfl ?_
            refine z_goto (pc := 36) (tgt := 4) dX0_lowest_36 (by decide) ?_
            refine z_lv (lv2 := [(0, .ref h), (1, .int (iI i)), (2, .int (iI (i + 1)))]) [2, 1, 0] rfl ?_
            exact ih4 (i + 1) i (by omega) (by omega) (by rw [lowN_s _ hi0, ← hb]; split <;> omega) (by omega)
  refine z_lv (lv2 := [(0, .ref h), (1, .int (iI (-1))), (2, .int (iI 0))]) [2, 1, 0] rfl ?_
  exact LP4 _ 0 (-1) (by omega) (by omega) (by rfl) (Nat.lt_succ_self _)
set_option maxHeartbeats 8000000 in
set_option maxRecDepth 100000 in
theorem c_X0_apart (l : Launch) (D : va_G) (cI cJ cB cS : ClassId) (xa : XA) (h hK hH hM hO : Nat) (g : Gd) (ok : Ok g) : Ct l D cI cJ cB cS xa yX0_apart cX0_apart 3 (some .int) 2 43 [.ref h] [(h, oG g hK hH hM hO), (hH, .inl (cI, 8, .inl (aG g 1)))] (some (.int (iI (diffG g)))) [(h, oG g hK hH hM hO), (hH, .inl (cI, 8, .inl (aG g 1)))] := by
  have o0 := ok0 ok
  have o1 := ok1 ok
  have o2 := ok2 ok
  refine CtE.of (own := RX0) (lv := [(0, .ref h)]) (by decide) rfl rfl (Nat.le_of_ble_eq_true rfl) ?_
  intro xp xe xs xm xb xt xc
  refine z_aload_n (pc := 0) dX0_apart_0 0 rfl ?_
  refine z_callV (pc := 1) (st := []) (st2 := [.int (iI (highG g))]) (ws2 := [(h, oG g hK hH hM hO), (hH, .inl (cI, 8, .inl (aG g 1)))]) (q0 := 0) (c_X0_highest l D cI cJ cB cS xa h hK hH hM hO g ok) mV_X0_highest kM_X0_59 dX0_apart_1 rfl rfl [0, 1] rfl rfl rfl rfl rfl rfl rfl rfl ⟨Nat.le_of_ble_eq_true rfl, Nat.le_of_ble_eq_true rfl, Nat.le_of_ble_eq_true rfl⟩ ?_
  have f1_1 := highG_rng ok
  refine z_istore_n (pc := 4) (lv2 := [(1, .int (iI (highG g))), (0, .ref h)]) dX0_apart_4 rfl (by decide) rfl ?_
  refine z_aload_n (pc := 5) dX0_apart_5 1 rfl ?_
  refine z_callV (pc := 6) (st := []) (st2 := [.int (iI (lowG g))]) (ws2 := [(h, oG g hK hH hM hO), (hH, .inl (cI, 8, .inl (aG g 1)))]) (q0 := 0) (c_X0_lowest l D cI cJ cB cS xa h hK hH hM hO g ok) mV_X0_lowest kM_X0_62 dX0_apart_6 rfl rfl [0, 1] rfl rfl rfl rfl rfl rfl rfl rfl ⟨Nat.le_of_ble_eq_true rfl, Nat.le_of_ble_eq_true rfl, Nat.le_of_ble_eq_true rfl⟩ ?_
  have f6_2 := lowG_rng ok
  refine z_istore_n (pc := 9) (lv2 := [(2, .int (iI (lowG g))), (1, .int (iI (highG g))), (0, .ref h)]) dX0_apart_9 rfl (by decide) rfl ?_
  refine z_iload_n (pc := 10) dX0_apart_10 1 rfl ?_
  refine z_if_lt (pc := 11) (tgt := 18) dX0_apart_11 (by decide) (by omega) (fun h11 => ?_) (fun h11 => ?_)
  · skip
    refine z_iconst (pc := 18) dX0_apart_18 ?_
    refine z_goto (pc := 19) (tgt := 35) dX0_apart_19 (by decide) ?_
    exact z_iret (pc := 35) dX0_apart_35 (congrArg (fun z => some (Value.int (iI z))) (show diffG g = 0 from by unfold diffG; split <;> omega)) rfl
  · skip
    refine z_iload_n (pc := 14) dX0_apart_14 0 rfl ?_
    refine z_if_ge (pc := 15) (tgt := 22) dX0_apart_15 (by decide) (by omega) (fun h15 => ?_) (fun h15 => ?_)
    · skip
      refine z_aload_n (pc := 22) dX0_apart_22 2 rfl ?_
      refine z_get (pc := 23) (q0 := 0) (v := .ref hH) fL_X0_23 dX0_apart_23 rfl rfl ?_
      refine z_iload_n (pc := 26) dX0_apart_26 1 rfl ?_
      refine z_iald (pc := 27) (q0 := 1) (v := (iI (g 1 (highG g)))) dX0_apart_27 rfl (by omega) (by decide) (aG_at (by omega)) ?_
      have b3 := okH ok (highG g)
      refine z_aload_n (pc := 28) dX0_apart_28 2 rfl ?_
      refine z_get (pc := 29) (q0 := 0) (v := .ref hH) fL_X0_23 dX0_apart_29 rfl rfl ?_
      refine z_iload_n (pc := 32) dX0_apart_32 0 rfl ?_
      refine z_iald (pc := 33) (q0 := 1) (v := (iI (g 1 (lowG g)))) dX0_apart_33 rfl (by omega) (by decide) (aG_at (by omega)) ?_
      have b4 := okH ok (lowG g)
      refine z_isub (pc := 34) dX0_apart_34 ?_
      exact z_iret (pc := 35) dX0_apart_35 (congrArg (fun z => some (Value.int (iI z))) (show diffG g = (g 1 (highG g)) - (g 1 (lowG g)) from by unfold diffG; split <;> omega)) rfl
    · skip
      refine z_iconst (pc := 18) dX0_apart_18 ?_
      refine z_goto (pc := 19) (tgt := 35) dX0_apart_19 (by decide) ?_
      exact z_iret (pc := 35) dX0_apart_35 (congrArg (fun z => some (Value.int (iI z))) (show diffG g = 0 from by unfold diffG; split <;> omega)) rfl
set_option maxHeartbeats 8000000 in
set_option maxRecDepth 100000 in
theorem c_X0_isLevel (l : Launch) (D : va_G) (cI cJ cB cS : ClassId) (xa : XA) (h hK hH hM hO : Nat) (g : Gd) (ok : Ok g) : Ct l D cI cJ cB cS xa yX0_isLevel cX0_isLevel 1 (some .boolean) 3 65 [.ref h] [(h, oG g hK hH hM hO), (hH, .inl (cI, 8, .inl (aG g 1)))] (some (.int (bI (diffG g < 2)))) [(h, oG g hK hH hM hO), (hH, .inl (cI, 8, .inl (aG g 1)))] := by
  have o0 := ok0 ok
  have o1 := ok1 ok
  have o2 := ok2 ok
  refine CtE.of (own := RX0) (lv := [(0, .ref h)]) (by decide) rfl rfl (Nat.le_of_ble_eq_true rfl) ?_
  intro xp xe xs xm xb xt xc
  refine z_aload_n (pc := 0) dX0_isLevel_0 0 rfl ?_
  refine z_callV (pc := 1) (st := []) (st2 := [.int (iI (diffG g))]) (ws2 := [(h, oG g hK hH hM hO), (hH, .inl (cI, 8, .inl (aG g 1)))]) (q0 := 0) (c_X0_apart l D cI cJ cB cS xa h hK hH hM hO g ok) mV_X0_apart kM_X0_65 dX0_isLevel_1 rfl rfl [0, 1] rfl rfl rfl rfl rfl rfl rfl rfl ⟨Nat.le_of_ble_eq_true rfl, Nat.le_of_ble_eq_true rfl, Nat.le_of_ble_eq_true rfl⟩ ?_
  have f1_1 := diffG_rng ok
  refine z_iconst (pc := 4) dX0_isLevel_4 ?_
  refine z_icmp_ge (pc := 5) (tgt := 12) dX0_isLevel_5 (by decide) (by omega) (by omega) (fun h5 => ?_) (fun h5 => ?_)
  · skip
    refine z_iconst (pc := 12) dX0_isLevel_12 ?_
    exact z_zret (pc := 13) (by decide) dX0_isLevel_13 (congrArg (fun z => some (Value.int z)) (bI_f (by omega))) rfl
  · skip
    refine z_iconst (pc := 8) dX0_isLevel_8 ?_
    refine z_goto (pc := 9) (tgt := 13) dX0_isLevel_9 (by decide) ?_
    exact z_zret (pc := 13) (by decide) dX0_isLevel_13 (congrArg (fun z => some (Value.int z)) (bI_t (by omega))) rfl
set_option maxHeartbeats 8000000 in
set_option maxRecDepth 100000 in
theorem c_X0_inTheDust (l : Launch) (D : va_G) (cI cJ cB cS : ClassId) (xa : XA) (h hK hH hM hO : Nat) (g : Gd) (ok : Ok g) : Ct l D cI cJ cB cS xa yX0_inTheDust cX0_inTheDust 3 (some .int) 0 0 [.ref h] [(h, oG g hK hH hM hO), (hH, .inl (cI, 8, .inl (aG g 1)))] (some (.int (dustN (g 1) (many g)))) [(h, oG g hK hH hM hO), (hH, .inl (cI, 8, .inl (aG g 1)))] := by
  have o0 := ok0 ok
  have o1 := ok1 ok
  have o2 := ok2 ok
  refine CtE.of (own := RX0) (lv := [(0, .ref h)]) (by decide) rfl rfl (Nat.le_of_ble_eq_true rfl) ?_
  intro xp xe xs xm xb xt xc
  refine z_iconst (pc := 0) dX0_inTheDust_0 ?_
  refine z_istore_n (pc := 1) (lv2 := [(1, .int (iI 0)), (0, .ref h)]) dX0_inTheDust_1 rfl (by decide) rfl ?_
  refine z_iconst (pc := 2) dX0_inTheDust_2 ?_
  refine z_istore_n (pc := 3) (lv2 := [(2, .int (iI 0)), (1, .int (iI 0)), (0, .ref h)]) dX0_inTheDust_3 rfl (by decide) rfl ?_
  have LP4 : ∀ (n : Nat) (i : Int) (b : Int32), 0 ≤ i → i ≤ g 4 2 → b = dustN (g 1) i.toNat → (g 4 2 - i).toNat < n → Z xp l xe { frames := 0, cells := 0, slots := 0, locals := 0 } xs xm ([.ref h] : List Value).toArray xb xt xc 0 0 (MQ xb (Cq (S := Unit) D [(h, oG g hK hH hM hO), (hH, .inl (cI, 8, .inl (aG g 1)))] (fun _ => True) (fun _ => (some (.int (dustN (g 1) (many g))))) (fun _ => [(h, oG g hK hH hM hO), (hH, .inl (cI, 8, .inl (aG g 1)))])) ([.ref h] : List Value).toArray xs 0 0 (va_A0 [(h, oG g hK hH hM hO), (hH, .inl (cI, 8, .inl (aG g 1)))])) cX0_inTheDust RX0 3 (some .int) D cI cJ cB cS xa (va_A0 [(h, oG g hK hH hM hO), (hH, .inl (cI, 8, .inl (aG g 1)))]) [(h, oG g hK hH hM hO), (hH, .inl (cI, 8, .inl (aG g 1)))] [(0, .ref h), (1, .int b), (2, .int (iI i))] 4 [] := by
    intro n
    induction n with
    | zero => intro i b hi0 hi1 hb hms; exact absurd hms (Nat.not_lt_zero _)
    | succ n ih =>
      intro i b hi0 hi1 hb hms
      have ih4 := ih
      clear ih
      refine z_iload_n (pc := 4) dX0_inTheDust_4 2 rfl ?_
      refine z_aload_n (pc := 5) dX0_inTheDust_5 0 rfl ?_
      refine z_get (pc := 6) (q0 := 0) (v := .int (iI (g 4 2))) fL_X0_16 dX0_inTheDust_6 rfl rfl ?_
      refine z_icmp_ge (pc := 9) (tgt := 33) dX0_inTheDust_9 (by decide) (by omega) (by omega) (fun h9 => ?_) (fun h9 => ?_)
      · skip
        obtain rfl : i = g 4 2 := by omega
        refine z_iload_n (pc := 33) dX0_inTheDust_33 1 rfl ?_
        exact z_iret (pc := 34) dX0_inTheDust_34 (by rw [hb]) rfl
      · skip
        refine z_aload_n (pc := 12) dX0_inTheDust_12 0 rfl ?_
        refine z_get (pc := 13) (q0 := 0) (v := .ref hH) fL_X0_23 dX0_inTheDust_13 rfl rfl ?_
        refine z_iload_n (pc := 16) dX0_inTheDust_16 2 rfl ?_
        refine z_iald (pc := 17) (q0 := 1) (v := (iI (g 1 i))) dX0_inTheDust_17 rfl (by omega) (by decide) (aG_at (by omega)) ?_
        have b1 := okH ok i
        refine z_if_ne (pc := 18) (tgt := 27) dX0_inTheDust_18 (by decide) (by omega) (fun h18 => ?_) (fun h18 => ?_)
        · skip
          refine z_iinc (pc := 27) (lv2 := [(2, .int (iI (i + 1))), (0, .ref h), (1, .int b)]) dX0_inTheDust_27 2 rfl (by decide) rfl ?_
          refine z_goto (pc := 30) (tgt := 4) dX0_inTheDust_30 (by decide) ?_
          refine z_lv (lv2 := [(0, .ref h), (1, .int b), (2, .int (iI (i + 1)))]) [1, 2, 0] rfl ?_
          exact ih4 (i + 1) b (by omega) (by omega) (by rw [dustN_s _ hi0, ← hb, if_neg h18]) (by omega)
        · skip
          refine z_iload_n (pc := 21) dX0_inTheDust_21 1 rfl ?_
          refine z_iconst (pc := 22) dX0_inTheDust_22 ?_
          refine z_iload_n (pc := 23) dX0_inTheDust_23 2 rfl ?_
          refine z_ishl (pc := 24) dX0_inTheDust_24 ?_
          refine z_ior (pc := 25) dX0_inTheDust_25 ?_
          refine z_istore_n (pc := 26) (lv2 := [(1, .int (b ||| ((iI 1) <<< ((iI i) &&& 31)))), (0, .ref h), (2, .int (iI i))]) dX0_inTheDust_26 rfl (by decide) rfl ?_
          refine z_iinc (pc := 27) (lv2 := [(2, .int (iI (i + 1))), (1, .int (b ||| ((iI 1) <<< ((iI i) &&& 31)))), (0, .ref h)]) dX0_inTheDust_27 2 rfl (by decide) rfl ?_
          refine z_goto (pc := 30) (tgt := 4) dX0_inTheDust_30 (by decide) ?_
          refine z_lv (lv2 := [(0, .ref h), (1, .int (b ||| ((iI 1) <<< ((iI i) &&& 31)))), (2, .int (iI (i + 1)))]) [2, 1, 0] rfl ?_
          exact ih4 (i + 1) (b ||| ((iI 1) <<< ((iI i) &&& 31))) (by omega) (by omega) (by rw [dustN_s _ hi0, ← hb, if_pos (by omega)]) (by omega)
  refine z_lv (lv2 := [(0, .ref h), (1, .int (iI 0)), (2, .int (iI 0))]) [2, 1, 0] rfl ?_
  exact LP4 _ 0 (iI 0) (by omega) (by omega) (by rfl) (Nat.lt_succ_self _)
set_option maxHeartbeats 8000000 in
set_option maxRecDepth 100000 in
theorem c_X0_wantsOf (l : Launch) (D : va_G) (cI cJ cB cS : ClassId) (xa : XA) (h hK hH hM hO : Nat) (g : Gd) (c : Int) (ok : Ok g) (hc0 : 0 ≤ c) (hc1 : c < g 4 2) : Ct l D cI cJ cB cS xa yX0_wantsOf cX0_wantsOf 5 (some .int) 1 21 [.ref h, .int (iI c)] [(h, oG g hK hH hM hO), (hK, .inl (cI, 8, .inl (aG g 0))), (hH, .inl (cI, 8, .inl (aG g 1)))] (some (.int (iI (wantsG g c)))) [(h, oG g hK hH hM hO), (hK, .inl (cI, 8, .inl (aG g 0))), (hH, .inl (cI, 8, .inl (aG g 1)))] := by
  have o0 := ok0 ok
  have o1 := ok1 ok
  have o2 := ok2 ok
  refine CtE.of (own := RX0) (lv := [(0, .ref h), (1, .int (iI c))]) (by decide) rfl rfl (Nat.le_of_ble_eq_true rfl) ?_
  intro xp xe xs xm xb xt xc
  refine z_aload_n (pc := 0) dX0_wantsOf_0 0 rfl ?_
  refine z_get (pc := 1) (q0 := 0) (v := .int (iI (g 4 2))) fL_X0_16 dX0_wantsOf_1 rfl rfl ?_
  refine z_iconst (pc := 4) dX0_wantsOf_4 ?_
  refine z_icmp_ge (pc := 5) (tgt := 10) dX0_wantsOf_5 (by decide) (by omega) (by omega) (fun h5 => ?_) (fun h5 => ?_)
  · skip
    refine z_iconst (pc := 10) dX0_wantsOf_10 ?_
    refine z_istore_n (pc := 11) (lv2 := [(2, .int (iI 2)), (0, .ref h), (1, .int (iI c))]) dX0_wantsOf_11 rfl (by decide) rfl ?_
    refine z_iload_n (pc := 12) dX0_wantsOf_12 0 rfl ?_
    refine z_iconst (pc := 13) dX0_wantsOf_13 ?_
    refine z_iadd (pc := 14) dX0_wantsOf_14 ?_
    refine z_istore_n (pc := 15) (lv2 := [(3, .int (iI (2 + 3))), (2, .int (iI 2)), (0, .ref h), (1, .int (iI c))]) dX0_wantsOf_15 rfl (by decide) rfl ?_
    refine z_iload_n (pc := 16) dX0_wantsOf_16 1 rfl ?_
    refine z_iconst (pc := 17) dX0_wantsOf_17 ?_
    refine z_isub (pc := 18) dX0_wantsOf_18 ?_
    refine z_istore (pc := 19) (lv2 := [(4, .int (iI (2 - 1))), (3, .int (iI (2 + 3))), (2, .int (iI 2)), (0, .ref h), (1, .int (iI c))]) dX0_wantsOf_19 (by decide) rfl ?_
    refine z_aload_n (pc := 21) dX0_wantsOf_21 3 rfl ?_
    refine z_get (pc := 22) (q0 := 0) (v := .ref hK) fL_X0_19 dX0_wantsOf_22 rfl rfl ?_
    refine z_iload_n (pc := 25) dX0_wantsOf_25 4 rfl ?_
    refine z_iald (pc := 26) (q0 := 1) (v := (iI (g 0 c))) dX0_wantsOf_26 rfl (by omega) (by decide) (aG_at (by omega)) ?_
    have b1 := okK ok c
    by_cases h27 : 1 ≤ (g 0 c) ∧ (g 0 c) ≤ 5
    · skip
      have h27v : (g 0 c) = 1 ∨ (g 0 c) = 2 ∨ (g 0 c) = 3 ∨ (g 0 c) = 4 ∨ (g 0 c) = 5 := by omega
      rcases h27v with h27v | h27v | h27v | h27v | h27v
      · skip
        refine z_tableIn (pc := 27) (tgt := 60) dX0_wantsOf_27 (by omega) (by omega) (by omega) (by rw [h27v]; rfl) (by decide) ?_
        refine z_iload_n (pc := 60) dX0_wantsOf_60 1 rfl ?_
        exact z_iret (pc := 61) dX0_wantsOf_61 (congrArg (fun z => some (Value.int (iI z))) (show wantsG g c = 2 + 3 from by unfold wantsG; (repeat' split) <;> omega)) rfl
      · skip
        refine z_tableIn (pc := 27) (tgt := 62) dX0_wantsOf_27 (by omega) (by omega) (by omega) (by rw [h27v]; rfl) (by decide) ?_
        refine z_iload (pc := 62) dX0_wantsOf_62 0 rfl ?_
        exact z_iret (pc := 64) dX0_wantsOf_64 (congrArg (fun z => some (Value.int (iI z))) (show wantsG g c = 2 - 1 from by unfold wantsG; (repeat' split) <;> omega)) rfl
      · skip
        refine z_tableIn (pc := 27) (tgt := 65) dX0_wantsOf_27 (by omega) (by omega) (by omega) (by rw [h27v]; rfl) (by decide) ?_
        refine z_aload_n (pc := 65) dX0_wantsOf_65 3 rfl ?_
        refine z_get (pc := 66) (q0 := 0) (v := .ref hH) fL_X0_23 dX0_wantsOf_66 rfl rfl ?_
        refine z_aload_n (pc := 69) dX0_wantsOf_69 3 rfl ?_
        refine z_iload_n (pc := 70) dX0_wantsOf_70 4 rfl ?_
        refine z_callV (pc := 71) (st := [.ref hH]) (st2 := [.int (iI (nextG g c)), .ref hH]) (ws2 := [(h, oG g hK hH hM hO), (hK, .inl (cI, 8, .inl (aG g 0))), (hH, .inl (cI, 8, .inl (aG g 1)))]) (q0 := 0) (c_X0_nextOf l D cI cJ cB cS xa h hK hH hM hO g c ok (by omega) (by omega)) mV_X0_nextOf kM_X0_68 dX0_wantsOf_71 rfl rfl [0] rfl rfl rfl rfl rfl rfl rfl rfl ⟨Nat.le_of_ble_eq_true rfl, Nat.le_of_ble_eq_true rfl, Nat.le_of_ble_eq_true rfl⟩ ?_
        have f71_2 := nextG_rng ok (show (0 : Int) ≤ c by omega) (show c < g 4 2 by omega)
        refine z_iald (pc := 74) (q0 := 2) (v := (iI (g 1 (nextG g c)))) dX0_wantsOf_74 rfl (by omega) (by decide) (aG_at (by omega)) ?_
        have b3 := okH ok (nextG g c)
        refine z_aload_n (pc := 75) dX0_wantsOf_75 3 rfl ?_
        refine z_get (pc := 76) (q0 := 0) (v := .ref hH) fL_X0_23 dX0_wantsOf_76 rfl rfl ?_
        refine z_iload_n (pc := 79) dX0_wantsOf_79 4 rfl ?_
        refine z_iald (pc := 80) (q0 := 2) (v := (iI (g 1 c))) dX0_wantsOf_80 rfl (by omega) (by decide) (aG_at (by omega)) ?_
        have b4 := okH ok c
        refine z_icmp_ge (pc := 81) (tgt := 89) dX0_wantsOf_81 (by decide) (by omega) (by omega) (fun h81 => ?_) (fun h81 => ?_)
        · skip
          refine z_iconst (pc := 89) dX0_wantsOf_89 ?_
          exact z_iret (pc := 90) dX0_wantsOf_90 (congrArg (fun z => some (Value.int (iI z))) (show wantsG g c = 0 from by unfold wantsG; (repeat' split) <;> omega)) rfl
        · skip
          refine z_bipush (pc := 84) dX0_wantsOf_84 (by decide) ?_
          refine z_goto (pc := 86) (tgt := 90) dX0_wantsOf_86 (by decide) ?_
          exact z_iret (pc := 90) dX0_wantsOf_90 (congrArg (fun z => some (Value.int (iI z))) (show wantsG g c = -3 from by unfold wantsG; (repeat' split) <;> omega)) rfl
      · skip
        refine z_tableIn (pc := 27) (tgt := 91) dX0_wantsOf_27 (by omega) (by omega) (by omega) (by rw [h27v]; rfl) (by decide) ?_
        refine z_aload_n (pc := 91) dX0_wantsOf_91 3 rfl ?_
        refine z_callV (pc := 92) (st := []) (st2 := [.int (bI (satur g))]) (ws2 := [(h, oG g hK hH hM hO), (hK, .inl (cI, 8, .inl (aG g 0))), (hH, .inl (cI, 8, .inl (aG g 1)))]) (q0 := 0) (c_X0_isSaturday l D cI cJ cB cS xa h hK hH hM hO g ok) mV_X0_isSaturday kM_X0_72 dX0_wantsOf_92 rfl rfl [0] rfl rfl rfl rfl rfl rfl rfl rfl ⟨Nat.le_of_ble_eq_true rfl, Nat.le_of_ble_eq_true rfl, Nat.le_of_ble_eq_true rfl⟩ ?_
        refine z_ifb_eq (pc := 95) (tgt := 104) dX0_wantsOf_95 (by decide) (fun h95 => ?_) (fun h95 => ?_)
        · skip
          refine z_iload_n (pc := 104) dX0_wantsOf_104 1 rfl ?_
          exact z_iret (pc := 105) dX0_wantsOf_105 (congrArg (fun z => some (Value.int (iI z))) (show wantsG g c = 2 + 3 from by unfold wantsG; (repeat' split) <;> omega)) rfl
        · skip
          refine z_iconst (pc := 98) dX0_wantsOf_98 ?_
          refine z_iload_n (pc := 99) dX0_wantsOf_99 1 rfl ?_
          refine z_imul (pc := 100) dX0_wantsOf_100 ?_
          refine z_goto (pc := 101) (tgt := 105) dX0_wantsOf_101 (by decide) ?_
          exact z_iret (pc := 105) dX0_wantsOf_105 (congrArg (fun z => some (Value.int (iI z))) (show wantsG g c = 2 * (2 + 3) from by unfold wantsG; (repeat' split) <;> omega)) rfl
      · skip
        refine z_tableIn (pc := 27) (tgt := 106) dX0_wantsOf_27 (by omega) (by omega) (by omega) (by rw [h27v]; rfl) (by decide) ?_
        refine z_aload_n (pc := 106) dX0_wantsOf_106 3 rfl ?_
        refine z_get (pc := 107) (q0 := 0) (v := .ref hH) fL_X0_23 dX0_wantsOf_107 rfl rfl ?_
        refine z_iload_n (pc := 110) dX0_wantsOf_110 4 rfl ?_
        refine z_iald (pc := 111) (q0 := 2) (v := (iI (g 1 c))) dX0_wantsOf_111 rfl (by omega) (by decide) (aG_at (by omega)) ?_
        have b5 := okH ok c
        refine z_bipush (pc := 112) dX0_wantsOf_112 (by decide) ?_
        refine z_icmp_le (pc := 114) (tgt := 121) dX0_wantsOf_114 (by decide) (by omega) (by omega) (fun h114 => ?_) (fun h114 => ?_)
        · skip
          refine z_iload (pc := 121) dX0_wantsOf_121 0 rfl ?_
          exact z_iret (pc := 123) dX0_wantsOf_123 (congrArg (fun z => some (Value.int (iI z))) (show wantsG g c = 2 - 1 from by unfold wantsG; (repeat' split) <;> omega)) rfl
        · skip
          refine z_iconst (pc := 117) dX0_wantsOf_117 ?_
          refine z_goto (pc := 118) (tgt := 123) dX0_wantsOf_118 (by decide) ?_
          exact z_iret (pc := 123) dX0_wantsOf_123 (congrArg (fun z => some (Value.int (iI z))) (show wantsG g c = 0 from by unfold wantsG; (repeat' split) <;> omega)) rfl
    · skip
      refine z_tableOut (pc := 27) (tgt := 124) dX0_wantsOf_27 (by omega) (by omega) (by decide) ?_
      refine z_iload_n (pc := 124) dX0_wantsOf_124 2 rfl ?_
      exact z_iret (pc := 125) dX0_wantsOf_125 (congrArg (fun z => some (Value.int (iI z))) (show wantsG g c = 2 from by unfold wantsG; (repeat' split) <;> omega)) rfl
  · skip
    refine z_iconst (pc := 8) dX0_wantsOf_8 ?_
    exact z_iret (pc := 9) dX0_wantsOf_9 (congrArg (fun z => some (Value.int (iI z))) (show wantsG g c = 0 from by unfold wantsG; (repeat' split) <;> omega)) rfl
set_option maxHeartbeats 8000000 in
set_option maxRecDepth 100000 in
theorem c_X0_yieldsOf (l : Launch) (D : va_G) (cI cJ cB cS : ClassId) (xa : XA) (h hK hH hM hO : Nat) (g : Gd) (c : Int) (ok : Ok g) (hc0 : 0 ≤ c) (hc1 : c < g 4 2) : Ct l D cI cJ cB cS xa yX0_yieldsOf cX0_yieldsOf 5 (some .int) 1 20 [.ref h, .int (iI c)] [(h, oG g hK hH hM hO), (hK, .inl (cI, 8, .inl (aG g 0))), (hH, .inl (cI, 8, .inl (aG g 1)))] (some (.int (iI (yieldsG g c)))) [(h, oG g hK hH hM hO), (hK, .inl (cI, 8, .inl (aG g 0))), (hH, .inl (cI, 8, .inl (aG g 1)))] := by
  have o0 := ok0 ok
  have o1 := ok1 ok
  have o2 := ok2 ok
  refine CtE.of (own := RX0) (lv := [(0, .ref h), (1, .int (iI c))]) (by decide) rfl rfl (Nat.le_of_ble_eq_true rfl) ?_
  intro xp xe xs xm xb xt xc
  refine z_iconst (pc := 0) dX0_yieldsOf_0 ?_
  refine z_istore_n (pc := 1) (lv2 := [(2, .int (iI 4)), (0, .ref h), (1, .int (iI c))]) dX0_yieldsOf_1 rfl (by decide) rfl ?_
  refine z_iload_n (pc := 2) dX0_yieldsOf_2 0 rfl ?_
  refine z_iconst (pc := 3) dX0_yieldsOf_3 ?_
  refine z_idiv (pc := 4) dX0_yieldsOf_4 (by omega) ?_
  refine z_istore_n (pc := 5) (lv2 := [(3, .int (iI (4 / 2))), (2, .int (iI 4)), (0, .ref h), (1, .int (iI c))]) dX0_yieldsOf_5 rfl (by decide) rfl ?_
  refine z_iload_n (pc := 6) dX0_yieldsOf_6 1 rfl ?_
  refine z_iconst (pc := 7) dX0_yieldsOf_7 ?_
  refine z_iadd (pc := 8) dX0_yieldsOf_8 ?_
  refine z_istore (pc := 9) (lv2 := [(4, .int (iI (4 + 4))), (3, .int (iI (4 / 2))), (2, .int (iI 4)), (0, .ref h), (1, .int (iI c))]) dX0_yieldsOf_9 (by decide) rfl ?_
  refine z_aload_n (pc := 11) dX0_yieldsOf_11 3 rfl ?_
  refine z_get (pc := 12) (q0 := 0) (v := .ref hK) fL_X0_19 dX0_yieldsOf_12 rfl rfl ?_
  refine z_iload_n (pc := 15) dX0_yieldsOf_15 4 rfl ?_
  refine z_iald (pc := 16) (q0 := 1) (v := (iI (g 0 c))) dX0_yieldsOf_16 rfl (by omega) (by decide) (aG_at (by omega)) ?_
  have b1 := okK ok c
  by_cases h17 : 1 ≤ (g 0 c) ∧ (g 0 c) ≤ 5
  · skip
    have h17v : (g 0 c) = 1 ∨ (g 0 c) = 2 ∨ (g 0 c) = 3 ∨ (g 0 c) = 4 ∨ (g 0 c) = 5 := by omega
    rcases h17v with h17v | h17v | h17v | h17v | h17v
    · skip
      refine z_tableIn (pc := 17) (tgt := 52) dX0_yieldsOf_17 (by omega) (by omega) (by omega) (by rw [h17v]; rfl) (by decide) ?_
      refine z_iload_n (pc := 52) dX0_yieldsOf_52 1 rfl ?_
      exact z_iret (pc := 53) dX0_yieldsOf_53 (congrArg (fun z => some (Value.int (iI z))) (show yieldsG g c = 4 / 2 from by unfold yieldsG; (repeat' split) <;> omega)) rfl
    · skip
      refine z_tableIn (pc := 17) (tgt := 54) dX0_yieldsOf_17 (by omega) (by omega) (by omega) (by rw [h17v]; rfl) (by decide) ?_
      refine z_iload (pc := 54) dX0_yieldsOf_54 0 rfl ?_
      exact z_iret (pc := 56) dX0_yieldsOf_56 (congrArg (fun z => some (Value.int (iI z))) (show yieldsG g c = 4 + 4 from by unfold yieldsG; (repeat' split) <;> omega)) rfl
    · skip
      refine z_tableIn (pc := 17) (tgt := 57) dX0_yieldsOf_17 (by omega) (by omega) (by omega) (by rw [h17v]; rfl) (by decide) ?_
      refine z_aload_n (pc := 57) dX0_yieldsOf_57 3 rfl ?_
      refine z_get (pc := 58) (q0 := 0) (v := .ref hH) fL_X0_23 dX0_yieldsOf_58 rfl rfl ?_
      refine z_iload_n (pc := 61) dX0_yieldsOf_61 4 rfl ?_
      refine z_iald (pc := 62) (q0 := 2) (v := (iI (g 1 c))) dX0_yieldsOf_62 rfl (by omega) (by decide) (aG_at (by omega)) ?_
      have b2 := okH ok c
      exact z_iret (pc := 63) dX0_yieldsOf_63 (congrArg (fun z => some (Value.int (iI z))) (show yieldsG g c = g 1 c from by unfold yieldsG; (repeat' split) <;> omega)) rfl
    · skip
      refine z_tableIn (pc := 17) (tgt := 64) dX0_yieldsOf_17 (by omega) (by omega) (by omega) (by rw [h17v]; rfl) (by decide) ?_
      refine z_aload_n (pc := 64) dX0_yieldsOf_64 3 rfl ?_
      refine z_callV (pc := 65) (st := []) (st2 := [.int (bI (satur g))]) (ws2 := [(h, oG g hK hH hM hO), (hK, .inl (cI, 8, .inl (aG g 0))), (hH, .inl (cI, 8, .inl (aG g 1)))]) (q0 := 0) (c_X0_isSaturday l D cI cJ cB cS xa h hK hH hM hO g ok) mV_X0_isSaturday kM_X0_72 dX0_yieldsOf_65 rfl rfl [0] rfl rfl rfl rfl rfl rfl rfl rfl ⟨Nat.le_of_ble_eq_true rfl, Nat.le_of_ble_eq_true rfl, Nat.le_of_ble_eq_true rfl⟩ ?_
      refine z_ifb_eq (pc := 68) (tgt := 75) dX0_yieldsOf_68 (by decide) (fun h68 => ?_) (fun h68 => ?_)
      · skip
        refine z_iload_n (pc := 75) dX0_yieldsOf_75 1 rfl ?_
        exact z_iret (pc := 76) dX0_yieldsOf_76 (congrArg (fun z => some (Value.int (iI z))) (show yieldsG g c = 4 / 2 from by unfold yieldsG; (repeat' split) <;> omega)) rfl
      · skip
        refine z_iconst (pc := 71) dX0_yieldsOf_71 ?_
        refine z_goto (pc := 72) (tgt := 76) dX0_yieldsOf_72 (by decide) ?_
        exact z_iret (pc := 76) dX0_yieldsOf_76 (congrArg (fun z => some (Value.int (iI z))) (show yieldsG g c = 0 from by unfold yieldsG; (repeat' split) <;> omega)) rfl
    · skip
      refine z_tableIn (pc := 17) (tgt := 54) dX0_yieldsOf_17 (by omega) (by omega) (by omega) (by rw [h17v]; rfl) (by decide) ?_
      refine z_iload (pc := 54) dX0_yieldsOf_54 0 rfl ?_
      exact z_iret (pc := 56) dX0_yieldsOf_56 (congrArg (fun z => some (Value.int (iI z))) (show yieldsG g c = 4 + 4 from by unfold yieldsG; (repeat' split) <;> omega)) rfl
  · skip
    refine z_tableOut (pc := 17) (tgt := 77) dX0_yieldsOf_17 (by omega) (by omega) (by decide) ?_
    refine z_iload_n (pc := 77) dX0_yieldsOf_77 2 rfl ?_
    exact z_iret (pc := 78) dX0_yieldsOf_78 (congrArg (fun z => some (Value.int (iI z))) (show yieldsG g c = 4 from by unfold yieldsG; (repeat' split) <;> omega)) rfl
set_option maxHeartbeats 8000000 in
set_option maxRecDepth 100000 in
theorem c_X0_addOne (l : Launch) (D : va_G) (cI cJ cB cS : ClassId) (xa : XA) (h hK hH hM hO : Nat) (g : Gd) (k : Int) (ok : Ok g) (hn : g 4 2 < 8) (hk : 0 ≤ k ∧ k ≤ 5) : Ct l D cI cJ cB cS xa yX0_addOne cX0_addOne 3 (some .int) 0 0 [.ref h, .int (iI k)] [(h, oG g hK hH hM hO), (hK, .inl (cI, 8, .inl (aG g 0))), (hH, .inl (cI, 8, .inl (aG g 1))), (hM, .inl (cI, 8, .inl (aG g 2))), (hO, .inl (cI, 8, .inl (aG g 3)))] (some (.int (iI (g 4 2)))) [(h, oG (addG g k 50 5) hK hH hM hO), (hK, .inl (cI, 8, .inl (aG (addG g k 50 5) 0))), (hH, .inl (cI, 8, .inl (aG (addG g k 50 5) 1))), (hM, .inl (cI, 8, .inl (aG (addG g k 50 5) 2))), (hO, .inl (cI, 8, .inl (aG (addG g k 50 5) 3)))] := by
  have o0 := ok0 ok
  have o1 := ok1 ok
  have o2 := ok2 ok
  refine CtE.of (own := RX0) (lv := [(0, .ref h), (1, .int (iI k))]) (by decide) rfl rfl (Nat.le_of_ble_eq_true rfl) ?_
  intro xp xe xs xm xb xt xc
  refine z_aload_n (pc := 0) dX0_addOne_0 0 rfl ?_
  refine z_get (pc := 1) (q0 := 0) (v := .int (iI (g 4 2))) fL_X0_16 dX0_addOne_1 rfl rfl ?_
  refine z_istore_n (pc := 4) (lv2 := [(2, .int (iI (g 4 2))), (0, .ref h), (1, .int (iI k))]) dX0_addOne_4 rfl (by decide) rfl ?_
  refine z_aload_n (pc := 5) dX0_addOne_5 1 rfl ?_
  refine z_get (pc := 6) (q0 := 0) (v := .ref hK) fL_X0_19 dX0_addOne_6 rfl rfl ?_
  refine z_iload_n (pc := 9) dX0_addOne_9 0 rfl ?_
  refine z_iload_n (pc := 10) dX0_addOne_10 2 rfl ?_
  refine z_iast (pc := 11) (q0 := 1) (ws2 := [(h, oG (up2 g 0 (g 4 2) k) hK hH hM hO), (hK, .inl (cI, 8, .inl (aG (up2 g 0 (g 4 2) k) 0))), (hH, .inl (cI, 8, .inl (aG (up2 g 0 (g 4 2) k) 1))), (hM, .inl (cI, 8, .inl (aG (up2 g 0 (g 4 2) k) 2))), (hO, .inl (cI, 8, .inl (aG (up2 g 0 (g 4 2) k) 3)))]) dX0_addOne_11 rfl (by omega) (by decide) (by rw [aG_up (by omega)]; rfl) ?_
  refine z_aload_n (pc := 12) dX0_addOne_12 1 rfl ?_
  refine z_get (pc := 13) (q0 := 0) (v := .ref hH) fL_X0_23 dX0_addOne_13 rfl rfl ?_
  refine z_iload_n (pc := 16) dX0_addOne_16 0 rfl ?_
  refine z_bipush (pc := 17) dX0_addOne_17 (by decide) ?_
  refine z_iast (pc := 19) (q0 := 2) (ws2 := [(h, oG (up2 (up2 g 0 (g 4 2) k) 1 (g 4 2) 50) hK hH hM hO), (hK, .inl (cI, 8, .inl (aG (up2 (up2 g 0 (g 4 2) k) 1 (g 4 2) 50) 0))), (hH, .inl (cI, 8, .inl (aG (up2 (up2 g 0 (g 4 2) k) 1 (g 4 2) 50) 1))), (hM, .inl (cI, 8, .inl (aG (up2 (up2 g 0 (g 4 2) k) 1 (g 4 2) 50) 2))), (hO, .inl (cI, 8, .inl (aG (up2 (up2 g 0 (g 4 2) k) 1 (g 4 2) 50) 3)))]) dX0_addOne_19 rfl (by omega) (by decide) (by rw [aG_up (by omega)]; rfl) ?_
  refine z_aload_n (pc := 20) dX0_addOne_20 1 rfl ?_
  refine z_get (pc := 21) (q0 := 0) (v := .ref hM) fL_X0_26 dX0_addOne_21 rfl rfl ?_
  refine z_iload_n (pc := 24) dX0_addOne_24 0 rfl ?_
  refine z_iconst (pc := 25) dX0_addOne_25 ?_
  refine z_iast (pc := 26) (q0 := 3) (ws2 := [(h, oG (up2 (up2 (up2 g 0 (g 4 2) k) 1 (g 4 2) 50) 2 (g 4 2) 5) hK hH hM hO), (hK, .inl (cI, 8, .inl (aG (up2 (up2 (up2 g 0 (g 4 2) k) 1 (g 4 2) 50) 2 (g 4 2) 5) 0))), (hH, .inl (cI, 8, .inl (aG (up2 (up2 (up2 g 0 (g 4 2) k) 1 (g 4 2) 50) 2 (g 4 2) 5) 1))), (hM, .inl (cI, 8, .inl (aG (up2 (up2 (up2 g 0 (g 4 2) k) 1 (g 4 2) 50) 2 (g 4 2) 5) 2))), (hO, .inl (cI, 8, .inl (aG (up2 (up2 (up2 g 0 (g 4 2) k) 1 (g 4 2) 50) 2 (g 4 2) 5) 3)))]) dX0_addOne_26 rfl (by omega) (by decide) (by rw [aG_up (by omega)]; rfl) ?_
  refine z_aload_n (pc := 27) dX0_addOne_27 1 rfl ?_
  refine z_get (pc := 28) (q0 := 0) (v := .ref hO) fL_X0_29 dX0_addOne_28 rfl rfl ?_
  refine z_iload_n (pc := 31) dX0_addOne_31 0 rfl ?_
  refine z_iconst (pc := 32) dX0_addOne_32 ?_
  refine z_iast (pc := 33) (q0 := 4) (ws2 := [(h, oG (up2 (up2 (up2 (up2 g 0 (g 4 2) k) 1 (g 4 2) 50) 2 (g 4 2) 5) 3 (g 4 2) 0) hK hH hM hO), (hK, .inl (cI, 8, .inl (aG (up2 (up2 (up2 (up2 g 0 (g 4 2) k) 1 (g 4 2) 50) 2 (g 4 2) 5) 3 (g 4 2) 0) 0))), (hH, .inl (cI, 8, .inl (aG (up2 (up2 (up2 (up2 g 0 (g 4 2) k) 1 (g 4 2) 50) 2 (g 4 2) 5) 3 (g 4 2) 0) 1))), (hM, .inl (cI, 8, .inl (aG (up2 (up2 (up2 (up2 g 0 (g 4 2) k) 1 (g 4 2) 50) 2 (g 4 2) 5) 3 (g 4 2) 0) 2))), (hO, .inl (cI, 8, .inl (aG (up2 (up2 (up2 (up2 g 0 (g 4 2) k) 1 (g 4 2) 50) 2 (g 4 2) 5) 3 (g 4 2) 0) 3)))]) dX0_addOne_33 rfl (by omega) (by decide) (by rw [aG_up (by omega)]; rfl) ?_
  refine z_aload_n (pc := 34) dX0_addOne_34 1 rfl ?_
  refine z_dup (pc := 35) dX0_addOne_35 rfl ?_
  refine z_get (pc := 36) (q0 := 0) (v := .int (iI (g 4 2))) fL_X0_16 dX0_addOne_36 rfl rfl ?_
  refine z_iconst (pc := 39) dX0_addOne_39 ?_
  refine z_iadd (pc := 40) dX0_addOne_40 ?_
  refine z_put (pc := 41) (q0 := 0) (ws2 := [(h, oG (up2 (up2 (up2 (up2 (up2 g 0 (g 4 2) k) 1 (g 4 2) 50) 2 (g 4 2) 5) 3 (g 4 2) 0) 4 2 ((g 4 2) + 1)) hK hH hM hO), (hK, .inl (cI, 8, .inl (aG (up2 (up2 (up2 (up2 (up2 g 0 (g 4 2) k) 1 (g 4 2) 50) 2 (g 4 2) 5) 3 (g 4 2) 0) 4 2 ((g 4 2) + 1)) 0))), (hH, .inl (cI, 8, .inl (aG (up2 (up2 (up2 (up2 (up2 g 0 (g 4 2) k) 1 (g 4 2) 50) 2 (g 4 2) 5) 3 (g 4 2) 0) 4 2 ((g 4 2) + 1)) 1))), (hM, .inl (cI, 8, .inl (aG (up2 (up2 (up2 (up2 (up2 g 0 (g 4 2) k) 1 (g 4 2) 50) 2 (g 4 2) 5) 3 (g 4 2) 0) 4 2 ((g 4 2) + 1)) 2))), (hO, .inl (cI, 8, .inl (aG (up2 (up2 (up2 (up2 (up2 g 0 (g 4 2) k) 1 (g 4 2) 50) 2 (g 4 2) 5) 3 (g 4 2) 0) 4 2 ((g 4 2) + 1)) 3)))]) fP_X0_16 dX0_addOne_41 rfl rfl rfl (Nat.le_of_ble_eq_true rfl) rfl ?_
  refine z_iload_n (pc := 44) dX0_addOne_44 0 rfl ?_
  exact z_iret (pc := 45) dX0_addOne_45 rfl rfl
set_option maxHeartbeats 8000000 in
set_option maxRecDepth 100000 in
theorem c_X0_carry (l : Launch) (D : va_G) (cI cJ cB cS : ClassId) (xa : XA) (h hK hH hM hO : Nat) (g : Gd) (f t n : Int) (ok : Ok g) (hf : 0 ≤ f ∧ f < g 4 2) (ht : 0 ≤ t ∧ t < g 4 2) (hn : 0 ≤ n ∧ n ≤ 200) : Ct l D cI cJ cB cS xa yX0_carry cX0_carry 5 (some .int) 1 21 [.ref h, .int (iI f), .int (iI t), .int (iI n)] [(h, oG g hK hH hM hO), (hK, .inl (cI, 8, .inl (aG g 0))), (hH, .inl (cI, 8, .inl (aG g 1))), (hM, .inl (cI, 8, .inl (aG g 2))), (hO, .inl (cI, 8, .inl (aG g 3)))] (some (.int (iI (mayG g f t n)))) [(h, oG (goesG g f t (mayG g f t n)) hK hH hM hO), (hK, .inl (cI, 8, .inl (aG (goesG g f t (mayG g f t n)) 0))), (hH, .inl (cI, 8, .inl (aG (goesG g f t (mayG g f t n)) 1))), (hM, .inl (cI, 8, .inl (aG (goesG g f t (mayG g f t n)) 2))), (hO, .inl (cI, 8, .inl (aG (goesG g f t (mayG g f t n)) 3)))] := by
  have o0 := ok0 ok
  have o1 := ok1 ok
  have o2 := ok2 ok
  have mr := mayG_rng ok f t (n := n) (by omega)
  unfold mayG at mr
  refine CtE.of (own := RX0) (lv := [(0, .ref h), (1, .int (iI f)), (2, .int (iI t)), (3, .int (iI n))]) (by decide) rfl rfl (Nat.le_of_ble_eq_true rfl) ?_
  intro xp xe xs xm xb xt xc
  refine z_iload_n (pc := 0) dX0_carry_0 3 rfl ?_
  refine z_aload_n (pc := 1) dX0_carry_1 0 rfl ?_
  refine z_get (pc := 2) (q0 := 0) (v := .ref hH) fL_X0_23 dX0_carry_2 rfl rfl ?_
  refine z_iload_n (pc := 5) dX0_carry_5 1 rfl ?_
  refine z_iald (pc := 6) (q0 := 2) (v := (iI (g 1 f))) dX0_carry_6 rfl (by omega) (by decide) (aG_at (by omega)) ?_
  have b1 := okH ok f
  refine z_sipush (pc := 7) dX0_carry_7 (by decide) ?_
  refine z_aload_n (pc := 10) dX0_carry_10 0 rfl ?_
  refine z_get (pc := 11) (q0 := 0) (v := .ref hH) fL_X0_23 dX0_carry_11 rfl rfl ?_
  refine z_iload_n (pc := 14) dX0_carry_14 2 rfl ?_
  refine z_iald (pc := 15) (q0 := 2) (v := (iI (g 1 t))) dX0_carry_15 rfl (by omega) (by decide) (aG_at (by omega)) ?_
  have b2 := okH ok t
  refine z_isub (pc := 16) dX0_carry_16 ?_
  refine z_min (pc := 17) mmin_X0_41 dX0_carry_17 (by omega) (by omega) ⟨Nat.le_of_ble_eq_true rfl, Nat.le_of_ble_eq_true rfl⟩ ?_
  refine z_min (pc := 20) mmin_X0_41 dX0_carry_20 (by omega) (by omega) ⟨Nat.le_of_ble_eq_true rfl, Nat.le_of_ble_eq_true rfl⟩ ?_
  refine z_istore (pc := 23) (lv2 := [(4, .int (iI (min n (min (g 1 f) (200 - (g 1 t)))))), (0, .ref h), (1, .int (iI f)), (2, .int (iI t)), (3, .int (iI n))]) dX0_carry_23 (by decide) rfl ?_
  refine z_aload_n (pc := 25) dX0_carry_25 1 rfl ?_
  refine z_get (pc := 26) (q0 := 0) (v := .ref hH) fL_X0_23 dX0_carry_26 rfl rfl ?_
  refine z_iload_n (pc := 29) dX0_carry_29 2 rfl ?_
  refine z_dup2 (pc := 30) dX0_carry_30 rfl rfl ?_
  refine z_iald (pc := 31) (q0 := 2) (v := (iI (g 1 f))) dX0_carry_31 rfl (by omega) (by decide) (aG_at (by omega)) ?_
  have b3 := okH ok f
  refine z_iload (pc := 32) dX0_carry_32 0 rfl ?_
  refine z_isub (pc := 34) dX0_carry_34 ?_
  refine z_iast (pc := 35) (q0 := 2) (ws2 := [(h, oG (up2 g 1 f ((g 1 f) - (min n (min (g 1 f) (200 - (g 1 t)))))) hK hH hM hO), (hK, .inl (cI, 8, .inl (aG (up2 g 1 f ((g 1 f) - (min n (min (g 1 f) (200 - (g 1 t)))))) 0))), (hH, .inl (cI, 8, .inl (aG (up2 g 1 f ((g 1 f) - (min n (min (g 1 f) (200 - (g 1 t)))))) 1))), (hM, .inl (cI, 8, .inl (aG (up2 g 1 f ((g 1 f) - (min n (min (g 1 f) (200 - (g 1 t)))))) 2))), (hO, .inl (cI, 8, .inl (aG (up2 g 1 f ((g 1 f) - (min n (min (g 1 f) (200 - (g 1 t)))))) 3)))]) dX0_carry_35 rfl (by omega) (by decide) (by rw [aG_up (by omega)]; rfl) ?_
  refine z_aload_n (pc := 36) dX0_carry_36 1 rfl ?_
  refine z_get (pc := 37) (q0 := 0) (v := .ref hH) fL_X0_23 dX0_carry_37 rfl rfl ?_
  refine z_iload_n (pc := 40) dX0_carry_40 3 rfl ?_
  refine z_dup2 (pc := 41) dX0_carry_41 rfl rfl ?_
  refine z_iald (pc := 42) (q0 := 2) (v := (iI ((up2 g 1 f ((g 1 f) - (min n (min (g 1 f) (200 - (g 1 t)))))) 1 t))) dX0_carry_42 rfl (by omega) (by decide) (aG_at (by omega)) ?_
  refine z_iload (pc := 43) dX0_carry_43 0 rfl ?_
  refine z_iadd (pc := 45) dX0_carry_45 ?_
  refine z_iast (pc := 46) (q0 := 2) (ws2 := [(h, oG (up2 (up2 g 1 f ((g 1 f) - (min n (min (g 1 f) (200 - (g 1 t)))))) 1 t (((up2 g 1 f ((g 1 f) - (min n (min (g 1 f) (200 - (g 1 t)))))) 1 t) + (min n (min (g 1 f) (200 - (g 1 t)))))) hK hH hM hO), (hK, .inl (cI, 8, .inl (aG (up2 (up2 g 1 f ((g 1 f) - (min n (min (g 1 f) (200 - (g 1 t)))))) 1 t (((up2 g 1 f ((g 1 f) - (min n (min (g 1 f) (200 - (g 1 t)))))) 1 t) + (min n (min (g 1 f) (200 - (g 1 t)))))) 0))), (hH, .inl (cI, 8, .inl (aG (up2 (up2 g 1 f ((g 1 f) - (min n (min (g 1 f) (200 - (g 1 t)))))) 1 t (((up2 g 1 f ((g 1 f) - (min n (min (g 1 f) (200 - (g 1 t)))))) 1 t) + (min n (min (g 1 f) (200 - (g 1 t)))))) 1))), (hM, .inl (cI, 8, .inl (aG (up2 (up2 g 1 f ((g 1 f) - (min n (min (g 1 f) (200 - (g 1 t)))))) 1 t (((up2 g 1 f ((g 1 f) - (min n (min (g 1 f) (200 - (g 1 t)))))) 1 t) + (min n (min (g 1 f) (200 - (g 1 t)))))) 2))), (hO, .inl (cI, 8, .inl (aG (up2 (up2 g 1 f ((g 1 f) - (min n (min (g 1 f) (200 - (g 1 t)))))) 1 t (((up2 g 1 f ((g 1 f) - (min n (min (g 1 f) (200 - (g 1 t)))))) 1 t) + (min n (min (g 1 f) (200 - (g 1 t)))))) 3)))]) dX0_carry_46 rfl (by omega) (by decide) (by rw [aG_up (by omega)]; rfl) ?_
  refine z_aload_n (pc := 47) dX0_carry_47 1 rfl ?_
  refine z_get (pc := 48) (q0 := 0) (v := .ref hO) fL_X0_29 dX0_carry_48 rfl rfl ?_
  refine z_iload_n (pc := 51) dX0_carry_51 2 rfl ?_
  refine z_aload_n (pc := 52) dX0_carry_52 1 rfl ?_
  refine z_get (pc := 53) (q0 := 0) (v := .ref hO) fL_X0_29 dX0_carry_53 rfl rfl ?_
  refine z_iload_n (pc := 56) dX0_carry_56 2 rfl ?_
  refine z_iald (pc := 57) (q0 := 4) (v := (iI (g 3 f))) dX0_carry_57 rfl (by omega) (by decide) (aG_at (by omega)) ?_
  have b4 := okO ok f
  refine z_iload (pc := 58) dX0_carry_58 0 rfl ?_
  refine z_isub (pc := 60) dX0_carry_60 ?_
  refine z_sipush (pc := 61) dX0_carry_61 (by decide) ?_
  refine z_max (pc := 64) mmax_X0_106 dX0_carry_64 (by omega) (by omega) ⟨Nat.le_of_ble_eq_true rfl, Nat.le_of_ble_eq_true rfl⟩ ?_
  refine z_iast (pc := 67) (q0 := 4) (ws2 := [(h, oG (up2 (up2 (up2 g 1 f ((g 1 f) - (min n (min (g 1 f) (200 - (g 1 t)))))) 1 t (((up2 g 1 f ((g 1 f) - (min n (min (g 1 f) (200 - (g 1 t)))))) 1 t) + (min n (min (g 1 f) (200 - (g 1 t)))))) 3 f (max ((g 3 f) - (min n (min (g 1 f) (200 - (g 1 t))))) (-9999))) hK hH hM hO), (hK, .inl (cI, 8, .inl (aG (up2 (up2 (up2 g 1 f ((g 1 f) - (min n (min (g 1 f) (200 - (g 1 t)))))) 1 t (((up2 g 1 f ((g 1 f) - (min n (min (g 1 f) (200 - (g 1 t)))))) 1 t) + (min n (min (g 1 f) (200 - (g 1 t)))))) 3 f (max ((g 3 f) - (min n (min (g 1 f) (200 - (g 1 t))))) (-9999))) 0))), (hH, .inl (cI, 8, .inl (aG (up2 (up2 (up2 g 1 f ((g 1 f) - (min n (min (g 1 f) (200 - (g 1 t)))))) 1 t (((up2 g 1 f ((g 1 f) - (min n (min (g 1 f) (200 - (g 1 t)))))) 1 t) + (min n (min (g 1 f) (200 - (g 1 t)))))) 3 f (max ((g 3 f) - (min n (min (g 1 f) (200 - (g 1 t))))) (-9999))) 1))), (hM, .inl (cI, 8, .inl (aG (up2 (up2 (up2 g 1 f ((g 1 f) - (min n (min (g 1 f) (200 - (g 1 t)))))) 1 t (((up2 g 1 f ((g 1 f) - (min n (min (g 1 f) (200 - (g 1 t)))))) 1 t) + (min n (min (g 1 f) (200 - (g 1 t)))))) 3 f (max ((g 3 f) - (min n (min (g 1 f) (200 - (g 1 t))))) (-9999))) 2))), (hO, .inl (cI, 8, .inl (aG (up2 (up2 (up2 g 1 f ((g 1 f) - (min n (min (g 1 f) (200 - (g 1 t)))))) 1 t (((up2 g 1 f ((g 1 f) - (min n (min (g 1 f) (200 - (g 1 t)))))) 1 t) + (min n (min (g 1 f) (200 - (g 1 t)))))) 3 f (max ((g 3 f) - (min n (min (g 1 f) (200 - (g 1 t))))) (-9999))) 3)))]) dX0_carry_67 rfl (by omega) (by decide) (by rw [aG_up (by omega)]; rfl) ?_
  refine z_aload_n (pc := 68) dX0_carry_68 1 rfl ?_
  refine z_get (pc := 69) (q0 := 0) (v := .ref hO) fL_X0_29 dX0_carry_69 rfl rfl ?_
  refine z_iload_n (pc := 72) dX0_carry_72 3 rfl ?_
  refine z_aload_n (pc := 73) dX0_carry_73 1 rfl ?_
  refine z_get (pc := 74) (q0 := 0) (v := .ref hO) fL_X0_29 dX0_carry_74 rfl rfl ?_
  refine z_iload_n (pc := 77) dX0_carry_77 3 rfl ?_
  refine z_iald (pc := 78) (q0 := 4) (v := (iI ((up2 (up2 (up2 g 1 f ((g 1 f) - (min n (min (g 1 f) (200 - (g 1 t)))))) 1 t (((up2 g 1 f ((g 1 f) - (min n (min (g 1 f) (200 - (g 1 t)))))) 1 t) + (min n (min (g 1 f) (200 - (g 1 t)))))) 3 f (max ((g 3 f) - (min n (min (g 1 f) (200 - (g 1 t))))) (-9999))) 3 t))) dX0_carry_78 rfl (by omega) (by decide) (aG_at (by omega)) ?_
  have k9 : -9999 ≤ (up2 (up2 (up2 g 1 f ((g 1 f) - (min n (min (g 1 f) (200 - (g 1 t)))))) 1 t (((up2 g 1 f ((g 1 f) - (min n (min (g 1 f) (200 - (g 1 t)))))) 1 t) + (min n (min (g 1 f) (200 - (g 1 t)))))) 3 f (max ((g 3 f) - (min n (min (g 1 f) (200 - (g 1 t))))) (-9999))) 3 t ∧ (up2 (up2 (up2 g 1 f ((g 1 f) - (min n (min (g 1 f) (200 - (g 1 t)))))) 1 t (((up2 g 1 f ((g 1 f) - (min n (min (g 1 f) (200 - (g 1 t)))))) 1 t) + (min n (min (g 1 f) (200 - (g 1 t)))))) 3 f (max ((g 3 f) - (min n (min (g 1 f) (200 - (g 1 t))))) (-9999))) 3 t ≤ 9999 := by
    have kO := okO ok t
    rw [up2_if]
    split
    · omega
    · exact kO
  refine z_iload (pc := 79) dX0_carry_79 0 rfl ?_
  refine z_iadd (pc := 81) dX0_carry_81 ?_
  refine z_sipush (pc := 82) dX0_carry_82 (by decide) ?_
  refine z_min (pc := 85) mmin_X0_41 dX0_carry_85 (by omega) (by omega) ⟨Nat.le_of_ble_eq_true rfl, Nat.le_of_ble_eq_true rfl⟩ ?_
  refine z_iast (pc := 88) (q0 := 4) (ws2 := [(h, oG (up2 (up2 (up2 (up2 g 1 f ((g 1 f) - (min n (min (g 1 f) (200 - (g 1 t)))))) 1 t (((up2 g 1 f ((g 1 f) - (min n (min (g 1 f) (200 - (g 1 t)))))) 1 t) + (min n (min (g 1 f) (200 - (g 1 t)))))) 3 f (max ((g 3 f) - (min n (min (g 1 f) (200 - (g 1 t))))) (-9999))) 3 t (min (((up2 (up2 (up2 g 1 f ((g 1 f) - (min n (min (g 1 f) (200 - (g 1 t)))))) 1 t (((up2 g 1 f ((g 1 f) - (min n (min (g 1 f) (200 - (g 1 t)))))) 1 t) + (min n (min (g 1 f) (200 - (g 1 t)))))) 3 f (max ((g 3 f) - (min n (min (g 1 f) (200 - (g 1 t))))) (-9999))) 3 t) + (min n (min (g 1 f) (200 - (g 1 t))))) 9999)) hK hH hM hO), (hK, .inl (cI, 8, .inl (aG (up2 (up2 (up2 (up2 g 1 f ((g 1 f) - (min n (min (g 1 f) (200 - (g 1 t)))))) 1 t (((up2 g 1 f ((g 1 f) - (min n (min (g 1 f) (200 - (g 1 t)))))) 1 t) + (min n (min (g 1 f) (200 - (g 1 t)))))) 3 f (max ((g 3 f) - (min n (min (g 1 f) (200 - (g 1 t))))) (-9999))) 3 t (min (((up2 (up2 (up2 g 1 f ((g 1 f) - (min n (min (g 1 f) (200 - (g 1 t)))))) 1 t (((up2 g 1 f ((g 1 f) - (min n (min (g 1 f) (200 - (g 1 t)))))) 1 t) + (min n (min (g 1 f) (200 - (g 1 t)))))) 3 f (max ((g 3 f) - (min n (min (g 1 f) (200 - (g 1 t))))) (-9999))) 3 t) + (min n (min (g 1 f) (200 - (g 1 t))))) 9999)) 0))), (hH, .inl (cI, 8, .inl (aG (up2 (up2 (up2 (up2 g 1 f ((g 1 f) - (min n (min (g 1 f) (200 - (g 1 t)))))) 1 t (((up2 g 1 f ((g 1 f) - (min n (min (g 1 f) (200 - (g 1 t)))))) 1 t) + (min n (min (g 1 f) (200 - (g 1 t)))))) 3 f (max ((g 3 f) - (min n (min (g 1 f) (200 - (g 1 t))))) (-9999))) 3 t (min (((up2 (up2 (up2 g 1 f ((g 1 f) - (min n (min (g 1 f) (200 - (g 1 t)))))) 1 t (((up2 g 1 f ((g 1 f) - (min n (min (g 1 f) (200 - (g 1 t)))))) 1 t) + (min n (min (g 1 f) (200 - (g 1 t)))))) 3 f (max ((g 3 f) - (min n (min (g 1 f) (200 - (g 1 t))))) (-9999))) 3 t) + (min n (min (g 1 f) (200 - (g 1 t))))) 9999)) 1))), (hM, .inl (cI, 8, .inl (aG (up2 (up2 (up2 (up2 g 1 f ((g 1 f) - (min n (min (g 1 f) (200 - (g 1 t)))))) 1 t (((up2 g 1 f ((g 1 f) - (min n (min (g 1 f) (200 - (g 1 t)))))) 1 t) + (min n (min (g 1 f) (200 - (g 1 t)))))) 3 f (max ((g 3 f) - (min n (min (g 1 f) (200 - (g 1 t))))) (-9999))) 3 t (min (((up2 (up2 (up2 g 1 f ((g 1 f) - (min n (min (g 1 f) (200 - (g 1 t)))))) 1 t (((up2 g 1 f ((g 1 f) - (min n (min (g 1 f) (200 - (g 1 t)))))) 1 t) + (min n (min (g 1 f) (200 - (g 1 t)))))) 3 f (max ((g 3 f) - (min n (min (g 1 f) (200 - (g 1 t))))) (-9999))) 3 t) + (min n (min (g 1 f) (200 - (g 1 t))))) 9999)) 2))), (hO, .inl (cI, 8, .inl (aG (up2 (up2 (up2 (up2 g 1 f ((g 1 f) - (min n (min (g 1 f) (200 - (g 1 t)))))) 1 t (((up2 g 1 f ((g 1 f) - (min n (min (g 1 f) (200 - (g 1 t)))))) 1 t) + (min n (min (g 1 f) (200 - (g 1 t)))))) 3 f (max ((g 3 f) - (min n (min (g 1 f) (200 - (g 1 t))))) (-9999))) 3 t (min (((up2 (up2 (up2 g 1 f ((g 1 f) - (min n (min (g 1 f) (200 - (g 1 t)))))) 1 t (((up2 g 1 f ((g 1 f) - (min n (min (g 1 f) (200 - (g 1 t)))))) 1 t) + (min n (min (g 1 f) (200 - (g 1 t)))))) 3 f (max ((g 3 f) - (min n (min (g 1 f) (200 - (g 1 t))))) (-9999))) 3 t) + (min n (min (g 1 f) (200 - (g 1 t))))) 9999)) 3)))]) dX0_carry_88 rfl (by omega) (by decide) (by rw [aG_up (by omega)]; rfl) ?_
  refine z_iload (pc := 89) dX0_carry_89 0 rfl ?_
  exact z_iret (pc := 91) dX0_carry_91 (congrArg (fun z => some (Value.int (iI z))) (show mayG g f t n = min n (min (g 1 f) (200 - (g 1 t))) from by rfl)) rfl
set_option maxHeartbeats 8000000 in
set_option maxRecDepth 100000 in
theorem c_X0_payFor (l : Launch) (D : va_G) (cI cJ cB cS : ClassId) (xa : XA) (h hK hH hM hO : Nat) (g : Gd) (c o : Int) (ok : Ok g) (hc0 : 0 ≤ c) (hc1 : c < g 4 2) (ho : 0 ≤ o ∧ o < g 4 2) (hp : paysG g c ≤ g 2 c) : Ct l D cI cJ cB cS xa yX0_payFor cX0_payFor 4 none 1 21 [.ref h, .int (iI c), .int (iI o)] [(h, oG g hK hH hM hO), (hK, .inl (cI, 8, .inl (aG g 0))), (hH, .inl (cI, 8, .inl (aG g 1))), (hM, .inl (cI, 8, .inl (aG g 2))), (hO, .inl (cI, 8, .inl (aG g 3)))] none [(h, oG (payG g c o) hK hH hM hO), (hK, .inl (cI, 8, .inl (aG (payG g c o) 0))), (hH, .inl (cI, 8, .inl (aG (payG g c o) 1))), (hM, .inl (cI, 8, .inl (aG (payG g c o) 2))), (hO, .inl (cI, 8, .inl (aG (payG g c o) 3)))] := by
  have o0 := ok0 ok
  have o1 := ok1 ok
  have o2 := ok2 ok
  have rp := paysG_rng g c
  have rm := okM ok c
  have rk := okM (ok.upM c (v := g 2 c - paysG g c) (by omega)) o
  refine CtE.of (own := RX0) (lv := [(0, .ref h), (1, .int (iI c)), (2, .int (iI o))]) (by decide) rfl rfl (Nat.le_of_ble_eq_true rfl) ?_
  intro xp xe xs xm xb xt xc
  refine z_aload_n (pc := 0) dX0_payFor_0 0 rfl ?_
  refine z_iload_n (pc := 1) dX0_payFor_1 1 rfl ?_
  refine z_callV (pc := 2) (st := []) (st2 := [.int (iI (paysG g c))]) (ws2 := [(h, oG g hK hH hM hO), (hK, .inl (cI, 8, .inl (aG g 0))), (hH, .inl (cI, 8, .inl (aG g 1))), (hM, .inl (cI, 8, .inl (aG g 2))), (hO, .inl (cI, 8, .inl (aG g 3)))]) (q0 := 0) (c_X0_paysOf l D cI cJ cB cS xa h hK hH hM hO g c ok (by omega) (by omega)) mV_X0_paysOf kM_X0_96 dX0_payFor_2 rfl rfl [0, 1] rfl rfl rfl rfl rfl rfl rfl rfl ⟨Nat.le_of_ble_eq_true rfl, Nat.le_of_ble_eq_true rfl, Nat.le_of_ble_eq_true rfl⟩ ?_
  have f2_1 := paysG_rng g c
  refine z_istore_n (pc := 5) (lv2 := [(3, .int (iI (paysG g c))), (0, .ref h), (1, .int (iI c)), (2, .int (iI o))]) dX0_payFor_5 rfl (by decide) rfl ?_
  refine z_aload_n (pc := 6) dX0_payFor_6 1 rfl ?_
  refine z_get (pc := 7) (q0 := 0) (v := .ref hM) fL_X0_26 dX0_payFor_7 rfl rfl ?_
  refine z_iload_n (pc := 10) dX0_payFor_10 2 rfl ?_
  refine z_dup2 (pc := 11) dX0_payFor_11 rfl rfl ?_
  refine z_iald (pc := 12) (q0 := 3) (v := (iI (g 2 c))) dX0_payFor_12 rfl (by omega) (by decide) (aG_at (by omega)) ?_
  have b2 := okM ok c
  refine z_iload_n (pc := 13) dX0_payFor_13 0 rfl ?_
  refine z_isub (pc := 14) dX0_payFor_14 ?_
  refine z_iast (pc := 15) (q0 := 3) (ws2 := [(h, oG (up2 g 2 c ((g 2 c) - (paysG g c))) hK hH hM hO), (hK, .inl (cI, 8, .inl (aG (up2 g 2 c ((g 2 c) - (paysG g c))) 0))), (hH, .inl (cI, 8, .inl (aG (up2 g 2 c ((g 2 c) - (paysG g c))) 1))), (hM, .inl (cI, 8, .inl (aG (up2 g 2 c ((g 2 c) - (paysG g c))) 2))), (hO, .inl (cI, 8, .inl (aG (up2 g 2 c ((g 2 c) - (paysG g c))) 3)))]) dX0_payFor_15 rfl (by omega) (by decide) (by rw [aG_up (by omega)]; rfl) ?_
  refine z_aload_n (pc := 16) dX0_payFor_16 1 rfl ?_
  refine z_get (pc := 17) (q0 := 0) (v := .ref hM) fL_X0_26 dX0_payFor_17 rfl rfl ?_
  refine z_iload_n (pc := 20) dX0_payFor_20 3 rfl ?_
  refine z_aload_n (pc := 21) dX0_payFor_21 1 rfl ?_
  refine z_get (pc := 22) (q0 := 0) (v := .ref hM) fL_X0_26 dX0_payFor_22 rfl rfl ?_
  refine z_iload_n (pc := 25) dX0_payFor_25 3 rfl ?_
  refine z_iald (pc := 26) (q0 := 3) (v := (iI ((up2 g 2 c ((g 2 c) - (paysG g c))) 2 o))) dX0_payFor_26 rfl (by omega) (by decide) (aG_at (by omega)) ?_
  refine z_iload_n (pc := 27) dX0_payFor_27 0 rfl ?_
  refine z_iadd (pc := 28) dX0_payFor_28 ?_
  refine z_bipush (pc := 29) dX0_payFor_29 (by decide) ?_
  refine z_min (pc := 31) mmin_X0_41 dX0_payFor_31 (by omega) (by omega) ⟨Nat.le_of_ble_eq_true rfl, Nat.le_of_ble_eq_true rfl⟩ ?_
  refine z_iast (pc := 34) (q0 := 3) (ws2 := [(h, oG (up2 (up2 g 2 c ((g 2 c) - (paysG g c))) 2 o (min (((up2 g 2 c ((g 2 c) - (paysG g c))) 2 o) + (paysG g c)) 99)) hK hH hM hO), (hK, .inl (cI, 8, .inl (aG (up2 (up2 g 2 c ((g 2 c) - (paysG g c))) 2 o (min (((up2 g 2 c ((g 2 c) - (paysG g c))) 2 o) + (paysG g c)) 99)) 0))), (hH, .inl (cI, 8, .inl (aG (up2 (up2 g 2 c ((g 2 c) - (paysG g c))) 2 o (min (((up2 g 2 c ((g 2 c) - (paysG g c))) 2 o) + (paysG g c)) 99)) 1))), (hM, .inl (cI, 8, .inl (aG (up2 (up2 g 2 c ((g 2 c) - (paysG g c))) 2 o (min (((up2 g 2 c ((g 2 c) - (paysG g c))) 2 o) + (paysG g c)) 99)) 2))), (hO, .inl (cI, 8, .inl (aG (up2 (up2 g 2 c ((g 2 c) - (paysG g c))) 2 o (min (((up2 g 2 c ((g 2 c) - (paysG g c))) 2 o) + (paysG g c)) 99)) 3)))]) dX0_payFor_34 rfl (by omega) (by decide) (by rw [aG_up (by omega)]; rfl) ?_
  exact z_vret (pc := 35) dX0_payFor_35 rfl rfl
set_option maxHeartbeats 8000000 in
set_option maxRecDepth 100000 in
theorem c_X0_getMoreLevel (l : Launch) (D : va_G) (cI cJ cB cS : ClassId) (xa : XA) (h hK hH hM hO : Nat) (g : Gd) (ok : Ok g) : Ct l D cI cJ cB cS xa yX0_getMoreLevel cX0_getMoreLevel 3 none 2 45 [.ref h] [(h, oG g hK hH hM hO), (hK, .inl (cI, 8, .inl (aG g 0))), (hH, .inl (cI, 8, .inl (aG g 1))), (hM, .inl (cI, 8, .inl (aG g 2))), (hO, .inl (cI, 8, .inl (aG g 3)))] none [(h, oG (levG g) hK hH hM hO), (hK, .inl (cI, 8, .inl (aG (levG g) 0))), (hH, .inl (cI, 8, .inl (aG (levG g) 1))), (hM, .inl (cI, 8, .inl (aG (levG g) 2))), (hO, .inl (cI, 8, .inl (aG (levG g) 3)))] := by
  have o0 := ok0 ok
  have o1 := ok1 ok
  have o2 := ok2 ok
  refine CtE.of (own := RX0) (lv := [(0, .ref h)]) (by decide) rfl rfl (Nat.le_of_ble_eq_true rfl) ?_
  intro xp xe xs xm xb xt xc
  refine z_aload_n (pc := 0) dX0_getMoreLevel_0 0 rfl ?_
  refine z_callV (pc := 1) (st := []) (st2 := [.int (iI (highG g))]) (ws2 := [(h, oG g hK hH hM hO), (hK, .inl (cI, 8, .inl (aG g 0))), (hH, .inl (cI, 8, .inl (aG g 1))), (hM, .inl (cI, 8, .inl (aG g 2))), (hO, .inl (cI, 8, .inl (aG g 3)))]) (q0 := 0) (c_X0_highest l D cI cJ cB cS xa h hK hH hM hO g ok) mV_X0_highest kM_X0_59 dX0_getMoreLevel_1 rfl rfl [0, 2] rfl rfl rfl rfl rfl rfl rfl rfl ⟨Nat.le_of_ble_eq_true rfl, Nat.le_of_ble_eq_true rfl, Nat.le_of_ble_eq_true rfl⟩ ?_
  have f1_1 := highG_rng ok
  refine z_istore_n (pc := 4) (lv2 := [(1, .int (iI (highG g))), (0, .ref h)]) dX0_getMoreLevel_4 rfl (by decide) rfl ?_
  refine z_aload_n (pc := 5) dX0_getMoreLevel_5 1 rfl ?_
  refine z_callV (pc := 6) (st := []) (st2 := [.int (iI (lowG g))]) (ws2 := [(h, oG g hK hH hM hO), (hK, .inl (cI, 8, .inl (aG g 0))), (hH, .inl (cI, 8, .inl (aG g 1))), (hM, .inl (cI, 8, .inl (aG g 2))), (hO, .inl (cI, 8, .inl (aG g 3)))]) (q0 := 0) (c_X0_lowest l D cI cJ cB cS xa h hK hH hM hO g ok) mV_X0_lowest kM_X0_62 dX0_getMoreLevel_6 rfl rfl [0, 2] rfl rfl rfl rfl rfl rfl rfl rfl ⟨Nat.le_of_ble_eq_true rfl, Nat.le_of_ble_eq_true rfl, Nat.le_of_ble_eq_true rfl⟩ ?_
  have f6_2 := lowG_rng ok
  refine z_istore_n (pc := 9) (lv2 := [(2, .int (iI (lowG g))), (1, .int (iI (highG g))), (0, .ref h)]) dX0_getMoreLevel_9 rfl (by decide) rfl ?_
  refine z_iload_n (pc := 10) dX0_getMoreLevel_10 1 rfl ?_
  refine z_if_lt (pc := 11) (tgt := 43) dX0_getMoreLevel_11 (by decide) (by omega) (fun h11 => ?_) (fun h11 => ?_)
  · skip
    have e2 : levG g = g := by unfold levG; rw [if_neg]; unfold diffG; rw [if_pos (by omega)]; omega
    exact z_vret (pc := 43) dX0_getMoreLevel_43 rfl (by rw [e2])
  · skip
    refine z_iload_n (pc := 14) dX0_getMoreLevel_14 0 rfl ?_
    refine z_if_lt (pc := 15) (tgt := 43) dX0_getMoreLevel_15 (by decide) (by omega) (fun h15 => ?_) (fun h15 => ?_)
    · skip
      have e2 : levG g = g := by unfold levG; rw [if_neg]; unfold diffG; rw [if_pos (by omega)]; omega
      exact z_vret (pc := 43) dX0_getMoreLevel_43 rfl (by rw [e2])
    · skip
      refine z_aload_n (pc := 18) dX0_getMoreLevel_18 2 rfl ?_
      refine z_get (pc := 19) (q0 := 0) (v := .ref hH) fL_X0_23 dX0_getMoreLevel_19 rfl rfl ?_
      refine z_iload_n (pc := 22) dX0_getMoreLevel_22 1 rfl ?_
      refine z_iald (pc := 23) (q0 := 2) (v := (iI (g 1 (highG g)))) dX0_getMoreLevel_23 rfl (by omega) (by decide) (aG_at (by omega)) ?_
      have b3 := okH ok (highG g)
      refine z_aload_n (pc := 24) dX0_getMoreLevel_24 2 rfl ?_
      refine z_get (pc := 25) (q0 := 0) (v := .ref hH) fL_X0_23 dX0_getMoreLevel_25 rfl rfl ?_
      refine z_iload_n (pc := 28) dX0_getMoreLevel_28 0 rfl ?_
      refine z_iald (pc := 29) (q0 := 2) (v := (iI (g 1 (lowG g)))) dX0_getMoreLevel_29 rfl (by omega) (by decide) (aG_at (by omega)) ?_
      have b4 := okH ok (lowG g)
      refine z_isub (pc := 30) dX0_getMoreLevel_30 ?_
      refine z_iconst (pc := 31) dX0_getMoreLevel_31 ?_
      refine z_icmp_lt (pc := 32) (tgt := 43) dX0_getMoreLevel_32 (by decide) (by omega) (by omega) (fun h32 => ?_) (fun h32 => ?_)
      · skip
        have e2 : levG g = g := by unfold levG; rw [if_neg]; unfold diffG; rw [if_neg (by omega)]; omega
        exact z_vret (pc := 43) dX0_getMoreLevel_43 rfl (by rw [e2])
      · skip
        have bh := okH ok (highG g)
        have bl := okH ok (lowG g)
        have e1 : mayG g (highG g) (lowG g) 1 = 1 := by unfold mayG; omega
        have e2 : levG g = goesG g (highG g) (lowG g) (mayG g (highG g) (lowG g) 1) := by rw [e1]; unfold levG; rw [if_pos]; unfold diffG; rw [if_neg (by omega)]; omega
        refine z_aload_n (pc := 35) dX0_getMoreLevel_35 2 rfl ?_
        refine z_iload_n (pc := 36) dX0_getMoreLevel_36 1 rfl ?_
        refine z_iload_n (pc := 37) dX0_getMoreLevel_37 0 rfl ?_
        refine z_iconst (pc := 38) dX0_getMoreLevel_38 ?_
        refine z_callV (pc := 39) (st := []) (st2 := [.int (iI (mayG g (highG g) (lowG g) 1))]) (ws2 := [(h, oG (goesG g (highG g) (lowG g) (mayG g (highG g) (lowG g) 1)) hK hH hM hO), (hK, .inl (cI, 8, .inl (aG (goesG g (highG g) (lowG g) (mayG g (highG g) (lowG g) 1)) 0))), (hH, .inl (cI, 8, .inl (aG (goesG g (highG g) (lowG g) (mayG g (highG g) (lowG g) 1)) 1))), (hM, .inl (cI, 8, .inl (aG (goesG g (highG g) (lowG g) (mayG g (highG g) (lowG g) 1)) 2))), (hO, .inl (cI, 8, .inl (aG (goesG g (highG g) (lowG g) (mayG g (highG g) (lowG g) 1)) 3)))]) (q0 := 0) (c_X0_carry l D cI cJ cB cS xa h hK hH hM hO g (highG g) (lowG g) 1 ok (by omega) (by omega) (by omega)) mV_X0_carry kM_X0_89 dX0_getMoreLevel_39 rfl rfl [0, 1, 2, 3, 4] rfl rfl rfl rfl rfl rfl rfl rfl ⟨Nat.le_of_ble_eq_true rfl, Nat.le_of_ble_eq_true rfl, Nat.le_of_ble_eq_true rfl⟩ ?_
        have f39_5 := mayG_rng ok (highG g) (lowG g) (show (0 : Int) ≤ 1 by omega)
        have ok39_6 : Ok (goesG g (highG g) (lowG g) (mayG g (highG g) (lowG g) 1)) := goesG_ok ok (highG g) (lowG g) (by omega) (by omega) (by omega)
        refine z_pop (pc := 42) dX0_getMoreLevel_42 rfl ?_
        exact z_vret (pc := 43) dX0_getMoreLevel_43 rfl (by rw [e2])
set_option maxHeartbeats 8000000 in
set_option maxRecDepth 100000 in
theorem c_X0_deal (l : Launch) (D : va_G) (cI cJ cB cS : ClassId) (xa : XA) (h hK hH hM hO : Nat) (g : Gd) (c : Int) (ok : Ok g) (hc0 : 0 ≤ c) (hc1 : c < g 4 2) : Ct l D cI cJ cB cS xa yX0_deal cX0_deal 5 none 2 45 [.ref h, .int (iI c)] [(h, oG g hK hH hM hO), (hK, .inl (cI, 8, .inl (aG g 0))), (hH, .inl (cI, 8, .inl (aG g 1))), (hM, .inl (cI, 8, .inl (aG g 2))), (hO, .inl (cI, 8, .inl (aG g 3)))] none [(h, oG (dealG g c) hK hH hM hO), (hK, .inl (cI, 8, .inl (aG (dealG g c) 0))), (hH, .inl (cI, 8, .inl (aG (dealG g c) 1))), (hM, .inl (cI, 8, .inl (aG (dealG g c) 2))), (hO, .inl (cI, 8, .inl (aG (dealG g c) 3)))] := by
  have o0 := ok0 ok
  have o1 := ok1 ok
  have o2 := ok2 ok
  refine CtE.of (own := RX0) (lv := [(0, .ref h), (1, .int (iI c))]) (by decide) rfl rfl (Nat.le_of_ble_eq_true rfl) ?_
  intro xp xe xs xm xb xt xc
  refine z_aload_n (pc := 0) dX0_deal_0 0 rfl ?_
  refine z_iload_n (pc := 1) dX0_deal_1 1 rfl ?_
  refine z_callV (pc := 2) (st := []) (st2 := [.int (iI (wantsG g c))]) (ws2 := [(h, oG g hK hH hM hO), (hK, .inl (cI, 8, .inl (aG g 0))), (hH, .inl (cI, 8, .inl (aG g 1))), (hM, .inl (cI, 8, .inl (aG g 2))), (hO, .inl (cI, 8, .inl (aG g 3)))]) (q0 := 0) (c_X0_wantsOf l D cI cJ cB cS xa h hK hH hM hO g c ok (by omega) (by omega)) mV_X0_wantsOf kM_X0_93 dX0_deal_2 rfl rfl [0, 1, 2] rfl rfl rfl rfl rfl rfl rfl rfl ⟨Nat.le_of_ble_eq_true rfl, Nat.le_of_ble_eq_true rfl, Nat.le_of_ble_eq_true rfl⟩ ?_
  have f2_1 := wantsG_rng g c
  refine z_istore_n (pc := 5) (lv2 := [(2, .int (iI (wantsG g c))), (0, .ref h), (1, .int (iI c))]) dX0_deal_5 rfl (by decide) rfl ?_
  refine z_aload_n (pc := 6) dX0_deal_6 1 rfl ?_
  refine z_iload_n (pc := 7) dX0_deal_7 2 rfl ?_
  refine z_callV (pc := 8) (st := []) (st2 := [.int (iI (nextG g c))]) (ws2 := [(h, oG g hK hH hM hO), (hK, .inl (cI, 8, .inl (aG g 0))), (hH, .inl (cI, 8, .inl (aG g 1))), (hM, .inl (cI, 8, .inl (aG g 2))), (hO, .inl (cI, 8, .inl (aG g 3)))]) (q0 := 0) (c_X0_nextOf l D cI cJ cB cS xa h hK hH hM hO g c ok (by omega) (by omega)) mV_X0_nextOf kM_X0_68 dX0_deal_8 rfl rfl [0] rfl rfl rfl rfl rfl rfl rfl rfl ⟨Nat.le_of_ble_eq_true rfl, Nat.le_of_ble_eq_true rfl, Nat.le_of_ble_eq_true rfl⟩ ?_
  have f8_2 := nextG_rng ok (show (0 : Int) ≤ c by omega) (show c < g 4 2 by omega)
  refine z_istore_n (pc := 11) (lv2 := [(3, .int (iI (nextG g c))), (2, .int (iI (wantsG g c))), (0, .ref h), (1, .int (iI c))]) dX0_deal_11 rfl (by decide) rfl ?_
  refine z_iload_n (pc := 12) dX0_deal_12 1 rfl ?_
  refine z_if_le (pc := 13) (tgt := 61) dX0_deal_13 (by decide) (by omega) (fun h13 => ?_) (fun h13 => ?_)
  · skip
    refine z_iload_n (pc := 61) dX0_deal_61 1 rfl ?_
    refine z_if_ge (pc := 62) (tgt := 74) dX0_deal_62 (by decide) (by omega) (fun h62 => ?_) (fun h62 => ?_)
    · skip
      have e2 : dealG g c = g := by unfold dealG; rw [if_neg (by omega), if_neg (by omega)]
      exact z_vret (pc := 74) dX0_deal_74 rfl (by rw [e2])
    · skip
      have e2 : dealG g c = goesG g c (nextG g c) (mayG g c (nextG g c) (-(wantsG g c))) := by unfold dealG; rw [if_neg (by omega), if_pos (by omega)]
      refine z_aload_n (pc := 65) dX0_deal_65 2 rfl ?_
      refine z_iload_n (pc := 66) dX0_deal_66 3 rfl ?_
      refine z_iload_n (pc := 67) dX0_deal_67 0 rfl ?_
      refine z_iload_n (pc := 68) dX0_deal_68 1 rfl ?_
      refine z_ineg (pc := 69) dX0_deal_69 ?_
      refine z_callV (pc := 70) (st := []) (st2 := [.int (iI (mayG g c (nextG g c) (-(wantsG g c))))]) (ws2 := [(h, oG (goesG g c (nextG g c) (mayG g c (nextG g c) (-(wantsG g c)))) hK hH hM hO), (hK, .inl (cI, 8, .inl (aG (goesG g c (nextG g c) (mayG g c (nextG g c) (-(wantsG g c)))) 0))), (hH, .inl (cI, 8, .inl (aG (goesG g c (nextG g c) (mayG g c (nextG g c) (-(wantsG g c)))) 1))), (hM, .inl (cI, 8, .inl (aG (goesG g c (nextG g c) (mayG g c (nextG g c) (-(wantsG g c)))) 2))), (hO, .inl (cI, 8, .inl (aG (goesG g c (nextG g c) (mayG g c (nextG g c) (-(wantsG g c)))) 3)))]) (q0 := 0) (c_X0_carry l D cI cJ cB cS xa h hK hH hM hO g c (nextG g c) (-(wantsG g c)) ok (by omega) (by omega) (by omega)) mV_X0_carry kM_X0_89 dX0_deal_70 rfl rfl [0, 1, 2, 3, 4] rfl rfl rfl rfl rfl rfl rfl rfl ⟨Nat.le_of_ble_eq_true rfl, Nat.le_of_ble_eq_true rfl, Nat.le_of_ble_eq_true rfl⟩ ?_
      have f70_3 := mayG_rng ok c (nextG g c) (show (0 : Int) ≤ (-(wantsG g c)) by omega)
      have ok70_4 : Ok (goesG g c (nextG g c) (mayG g c (nextG g c) (-(wantsG g c)))) := goesG_ok ok c (nextG g c) (by omega) (by omega) (by omega)
      refine z_pop (pc := 73) dX0_deal_73 rfl ?_
      exact z_vret (pc := 74) dX0_deal_74 rfl (by rw [e2])
  · skip
    refine z_aload_n (pc := 16) dX0_deal_16 2 rfl ?_
    refine z_get (pc := 17) (q0 := 0) (v := .ref hM) fL_X0_26 dX0_deal_17 rfl rfl ?_
    refine z_iload_n (pc := 20) dX0_deal_20 3 rfl ?_
    refine z_iald (pc := 21) (q0 := 3) (v := (iI (g 2 c))) dX0_deal_21 rfl (by omega) (by decide) (aG_at (by omega)) ?_
    have b5 := okM ok c
    refine z_aload_n (pc := 22) dX0_deal_22 2 rfl ?_
    refine z_iload_n (pc := 23) dX0_deal_23 3 rfl ?_
    refine z_callV (pc := 24) (st := [.int (iI (g 2 c))]) (st2 := [.int (iI (paysG g c)), .int (iI (g 2 c))]) (ws2 := [(h, oG g hK hH hM hO), (hK, .inl (cI, 8, .inl (aG g 0))), (hH, .inl (cI, 8, .inl (aG g 1))), (hM, .inl (cI, 8, .inl (aG g 2))), (hO, .inl (cI, 8, .inl (aG g 3)))]) (q0 := 0) (c_X0_paysOf l D cI cJ cB cS xa h hK hH hM hO g c ok (by omega) (by omega)) mV_X0_paysOf kM_X0_96 dX0_deal_24 rfl rfl [0, 1] rfl rfl rfl rfl rfl rfl rfl rfl ⟨Nat.le_of_ble_eq_true rfl, Nat.le_of_ble_eq_true rfl, Nat.le_of_ble_eq_true rfl⟩ ?_
    have f24_6 := paysG_rng g c
    refine z_icmp_lt (pc := 27) (tgt := 61) dX0_deal_27 (by decide) (by omega) (by omega) (fun h27 => ?_) (fun h27 => ?_)
    · skip
      refine z_iload_n (pc := 61) dX0_deal_61 1 rfl ?_
      refine z_if_ge (pc := 62) (tgt := 74) dX0_deal_62 (by decide) (by omega) (fun h62 => ?_) (fun h62 => ?_)
      · skip
        have e2 : dealG g c = g := by unfold dealG; rw [if_neg (by omega), if_neg (by omega)]
        exact z_vret (pc := 74) dX0_deal_74 rfl (by rw [e2])
      · skip
        have e2 : dealG g c = goesG g c (nextG g c) (mayG g c (nextG g c) (-(wantsG g c))) := by unfold dealG; rw [if_neg (by omega), if_pos (by omega)]
        refine z_aload_n (pc := 65) dX0_deal_65 2 rfl ?_
        refine z_iload_n (pc := 66) dX0_deal_66 3 rfl ?_
        refine z_iload_n (pc := 67) dX0_deal_67 0 rfl ?_
        refine z_iload_n (pc := 68) dX0_deal_68 1 rfl ?_
        refine z_ineg (pc := 69) dX0_deal_69 ?_
        refine z_callV (pc := 70) (st := []) (st2 := [.int (iI (mayG g c (nextG g c) (-(wantsG g c))))]) (ws2 := [(h, oG (goesG g c (nextG g c) (mayG g c (nextG g c) (-(wantsG g c)))) hK hH hM hO), (hK, .inl (cI, 8, .inl (aG (goesG g c (nextG g c) (mayG g c (nextG g c) (-(wantsG g c)))) 0))), (hH, .inl (cI, 8, .inl (aG (goesG g c (nextG g c) (mayG g c (nextG g c) (-(wantsG g c)))) 1))), (hM, .inl (cI, 8, .inl (aG (goesG g c (nextG g c) (mayG g c (nextG g c) (-(wantsG g c)))) 2))), (hO, .inl (cI, 8, .inl (aG (goesG g c (nextG g c) (mayG g c (nextG g c) (-(wantsG g c)))) 3)))]) (q0 := 0) (c_X0_carry l D cI cJ cB cS xa h hK hH hM hO g c (nextG g c) (-(wantsG g c)) ok (by omega) (by omega) (by omega)) mV_X0_carry kM_X0_89 dX0_deal_70 rfl rfl [0, 1, 2, 3, 4] rfl rfl rfl rfl rfl rfl rfl rfl ⟨Nat.le_of_ble_eq_true rfl, Nat.le_of_ble_eq_true rfl, Nat.le_of_ble_eq_true rfl⟩ ?_
        have f70_7 := mayG_rng ok c (nextG g c) (show (0 : Int) ≤ (-(wantsG g c)) by omega)
        have ok70_8 : Ok (goesG g c (nextG g c) (mayG g c (nextG g c) (-(wantsG g c)))) := goesG_ok ok c (nextG g c) (by omega) (by omega) (by omega)
        refine z_pop (pc := 73) dX0_deal_73 rfl ?_
        exact z_vret (pc := 74) dX0_deal_74 rfl (by rw [e2])
    · skip
      refine z_aload_n (pc := 30) dX0_deal_30 2 rfl ?_
      refine z_iload_n (pc := 31) dX0_deal_31 0 rfl ?_
      refine z_iload_n (pc := 32) dX0_deal_32 3 rfl ?_
      refine z_iload_n (pc := 33) dX0_deal_33 1 rfl ?_
      refine z_aload_n (pc := 34) dX0_deal_34 2 rfl ?_
      refine z_iload_n (pc := 35) dX0_deal_35 0 rfl ?_
      refine z_callV (pc := 36) (st := [.int (iI (wantsG g c)), .int (iI c), .int (iI (nextG g c)), .ref h]) (st2 := [.int (iI (yieldsG g (nextG g c))), .int (iI (wantsG g c)), .int (iI c), .int (iI (nextG g c)), .ref h]) (ws2 := [(h, oG g hK hH hM hO), (hK, .inl (cI, 8, .inl (aG g 0))), (hH, .inl (cI, 8, .inl (aG g 1))), (hM, .inl (cI, 8, .inl (aG g 2))), (hO, .inl (cI, 8, .inl (aG g 3)))]) (q0 := 0) (c_X0_yieldsOf l D cI cJ cB cS xa h hK hH hM hO g (nextG g c) ok (by omega) (by omega)) mV_X0_yieldsOf kM_X0_99 dX0_deal_36 rfl rfl [0, 1, 2] rfl rfl rfl rfl rfl rfl rfl rfl ⟨Nat.le_of_ble_eq_true rfl, Nat.le_of_ble_eq_true rfl, Nat.le_of_ble_eq_true rfl⟩ ?_
      have f36_9 := yieldsG_rng ok (nextG g c)
      refine z_min (pc := 39) mmin_X0_41 dX0_deal_39 (by omega) (by omega) ⟨Nat.le_of_ble_eq_true rfl, Nat.le_of_ble_eq_true rfl⟩ ?_
      refine z_callV (pc := 42) (st := []) (st2 := [.int (iI (mayG g (nextG g c) c (min (wantsG g c) (yieldsG g (nextG g c)))))]) (ws2 := [(h, oG (goesG g (nextG g c) c (mayG g (nextG g c) c (min (wantsG g c) (yieldsG g (nextG g c))))) hK hH hM hO), (hK, .inl (cI, 8, .inl (aG (goesG g (nextG g c) c (mayG g (nextG g c) c (min (wantsG g c) (yieldsG g (nextG g c))))) 0))), (hH, .inl (cI, 8, .inl (aG (goesG g (nextG g c) c (mayG g (nextG g c) c (min (wantsG g c) (yieldsG g (nextG g c))))) 1))), (hM, .inl (cI, 8, .inl (aG (goesG g (nextG g c) c (mayG g (nextG g c) c (min (wantsG g c) (yieldsG g (nextG g c))))) 2))), (hO, .inl (cI, 8, .inl (aG (goesG g (nextG g c) c (mayG g (nextG g c) c (min (wantsG g c) (yieldsG g (nextG g c))))) 3)))]) (q0 := 0) (c_X0_carry l D cI cJ cB cS xa h hK hH hM hO g (nextG g c) c (min (wantsG g c) (yieldsG g (nextG g c))) ok (by omega) (by omega) (by omega)) mV_X0_carry kM_X0_89 dX0_deal_42 rfl rfl [0, 1, 2, 3, 4] rfl rfl rfl rfl rfl rfl rfl rfl ⟨Nat.le_of_ble_eq_true rfl, Nat.le_of_ble_eq_true rfl, Nat.le_of_ble_eq_true rfl⟩ ?_
      have f42_10 := mayG_rng ok (nextG g c) c (show (0 : Int) ≤ (min (wantsG g c) (yieldsG g (nextG g c))) by omega)
      have ok42_11 : Ok (goesG g (nextG g c) c (mayG g (nextG g c) c (min (wantsG g c) (yieldsG g (nextG g c))))) := goesG_ok ok (nextG g c) c (by omega) (by omega) (by omega)
      refine z_istore (pc := 45) (lv2 := [(4, .int (iI (mayG g (nextG g c) c (min (wantsG g c) (yieldsG g (nextG g c)))))), (3, .int (iI (nextG g c))), (2, .int (iI (wantsG g c))), (0, .ref h), (1, .int (iI c))]) dX0_deal_45 (by decide) rfl ?_
      refine z_iload (pc := 47) dX0_deal_47 0 rfl ?_
      refine z_if_le (pc := 49) (tgt := 58) dX0_deal_49 (by decide) (by omega) (fun h49 => ?_) (fun h49 => ?_)
      · skip
        have e2 : dealG g c = goesG g (nextG g c) c (mayG g (nextG g c) c (min (wantsG g c) (yieldsG g (nextG g c)))) := by unfold dealG; rw [if_pos ⟨by omega, by omega⟩]; unfold haveG; exact if_neg (by omega)
        refine z_goto (pc := 58) (tgt := 74) dX0_deal_58 (by decide) ?_
        exact z_vret (pc := 74) dX0_deal_74 rfl (by rw [e2])
      · skip
        have e2 : dealG g c = payG (goesG g (nextG g c) c (mayG g (nextG g c) c (min (wantsG g c) (yieldsG g (nextG g c))))) c (nextG g c) := by unfold dealG; rw [if_pos ⟨by omega, by omega⟩]; unfold haveG; exact if_pos (by omega)
        refine z_aload_n (pc := 52) dX0_deal_52 3 rfl ?_
        refine z_iload_n (pc := 53) dX0_deal_53 4 rfl ?_
        refine z_iload_n (pc := 54) dX0_deal_54 1 rfl ?_
        refine z_callV (pc := 55) (st := []) (st2 := []) (ws2 := [(h, oG (payG (goesG g (nextG g c) c (mayG g (nextG g c) c (min (wantsG g c) (yieldsG g (nextG g c))))) c (nextG g c)) hK hH hM hO), (hK, .inl (cI, 8, .inl (aG (payG (goesG g (nextG g c) c (mayG g (nextG g c) c (min (wantsG g c) (yieldsG g (nextG g c))))) c (nextG g c)) 0))), (hH, .inl (cI, 8, .inl (aG (payG (goesG g (nextG g c) c (mayG g (nextG g c) c (min (wantsG g c) (yieldsG g (nextG g c))))) c (nextG g c)) 1))), (hM, .inl (cI, 8, .inl (aG (payG (goesG g (nextG g c) c (mayG g (nextG g c) c (min (wantsG g c) (yieldsG g (nextG g c))))) c (nextG g c)) 2))), (hO, .inl (cI, 8, .inl (aG (payG (goesG g (nextG g c) c (mayG g (nextG g c) c (min (wantsG g c) (yieldsG g (nextG g c))))) c (nextG g c)) 3)))]) (q0 := 0) (c_X0_payFor l D cI cJ cB cS xa h hK hH hM hO (goesG g (nextG g c) c (mayG g (nextG g c) c (min (wantsG g c) (yieldsG g (nextG g c))))) c (nextG g c) ok42_11 (by omega) (show c < g 4 2 from by omega) (show 0 ≤ nextG g c ∧ nextG g c < g 4 2 from by omega) (show paysG g c ≤ g 2 c from by omega)) mV_X0_payFor kM_X0_102 dX0_deal_55 rfl rfl [0, 1, 2, 3, 4] rfl rfl rfl rfl rfl rfl rfl rfl ⟨Nat.le_of_ble_eq_true rfl, Nat.le_of_ble_eq_true rfl, Nat.le_of_ble_eq_true rfl⟩ ?_
        refine z_goto (pc := 58) (tgt := 74) dX0_deal_58 (by decide) ?_
        exact z_vret (pc := 74) dX0_deal_74 rfl (by rw [e2])
set_option maxHeartbeats 8000000 in
set_option maxRecDepth 100000 in
theorem c_X0_goMinute (l : Launch) (D : va_G) (cI cJ cB cS : ClassId) (xa : XA) (h hK hH hM hO : Nat) (g : Gd) (ok : Ok g) (hm : g 4 0 < 1000000) : Ct l D cI cJ cB cS xa yX0_goMinute cX0_goMinute 2 none 3 69 [.ref h] [(h, oG g hK hH hM hO), (hK, .inl (cI, 8, .inl (aG g 0))), (hH, .inl (cI, 8, .inl (aG g 1))), (hM, .inl (cI, 8, .inl (aG g 2))), (hO, .inl (cI, 8, .inl (aG g 3)))] none [(h, oG (minG g) hK hH hM hO), (hK, .inl (cI, 8, .inl (aG (minG g) 0))), (hH, .inl (cI, 8, .inl (aG (minG g) 1))), (hM, .inl (cI, 8, .inl (aG (minG g) 2))), (hO, .inl (cI, 8, .inl (aG (minG g) 3)))] := by
  have o0 := ok0 ok
  have o1 := ok1 ok
  have o2 := ok2 ok
  refine CtE.of (own := RX0) (lv := [(0, .ref h)]) (by decide) rfl rfl (Nat.le_of_ble_eq_true rfl) ?_
  intro xp xe xs xm xb xt xc
  refine z_aload_n (pc := 0) dX0_goMinute_0 0 rfl ?_
  refine z_callV (pc := 1) (st := []) (st2 := [.int (bI (dusk g))]) (ws2 := [(h, oG g hK hH hM hO), (hK, .inl (cI, 8, .inl (aG g 0))), (hH, .inl (cI, 8, .inl (aG g 1))), (hM, .inl (cI, 8, .inl (aG g 2))), (hO, .inl (cI, 8, .inl (aG g 3)))]) (q0 := 0) (c_X0_isDusk l D cI cJ cB cS xa h hK hH hM hO g ok) mV_X0_isDusk kM_X0_79 dX0_goMinute_1 rfl rfl [0] rfl rfl rfl rfl rfl rfl rfl rfl ⟨Nat.le_of_ble_eq_true rfl, Nat.le_of_ble_eq_true rfl, Nat.le_of_ble_eq_true rfl⟩ ?_
  refine z_ifb_eq (pc := 4) (tgt := 14) dX0_goMinute_4 (by decide) (fun h4 => ?_) (fun h4 => ?_)
  · skip
    refine z_iconst (pc := 14) dX0_goMinute_14 ?_
    refine z_istore_n (pc := 15) (lv2 := [(1, .int (iI 0)), (0, .ref h)]) dX0_goMinute_15 rfl (by decide) rfl ?_
    have LP16 : ∀ (n : Nat) (i : Int) (gg : Gd), 0 ≤ i → i ≤ g 4 2 → gg = dealsG g i.toNat → (g 4 2 - i).toNat < n → Z xp l xe { frames := 3, cells := 0, slots := 0, locals := 69 } xs xm ([.ref h] : List Value).toArray xb xt xc 0 0 (MQ xb (Cq (S := Unit) D [(h, oG g hK hH hM hO), (hK, .inl (cI, 8, .inl (aG g 0))), (hH, .inl (cI, 8, .inl (aG g 1))), (hM, .inl (cI, 8, .inl (aG g 2))), (hO, .inl (cI, 8, .inl (aG g 3)))] (fun _ => True) (fun _ => none) (fun _ => [(h, oG (minG g) hK hH hM hO), (hK, .inl (cI, 8, .inl (aG (minG g) 0))), (hH, .inl (cI, 8, .inl (aG (minG g) 1))), (hM, .inl (cI, 8, .inl (aG (minG g) 2))), (hO, .inl (cI, 8, .inl (aG (minG g) 3)))])) ([.ref h] : List Value).toArray xs 0 0 (va_A0 [(h, oG g hK hH hM hO), (hK, .inl (cI, 8, .inl (aG g 0))), (hH, .inl (cI, 8, .inl (aG g 1))), (hM, .inl (cI, 8, .inl (aG g 2))), (hO, .inl (cI, 8, .inl (aG g 3)))])) cX0_goMinute RX0 2 none D cI cJ cB cS xa (va_A0 [(h, oG g hK hH hM hO), (hK, .inl (cI, 8, .inl (aG g 0))), (hH, .inl (cI, 8, .inl (aG g 1))), (hM, .inl (cI, 8, .inl (aG g 2))), (hO, .inl (cI, 8, .inl (aG g 3)))]) [(h, oG gg hK hH hM hO), (hK, .inl (cI, 8, .inl (aG gg 0))), (hH, .inl (cI, 8, .inl (aG gg 1))), (hM, .inl (cI, 8, .inl (aG gg 2))), (hO, .inl (cI, 8, .inl (aG gg 3)))] [(0, .ref h), (1, .int (iI i))] 16 [] := by
      intro n
      induction n with
      | zero => intro i gg hi0 hi1 hg hms; exact absurd hms (Nat.not_lt_zero _)
      | succ n ih =>
        intro i gg hi0 hi1 hg hms
        have okg : Ok gg := by rw [hg]; exact dealsG_ok ok _
        have q4 : ∀ d, gg 4 d = g 4 d := fun d => by rw [hg]; exact dealsG_4 g d _
        have q2 := q4 2
        have q0 := q4 0
        have ih16 := ih
        clear ih
        refine z_iload_n (pc := 16) dX0_goMinute_16 1 rfl ?_
        refine z_aload_n (pc := 17) dX0_goMinute_17 0 rfl ?_
        refine z_get (pc := 18) (q0 := 0) (v := .int (iI (gg 4 2))) fL_X0_16 dX0_goMinute_18 rfl rfl ?_
        refine z_icmp_ge (pc := 21) (tgt := 35) dX0_goMinute_21 (by decide) (by omega) (by omega) (fun h21 => ?_) (fun h21 => ?_)
        · skip
          obtain rfl : i = g 4 2 := by omega
          have e2 : minG g = up2 gg 4 0 (gg 4 0 + 1) := by unfold minG; rw [if_neg h4, hg]
          refine z_aload_n (pc := 35) dX0_goMinute_35 0 rfl ?_
          refine z_dup (pc := 36) dX0_goMinute_36 rfl ?_
          refine z_get (pc := 37) (q0 := 0) (v := .int (iI (gg 4 0))) fL_X0_7 dX0_goMinute_37 rfl rfl ?_
          refine z_iconst (pc := 40) dX0_goMinute_40 ?_
          refine z_iadd (pc := 41) dX0_goMinute_41 ?_
          refine z_put (pc := 42) (q0 := 0) (ws2 := [(h, oG (up2 gg 4 0 ((gg 4 0) + 1)) hK hH hM hO), (hK, .inl (cI, 8, .inl (aG (up2 gg 4 0 ((gg 4 0) + 1)) 0))), (hH, .inl (cI, 8, .inl (aG (up2 gg 4 0 ((gg 4 0) + 1)) 1))), (hM, .inl (cI, 8, .inl (aG (up2 gg 4 0 ((gg 4 0) + 1)) 2))), (hO, .inl (cI, 8, .inl (aG (up2 gg 4 0 ((gg 4 0) + 1)) 3)))]) fP_X0_7 dX0_goMinute_42 rfl rfl rfl (Nat.le_of_ble_eq_true rfl) rfl ?_
          exact z_vret (pc := 45) dX0_goMinute_45 rfl (by rw [e2])
        · skip
          refine z_aload_n (pc := 24) dX0_goMinute_24 0 rfl ?_
          refine z_iload_n (pc := 25) dX0_goMinute_25 1 rfl ?_
          refine z_callV (pc := 26) (st := []) (st2 := []) (ws2 := [(h, oG (dealG gg i) hK hH hM hO), (hK, .inl (cI, 8, .inl (aG (dealG gg i) 0))), (hH, .inl (cI, 8, .inl (aG (dealG gg i) 1))), (hM, .inl (cI, 8, .inl (aG (dealG gg i) 2))), (hO, .inl (cI, 8, .inl (aG (dealG gg i) 3)))]) (q0 := 0) (c_X0_deal l D cI cJ cB cS xa h hK hH hM hO gg i okg (by omega) (by omega)) mV_X0_deal kM_X0_85 dX0_goMinute_26 rfl rfl [0, 1, 2, 3, 4] rfl rfl rfl rfl rfl rfl rfl rfl ⟨Nat.le_of_ble_eq_true rfl, Nat.le_of_ble_eq_true rfl, Nat.le_of_ble_eq_true rfl⟩ ?_
          have ok26_1 : Ok (dealG gg i) := dealG_ok okg i
          have f26_2 := dealG_4 gg i
          refine z_iinc (pc := 29) (lv2 := [(1, .int (iI (i + 1))), (0, .ref h)]) dX0_goMinute_29 1 rfl (by decide) rfl ?_
          refine z_goto (pc := 32) (tgt := 16) dX0_goMinute_32 (by decide) ?_
          refine z_lv (lv2 := [(0, .ref h), (1, .int (iI (i + 1)))]) [1, 0] rfl ?_
          exact ih16 (i + 1) (dealG gg i) (by omega) (by omega) (by rw [dealsG_s _ hi0, ← hg]) (by omega)
    refine z_lv (lv2 := [(0, .ref h), (1, .int (iI 0))]) [1, 0] rfl ?_
    exact LP16 _ 0 g (by omega) (by omega) (by rfl) (Nat.lt_succ_self _)
  · skip
    refine z_aload_n (pc := 7) dX0_goMinute_7 0 rfl ?_
    have e2 : minG g = up2 (levG g) 4 0 (levG g 4 0 + 1) := by unfold minG; rw [if_pos h4]
    refine z_callV (pc := 8) (st := []) (st2 := []) (ws2 := [(h, oG (levG g) hK hH hM hO), (hK, .inl (cI, 8, .inl (aG (levG g) 0))), (hH, .inl (cI, 8, .inl (aG (levG g) 1))), (hM, .inl (cI, 8, .inl (aG (levG g) 2))), (hO, .inl (cI, 8, .inl (aG (levG g) 3)))]) (q0 := 0) (c_X0_getMoreLevel l D cI cJ cB cS xa h hK hH hM hO g ok) mV_X0_getMoreLevel kM_X0_82 dX0_goMinute_8 rfl rfl [0, 1, 2, 3, 4] rfl rfl rfl rfl rfl rfl rfl rfl ⟨Nat.le_of_ble_eq_true rfl, Nat.le_of_ble_eq_true rfl, Nat.le_of_ble_eq_true rfl⟩ ?_
    have ok8_3 : Ok (levG g) := levG_ok ok
    refine z_goto (pc := 11) (tgt := 35) dX0_goMinute_11 (by decide) ?_
    refine z_aload_n (pc := 35) dX0_goMinute_35 0 rfl ?_
    refine z_dup (pc := 36) dX0_goMinute_36 rfl ?_
    refine z_get (pc := 37) (q0 := 0) (v := .int (iI ((levG g) 4 0))) fL_X0_7 dX0_goMinute_37 rfl rfl ?_
    refine z_iconst (pc := 40) dX0_goMinute_40 ?_
    refine z_iadd (pc := 41) dX0_goMinute_41 ?_
    refine z_put (pc := 42) (q0 := 0) (ws2 := [(h, oG (up2 (levG g) 4 0 (((levG g) 4 0) + 1)) hK hH hM hO), (hK, .inl (cI, 8, .inl (aG (up2 (levG g) 4 0 (((levG g) 4 0) + 1)) 0))), (hH, .inl (cI, 8, .inl (aG (up2 (levG g) 4 0 (((levG g) 4 0) + 1)) 1))), (hM, .inl (cI, 8, .inl (aG (up2 (levG g) 4 0 (((levG g) 4 0) + 1)) 2))), (hO, .inl (cI, 8, .inl (aG (up2 (levG g) 4 0 (((levG g) 4 0) + 1)) 3)))]) fP_X0_7 dX0_goMinute_42 rfl rfl rfl (Nat.le_of_ble_eq_true rfl) rfl ?_
    exact z_vret (pc := 45) dX0_goMinute_45 rfl (by rw [e2])
set_option maxHeartbeats 8000000 in
set_option maxRecDepth 100000 in
theorem c_X0_goOn (l : Launch) (D : va_G) (cI cJ cB cS : ClassId) (xa : XA) (h hK hH hM hO : Nat) (g : Gd) (k : Int) (ok : Ok g) (hk : 0 ≤ k ∧ k ≤ 400) (hm : g 4 0 + k ≤ 1000000) : Ct l D cI cJ cB cS xa yX0_goOn cX0_goOn 3 none 4 90 [.ref h, .int (iI k)] [(h, oG g hK hH hM hO), (hK, .inl (cI, 8, .inl (aG g 0))), (hH, .inl (cI, 8, .inl (aG g 1))), (hM, .inl (cI, 8, .inl (aG g 2))), (hO, .inl (cI, 8, .inl (aG g 3)))] none [(h, oG (minsG g (Int.toNat k)) hK hH hM hO), (hK, .inl (cI, 8, .inl (aG (minsG g (Int.toNat k)) 0))), (hH, .inl (cI, 8, .inl (aG (minsG g (Int.toNat k)) 1))), (hM, .inl (cI, 8, .inl (aG (minsG g (Int.toNat k)) 2))), (hO, .inl (cI, 8, .inl (aG (minsG g (Int.toNat k)) 3)))] := by
  have o0 := ok0 ok
  have o1 := ok1 ok
  have o2 := ok2 ok
  refine CtE.of (own := RX0) (lv := [(0, .ref h), (1, .int (iI k))]) (by decide) rfl rfl (Nat.le_of_ble_eq_true rfl) ?_
  intro xp xe xs xm xb xt xc
  refine z_iconst (pc := 0) dX0_goOn_0 ?_
  refine z_istore_n (pc := 1) (lv2 := [(2, .int (iI 0)), (0, .ref h), (1, .int (iI k))]) dX0_goOn_1 rfl (by decide) rfl ?_
  have LP2 : ∀ (n : Nat) (i : Int) (gg : Gd), 0 ≤ i → i ≤ k → gg = minsG g i.toNat → (k - i).toNat < n → Z xp l xe { frames := 4, cells := 0, slots := 0, locals := 90 } xs xm ([.ref h, .int (iI k)] : List Value).toArray xb xt xc 0 0 (MQ xb (Cq (S := Unit) D [(h, oG g hK hH hM hO), (hK, .inl (cI, 8, .inl (aG g 0))), (hH, .inl (cI, 8, .inl (aG g 1))), (hM, .inl (cI, 8, .inl (aG g 2))), (hO, .inl (cI, 8, .inl (aG g 3)))] (fun _ => True) (fun _ => none) (fun _ => [(h, oG (minsG g (Int.toNat k)) hK hH hM hO), (hK, .inl (cI, 8, .inl (aG (minsG g (Int.toNat k)) 0))), (hH, .inl (cI, 8, .inl (aG (minsG g (Int.toNat k)) 1))), (hM, .inl (cI, 8, .inl (aG (minsG g (Int.toNat k)) 2))), (hO, .inl (cI, 8, .inl (aG (minsG g (Int.toNat k)) 3)))])) ([.ref h, .int (iI k)] : List Value).toArray xs 0 0 (va_A0 [(h, oG g hK hH hM hO), (hK, .inl (cI, 8, .inl (aG g 0))), (hH, .inl (cI, 8, .inl (aG g 1))), (hM, .inl (cI, 8, .inl (aG g 2))), (hO, .inl (cI, 8, .inl (aG g 3)))])) cX0_goOn RX0 3 none D cI cJ cB cS xa (va_A0 [(h, oG g hK hH hM hO), (hK, .inl (cI, 8, .inl (aG g 0))), (hH, .inl (cI, 8, .inl (aG g 1))), (hM, .inl (cI, 8, .inl (aG g 2))), (hO, .inl (cI, 8, .inl (aG g 3)))]) [(h, oG gg hK hH hM hO), (hK, .inl (cI, 8, .inl (aG gg 0))), (hH, .inl (cI, 8, .inl (aG gg 1))), (hM, .inl (cI, 8, .inl (aG gg 2))), (hO, .inl (cI, 8, .inl (aG gg 3)))] [(0, .ref h), (1, .int (iI k)), (2, .int (iI i))] 2 [] := by
    intro n
    induction n with
    | zero => intro i gg hi0 hi1 hg hms; exact absurd hms (Nat.not_lt_zero _)
    | succ n ih =>
      intro i gg hi0 hi1 hg hms
      have okg : Ok gg := by rw [hg]; exact minsG_ok ok _ (by omega)
      have q0 : gg 4 0 = g 4 0 + i.toNat := by rw [hg]; exact minsG_40 g _
      have ih2 := ih
      clear ih
      refine z_iload_n (pc := 2) dX0_goOn_2 2 rfl ?_
      refine z_iload_n (pc := 3) dX0_goOn_3 1 rfl ?_
      refine z_icmp_ge (pc := 4) (tgt := 17) dX0_goOn_4 (by decide) (by omega) (by omega) (fun h4 => ?_) (fun h4 => ?_)
      · skip
        obtain rfl : i = k := by omega
        exact z_vret (pc := 17) dX0_goOn_17 rfl (by rw [hg])
      · skip
        refine z_aload_n (pc := 7) dX0_goOn_7 0 rfl ?_
        refine z_callV (pc := 8) (st := []) (st2 := []) (ws2 := [(h, oG (minG gg) hK hH hM hO), (hK, .inl (cI, 8, .inl (aG (minG gg) 0))), (hH, .inl (cI, 8, .inl (aG (minG gg) 1))), (hM, .inl (cI, 8, .inl (aG (minG gg) 2))), (hO, .inl (cI, 8, .inl (aG (minG gg) 3)))]) (q0 := 0) (c_X0_goMinute l D cI cJ cB cS xa h hK hH hM hO gg okg (by omega)) mV_X0_goMinute kM_X0_76 dX0_goOn_8 rfl rfl [0, 1, 2, 3, 4] rfl rfl rfl rfl rfl rfl rfl rfl ⟨Nat.le_of_ble_eq_true rfl, Nat.le_of_ble_eq_true rfl, Nat.le_of_ble_eq_true rfl⟩ ?_
        have ok8_1 : Ok (minG gg) := minG_ok okg (by omega)
        have f8_2 := minG_40 gg
        have f8_3 := minG_41 gg
        have f8_4 := minG_42 gg
        refine z_iinc (pc := 11) (lv2 := [(2, .int (iI (i + 1))), (0, .ref h), (1, .int (iI k))]) dX0_goOn_11 2 rfl (by decide) rfl ?_
        refine z_goto (pc := 14) (tgt := 2) dX0_goOn_14 (by decide) ?_
        refine z_lv (lv2 := [(0, .ref h), (1, .int (iI k)), (2, .int (iI (i + 1)))]) [1, 2, 0] rfl ?_
        exact ih2 (i + 1) (minG gg) (by omega) (by omega) (by rw [minsG_s _ hi0, ← hg]) (by omega)
  refine z_lv (lv2 := [(0, .ref h), (1, .int (iI k)), (2, .int (iI 0))]) [1, 2, 0] rfl ?_
  exact LP2 _ 0 g (by omega) (by omega) (by rfl) (Nat.lt_succ_self _)
end
