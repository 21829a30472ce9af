section
-- ===== PART A: goes FIRST, ahead of the names: the tables' words, and 'selects' of the private methods out of them =====
/-- a private method of a class that the tables say can be made, by its rows of tables_1 -/
def lw_okq (q : MethodName × Nat) : Prop := (q.1.cls ≠ "java/lang/invoke/MethodHandle" ∧ q.1.cls ≠ "java/lang/invoke/VarHandle") ∧ Cond.instantiable q.1.cls q.2 ∈ tables_1 ∧ Cond.privateMethod q.1 ∈ tables_1 ∧ Cond.instanceMethod q.1 ∈ tables_1
theorem lw_p0 : lw_okq (⟨"ShaftHunt$Drains", "findWays", "()V"⟩, 14) := ⟨⟨by decide +kernel, by decide +kernel⟩, List.mem_of_getElem? (i := 23) (by decide +kernel), List.mem_of_getElem? (i := 237) (by decide +kernel), List.mem_of_getElem? (i := 238) (by decide +kernel)⟩
theorem lw_p1 : lw_okq (⟨"ShaftHunt$Drains", "findBelow", "()V"⟩, 14) := ⟨⟨by decide +kernel, by decide +kernel⟩, List.mem_of_getElem? (i := 23) (by decide +kernel), List.mem_of_getElem? (i := 241) (by decide +kernel), List.mem_of_getElem? (i := 242) (by decide +kernel)⟩
theorem lw_p2 : lw_okq (⟨"ShaftHunt$Drains", "findRoute", "()V"⟩, 14) := ⟨⟨by decide +kernel, by decide +kernel⟩, List.mem_of_getElem? (i := 23) (by decide +kernel), List.mem_of_getElem? (i := 245) (by decide +kernel), List.mem_of_getElem? (i := 246) (by decide +kernel)⟩
theorem lw_p3 : lw_okq (⟨"ShaftHunt", "settled", "(I)I"⟩, 10) := ⟨⟨by decide +kernel, by decide +kernel⟩, List.mem_of_getElem? (i := 15) (by decide +kernel), List.mem_of_getElem? (i := 255) (by decide +kernel), List.mem_of_getElem? (i := 256) (by decide +kernel)⟩
theorem lw_p4 : lw_okq (⟨"ShaftHunt", "refused", "(I)I"⟩, 10) := ⟨⟨by decide +kernel, by decide +kernel⟩, List.mem_of_getElem? (i := 15) (by decide +kernel), List.mem_of_getElem? (i := 259) (by decide +kernel), List.mem_of_getElem? (i := 260) (by decide +kernel)⟩
theorem lw_p5 : lw_okq (⟨"ShaftHunt", "isStart", "(II)Z"⟩, 10) := ⟨⟨by decide +kernel, by decide +kernel⟩, List.mem_of_getElem? (i := 15) (by decide +kernel), List.mem_of_getElem? (i := 329) (by decide +kernel), List.mem_of_getElem? (i := 330) (by decide +kernel)⟩
theorem lw_p6 : lw_okq (⟨"ShaftHunt$Flow", "agreesWith", "(I)Z"⟩, 4) := ⟨⟨by decide +kernel, by decide +kernel⟩, List.mem_of_getElem? (i := 111) (by decide +kernel), List.mem_of_getElem? (i := 406) (by decide +kernel), List.mem_of_getElem? (i := 407) (by decide +kernel)⟩
theorem lw_p7 : lw_okq (⟨"ShaftHunt$Watch", "tellsAll", "(I)Z"⟩, 2) := ⟨⟨by decide +kernel, by decide +kernel⟩, List.mem_of_getElem? (i := 132) (by decide +kernel), List.mem_of_getElem? (i := 461) (by decide +kernel), List.mem_of_getElem? (i := 462) (by decide +kernel)⟩
theorem lw_p8 : lw_okq (⟨"ShaftHunt$Orders", "takes", "(I)Z"⟩, 6) := ⟨⟨by decide +kernel, by decide +kernel⟩, List.mem_of_getElem? (i := 145) (by decide +kernel), List.mem_of_getElem? (i := 481) (by decide +kernel), List.mem_of_getElem? (i := 482) (by decide +kernel)⟩
theorem lw_p9 : lw_okq (⟨"ShaftHunt$Orders", "opens", "(I)Z"⟩, 6) := ⟨⟨by decide +kernel, by decide +kernel⟩, List.mem_of_getElem? (i := 145) (by decide +kernel), List.mem_of_getElem? (i := 485) (by decide +kernel), List.mem_of_getElem? (i := 486) (by decide +kernel)⟩
theorem lw_p10 : lw_okq (⟨"ShaftHunt$Orders", "closes", "()Z"⟩, 6) := ⟨⟨by decide +kernel, by decide +kernel⟩, List.mem_of_getElem? (i := 145) (by decide +kernel), List.mem_of_getElem? (i := 492) (by decide +kernel), List.mem_of_getElem? (i := 493) (by decide +kernel)⟩
theorem lw_p11 : lw_okq (⟨"ShaftHunt$Orders", "takesFigure", "(I)Z"⟩, 6) := ⟨⟨by decide +kernel, by decide +kernel⟩, List.mem_of_getElem? (i := 145) (by decide +kernel), List.mem_of_getElem? (i := 497) (by decide +kernel), List.mem_of_getElem? (i := 498) (by decide +kernel)⟩
theorem lw_p12 : lw_okq (⟨"ShaftHunt", "digestShafts", "(J)J"⟩, 10) := ⟨⟨by decide +kernel, by decide +kernel⟩, List.mem_of_getElem? (i := 15) (by decide +kernel), List.mem_of_getElem? (i := 532) (by decide +kernel), List.mem_of_getElem? (i := 533) (by decide +kernel)⟩
theorem lw_p13 : lw_okq (⟨"ShaftHunt", "digestPipes", "(J)J"⟩, 10) := ⟨⟨by decide +kernel, by decide +kernel⟩, List.mem_of_getElem? (i := 15) (by decide +kernel), List.mem_of_getElem? (i := 538) (by decide +kernel), List.mem_of_getElem? (i := 539) (by decide +kernel)⟩
theorem lw_p14 : lw_okq (⟨"ShaftHuntModel", "refuses", "(I)I"⟩, 15) := ⟨⟨by decide +kernel, by decide +kernel⟩, List.mem_of_getElem? (i := 546) (by decide +kernel), List.mem_of_getElem? (i := 602) (by decide +kernel), List.mem_of_getElem? (i := 603) (by decide +kernel)⟩
theorem lw_p15 : lw_okq (⟨"ShaftHuntModel", "hold", "()V"⟩, 15) := ⟨⟨by decide +kernel, by decide +kernel⟩, List.mem_of_getElem? (i := 546) (by decide +kernel), List.mem_of_getElem? (i := 610) (by decide +kernel), List.mem_of_getElem? (i := 611) (by decide +kernel)⟩
def lw_privs_1 : List (MethodName × Nat) := [(⟨"ShaftHunt$Drains", "findWays", "()V"⟩, 14), (⟨"ShaftHunt$Drains", "findBelow", "()V"⟩, 14), (⟨"ShaftHunt$Drains", "findRoute", "()V"⟩, 14), (⟨"ShaftHunt", "settled", "(I)I"⟩, 10), (⟨"ShaftHunt", "refused", "(I)I"⟩, 10), (⟨"ShaftHunt", "isStart", "(II)Z"⟩, 10), (⟨"ShaftHunt$Flow", "agreesWith", "(I)Z"⟩, 4), (⟨"ShaftHunt$Watch", "tellsAll", "(I)Z"⟩, 2), (⟨"ShaftHunt$Orders", "takes", "(I)Z"⟩, 6), (⟨"ShaftHunt$Orders", "opens", "(I)Z"⟩, 6), (⟨"ShaftHunt$Orders", "closes", "()Z"⟩, 6), (⟨"ShaftHunt$Orders", "takesFigure", "(I)Z"⟩, 6), (⟨"ShaftHunt", "digestShafts", "(J)J"⟩, 10), (⟨"ShaftHunt", "digestPipes", "(J)J"⟩, 10), (⟨"ShaftHuntModel", "refuses", "(I)I"⟩, 15), (⟨"ShaftHuntModel", "hold", "()V"⟩, 15)]
theorem lw_r1 : ∀ q ∈ lw_privs_1, lw_okq q := List.forall_mem_cons.mpr ⟨lw_p0, List.forall_mem_cons.mpr ⟨lw_p1, List.forall_mem_cons.mpr ⟨lw_p2, List.forall_mem_cons.mpr ⟨lw_p3, List.forall_mem_cons.mpr ⟨lw_p4, List.forall_mem_cons.mpr ⟨lw_p5, List.forall_mem_cons.mpr ⟨lw_p6, List.forall_mem_cons.mpr ⟨lw_p7, List.forall_mem_cons.mpr ⟨lw_p8, List.forall_mem_cons.mpr ⟨lw_p9, List.forall_mem_cons.mpr ⟨lw_p10, List.forall_mem_cons.mpr ⟨lw_p11, List.forall_mem_cons.mpr ⟨lw_p12, List.forall_mem_cons.mpr ⟨lw_p13, List.forall_mem_cons.mpr ⟨lw_p14, List.forall_mem_cons.mpr ⟨lw_p15, fun _ h => absurd h List.not_mem_nil⟩⟩⟩⟩⟩⟩⟩⟩⟩⟩⟩⟩⟩⟩⟩⟩
theorem lw_p16 : lw_okq (⟨"ShaftHuntModel", "doShaft", "(II)I"⟩, 15) := ⟨⟨by decide +kernel, by decide +kernel⟩, List.mem_of_getElem? (i := 546) (by decide +kernel), List.mem_of_getElem? (i := 614) (by decide +kernel), List.mem_of_getElem? (i := 615) (by decide +kernel)⟩
theorem lw_p17 : lw_okq (⟨"ShaftHuntModel", "ends", "(I)I"⟩, 15) := ⟨⟨by decide +kernel, by decide +kernel⟩, List.mem_of_getElem? (i := 546) (by decide +kernel), List.mem_of_getElem? (i := 624) (by decide +kernel), List.mem_of_getElem? (i := 625) (by decide +kernel)⟩
theorem lw_p18 : lw_okq (⟨"ShaftHuntModel", "push", "()V"⟩, 15) := ⟨⟨by decide +kernel, by decide +kernel⟩, List.mem_of_getElem? (i := 546) (by decide +kernel), List.mem_of_getElem? (i := 628) (by decide +kernel), List.mem_of_getElem? (i := 629) (by decide +kernel)⟩
theorem lw_p19 : lw_okq (⟨"ShaftHuntModel", "doSets", "(III)I"⟩, 15) := ⟨⟨by decide +kernel, by decide +kernel⟩, List.mem_of_getElem? (i := 546) (by decide +kernel), List.mem_of_getElem? (i := 636) (by decide +kernel), List.mem_of_getElem? (i := 637) (by decide +kernel)⟩
theorem lw_p20 : lw_okq (⟨"ShaftHuntModel", "isShaft", "(I)Z"⟩, 15) := ⟨⟨by decide +kernel, by decide +kernel⟩, List.mem_of_getElem? (i := 546) (by decide +kernel), List.mem_of_getElem? (i := 640) (by decide +kernel), List.mem_of_getElem? (i := 641) (by decide +kernel)⟩
theorem lw_p21 : lw_okq (⟨"ShaftHuntModel", "doPipe", "(IIII)I"⟩, 15) := ⟨⟨by decide +kernel, by decide +kernel⟩, List.mem_of_getElem? (i := 546) (by decide +kernel), List.mem_of_getElem? (i := 648) (by decide +kernel), List.mem_of_getElem? (i := 649) (by decide +kernel)⟩
theorem lw_p22 : lw_okq (⟨"ShaftHuntModel", "below", "(I)I"⟩, 15) := ⟨⟨by decide +kernel, by decide +kernel⟩, List.mem_of_getElem? (i := 546) (by decide +kernel), List.mem_of_getElem? (i := 652) (by decide +kernel), List.mem_of_getElem? (i := 653) (by decide +kernel)⟩
theorem lw_p23 : lw_okq (⟨"ShaftHuntModel", "pipeOf", "(II)I"⟩, 15) := ⟨⟨by decide +kernel, by decide +kernel⟩, List.mem_of_getElem? (i := 546) (by decide +kernel), List.mem_of_getElem? (i := 656) (by decide +kernel), List.mem_of_getElem? (i := 657) (by decide +kernel)⟩
theorem lw_p24 : lw_okq (⟨"ShaftHuntModel", "doDrops", "(I)I"⟩, 15) := ⟨⟨by decide +kernel, by decide +kernel⟩, List.mem_of_getElem? (i := 546) (by decide +kernel), List.mem_of_getElem? (i := 667) (by decide +kernel), List.mem_of_getElem? (i := 668) (by decide +kernel)⟩
theorem lw_p25 : lw_okq (⟨"ShaftHuntModel", "isPipe", "(I)Z"⟩, 15) := ⟨⟨by decide +kernel, by decide +kernel⟩, List.mem_of_getElem? (i := 546) (by decide +kernel), List.mem_of_getElem? (i := 671) (by decide +kernel), List.mem_of_getElem? (i := 672) (by decide +kernel)⟩
theorem lw_p26 : lw_okq (⟨"ShaftHuntModel", "doSight", "(III)I"⟩, 15) := ⟨⟨by decide +kernel, by decide +kernel⟩, List.mem_of_getElem? (i := 546) (by decide +kernel), List.mem_of_getElem? (i := 679) (by decide +kernel), List.mem_of_getElem? (i := 680) (by decide +kernel)⟩
theorem lw_p27 : lw_okq (⟨"ShaftHuntModel", "doForget", "()I"⟩, 15) := ⟨⟨by decide +kernel, by decide +kernel⟩, List.mem_of_getElem? (i := 546) (by decide +kernel), List.mem_of_getElem? (i := 687) (by decide +kernel), List.mem_of_getElem? (i := 688) (by decide +kernel)⟩
theorem lw_p28 : lw_okq (⟨"ShaftHuntModel", "ofShaft", "(II)I"⟩, 15) := ⟨⟨by decide +kernel, by decide +kernel⟩, List.mem_of_getElem? (i := 546) (by decide +kernel), List.mem_of_getElem? (i := 695) (by decide +kernel), List.mem_of_getElem? (i := 696) (by decide +kernel)⟩
theorem lw_p29 : lw_okq (⟨"ShaftHuntModel", "kindOf", "(I)I"⟩, 15) := ⟨⟨by decide +kernel, by decide +kernel⟩, List.mem_of_getElem? (i := 546) (by decide +kernel), List.mem_of_getElem? (i := 699) (by decide +kernel), List.mem_of_getElem? (i := 700) (by decide +kernel)⟩
theorem lw_p30 : lw_okq (⟨"ShaftHuntModel", "numberOf", "(I)I"⟩, 15) := ⟨⟨by decide +kernel, by decide +kernel⟩, List.mem_of_getElem? (i := 546) (by decide +kernel), List.mem_of_getElem? (i := 703) (by decide +kernel), List.mem_of_getElem? (i := 704) (by decide +kernel)⟩
theorem lw_p31 : lw_okq (⟨"ShaftHuntModel", "isStart", "(II)Z"⟩, 15) := ⟨⟨by decide +kernel, by decide +kernel⟩, List.mem_of_getElem? (i := 546) (by decide +kernel), List.mem_of_getElem? (i := 715) (by decide +kernel), List.mem_of_getElem? (i := 716) (by decide +kernel)⟩
def lw_privs_2 : List (MethodName × Nat) := [(⟨"ShaftHuntModel", "doShaft", "(II)I"⟩, 15), (⟨"ShaftHuntModel", "ends", "(I)I"⟩, 15), (⟨"ShaftHuntModel", "push", "()V"⟩, 15), (⟨"ShaftHuntModel", "doSets", "(III)I"⟩, 15), (⟨"ShaftHuntModel", "isShaft", "(I)Z"⟩, 15), (⟨"ShaftHuntModel", "doPipe", "(IIII)I"⟩, 15), (⟨"ShaftHuntModel", "below", "(I)I"⟩, 15), (⟨"ShaftHuntModel", "pipeOf", "(II)I"⟩, 15), (⟨"ShaftHuntModel", "doDrops", "(I)I"⟩, 15), (⟨"ShaftHuntModel", "isPipe", "(I)Z"⟩, 15), (⟨"ShaftHuntModel", "doSight", "(III)I"⟩, 15), (⟨"ShaftHuntModel", "doForget", "()I"⟩, 15), (⟨"ShaftHuntModel", "ofShaft", "(II)I"⟩, 15), (⟨"ShaftHuntModel", "kindOf", "(I)I"⟩, 15), (⟨"ShaftHuntModel", "numberOf", "(I)I"⟩, 15), (⟨"ShaftHuntModel", "isStart", "(II)Z"⟩, 15)]
theorem lw_r2 : ∀ q ∈ lw_privs_2, lw_okq q := List.forall_mem_cons.mpr ⟨lw_p16, List.forall_mem_cons.mpr ⟨lw_p17, List.forall_mem_cons.mpr ⟨lw_p18, List.forall_mem_cons.mpr ⟨lw_p19, List.forall_mem_cons.mpr ⟨lw_p20, List.forall_mem_cons.mpr ⟨lw_p21, List.forall_mem_cons.mpr ⟨lw_p22, List.forall_mem_cons.mpr ⟨lw_p23, List.forall_mem_cons.mpr ⟨lw_p24, List.forall_mem_cons.mpr ⟨lw_p25, List.forall_mem_cons.mpr ⟨lw_p26, List.forall_mem_cons.mpr ⟨lw_p27, List.forall_mem_cons.mpr ⟨lw_p28, List.forall_mem_cons.mpr ⟨lw_p29, List.forall_mem_cons.mpr ⟨lw_p30, List.forall_mem_cons.mpr ⟨lw_p31, fun _ h => absurd h List.not_mem_nil⟩⟩⟩⟩⟩⟩⟩⟩⟩⟩⟩⟩⟩⟩⟩⟩
theorem lw_p32 : lw_okq (⟨"ShaftHuntModel", "comesOf", "(III)J"⟩, 15) := ⟨⟨by decide +kernel, by decide +kernel⟩, List.mem_of_getElem? (i := 546) (by decide +kernel), List.mem_of_getElem? (i := 719) (by decide +kernel), List.mem_of_getElem? (i := 720) (by decide +kernel)⟩
theorem lw_p33 : lw_okq (⟨"ShaftHuntModel", "start", "(II)V"⟩, 15) := ⟨⟨by decide +kernel, by decide +kernel⟩, List.mem_of_getElem? (i := 546) (by decide +kernel), List.mem_of_getElem? (i := 723) (by decide +kernel), List.mem_of_getElem? (i := 724) (by decide +kernel)⟩
theorem lw_p34 : lw_okq (⟨"ShaftHuntModel", "carries", "(I)Z"⟩, 15) := ⟨⟨by decide +kernel, by decide +kernel⟩, List.mem_of_getElem? (i := 546) (by decide +kernel), List.mem_of_getElem? (i := 727) (by decide +kernel), List.mem_of_getElem? (i := 728) (by decide +kernel)⟩
theorem lw_p35 : lw_okq (⟨"ShaftHuntModel", "leavesAt", "(II)I"⟩, 15) := ⟨⟨by decide +kernel, by decide +kernel⟩, List.mem_of_getElem? (i := 546) (by decide +kernel), List.mem_of_getElem? (i := 734) (by decide +kernel), List.mem_of_getElem? (i := 735) (by decide +kernel)⟩
theorem lw_p36 : lw_okq (⟨"ShaftHuntModel", "pumped", "(II)I"⟩, 15) := ⟨⟨by decide +kernel, by decide +kernel⟩, List.mem_of_getElem? (i := 546) (by decide +kernel), List.mem_of_getElem? (i := 738) (by decide +kernel), List.mem_of_getElem? (i := 739) (by decide +kernel)⟩
theorem lw_p37 : lw_okq (⟨"ShaftHuntModel", "isFit", "(II)Z"⟩, 15) := ⟨⟨by decide +kernel, by decide +kernel⟩, List.mem_of_getElem? (i := 546) (by decide +kernel), List.mem_of_getElem? (i := 757) (by decide +kernel), List.mem_of_getElem? (i := 758) (by decide +kernel)⟩
theorem lw_p38 : lw_okq (⟨"ShaftHuntModel", "whenOf", "(I)I"⟩, 15) := ⟨⟨by decide +kernel, by decide +kernel⟩, List.mem_of_getElem? (i := 546) (by decide +kernel), List.mem_of_getElem? (i := 765) (by decide +kernel), List.mem_of_getElem? (i := 766) (by decide +kernel)⟩
theorem lw_p39 : lw_okq (⟨"ShaftHuntModel", "suspectsNow", "()I"⟩, 15) := ⟨⟨by decide +kernel, by decide +kernel⟩, List.mem_of_getElem? (i := 546) (by decide +kernel), List.mem_of_getElem? (i := 773) (by decide +kernel), List.mem_of_getElem? (i := 774) (by decide +kernel)⟩
theorem lw_p40 : lw_okq (⟨"ShaftHuntModel", "nextOf", "(I)I"⟩, 15) := ⟨⟨by decide +kernel, by decide +kernel⟩, List.mem_of_getElem? (i := 546) (by decide +kernel), List.mem_of_getElem? (i := 781) (by decide +kernel), List.mem_of_getElem? (i := 782) (by decide +kernel)⟩
theorem lw_p41 : lw_okq (⟨"ShaftHuntModel", "findBelows", "()V"⟩, 15) := ⟨⟨by decide +kernel, by decide +kernel⟩, List.mem_of_getElem? (i := 546) (by decide +kernel), List.mem_of_getElem? (i := 792) (by decide +kernel), List.mem_of_getElem? (i := 793) (by decide +kernel)⟩
theorem lw_p42 : lw_okq (⟨"ShaftHuntModel", "alikeBy", "(I)I"⟩, 15) := ⟨⟨by decide +kernel, by decide +kernel⟩, List.mem_of_getElem? (i := 546) (by decide +kernel), List.mem_of_getElem? (i := 796) (by decide +kernel), List.mem_of_getElem? (i := 797) (by decide +kernel)⟩
theorem lw_p43 : lw_okq (⟨"ShaftHuntModel", "sensorsOf", "(I)I"⟩, 15) := ⟨⟨by decide +kernel, by decide +kernel⟩, List.mem_of_getElem? (i := 546) (by decide +kernel), List.mem_of_getElem? (i := 804) (by decide +kernel), List.mem_of_getElem? (i := 805) (by decide +kernel)⟩
theorem lw_p44 : lw_okq (⟨"ShaftHuntModel", "here", "()I"⟩, 15) := ⟨⟨by decide +kernel, by decide +kernel⟩, List.mem_of_getElem? (i := 546) (by decide +kernel), List.mem_of_getElem? (i := 820) (by decide +kernel), List.mem_of_getElem? (i := 821) (by decide +kernel)⟩
theorem lw_p45 : lw_okq (⟨"ShaftHuntModel", "readOrder", "()V"⟩, 15) := ⟨⟨by decide +kernel, by decide +kernel⟩, List.mem_of_getElem? (i := 546) (by decide +kernel), List.mem_of_getElem? (i := 824) (by decide +kernel), List.mem_of_getElem? (i := 825) (by decide +kernel)⟩
theorem lw_p46 : lw_okq (⟨"ShaftHuntModel", "must", "(Z)V"⟩, 15) := ⟨⟨by decide +kernel, by decide +kernel⟩, List.mem_of_getElem? (i := 546) (by decide +kernel), List.mem_of_getElem? (i := 831) (by decide +kernel), List.mem_of_getElem? (i := 832) (by decide +kernel)⟩
theorem lw_p47 : lw_okq (⟨"ShaftHuntModel", "number", "()I"⟩, 15) := ⟨⟨by decide +kernel, by decide +kernel⟩, List.mem_of_getElem? (i := 546) (by decide +kernel), List.mem_of_getElem? (i := 835) (by decide +kernel), List.mem_of_getElem? (i := 836) (by decide +kernel)⟩
def lw_privs_3 : List (MethodName × Nat) := [(⟨"ShaftHuntModel", "comesOf", "(III)J"⟩, 15), (⟨"ShaftHuntModel", "start", "(II)V"⟩, 15), (⟨"ShaftHuntModel", "carries", "(I)Z"⟩, 15), (⟨"ShaftHuntModel", "leavesAt", "(II)I"⟩, 15), (⟨"ShaftHuntModel", "pumped", "(II)I"⟩, 15), (⟨"ShaftHuntModel", "isFit", "(II)Z"⟩, 15), (⟨"ShaftHuntModel", "whenOf", "(I)I"⟩, 15), (⟨"ShaftHuntModel", "suspectsNow", "()I"⟩, 15), (⟨"ShaftHuntModel", "nextOf", "(I)I"⟩, 15), (⟨"ShaftHuntModel", "findBelows", "()V"⟩, 15), (⟨"ShaftHuntModel", "alikeBy", "(I)I"⟩, 15), (⟨"ShaftHuntModel", "sensorsOf", "(I)I"⟩, 15), (⟨"ShaftHuntModel", "here", "()I"⟩, 15), (⟨"ShaftHuntModel", "readOrder", "()V"⟩, 15), (⟨"ShaftHuntModel", "must", "(Z)V"⟩, 15), (⟨"ShaftHuntModel", "number", "()I"⟩, 15)]
theorem lw_r3 : ∀ q ∈ lw_privs_3, lw_okq q := List.forall_mem_cons.mpr ⟨lw_p32, List.forall_mem_cons.mpr ⟨lw_p33, List.forall_mem_cons.mpr ⟨lw_p34, List.forall_mem_cons.mpr ⟨lw_p35, List.forall_mem_cons.mpr ⟨lw_p36, List.forall_mem_cons.mpr ⟨lw_p37, List.forall_mem_cons.mpr ⟨lw_p38, List.forall_mem_cons.mpr ⟨lw_p39, List.forall_mem_cons.mpr ⟨lw_p40, List.forall_mem_cons.mpr ⟨lw_p41, List.forall_mem_cons.mpr ⟨lw_p42, List.forall_mem_cons.mpr ⟨lw_p43, List.forall_mem_cons.mpr ⟨lw_p44, List.forall_mem_cons.mpr ⟨lw_p45, List.forall_mem_cons.mpr ⟨lw_p46, List.forall_mem_cons.mpr ⟨lw_p47, fun _ h => absurd h List.not_mem_nil⟩⟩⟩⟩⟩⟩⟩⟩⟩⟩⟩⟩⟩⟩⟩⟩
theorem lw_p48 : lw_okq (⟨"ShaftHuntModel", "isFigure", "()Z"⟩, 15) := ⟨⟨by decide +kernel, by decide +kernel⟩, List.mem_of_getElem? (i := 546) (by decide +kernel), List.mem_of_getElem? (i := 839) (by decide +kernel), List.mem_of_getElem? (i := 840) (by decide +kernel)⟩
theorem lw_p49 : lw_okq (⟨"ShaftHuntModel", "doOrder", "(I)I"⟩, 15) := ⟨⟨by decide +kernel, by decide +kernel⟩, List.mem_of_getElem? (i := 546) (by decide +kernel), List.mem_of_getElem? (i := 843) (by decide +kernel), List.mem_of_getElem? (i := 844) (by decide +kernel)⟩
theorem lw_p50 : lw_okq (⟨"ShaftHuntModel", "toldOf", "(I)I"⟩, 15) := ⟨⟨by decide +kernel, by decide +kernel⟩, List.mem_of_getElem? (i := 546) (by decide +kernel), List.mem_of_getElem? (i := 851) (by decide +kernel), List.mem_of_getElem? (i := 852) (by decide +kernel)⟩
theorem lw_p51 : lw_okq (⟨"ShaftHuntModel", "mix", "(J)V"⟩, 15) := ⟨⟨by decide +kernel, by decide +kernel⟩, List.mem_of_getElem? (i := 546) (by decide +kernel), List.mem_of_getElem? (i := 860) (by decide +kernel), List.mem_of_getElem? (i := 861) (by decide +kernel)⟩
def lw_privs_4 : List (MethodName × Nat) := [(⟨"ShaftHuntModel", "isFigure", "()Z"⟩, 15), (⟨"ShaftHuntModel", "doOrder", "(I)I"⟩, 15), (⟨"ShaftHuntModel", "toldOf", "(I)I"⟩, 15), (⟨"ShaftHuntModel", "mix", "(J)V"⟩, 15)]
theorem lw_r4 : ∀ q ∈ lw_privs_4, lw_okq q := List.forall_mem_cons.mpr ⟨lw_p48, List.forall_mem_cons.mpr ⟨lw_p49, List.forall_mem_cons.mpr ⟨lw_p50, List.forall_mem_cons.mpr ⟨lw_p51, fun _ h => absurd h List.not_mem_nil⟩⟩⟩⟩
def lw_privs : List (MethodName × Nat) := lw_privs_1 ++ (lw_privs_2 ++ (lw_privs_3 ++ (lw_privs_4)))
def lw_tbl : List Cond := k2_sels lw_privs ++ tables_1
theorem lw_privs_ok : ∀ q ∈ lw_privs, lw_okq q := by
  show ∀ q ∈ lw_privs_1 ++ (lw_privs_2 ++ (lw_privs_3 ++ (lw_privs_4))), lw_okq q
  exact List.forall_mem_append.mpr ⟨lw_r1, List.forall_mem_append.mpr ⟨lw_r2, List.forall_mem_append.mpr ⟨lw_r3, lw_r4⟩⟩⟩
-- ===== end of PART A; then your names; then what follows =====
end
section
/-! ===== BEGIN words of one list among another's, by their places ===== -/
theorem goodIn_r {big : List Cond} (ws : List Cond) (ps : List Nat) (hp : ws = ps.filterMap (fun i => big[i]?)) (h : ws.all goodWord = true) : GoodIn big ws := by
  intro w hw
  have h1 := List.all_eq_true.mp h w hw
  rw [hp] at hw
  obtain ⟨i, -, hi⟩ := List.mem_filterMap.mp hw
  have hm : w ∈ big := by first | exact List.mem_of_getElem? hi | exact List.getElem?_mem hi
  exact ⟨hm, good_of_word h1⟩
theorem goodIn_app {big a b : List Cond} (ha : GoodIn big a) (hb : GoodIn big b) : GoodIn big (a ++ b) := fun w h => (List.mem_append.mp h).elim (ha w) (hb w)
theorem goodIn_ca {big a b : List Cond} {c : Cond} (ha : GoodIn big (c :: a)) (hb : GoodIn big b) : GoodIn big (c :: (a ++ b)) := fun w h => (List.mem_cons.mp h).elim (fun e => ha w (List.mem_cons.mpr (Or.inl e))) (fun h => (List.mem_append.mp h).elim (fun h => ha w (List.mem_cons.mpr (Or.inr h))) (hb w))
theorem goodIn_sub {big ws : List Cond} (hm : ∀ w ∈ ws, w ∈ big) (h : ws.all goodWord = true) : GoodIn big ws := fun w hw => ⟨hm w hw, good_of_word (List.all_eq_true.mp h w hw)⟩
/-! ===== END ===== -/

/-! ===== BEGIN printed: names, fields, word lists, decode rows ===== -/
def RX0 : String := "ShaftHunt$Drains"
def TX0 : u_T := fun k => match k with
  | 0 => ("ShaftHunt$Drains", "shafts", "I", false)
  | 1 => ("ShaftHunt$Drains", "kind", "[I", true)
  | 2 => ("ShaftHunt$Drains", "pace", "[I", true)
  | 3 => ("ShaftHunt$Drains", "pipes", "I", false)
  | 4 => ("ShaftHunt$Drains", "from", "[I", true)
  | 5 => ("ShaftHunt$Drains", "to", "[I", true)
  | 6 => ("ShaftHunt$Drains", "low", "[I", true)
  | 7 => ("ShaftHunt$Drains", "high", "[I", true)
  | 8 => ("ShaftHunt$Drains", "sights", "I", false)
  | 9 => ("ShaftHunt$Drains", "sort", "[I", true)
  | 10 => ("ShaftHunt$Drains", "place", "[I", true)
  | 11 => ("ShaftHunt$Drains", "minute", "[I", true)
  | 12 => ("ShaftHunt$Drains", "below", "[I", true)
  | _ => ("ShaftHunt$Drains", "route", "[I", true)
def tyX0 : Nat → FieldType := fun k => match k with
  | 0 => .int
  | 1 => .array .int
  | 2 => .array .int
  | 3 => .int
  | 4 => .array .int
  | 5 => .array .int
  | 6 => .array .int
  | 7 => .array .int
  | 8 => .int
  | 9 => .array .int
  | 10 => .array .int
  | 11 => .array .int
  | 12 => .array .int
  | _ => .array .int
abbrev wsX00 : List Cond := u_ws RX0 TX0 14
theorem nmX0 : ∀ a, a < 14 → ∀ b, b < 14 → a ≠ b → (TX0 a).2.1 ≠ (TX0 b).2.1 := by decide +kernel
theorem tyX0_ok : ∀ k, k < 14 → parseFieldDescriptor (TX0 k).2.2.1 = some (tyX0 k) := by decide +kernel
abbrev cX0_init : ByteArray := prog_2_method_1_code
def yX0_init : MethodName := ⟨RX0, "<init>", "()V"⟩
abbrev cX0_hasShaft : ByteArray := prog_2_method_2_code
def yX0_hasShaft : MethodName := ⟨RX0, "hasShaft", "(I)Z"⟩
abbrev cX0_hasPipe : ByteArray := prog_2_method_3_code
def yX0_hasPipe : MethodName := ⟨RX0, "hasPipe", "(I)Z"⟩
abbrev cX0_addShaft : ByteArray := prog_2_method_4_code
def yX0_addShaft : MethodName := ⟨RX0, "addShaft", "(II)I"⟩
abbrev cX0_changeShaft : ByteArray := prog_2_method_5_code
def yX0_changeShaft : MethodName := ⟨RX0, "changeShaft", "(III)I"⟩
abbrev cX0_addPipe : ByteArray := prog_2_method_6_code
def yX0_addPipe : MethodName := ⟨RX0, "addPipe", "(IIII)I"⟩
abbrev cX0_dropPipe : ByteArray := prog_2_method_7_code
def yX0_dropPipe : MethodName := ⟨RX0, "dropPipe", "(I)I"⟩
abbrev cX0_addSight : ByteArray := prog_2_method_8_code
def yX0_addSight : MethodName := ⟨RX0, "addSight", "(III)I"⟩
abbrev cX0_dropSights : ByteArray := prog_2_method_9_code
def yX0_dropSights : MethodName := ⟨RX0, "dropSights", "()I"⟩
abbrev cX0_isBelow : ByteArray := prog_2_method_10_code
def yX0_isBelow : MethodName := ⟨RX0, "isBelow", "(II)Z"⟩
abbrev cX0_above : ByteArray := prog_2_method_11_code
def yX0_above : MethodName := ⟨RX0, "above", "(I)I"⟩
abbrev cX0_pipesAt : ByteArray := prog_2_method_12_code
def yX0_pipesAt : MethodName := ⟨RX0, "pipesAt", "([II)I"⟩
abbrev cX0_leaving : ByteArray := prog_2_method_13_code
def yX0_leaving : MethodName := ⟨RX0, "leaving", "(IJ)J"⟩
abbrev cX0_brought : ByteArray := prog_2_method_14_code
def yX0_brought : MethodName := ⟨RX0, "brought", "(IJ)J"⟩
abbrev cX0_copyFrom : ByteArray := prog_2_method_15_code
def yX0_copyFrom : MethodName := ⟨RX0, "copyFrom", "(LShaftHunt$Drains;)V"⟩
abbrev cX0_findWays : ByteArray := prog_2_method_16_code
def yX0_findWays : MethodName := ⟨RX0, "findWays", "()V"⟩
abbrev cX0_findBelow : ByteArray := prog_2_method_17_code
def yX0_findBelow : MethodName := ⟨RX0, "findBelow", "()V"⟩
abbrev cX0_findRoute : ByteArray := prog_2_method_18_code
def yX0_findRoute : MethodName := ⟨RX0, "findRoute", "()V"⟩
abbrev cX0_pumped : ByteArray := prog_2_method_19_code
def yX0_pumped : MethodName := ⟨RX0, "pumped", "(JI)J"⟩
abbrev cX0_isKind : ByteArray := prog_2_method_20_code
def yX0_isKind : MethodName := ⟨RX0, "isKind", "(I)Z"⟩
abbrev cX0_isPace : ByteArray := prog_2_method_21_code
def yX0_isPace : MethodName := ⟨RX0, "isPace", "(I)Z"⟩
abbrev cX0_copyRow : ByteArray := prog_2_method_22_code
def yX0_copyRow : MethodName := ⟨RX0, "copyRow", "([I[I)V"⟩
def RX1 : String := "ShaftHunt$Flow"
def TX1 : u_T := fun k => match k with
  | 0 => ("ShaftHunt$Flow", "drains", "LShaftHunt$Drains;", true)
  | 1 => ("ShaftHunt$Flow", "come", "[J", true)
  | 2 => ("ShaftHunt$Flow", "starts", "[I", true)
  | _ => ("ShaftHunt$Flow", "known", "I", false)
def tyX1 : Nat → FieldType := fun k => match k with
  | 0 => .object "ShaftHunt$Drains"
  | 1 => .array .long
  | 2 => .array .int
  | _ => .int
abbrev wsX10 : List Cond := u_ws RX1 TX1 4
theorem nmX1 : ∀ a, a < 4 → ∀ b, b < 4 → a ≠ b → (TX1 a).2.1 ≠ (TX1 b).2.1 := by decide +kernel
theorem tyX1_ok : ∀ k, k < 4 → parseFieldDescriptor (TX1 k).2.2.1 = some (tyX1 k) := by decide +kernel
abbrev cX1_init : ByteArray := prog_3_method_1_code
def yX1_init : MethodName := ⟨RX1, "<init>", "(LShaftHunt$Drains;)V"⟩
abbrev cX1_outdate : ByteArray := prog_3_method_2_code
def yX1_outdate : MethodName := ⟨RX1, "outdate", "()V"⟩
abbrev cX1_walk : ByteArray := prog_3_method_3_code
def yX1_walk : MethodName := ⟨RX1, "walk", "(II)V"⟩
abbrev cX1_agrees : ByteArray := prog_3_method_4_code
def yX1_agrees : MethodName := ⟨RX1, "agrees", "()Z"⟩
abbrev cX1_startsAt : ByteArray := prog_3_method_5_code
def yX1_startsAt : MethodName := ⟨RX1, "startsAt", "(I)I"⟩
abbrev cX1_suspicious : ByteArray := prog_3_method_6_code
def yX1_suspicious : MethodName := ⟨RX1, "suspicious", "()I"⟩
abbrev cX1_agreesWith : ByteArray := prog_3_method_7_code
def yX1_agreesWith : MethodName := ⟨RX1, "agreesWith", "(I)Z"⟩
def RX2 : String := "ShaftHunt$Orders"
def TX2 : u_T := fun k => match k with
  | 0 => ("ShaftHunt$Orders", "letter", "[I", true)
  | 1 => ("ShaftHunt$Orders", "numbers", "[I", true)
  | 2 => ("ShaftHunt$Orders", "count", "I", false)
  | 3 => ("ShaftHunt$Orders", "open", "Z", false)
  | 4 => ("ShaftHunt$Orders", "begun", "I", false)
  | _ => ("ShaftHunt$Orders", "figures", "I", false)
def tyX2 : Nat → FieldType := fun k => match k with
  | 0 => .array .int
  | 1 => .array .int
  | 2 => .int
  | 3 => .boolean
  | 4 => .int
  | _ => .int
abbrev wsX20 : List Cond := u_ws RX2 TX2 6
theorem nmX2 : ∀ a, a < 6 → ∀ b, b < 6 → a ≠ b → (TX2 a).2.1 ≠ (TX2 b).2.1 := by decide +kernel
theorem tyX2_ok : ∀ k, k < 6 → parseFieldDescriptor (TX2 k).2.2.1 = some (tyX2 k) := by decide +kernel
abbrev cX2_init : ByteArray := prog_4_method_1_code
def yX2_init : MethodName := ⟨RX2, "<init>", "()V"⟩
abbrev cX2_parse : ByteArray := prog_4_method_2_code
def yX2_parse : MethodName := ⟨RX2, "parse", "([BI)I"⟩
abbrev cX2_obey : ByteArray := prog_4_method_3_code
def yX2_obey : MethodName := ⟨RX2, "obey", "(ILShaftHunt$Drains;)I"⟩
abbrev cX2_takes : ByteArray := prog_4_method_4_code
def yX2_takes : MethodName := ⟨RX2, "takes", "(I)Z"⟩
abbrev cX2_opens : ByteArray := prog_4_method_5_code
def yX2_opens : MethodName := ⟨RX2, "opens", "(I)Z"⟩
abbrev cX2_closes : ByteArray := prog_4_method_6_code
def yX2_closes : MethodName := ⟨RX2, "closes", "()Z"⟩
abbrev cX2_takesFigure : ByteArray := prog_4_method_7_code
def yX2_takesFigure : MethodName := ⟨RX2, "takesFigure", "(I)Z"⟩
abbrev cX2_numbersOf : ByteArray := prog_4_method_8_code
def yX2_numbersOf : MethodName := ⟨RX2, "numbersOf", "(I)I"⟩
def RX3 : String := "ShaftHunt$Past"
def TX3 : u_T := fun k => match k with
  | 0 => ("ShaftHunt$Past", "kept", "[LShaftHunt$Drains;", true)
  | _ => ("ShaftHunt$Past", "count", "I", false)
def tyX3 : Nat → FieldType := fun k => match k with
  | 0 => .array (.object "ShaftHunt$Drains")
  | _ => .int
abbrev wsX30 : List Cond := u_ws RX3 TX3 2
theorem nmX3 : ∀ a, a < 2 → ∀ b, b < 2 → a ≠ b → (TX3 a).2.1 ≠ (TX3 b).2.1 := by decide +kernel
theorem tyX3_ok : ∀ k, k < 2 → parseFieldDescriptor (TX3 k).2.2.1 = some (tyX3 k) := by decide +kernel
abbrev cX3_init : ByteArray := prog_5_method_1_code
def yX3_init : MethodName := ⟨RX3, "<init>", "()V"⟩
abbrev cX3_mark : ByteArray := prog_5_method_2_code
def yX3_mark : MethodName := ⟨RX3, "mark", "(LShaftHunt$Drains;)V"⟩
abbrev cX3_toMark : ByteArray := prog_5_method_3_code
def yX3_toMark : MethodName := ⟨RX3, "toMark", "(LShaftHunt$Drains;)V"⟩
abbrev cX3_keep : ByteArray := prog_5_method_4_code
def yX3_keep : MethodName := ⟨RX3, "keep", "()V"⟩
abbrev cX3_undo : ByteArray := prog_5_method_5_code
def yX3_undo : MethodName := ⟨RX3, "undo", "(LShaftHunt$Drains;)V"⟩
def RX4 : String := "ShaftHunt$Watch"
def TX4 : u_T := fun k => match k with
  | 0 => ("ShaftHunt$Watch", "tellers", "[I", true)
  | _ => ("ShaftHunt$Watch", "pairs", "I", false)
def tyX4 : Nat → FieldType := fun k => match k with
  | 0 => .array .int
  | _ => .int
abbrev wsX40 : List Cond := u_ws RX4 TX4 2
theorem nmX4 : ∀ a, a < 2 → ∀ b, b < 2 → a ≠ b → (TX4 a).2.1 ≠ (TX4 b).2.1 := by decide +kernel
theorem tyX4_ok : ∀ k, k < 2 → parseFieldDescriptor (TX4 k).2.2.1 = some (tyX4 k) := by decide +kernel
abbrev cX4_init : ByteArray := prog_6_method_1_code
def yX4_init : MethodName := ⟨RX4, "<init>", "()V"⟩
abbrev cX4_compare : ByteArray := prog_6_method_2_code
def yX4_compare : MethodName := ⟨RX4, "compare", "(LShaftHunt$Drains;)V"⟩
abbrev cX4_untold : ByteArray := prog_6_method_3_code
def yX4_untold : MethodName := ⟨RX4, "untold", "(I)I"⟩
abbrev cX4_fewest : ByteArray := prog_6_method_4_code
def yX4_fewest : MethodName := ⟨RX4, "fewest", "(I)I"⟩
abbrev cX4_tellsAll : ByteArray := prog_6_method_5_code
def yX4_tellsAll : MethodName := ⟨RX4, "tellsAll", "(I)Z"⟩
def RX5 : String := "ShaftHunt"
def TX5 : u_T := fun k => match k with
  | 0 => ("ShaftHunt", "now", "LShaftHunt$Drains;", true)
  | 1 => ("ShaftHunt", "past", "LShaftHunt$Past;", true)
  | 2 => ("ShaftHunt", "flow", "LShaftHunt$Flow;", true)
  | 3 => ("ShaftHunt", "watch", "LShaftHunt$Watch;", true)
  | 4 => ("ShaftHunt", "orders", "LShaftHunt$Orders;", true)
  | 5 => ("ShaftHunt", "text", "[B", true)
  | 6 => ("ShaftHunt", "bytes", "I", false)
  | 7 => ("ShaftHunt", "bads", "I", false)
  | 8 => ("ShaftHunt", "noes", "I", false)
  | _ => ("ShaftHunt", "fulls", "I", false)
def tyX5 : Nat → FieldType := fun k => match k with
  | 0 => .object "ShaftHunt$Drains"
  | 1 => .object "ShaftHunt$Past"
  | 2 => .object "ShaftHunt$Flow"
  | 3 => .object "ShaftHunt$Watch"
  | 4 => .object "ShaftHunt$Orders"
  | 5 => .array .byte
  | 6 => .int
  | 7 => .int
  | 8 => .int
  | _ => .int
abbrev wsX50 : List Cond := u_ws RX5 TX5 10
theorem nmX5 : ∀ a, a < 10 → ∀ b, b < 10 → a ≠ b → (TX5 a).2.1 ≠ (TX5 b).2.1 := by decide +kernel
theorem tyX5_ok : ∀ k, k < 10 → parseFieldDescriptor (TX5 k).2.2.1 = some (tyX5 k) := by decide +kernel
abbrev cX5_init : ByteArray := prog_1_method_1_code
def yX5_init : MethodName := ⟨RX5, "<init>", "()V"⟩
abbrev cX5_shaft : ByteArray := prog_1_method_2_code
def yX5_shaft : MethodName := ⟨RX5, "shaft", "(II)I"⟩
abbrev cX5_sets : ByteArray := prog_1_method_3_code
def yX5_sets : MethodName := ⟨RX5, "sets", "(III)I"⟩
abbrev cX5_pipe : ByteArray := prog_1_method_4_code
def yX5_pipe : MethodName := ⟨RX5, "pipe", "(IIII)I"⟩
abbrev cX5_drops : ByteArray := prog_1_method_5_code
def yX5_drops : MethodName := ⟨RX5, "drops", "(I)I"⟩
abbrev cX5_of : ByteArray := prog_1_method_6_code
def yX5_of : MethodName := ⟨RX5, "of", "(II)I"⟩
abbrev cX5_about : ByteArray := prog_1_method_7_code
def yX5_about : MethodName := ⟨RX5, "about", "(II)I"⟩
abbrev cX5_comes : ByteArray := prog_1_method_8_code
def yX5_comes : MethodName := ⟨RX5, "comes", "(III)J"⟩
abbrev cX5_times : ByteArray := prog_1_method_9_code
def yX5_times : MethodName := ⟨RX5, "times", "(IIII)I"⟩
abbrev cX5_leaves : ByteArray := prog_1_method_10_code
def yX5_leaves : MethodName := ⟨RX5, "leaves", "(II)I"⟩
abbrev cX5_sight : ByteArray := prog_1_method_11_code
def yX5_sight : MethodName := ⟨RX5, "sight", "(III)I"⟩
abbrev cX5_forget : ByteArray := prog_1_method_12_code
def yX5_forget : MethodName := ⟨RX5, "forget", "()I"⟩
abbrev cX5_fits : ByteArray := prog_1_method_13_code
def yX5_fits : MethodName := ⟨RX5, "fits", "(II)I"⟩
abbrev cX5_when : ByteArray := prog_1_method_14_code
def yX5_when : MethodName := ⟨RX5, "when", "(I)I"⟩
abbrev cX5_suspects : ByteArray := prog_1_method_15_code
def yX5_suspects : MethodName := ⟨RX5, "suspects", "()I"⟩
abbrev cX5_next : ByteArray := prog_1_method_16_code
def yX5_next : MethodName := ⟨RX5, "next", "(I)I"⟩
abbrev cX5_alike : ByteArray := prog_1_method_17_code
def yX5_alike : MethodName := ⟨RX5, "alike", "(I)I"⟩
abbrev cX5_sensors : ByteArray := prog_1_method_18_code
def yX5_sensors : MethodName := ⟨RX5, "sensors", "(I)I"⟩
abbrev cX5_type : ByteArray := prog_1_method_19_code
def yX5_type : MethodName := ⟨RX5, "type", "(I)I"⟩
abbrev cX5_clear : ByteArray := prog_1_method_20_code
def yX5_clear : MethodName := ⟨RX5, "clear", "()I"⟩
abbrev cX5_reads : ByteArray := prog_1_method_21_code
def yX5_reads : MethodName := ⟨RX5, "reads", "()I"⟩
abbrev cX5_back : ByteArray := prog_1_method_22_code
def yX5_back : MethodName := ⟨RX5, "back", "()I"⟩
abbrev cX5_told : ByteArray := prog_1_method_23_code
def yX5_told : MethodName := ⟨RX5, "told", "(I)I"⟩
abbrev cX5_digest : ByteArray := prog_1_method_24_code
def yX5_digest : MethodName := ⟨RX5, "digest", "()J"⟩
abbrev cX5_digestShafts : ByteArray := prog_1_method_25_code
def yX5_digestShafts : MethodName := ⟨RX5, "digestShafts", "(J)J"⟩
abbrev cX5_digestPipes : ByteArray := prog_1_method_26_code
def yX5_digestPipes : MethodName := ⟨RX5, "digestPipes", "(J)J"⟩
abbrev cX5_isStart : ByteArray := prog_1_method_27_code
def yX5_isStart : MethodName := ⟨RX5, "isStart", "(II)Z"⟩
abbrev cX5_settled : ByteArray := prog_1_method_28_code
def yX5_settled : MethodName := ⟨RX5, "settled", "(I)I"⟩
abbrev cX5_refused : ByteArray := prog_1_method_29_code
def yX5_refused : MethodName := ⟨RX5, "refused", "(I)I"⟩
abbrev cX5_largerPart : ByteArray := prog_1_method_30_code
def yX5_largerPart : MethodName := ⟨RX5, "largerPart", "(II)I"⟩
abbrev cX5_within : ByteArray := prog_1_method_31_code
def yX5_within : MethodName := ⟨RX5, "within", "(III)Z"⟩
def RX6 : String := "ShaftHuntModel"
def TX6 : u_T := fun k => match k with
  | 0 => ("ShaftHuntModel", "now", "[I", true)
  | 1 => ("ShaftHuntModel", "held", "[I", true)
  | 2 => ("ShaftHuntModel", "past", "[I", true)
  | 3 => ("ShaftHuntModel", "pasts", "I", false)
  | 4 => ("ShaftHuntModel", "refused", "[I", true)
  | 5 => ("ShaftHuntModel", "minutes", "[J", true)
  | 6 => ("ShaftHuntModel", "belows", "[I", true)
  | 7 => ("ShaftHuntModel", "text", "[I", true)
  | 8 => ("ShaftHuntModel", "typed", "I", false)
  | 9 => ("ShaftHuntModel", "at", "I", false)
  | 10 => ("ShaftHuntModel", "fault", "I", false)
  | 11 => ("ShaftHuntModel", "orders", "I", false)
  | 12 => ("ShaftHuntModel", "letters", "[I", true)
  | 13 => ("ShaftHuntModel", "numbers", "[I", true)
  | _ => ("ShaftHuntModel", "h", "J", false)
def tyX6 : Nat → FieldType := fun k => match k with
  | 0 => .array .int
  | 1 => .array .int
  | 2 => .array .int
  | 3 => .int
  | 4 => .array .int
  | 5 => .array .long
  | 6 => .array .int
  | 7 => .array .int
  | 8 => .int
  | 9 => .int
  | 10 => .int
  | 11 => .int
  | 12 => .array .int
  | 13 => .array .int
  | _ => .long
abbrev wsX60 : List Cond := u_ws RX6 TX6 15
theorem nmX6 : ∀ a, a < 15 → ∀ b, b < 15 → a ≠ b → (TX6 a).2.1 ≠ (TX6 b).2.1 := by decide +kernel
theorem tyX6_ok : ∀ k, k < 15 → parseFieldDescriptor (TX6 k).2.2.1 = some (tyX6 k) := by decide +kernel
abbrev cX6_init : ByteArray := prog_8_method_1_code
def yX6_init : MethodName := ⟨RX6, "<init>", "()V"⟩
abbrev cX6_in : ByteArray := prog_8_method_2_code
def yX6_in : MethodName := ⟨RX6, "in", "(III)Z"⟩
abbrev cX6_has : ByteArray := prog_8_method_3_code
def yX6_has : MethodName := ⟨RX6, "has", "(II)Z"⟩
abbrev cX6_ones : ByteArray := prog_8_method_4_code
def yX6_ones : MethodName := ⟨RX6, "ones", "(I)I"⟩
abbrev cX6_refuses : ByteArray := prog_8_method_5_code
def yX6_refuses : MethodName := ⟨RX6, "refuses", "(I)I"⟩
abbrev cX6_hold : ByteArray := prog_8_method_6_code
def yX6_hold : MethodName := ⟨RX6, "hold", "()V"⟩
abbrev cX6_push : ByteArray := prog_8_method_7_code
def yX6_push : MethodName := ⟨RX6, "push", "()V"⟩
abbrev cX6_ends : ByteArray := prog_8_method_8_code
def yX6_ends : MethodName := ⟨RX6, "ends", "(I)I"⟩
abbrev cX6_back : ByteArray := prog_8_method_9_code
def yX6_back : MethodName := ⟨RX6, "back", "()I"⟩
abbrev cX6_isShaft : ByteArray := prog_8_method_10_code
def yX6_isShaft : MethodName := ⟨RX6, "isShaft", "(I)Z"⟩
abbrev cX6_isPipe : ByteArray := prog_8_method_11_code
def yX6_isPipe : MethodName := ⟨RX6, "isPipe", "(I)Z"⟩
abbrev cX6_kindOf : ByteArray := prog_8_method_12_code
def yX6_kindOf : MethodName := ⟨RX6, "kindOf", "(I)I"⟩
abbrev cX6_numberOf : ByteArray := prog_8_method_13_code
def yX6_numberOf : MethodName := ⟨RX6, "numberOf", "(I)I"⟩
abbrev cX6_pipeOf : ByteArray := prog_8_method_14_code
def yX6_pipeOf : MethodName := ⟨RX6, "pipeOf", "(II)I"⟩
abbrev cX6_below : ByteArray := prog_8_method_15_code
def yX6_below : MethodName := ⟨RX6, "below", "(I)I"⟩
abbrev cX6_isKind : ByteArray := prog_8_method_16_code
def yX6_isKind : MethodName := ⟨RX6, "isKind", "(I)Z"⟩
abbrev cX6_doShaft : ByteArray := prog_8_method_17_code
def yX6_doShaft : MethodName := ⟨RX6, "doShaft", "(II)I"⟩
abbrev cX6_doSets : ByteArray := prog_8_method_18_code
def yX6_doSets : MethodName := ⟨RX6, "doSets", "(III)I"⟩
abbrev cX6_doPipe : ByteArray := prog_8_method_19_code
def yX6_doPipe : MethodName := ⟨RX6, "doPipe", "(IIII)I"⟩
abbrev cX6_doDrops : ByteArray := prog_8_method_20_code
def yX6_doDrops : MethodName := ⟨RX6, "doDrops", "(I)I"⟩
abbrev cX6_doSight : ByteArray := prog_8_method_21_code
def yX6_doSight : MethodName := ⟨RX6, "doSight", "(III)I"⟩
abbrev cX6_doForget : ByteArray := prog_8_method_22_code
def yX6_doForget : MethodName := ⟨RX6, "doForget", "()I"⟩
abbrev cX6_shaft : ByteArray := prog_8_method_23_code
def yX6_shaft : MethodName := ⟨RX6, "shaft", "(II)I"⟩
abbrev cX6_sets : ByteArray := prog_8_method_24_code
def yX6_sets : MethodName := ⟨RX6, "sets", "(III)I"⟩
abbrev cX6_pipe : ByteArray := prog_8_method_25_code
def yX6_pipe : MethodName := ⟨RX6, "pipe", "(IIII)I"⟩
abbrev cX6_drops : ByteArray := prog_8_method_26_code
def yX6_drops : MethodName := ⟨RX6, "drops", "(I)I"⟩
abbrev cX6_sight : ByteArray := prog_8_method_27_code
def yX6_sight : MethodName := ⟨RX6, "sight", "(III)I"⟩
abbrev cX6_forget : ByteArray := prog_8_method_28_code
def yX6_forget : MethodName := ⟨RX6, "forget", "()I"⟩
abbrev cX6_ofShaft : ByteArray := prog_8_method_29_code
def yX6_ofShaft : MethodName := ⟨RX6, "ofShaft", "(II)I"⟩
abbrev cX6_of : ByteArray := prog_8_method_30_code
def yX6_of : MethodName := ⟨RX6, "of", "(II)I"⟩
abbrev cX6_about : ByteArray := prog_8_method_31_code
def yX6_about : MethodName := ⟨RX6, "about", "(II)I"⟩
abbrev cX6_pumped : ByteArray := prog_8_method_32_code
def yX6_pumped : MethodName := ⟨RX6, "pumped", "(II)I"⟩
abbrev cX6_leavesAt : ByteArray := prog_8_method_33_code
def yX6_leavesAt : MethodName := ⟨RX6, "leavesAt", "(II)I"⟩
abbrev cX6_hasMinute : ByteArray := prog_8_method_34_code
def yX6_hasMinute : MethodName := ⟨RX6, "hasMinute", "(JI)Z"⟩
abbrev cX6_carries : ByteArray := prog_8_method_35_code
def yX6_carries : MethodName := ⟨RX6, "carries", "(I)Z"⟩
abbrev cX6_start : ByteArray := prog_8_method_36_code
def yX6_start : MethodName := ⟨RX6, "start", "(II)V"⟩
abbrev cX6_isStart : ByteArray := prog_8_method_37_code
def yX6_isStart : MethodName := ⟨RX6, "isStart", "(II)Z"⟩
abbrev cX6_comesOf : ByteArray := prog_8_method_38_code
def yX6_comesOf : MethodName := ⟨RX6, "comesOf", "(III)J"⟩
abbrev cX6_comes : ByteArray := prog_8_method_39_code
def yX6_comes : MethodName := ⟨RX6, "comes", "(III)J"⟩
abbrev cX6_lastOf : ByteArray := prog_8_method_40_code
def yX6_lastOf : MethodName := ⟨RX6, "lastOf", "(J)I"⟩
abbrev cX6_times : ByteArray := prog_8_method_41_code
def yX6_times : MethodName := ⟨RX6, "times", "(IIII)I"⟩
abbrev cX6_leaves : ByteArray := prog_8_method_42_code
def yX6_leaves : MethodName := ⟨RX6, "leaves", "(II)I"⟩
abbrev cX6_isFit : ByteArray := prog_8_method_43_code
def yX6_isFit : MethodName := ⟨RX6, "isFit", "(II)Z"⟩
abbrev cX6_fits : ByteArray := prog_8_method_44_code
def yX6_fits : MethodName := ⟨RX6, "fits", "(II)I"⟩
abbrev cX6_whenOf : ByteArray := prog_8_method_45_code
def yX6_whenOf : MethodName := ⟨RX6, "whenOf", "(I)I"⟩
abbrev cX6_when : ByteArray := prog_8_method_46_code
def yX6_when : MethodName := ⟨RX6, "when", "(I)I"⟩
abbrev cX6_suspectsNow : ByteArray := prog_8_method_47_code
def yX6_suspectsNow : MethodName := ⟨RX6, "suspectsNow", "()I"⟩
abbrev cX6_suspects : ByteArray := prog_8_method_48_code
def yX6_suspects : MethodName := ⟨RX6, "suspects", "()I"⟩
abbrev cX6_nextOf : ByteArray := prog_8_method_49_code
def yX6_nextOf : MethodName := ⟨RX6, "nextOf", "(I)I"⟩
abbrev cX6_next : ByteArray := prog_8_method_50_code
def yX6_next : MethodName := ⟨RX6, "next", "(I)I"⟩
abbrev cX6_findBelows : ByteArray := prog_8_method_51_code
def yX6_findBelows : MethodName := ⟨RX6, "findBelows", "()V"⟩
abbrev cX6_alikeBy : ByteArray := prog_8_method_52_code
def yX6_alikeBy : MethodName := ⟨RX6, "alikeBy", "(I)I"⟩
abbrev cX6_alike : ByteArray := prog_8_method_53_code
def yX6_alike : MethodName := ⟨RX6, "alike", "(I)I"⟩
abbrev cX6_sensorsOf : ByteArray := prog_8_method_54_code
def yX6_sensorsOf : MethodName := ⟨RX6, "sensorsOf", "(I)I"⟩
abbrev cX6_sensors : ByteArray := prog_8_method_55_code
def yX6_sensors : MethodName := ⟨RX6, "sensors", "(I)I"⟩
abbrev cX6_type : ByteArray := prog_8_method_56_code
def yX6_type : MethodName := ⟨RX6, "type", "(I)I"⟩
abbrev cX6_clear : ByteArray := prog_8_method_57_code
def yX6_clear : MethodName := ⟨RX6, "clear", "()I"⟩
abbrev cX6_here : ByteArray := prog_8_method_58_code
def yX6_here : MethodName := ⟨RX6, "here", "()I"⟩
abbrev cX6_must : ByteArray := prog_8_method_59_code
def yX6_must : MethodName := ⟨RX6, "must", "(Z)V"⟩
abbrev cX6_isFigure : ByteArray := prog_8_method_60_code
def yX6_isFigure : MethodName := ⟨RX6, "isFigure", "()Z"⟩
abbrev cX6_number : ByteArray := prog_8_method_61_code
def yX6_number : MethodName := ⟨RX6, "number", "()I"⟩
abbrev cX6_numbersOf : ByteArray := prog_8_method_62_code
def yX6_numbersOf : MethodName := ⟨RX6, "numbersOf", "(I)I"⟩
abbrev cX6_readOrder : ByteArray := prog_8_method_63_code
def yX6_readOrder : MethodName := ⟨RX6, "readOrder", "()V"⟩
abbrev cX6_doOrder : ByteArray := prog_8_method_64_code
def yX6_doOrder : MethodName := ⟨RX6, "doOrder", "(I)I"⟩
abbrev cX6_reads : ByteArray := prog_8_method_65_code
def yX6_reads : MethodName := ⟨RX6, "reads", "()I"⟩
abbrev cX6_toldOf : ByteArray := prog_8_method_66_code
def yX6_toldOf : MethodName := ⟨RX6, "toldOf", "(I)I"⟩
abbrev cX6_told : ByteArray := prog_8_method_67_code
def yX6_told : MethodName := ⟨RX6, "told", "(I)I"⟩
abbrev cX6_mix : ByteArray := prog_8_method_68_code
def yX6_mix : MethodName := ⟨RX6, "mix", "(J)V"⟩
abbrev cX6_digest : ByteArray := prog_8_method_69_code
def yX6_digest : MethodName := ⟨RX6, "digest", "()J"⟩
def RJx145de : String := "java/io/Serializable"
def TJx145de : u_T := fun k => match k with
  | _ => ("", "", "", false)
def tyJx145de : Nat → FieldType := fun k => match k with
  | _ => .int
abbrev wsJx145de0 : List Cond := u_ws RJx145de TJx145de 0
theorem nmJx145de : ∀ a, a < 0 → ∀ b, b < 0 → a ≠ b → (TJx145de a).2.1 ≠ (TJx145de b).2.1 := by decide +kernel
theorem tyJx145de_ok : ∀ k, k < 0 → parseFieldDescriptor (TJx145de k).2.2.1 = some (tyJx145de k) := by decide +kernel
def RJxb160c : String := "java/lang/Comparable"
def TJxb160c : u_T := fun k => match k with
  | _ => ("", "", "", false)
def tyJxb160c : Nat → FieldType := fun k => match k with
  | _ => .int
abbrev wsJxb160c0 : List Cond := u_ws RJxb160c TJxb160c 0
theorem nmJxb160c : ∀ a, a < 0 → ∀ b, b < 0 → a ≠ b → (TJxb160c a).2.1 ≠ (TJxb160c b).2.1 := by decide +kernel
theorem tyJxb160c_ok : ∀ k, k < 0 → parseFieldDescriptor (TJxb160c k).2.2.1 = some (tyJxb160c k) := by decide +kernel
def RJ6 : String := "java/lang/Integer"
def TJ6 : u_T := fun k => match k with
  | _ => ("", "", "", false)
def tyJ6 : Nat → FieldType := fun k => match k with
  | _ => .int
abbrev wsJ60 : List Cond := u_ws RJ6 TJ6 0
theorem nmJ6 : ∀ a, a < 0 → ∀ b, b < 0 → a ≠ b → (TJ6 a).2.1 ≠ (TJ6 b).2.1 := by decide +kernel
theorem tyJ6_ok : ∀ k, k < 0 → parseFieldDescriptor (TJ6 k).2.2.1 = some (tyJ6 k) := by decide +kernel
abbrev cJ6_numberOfLeadingZeros_0f7a4 : ByteArray := prog_9_method_47_code
def yJ6_numberOfLeadingZeros_0f7a4 : MethodName := ⟨RJ6, "numberOfLeadingZeros", "(I)I"⟩
abbrev cJ6_numberOfTrailingZeros_0f7a4 : ByteArray := prog_9_method_48_code
def yJ6_numberOfTrailingZeros_0f7a4 : MethodName := ⟨RJ6, "numberOfTrailingZeros", "(I)I"⟩
abbrev cJ6_bitCount_0f7a4 : ByteArray := prog_9_method_49_code
def yJ6_bitCount_0f7a4 : MethodName := ⟨RJ6, "bitCount", "(I)I"⟩
def RJ13 : String := "java/lang/Long"
def TJ13 : u_T := fun k => match k with
  | _ => ("", "", "", false)
def tyJ13 : Nat → FieldType := fun k => match k with
  | _ => .int
abbrev wsJ130 : List Cond := u_ws RJ13 TJ13 0
theorem nmJ13 : ∀ a, a < 0 → ∀ b, b < 0 → a ≠ b → (TJ13 a).2.1 ≠ (TJ13 b).2.1 := by decide +kernel
theorem tyJ13_ok : ∀ k, k < 0 → parseFieldDescriptor (TJ13 k).2.2.1 = some (tyJ13 k) := by decide +kernel
abbrev cJ13_numberOfLeadingZeros_95d88 : ByteArray := prog_10_method_48_code
def yJ13_numberOfLeadingZeros_95d88 : MethodName := ⟨RJ13, "numberOfLeadingZeros", "(J)I"⟩
abbrev cJ13_numberOfTrailingZeros_95d88 : ByteArray := prog_10_method_49_code
def yJ13_numberOfTrailingZeros_95d88 : MethodName := ⟨RJ13, "numberOfTrailingZeros", "(J)I"⟩
abbrev cJ13_bitCount_95d88 : ByteArray := prog_10_method_50_code
def yJ13_bitCount_95d88 : MethodName := ⟨RJ13, "bitCount", "(J)I"⟩
def RJ9 : String := "java/lang/Math"
def TJ9 : u_T := fun k => match k with
  | _ => ("", "", "", false)
def tyJ9 : Nat → FieldType := fun k => match k with
  | _ => .int
abbrev wsJ90 : List Cond := u_ws RJ9 TJ9 0
theorem nmJ9 : ∀ a, a < 0 → ∀ b, b < 0 → a ≠ b → (TJ9 a).2.1 ≠ (TJ9 b).2.1 := by decide +kernel
theorem tyJ9_ok : ∀ k, k < 0 → parseFieldDescriptor (TJ9 k).2.2.1 = some (tyJ9 k) := by decide +kernel
abbrev cJ9_max_7cf53 : ByteArray := prog_11_method_65_code
def yJ9_max_7cf53 : MethodName := ⟨RJ9, "max", "(II)I"⟩
abbrev cJ9_min_7cf53 : ByteArray := prog_11_method_69_code
def yJ9_min_7cf53 : MethodName := ⟨RJ9, "min", "(II)I"⟩
def RJxd2413 : String := "java/lang/Number"
def TJxd2413 : u_T := fun k => match k with
  | _ => ("", "", "", false)
def tyJxd2413 : Nat → FieldType := fun k => match k with
  | _ => .int
abbrev wsJxd24130 : List Cond := u_ws RJxd2413 TJxd2413 0
theorem nmJxd2413 : ∀ a, a < 0 → ∀ b, b < 0 → a ≠ b → (TJxd2413 a).2.1 ≠ (TJxd2413 b).2.1 := by decide +kernel
theorem tyJxd2413_ok : ∀ k, k < 0 → parseFieldDescriptor (TJxd2413 k).2.2.1 = some (tyJxd2413 k) := by decide +kernel
def RJ10 : String := "java/lang/System"
def TJ10 : u_T := fun k => match k with
  | _ => ("", "", "", false)
def tyJ10 : Nat → FieldType := fun k => match k with
  | _ => .int
abbrev wsJ100 : List Cond := u_ws RJ10 TJ10 0
theorem nmJ10 : ∀ a, a < 0 → ∀ b, b < 0 → a ≠ b → (TJ10 a).2.1 ≠ (TJ10 b).2.1 := by decide +kernel
theorem tyJ10_ok : ∀ k, k < 0 → parseFieldDescriptor (TJ10 k).2.2.1 = some (tyJ10 k) := by decide +kernel
def RJxfd54e : String := "java/lang/constant/Constable"
def TJxfd54e : u_T := fun k => match k with
  | _ => ("", "", "", false)
def tyJxfd54e : Nat → FieldType := fun k => match k with
  | _ => .int
abbrev wsJxfd54e0 : List Cond := u_ws RJxfd54e TJxfd54e 0
theorem nmJxfd54e : ∀ a, a < 0 → ∀ b, b < 0 → a ≠ b → (TJxfd54e a).2.1 ≠ (TJxfd54e b).2.1 := by decide +kernel
theorem tyJxfd54e_ok : ∀ k, k < 0 → parseFieldDescriptor (TJxfd54e k).2.2.1 = some (tyJxfd54e k) := by decide +kernel
def RJx3cf43 : String := "java/lang/constant/ConstantDesc"
def TJx3cf43 : u_T := fun k => match k with
  | _ => ("", "", "", false)
def tyJx3cf43 : Nat → FieldType := fun k => match k with
  | _ => .int
abbrev wsJx3cf430 : List Cond := u_ws RJx3cf43 TJx3cf43 0
theorem nmJx3cf43 : ∀ a, a < 0 → ∀ b, b < 0 → a ≠ b → (TJx3cf43 a).2.1 ≠ (TJx3cf43 b).2.1 := by decide +kernel
theorem tyJx3cf43_ok : ∀ k, k < 0 → parseFieldDescriptor (TJx3cf43 k).2.2.1 = some (tyJx3cf43 k) := by decide +kernel
def RJ7 : String := "java/util/Arrays"
def TJ7 : u_T := fun k => match k with
  | _ => ("", "", "", false)
def tyJ7 : Nat → FieldType := fun k => match k with
  | _ => .int
abbrev wsJ70 : List Cond := u_ws RJ7 TJ7 0
theorem nmJ7 : ∀ a, a < 0 → ∀ b, b < 0 → a ≠ b → (TJ7 a).2.1 ≠ (TJ7 b).2.1 := by decide +kernel
theorem tyJ7_ok : ∀ k, k < 0 → parseFieldDescriptor (TJ7 k).2.2.1 = some (tyJ7 k) := by decide +kernel
abbrev cJ7_fill_d0a16 : ByteArray := prog_14_method_101_code
def yJ7_fill_d0a16 : MethodName := ⟨RJ7, "fill", "([JJ)V"⟩
def RL : String := "ShaftHuntLaw"
abbrev cL_law : ByteArray := code
def yL_law : MethodName := ⟨RL, "law", "([I)Z"⟩
def wsX0_init : List Cond := .code yX0_init cX0_init 1 none :: ([.methodLink RX0 3 objectInit, .instanceMethod objectInit, .code objectInit ⟨#[0xb1]⟩ 1 none, .arrayClass .int, .fieldLink RX0 9 "ShaftHunt$Drains" "kind" "[I", .fieldLink RX0 15 "ShaftHunt$Drains" "pace" "[I", .fieldLink RX0 18 "ShaftHunt$Drains" "from" "[I", .fieldLink RX0 21 "ShaftHunt$Drains" "to" "[I", .fieldLink RX0 24 "ShaftHunt$Drains" "low" "[I", .fieldLink RX0 27 "ShaftHunt$Drains" "high" "[I", .fieldLink RX0 30 "ShaftHunt$Drains" "sort" "[I", .fieldLink RX0 33 "ShaftHunt$Drains" "place" "[I", .fieldLink RX0 36 "ShaftHunt$Drains" "minute" "[I", .fieldLink RX0 39 "ShaftHunt$Drains" "below" "[I", .fieldLink RX0 42 "ShaftHunt$Drains" "route" "[I"] ++ wsX00)
def wsX5_within : List Cond := .code yX5_within cX5_within 3 (some .boolean) :: ([])
def wsX0_hasShaft : List Cond := .code yX0_hasShaft cX0_hasShaft 2 (some .boolean) :: ([.fieldLink RX0 45 "ShaftHunt$Drains" "shafts" "I", .static yX5_within, .initialized RX5, .code yX5_within cX5_within 3 (some .boolean)] ++ wsX00)
def wsX0_hasPipe : List Cond := .code yX0_hasPipe cX0_hasPipe 2 (some .boolean) :: ([.fieldLink RX0 53 "ShaftHunt$Drains" "pipes" "I", .static yX5_within, .initialized RX5, .code yX5_within cX5_within 3 (some .boolean)] ++ wsX00)
def wsX0_isKind : List Cond := .code yX0_isKind cX0_isKind 1 (some .boolean) :: ([.static yX5_within, .initialized RX5, .code yX5_within cX5_within 3 (some .boolean)])
def wsX0_isPace : List Cond := .code yX0_isPace cX0_isPace 1 (some .boolean) :: ([.static yX5_within, .initialized RX5, .code yX5_within cX5_within 3 (some .boolean)])
def wsX0_findBelow : List Cond := .code yX0_findBelow cX0_findBelow 3 none :: ([.fieldLink RX0 45 "ShaftHunt$Drains" "shafts" "I", .fieldLink RX0 39 "ShaftHunt$Drains" "below" "[I", .fieldLink RX0 53 "ShaftHunt$Drains" "pipes" "I", .fieldLink RX0 18 "ShaftHunt$Drains" "from" "[I", .fieldLink RX0 21 "ShaftHunt$Drains" "to" "[I"] ++ wsX00)
def wsJ6_bitCount_0f7a4 : List Cond := .code yJ6_bitCount_0f7a4 cJ6_bitCount_0f7a4 1 (some .int) :: ([.constant RJ6 265 (1431655765), .constant RJ6 266 (858993459), .constant RJ6 267 (252645135)])
def wsX0_findRoute : List Cond := .code yX0_findRoute cX0_findRoute 4 none :: ([.fieldLink RX0 45 "ShaftHunt$Drains" "shafts" "I", .fieldLink RX0 53 "ShaftHunt$Drains" "pipes" "I", .fieldLink RX0 39 "ShaftHunt$Drains" "below" "[I", .fieldLink RX0 18 "ShaftHunt$Drains" "from" "[I", .fieldLink RX0 42 "ShaftHunt$Drains" "route" "[I", .methodLink RX0 97 yJ6_bitCount_0f7a4, .static yJ6_bitCount_0f7a4, .initialized RJ6, .code yJ6_bitCount_0f7a4 cJ6_bitCount_0f7a4 1 (some .int), .constant RJ6 265 (1431655765), .constant RJ6 266 (858993459), .constant RJ6 267 (252645135)] ++ wsX00)
def wsX0_findWays : List Cond := .code yX0_findWays cX0_findWays 1 none :: ([.methodLink RX0 91 yX0_findBelow, .instanceMethod yX0_findBelow, .selects RX0 yX0_findBelow yX0_findBelow, .initialized RX0, .code yX0_findBelow cX0_findBelow 3 none, .fieldLink RX0 45 "ShaftHunt$Drains" "shafts" "I", .fieldLink RX0 39 "ShaftHunt$Drains" "below" "[I", .fieldLink RX0 53 "ShaftHunt$Drains" "pipes" "I", .fieldLink RX0 18 "ShaftHunt$Drains" "from" "[I", .fieldLink RX0 21 "ShaftHunt$Drains" "to" "[I", .methodLink RX0 94 yX0_findRoute, .instanceMethod yX0_findRoute, .selects RX0 yX0_findRoute yX0_findRoute, .code yX0_findRoute cX0_findRoute 4 none, .fieldLink RX0 42 "ShaftHunt$Drains" "route" "[I", .methodLink RX0 97 yJ6_bitCount_0f7a4, .static yJ6_bitCount_0f7a4, .initialized RJ6, .code yJ6_bitCount_0f7a4 cJ6_bitCount_0f7a4 1 (some .int), .constant RJ6 265 (1431655765), .constant RJ6 266 (858993459), .constant RJ6 267 (252645135)] ++ wsX00)
def wsX0_addShaft_r1 : List Cond := [Cond.fieldLink RX0 45 "ShaftHunt$Drains" "shafts" "I", Cond.fieldLink RX0 9 "ShaftHunt$Drains" "kind" "[I", Cond.fieldLink RX0 15 "ShaftHunt$Drains" "pace" "[I", Cond.methodLink RX0 56 yX0_isKind, Cond.static yX0_isKind, Cond.initialized RX0, Cond.code yX0_isKind cX0_isKind 1 (some .boolean), Cond.static yX5_within, Cond.initialized RX5, Cond.code yX5_within cX5_within 3 (some .boolean), Cond.methodLink RX0 60 yX0_isPace, Cond.static yX0_isPace, Cond.code yX0_isPace cX0_isPace 1 (some .boolean), Cond.methodLink RX0 63 yX0_findWays, Cond.instanceMethod yX0_findWays, Cond.selects RX0 yX0_findWays yX0_findWays, Cond.code yX0_findWays cX0_findWays 1 none, Cond.methodLink RX0 91 yX0_findBelow, Cond.instanceMethod yX0_findBelow, Cond.selects RX0 yX0_findBelow yX0_findBelow, Cond.code yX0_findBelow cX0_findBelow 3 none, Cond.fieldLink RX0 39 "ShaftHunt$Drains" "below" "[I", Cond.fieldLink RX0 53 "ShaftHunt$Drains" "pipes" "I", Cond.fieldLink RX0 18 "ShaftHunt$Drains" "from" "[I"]
def wsX0_addShaft_r2 : List Cond := [Cond.fieldLink RX0 21 "ShaftHunt$Drains" "to" "[I", Cond.methodLink RX0 94 yX0_findRoute, Cond.instanceMethod yX0_findRoute, Cond.selects RX0 yX0_findRoute yX0_findRoute, Cond.code yX0_findRoute cX0_findRoute 4 none, Cond.fieldLink RX0 42 "ShaftHunt$Drains" "route" "[I", Cond.methodLink RX0 97 yJ6_bitCount_0f7a4, Cond.static yJ6_bitCount_0f7a4, Cond.initialized RJ6, Cond.code yJ6_bitCount_0f7a4 cJ6_bitCount_0f7a4 1 (some .int), Cond.constant RJ6 265 (1431655765), Cond.constant RJ6 266 (858993459), Cond.constant RJ6 267 (252645135)]
def wsX0_addShaft : List Cond := .code yX0_addShaft cX0_addShaft 4 (some .int) :: ((wsX0_addShaft_r1 ++ wsX0_addShaft_r2) ++ wsX00)
def wsX0_changeShaft : List Cond := .code yX0_changeShaft cX0_changeShaft 5 (some .int) :: ([.fieldLink RX0 9 "ShaftHunt$Drains" "kind" "[I", .fieldLink RX0 15 "ShaftHunt$Drains" "pace" "[I", .methodLink RX0 66 yX0_hasShaft, .instanceMethod yX0_hasShaft, .selects RX0 yX0_hasShaft yX0_hasShaft, .initialized RX0, .code yX0_hasShaft cX0_hasShaft 2 (some .boolean), .fieldLink RX0 45 "ShaftHunt$Drains" "shafts" "I", .static yX5_within, .initialized RX5, .code yX5_within cX5_within 3 (some .boolean), .methodLink RX0 56 yX0_isKind, .static yX0_isKind, .code yX0_isKind cX0_isKind 1 (some .boolean), .methodLink RX0 60 yX0_isPace, .static yX0_isPace, .code yX0_isPace cX0_isPace 1 (some .boolean)] ++ wsX00)
def wsX0_isBelow : List Cond := .code yX0_isBelow cX0_isBelow 3 (some .boolean) :: ([.fieldLink RX0 39 "ShaftHunt$Drains" "below" "[I"] ++ wsX00)
def wsX0_addPipe_r1 : List Cond := [Cond.fieldLink RX0 53 "ShaftHunt$Drains" "pipes" "I", Cond.fieldLink RX0 18 "ShaftHunt$Drains" "from" "[I", Cond.fieldLink RX0 21 "ShaftHunt$Drains" "to" "[I", Cond.fieldLink RX0 24 "ShaftHunt$Drains" "low" "[I", Cond.fieldLink RX0 27 "ShaftHunt$Drains" "high" "[I", Cond.methodLink RX0 66 yX0_hasShaft, Cond.instanceMethod yX0_hasShaft, Cond.selects RX0 yX0_hasShaft yX0_hasShaft, Cond.initialized RX0, Cond.code yX0_hasShaft cX0_hasShaft 2 (some .boolean), Cond.fieldLink RX0 45 "ShaftHunt$Drains" "shafts" "I", Cond.static yX5_within, Cond.initialized RX5, Cond.code yX5_within cX5_within 3 (some .boolean), Cond.methodLink RX0 69 yX0_isBelow, Cond.instanceMethod yX0_isBelow, Cond.selects RX0 yX0_isBelow yX0_isBelow, Cond.code yX0_isBelow cX0_isBelow 3 (some .boolean), Cond.fieldLink RX0 39 "ShaftHunt$Drains" "below" "[I", Cond.methodLink RX0 63 yX0_findWays, Cond.instanceMethod yX0_findWays, Cond.selects RX0 yX0_findWays yX0_findWays, Cond.code yX0_findWays cX0_findWays 1 none, Cond.methodLink RX0 91 yX0_findBelow]
def wsX0_addPipe_r2 : List Cond := [Cond.instanceMethod yX0_findBelow, Cond.selects RX0 yX0_findBelow yX0_findBelow, Cond.code yX0_findBelow cX0_findBelow 3 none, Cond.methodLink RX0 94 yX0_findRoute, Cond.instanceMethod yX0_findRoute, Cond.selects RX0 yX0_findRoute yX0_findRoute, Cond.code yX0_findRoute cX0_findRoute 4 none, Cond.fieldLink RX0 42 "ShaftHunt$Drains" "route" "[I", Cond.methodLink RX0 97 yJ6_bitCount_0f7a4, Cond.static yJ6_bitCount_0f7a4, Cond.initialized RJ6, Cond.code yJ6_bitCount_0f7a4 cJ6_bitCount_0f7a4 1 (some .int), Cond.constant RJ6 265 (1431655765), Cond.constant RJ6 266 (858993459), Cond.constant RJ6 267 (252645135)]
def wsX0_addPipe : List Cond := .code yX0_addPipe cX0_addPipe 6 (some .int) :: ((wsX0_addPipe_r1 ++ wsX0_addPipe_r2) ++ wsX00)
def wsX0_dropPipe_r1 : List Cond := [Cond.fieldLink RX0 53 "ShaftHunt$Drains" "pipes" "I", Cond.fieldLink RX0 18 "ShaftHunt$Drains" "from" "[I", Cond.fieldLink RX0 21 "ShaftHunt$Drains" "to" "[I", Cond.fieldLink RX0 24 "ShaftHunt$Drains" "low" "[I", Cond.fieldLink RX0 27 "ShaftHunt$Drains" "high" "[I", Cond.methodLink RX0 73 yX0_hasPipe, Cond.instanceMethod yX0_hasPipe, Cond.selects RX0 yX0_hasPipe yX0_hasPipe, Cond.initialized RX0, Cond.code yX0_hasPipe cX0_hasPipe 2 (some .boolean), Cond.static yX5_within, Cond.initialized RX5, Cond.code yX5_within cX5_within 3 (some .boolean), Cond.methodLink RX0 63 yX0_findWays, Cond.instanceMethod yX0_findWays, Cond.selects RX0 yX0_findWays yX0_findWays, Cond.code yX0_findWays cX0_findWays 1 none, Cond.methodLink RX0 91 yX0_findBelow, Cond.instanceMethod yX0_findBelow, Cond.selects RX0 yX0_findBelow yX0_findBelow, Cond.code yX0_findBelow cX0_findBelow 3 none, Cond.fieldLink RX0 45 "ShaftHunt$Drains" "shafts" "I", Cond.fieldLink RX0 39 "ShaftHunt$Drains" "below" "[I", Cond.methodLink RX0 94 yX0_findRoute]
def wsX0_dropPipe_r2 : List Cond := [Cond.instanceMethod yX0_findRoute, Cond.selects RX0 yX0_findRoute yX0_findRoute, Cond.code yX0_findRoute cX0_findRoute 4 none, Cond.fieldLink RX0 42 "ShaftHunt$Drains" "route" "[I", Cond.methodLink RX0 97 yJ6_bitCount_0f7a4, Cond.static yJ6_bitCount_0f7a4, Cond.initialized RJ6, Cond.code yJ6_bitCount_0f7a4 cJ6_bitCount_0f7a4 1 (some .int), Cond.constant RJ6 265 (1431655765), Cond.constant RJ6 266 (858993459), Cond.constant RJ6 267 (252645135)]
def wsX0_dropPipe : List Cond := .code yX0_dropPipe cX0_dropPipe 3 (some .int) :: ((wsX0_dropPipe_r1 ++ wsX0_dropPipe_r2) ++ wsX00)
def wsX0_addSight : List Cond := .code yX0_addSight cX0_addSight 4 (some .int) :: ([.fieldLink RX0 76 "ShaftHunt$Drains" "sights" "I", .fieldLink RX0 30 "ShaftHunt$Drains" "sort" "[I", .fieldLink RX0 33 "ShaftHunt$Drains" "place" "[I", .fieldLink RX0 36 "ShaftHunt$Drains" "minute" "[I", .static yX5_within, .initialized RX5, .code yX5_within cX5_within 3 (some .boolean), .methodLink RX0 66 yX0_hasShaft, .instanceMethod yX0_hasShaft, .selects RX0 yX0_hasShaft yX0_hasShaft, .initialized RX0, .code yX0_hasShaft cX0_hasShaft 2 (some .boolean), .fieldLink RX0 45 "ShaftHunt$Drains" "shafts" "I"] ++ wsX00)
def wsX0_dropSights : List Cond := .code yX0_dropSights cX0_dropSights 2 (some .int) :: ([.fieldLink RX0 76 "ShaftHunt$Drains" "sights" "I"] ++ wsX00)
def wsX0_above : List Cond := .code yX0_above cX0_above 4 (some .int) :: ([.fieldLink RX0 45 "ShaftHunt$Drains" "shafts" "I", .methodLink RX0 69 yX0_isBelow, .instanceMethod yX0_isBelow, .selects RX0 yX0_isBelow yX0_isBelow, .initialized RX0, .code yX0_isBelow cX0_isBelow 3 (some .boolean), .fieldLink RX0 39 "ShaftHunt$Drains" "below" "[I"] ++ wsX00)
def wsX0_pipesAt : List Cond := .code yX0_pipesAt cX0_pipesAt 5 (some .int) :: ([.fieldLink RX0 53 "ShaftHunt$Drains" "pipes" "I"] ++ wsX00)
def wsX0_pumped : List Cond := .code yX0_pumped cX0_pumped 8 (some .long) :: ([])
def wsX0_leaving : List Cond := .code yX0_leaving cX0_leaving 5 (some .long) :: ([.fieldLink RX0 15 "ShaftHunt$Drains" "pace" "[I", .fieldLink RX0 9 "ShaftHunt$Drains" "kind" "[I", .constantLong RX0 83 (9223372036854775807), .constantLong RX0 85 (-1), .methodLink RX0 79 yX0_pumped, .static yX0_pumped, .initialized RX0, .code yX0_pumped cX0_pumped 8 (some .long)] ++ wsX00)
def wsX0_brought : List Cond := .code yX0_brought cX0_brought 7 (some .long) :: ([.fieldLink RX0 24 "ShaftHunt$Drains" "low" "[I", .fieldLink RX0 27 "ShaftHunt$Drains" "high" "[I", .constantLong RX0 83 (9223372036854775807)] ++ wsX00)
def wsX0_copyRow : List Cond := .code yX0_copyRow cX0_copyRow 2 none :: ([.methodLink RX0 103 Lib.Math.min.name, .static Lib.Math.min.name, .initialized "java/lang/Math", .code Lib.Math.min.name Lib.Math.min.code 2 (some .int), .methodLink RX0 109 arraycopyName, .native arraycopyName, .static arraycopyName, .initialized "java/lang/System"])
def wsX0_copyFrom_r1 : List Cond := [Cond.fieldLink RX0 45 "ShaftHunt$Drains" "shafts" "I", Cond.fieldLink RX0 9 "ShaftHunt$Drains" "kind" "[I", Cond.fieldLink RX0 15 "ShaftHunt$Drains" "pace" "[I", Cond.fieldLink RX0 39 "ShaftHunt$Drains" "below" "[I", Cond.fieldLink RX0 53 "ShaftHunt$Drains" "pipes" "I", Cond.fieldLink RX0 18 "ShaftHunt$Drains" "from" "[I", Cond.fieldLink RX0 21 "ShaftHunt$Drains" "to" "[I", Cond.fieldLink RX0 24 "ShaftHunt$Drains" "low" "[I", Cond.fieldLink RX0 27 "ShaftHunt$Drains" "high" "[I", Cond.fieldLink RX0 42 "ShaftHunt$Drains" "route" "[I", Cond.fieldLink RX0 76 "ShaftHunt$Drains" "sights" "I", Cond.fieldLink RX0 30 "ShaftHunt$Drains" "sort" "[I", Cond.fieldLink RX0 33 "ShaftHunt$Drains" "place" "[I", Cond.fieldLink RX0 36 "ShaftHunt$Drains" "minute" "[I", Cond.methodLink RX0 87 yX0_copyRow, Cond.static yX0_copyRow, Cond.initialized RX0, Cond.code yX0_copyRow cX0_copyRow 2 none, Cond.methodLink RX0 103 Lib.Math.min.name, Cond.static Lib.Math.min.name, Cond.initialized "java/lang/Math", Cond.code Lib.Math.min.name Lib.Math.min.code 2 (some .int), Cond.methodLink RX0 109 arraycopyName, Cond.native arraycopyName]
def wsX0_copyFrom_r2 : List Cond := [Cond.static arraycopyName, Cond.initialized "java/lang/System"]
def wsX0_copyFrom : List Cond := .code yX0_copyFrom cX0_copyFrom 2 none :: ((wsX0_copyFrom_r1 ++ wsX0_copyFrom_r2) ++ wsX00)
def wsX1_init : List Cond := .code yX1_init cX1_init 2 none :: ([.methodLink RX1 3 objectInit, .instanceMethod objectInit, .code objectInit ⟨#[0xb1]⟩ 1 none, .arrayClass .long, .fieldLink RX1 9 "ShaftHunt$Flow" "come" "[J", .arrayClass .int, .fieldLink RX1 15 "ShaftHunt$Flow" "starts" "[I", .fieldLink RX1 19 "ShaftHunt$Flow" "drains" "LShaftHunt$Drains;"] ++ wsX10)
def wsX1_outdate : List Cond := .code yX1_outdate cX1_outdate 1 none :: ([.fieldLink RX1 23 "ShaftHunt$Flow" "known" "I"] ++ wsX10)
def wsJ7_fill_d0a16 : List Cond := .code yJ7_fill_d0a16 cJ7_fill_d0a16 5 none :: ([])
def wsX1_walk_r1 : List Cond := [Cond.fieldLink RX1 9 "ShaftHunt$Flow" "come" "[J", Cond.fieldLink RX1 19 "ShaftHunt$Flow" "drains" "LShaftHunt$Drains;", Cond.fieldLink RX1 33 "ShaftHunt$Drains" "pipes" "I", Cond.fieldLink RX1 38 "ShaftHunt$Drains" "route" "[I", Cond.fieldLink RX1 41 "ShaftHunt$Drains" "from" "[I", Cond.fieldLink RX1 44 "ShaftHunt$Drains" "to" "[I", Cond.methodLink RX1 27 yJ7_fill_d0a16, Cond.static yJ7_fill_d0a16, Cond.initialized RJ7, Cond.code yJ7_fill_d0a16 cJ7_fill_d0a16 5 none, Cond.methodLink RX1 47 yX0_leaving, Cond.instanceMethod yX0_leaving, Cond.selects RX0 yX0_leaving yX0_leaving, Cond.initialized RX0, Cond.code yX0_leaving cX0_leaving 5 (some .long), Cond.fieldLink RX0 15 "ShaftHunt$Drains" "pace" "[I", Cond.fieldLink RX0 9 "ShaftHunt$Drains" "kind" "[I", Cond.constantLong RX0 83 (9223372036854775807), Cond.constantLong RX0 85 (-1), Cond.methodLink RX0 79 yX0_pumped, Cond.static yX0_pumped, Cond.code yX0_pumped cX0_pumped 8 (some .long), Cond.methodLink RX1 51 yX0_brought, Cond.instanceMethod yX0_brought]
def wsX1_walk_r2 : List Cond := [Cond.selects RX0 yX0_brought yX0_brought, Cond.code yX0_brought cX0_brought 7 (some .long), Cond.fieldLink RX0 24 "ShaftHunt$Drains" "low" "[I", Cond.fieldLink RX0 27 "ShaftHunt$Drains" "high" "[I"]
def wsX1_walk : List Cond := .code yX1_walk cX1_walk 6 none :: ((wsX1_walk_r1 ++ wsX1_walk_r2) ++ wsX10 ++ wsX00)
def wsX1_agreesWith : List Cond := .code yX1_agreesWith cX1_agreesWith 5 (some .boolean) :: ([.fieldLink RX1 9 "ShaftHunt$Flow" "come" "[J", .fieldLink RX1 19 "ShaftHunt$Flow" "drains" "LShaftHunt$Drains;", .fieldLink RX1 76 "ShaftHunt$Drains" "place" "[I", .fieldLink RX1 79 "ShaftHunt$Drains" "minute" "[I", .fieldLink RX1 82 "ShaftHunt$Drains" "sort" "[I"] ++ wsX10 ++ wsX00)
def wsX1_agrees : List Cond := .code yX1_agrees cX1_agrees 2 (some .boolean) :: ([.fieldLink RX1 19 "ShaftHunt$Flow" "drains" "LShaftHunt$Drains;", .fieldLink RX1 54 "ShaftHunt$Drains" "sights" "I", .methodLink RX1 57 yX1_agreesWith, .instanceMethod yX1_agreesWith, .selects RX1 yX1_agreesWith yX1_agreesWith, .initialized RX1, .code yX1_agreesWith cX1_agreesWith 5 (some .boolean), .fieldLink RX1 9 "ShaftHunt$Flow" "come" "[J", .fieldLink RX1 76 "ShaftHunt$Drains" "place" "[I", .fieldLink RX1 79 "ShaftHunt$Drains" "minute" "[I", .fieldLink RX1 82 "ShaftHunt$Drains" "sort" "[I"] ++ wsX10 ++ wsX00)
def wsX1_startsAt_r1 : List Cond := [Cond.fieldLink RX1 23 "ShaftHunt$Flow" "known" "I", Cond.fieldLink RX1 15 "ShaftHunt$Flow" "starts" "[I", Cond.methodLink RX1 61 yX1_walk, Cond.instanceMethod yX1_walk, Cond.selects RX1 yX1_walk yX1_walk, Cond.initialized RX1, Cond.code yX1_walk cX1_walk 6 none, Cond.fieldLink RX1 9 "ShaftHunt$Flow" "come" "[J", Cond.fieldLink RX1 19 "ShaftHunt$Flow" "drains" "LShaftHunt$Drains;", Cond.fieldLink RX1 33 "ShaftHunt$Drains" "pipes" "I", Cond.fieldLink RX1 38 "ShaftHunt$Drains" "route" "[I", Cond.fieldLink RX1 41 "ShaftHunt$Drains" "from" "[I", Cond.fieldLink RX1 44 "ShaftHunt$Drains" "to" "[I", Cond.methodLink RX1 27 yJ7_fill_d0a16, Cond.static yJ7_fill_d0a16, Cond.initialized RJ7, Cond.code yJ7_fill_d0a16 cJ7_fill_d0a16 5 none, Cond.methodLink RX1 47 yX0_leaving, Cond.instanceMethod yX0_leaving, Cond.selects RX0 yX0_leaving yX0_leaving, Cond.initialized RX0, Cond.code yX0_leaving cX0_leaving 5 (some .long), Cond.fieldLink RX0 15 "ShaftHunt$Drains" "pace" "[I", Cond.fieldLink RX0 9 "ShaftHunt$Drains" "kind" "[I"]
def wsX1_startsAt_r2 : List Cond := [Cond.constantLong RX0 83 (9223372036854775807), Cond.constantLong RX0 85 (-1), Cond.methodLink RX0 79 yX0_pumped, Cond.static yX0_pumped, Cond.code yX0_pumped cX0_pumped 8 (some .long), Cond.methodLink RX1 51 yX0_brought, Cond.instanceMethod yX0_brought, Cond.selects RX0 yX0_brought yX0_brought, Cond.code yX0_brought cX0_brought 7 (some .long), Cond.fieldLink RX0 24 "ShaftHunt$Drains" "low" "[I", Cond.fieldLink RX0 27 "ShaftHunt$Drains" "high" "[I", Cond.methodLink RX1 65 yX1_agrees, Cond.instanceMethod yX1_agrees, Cond.selects RX1 yX1_agrees yX1_agrees, Cond.code yX1_agrees cX1_agrees 2 (some .boolean), Cond.fieldLink RX1 54 "ShaftHunt$Drains" "sights" "I", Cond.methodLink RX1 57 yX1_agreesWith, Cond.instanceMethod yX1_agreesWith, Cond.selects RX1 yX1_agreesWith yX1_agreesWith, Cond.code yX1_agreesWith cX1_agreesWith 5 (some .boolean), Cond.fieldLink RX1 76 "ShaftHunt$Drains" "place" "[I", Cond.fieldLink RX1 79 "ShaftHunt$Drains" "minute" "[I", Cond.fieldLink RX1 82 "ShaftHunt$Drains" "sort" "[I"]
def wsX1_startsAt : List Cond := .code yX1_startsAt cX1_startsAt 4 (some .int) :: ((wsX1_startsAt_r1 ++ wsX1_startsAt_r2) ++ wsX10 ++ wsX00)
def wsX1_suspicious_r1 : List Cond := [Cond.fieldLink RX1 19 "ShaftHunt$Flow" "drains" "LShaftHunt$Drains;", Cond.fieldLink RX1 69 "ShaftHunt$Drains" "shafts" "I", Cond.methodLink RX1 72 yX1_startsAt, Cond.instanceMethod yX1_startsAt, Cond.selects RX1 yX1_startsAt yX1_startsAt, Cond.initialized RX1, Cond.code yX1_startsAt cX1_startsAt 4 (some .int), Cond.fieldLink RX1 23 "ShaftHunt$Flow" "known" "I", Cond.fieldLink RX1 15 "ShaftHunt$Flow" "starts" "[I", Cond.methodLink RX1 61 yX1_walk, Cond.instanceMethod yX1_walk, Cond.selects RX1 yX1_walk yX1_walk, Cond.code yX1_walk cX1_walk 6 none, Cond.fieldLink RX1 9 "ShaftHunt$Flow" "come" "[J", Cond.fieldLink RX1 33 "ShaftHunt$Drains" "pipes" "I", Cond.fieldLink RX1 38 "ShaftHunt$Drains" "route" "[I", Cond.fieldLink RX1 41 "ShaftHunt$Drains" "from" "[I", Cond.fieldLink RX1 44 "ShaftHunt$Drains" "to" "[I", Cond.methodLink RX1 27 yJ7_fill_d0a16, Cond.static yJ7_fill_d0a16, Cond.initialized RJ7, Cond.code yJ7_fill_d0a16 cJ7_fill_d0a16 5 none, Cond.methodLink RX1 47 yX0_leaving, Cond.instanceMethod yX0_leaving]
def wsX1_suspicious_r2 : List Cond := [Cond.selects RX0 yX0_leaving yX0_leaving, Cond.initialized RX0, Cond.code yX0_leaving cX0_leaving 5 (some .long), Cond.fieldLink RX0 15 "ShaftHunt$Drains" "pace" "[I", Cond.fieldLink RX0 9 "ShaftHunt$Drains" "kind" "[I", Cond.constantLong RX0 83 (9223372036854775807), Cond.constantLong RX0 85 (-1), Cond.methodLink RX0 79 yX0_pumped, Cond.static yX0_pumped, Cond.code yX0_pumped cX0_pumped 8 (some .long), Cond.methodLink RX1 51 yX0_brought, Cond.instanceMethod yX0_brought, Cond.selects RX0 yX0_brought yX0_brought, Cond.code yX0_brought cX0_brought 7 (some .long), Cond.fieldLink RX0 24 "ShaftHunt$Drains" "low" "[I", Cond.fieldLink RX0 27 "ShaftHunt$Drains" "high" "[I", Cond.methodLink RX1 65 yX1_agrees, Cond.instanceMethod yX1_agrees, Cond.selects RX1 yX1_agrees yX1_agrees, Cond.code yX1_agrees cX1_agrees 2 (some .boolean), Cond.fieldLink RX1 54 "ShaftHunt$Drains" "sights" "I", Cond.methodLink RX1 57 yX1_agreesWith, Cond.instanceMethod yX1_agreesWith, Cond.selects RX1 yX1_agreesWith yX1_agreesWith]
def wsX1_suspicious_r3 : List Cond := [Cond.code yX1_agreesWith cX1_agreesWith 5 (some .boolean), Cond.fieldLink RX1 76 "ShaftHunt$Drains" "place" "[I", Cond.fieldLink RX1 79 "ShaftHunt$Drains" "minute" "[I", Cond.fieldLink RX1 82 "ShaftHunt$Drains" "sort" "[I"]
def wsX1_suspicious : List Cond := .code yX1_suspicious cX1_suspicious 3 (some .int) :: ((wsX1_suspicious_r1 ++ (wsX1_suspicious_r2 ++ wsX1_suspicious_r3)) ++ wsX10 ++ wsX00)
def wsX2_init : List Cond := .code yX2_init cX2_init 1 none :: ([.methodLink RX2 3 objectInit, .instanceMethod objectInit, .code objectInit ⟨#[0xb1]⟩ 1 none, .arrayClass .int, .fieldLink RX2 9 "ShaftHunt$Orders" "letter" "[I", .fieldLink RX2 15 "ShaftHunt$Orders" "numbers" "[I"] ++ wsX20)
def wsX2_numbersOf : List Cond := .code yX2_numbersOf cX2_numbersOf 1 (some .int) :: ([])
def wsX2_opens : List Cond := .code yX2_opens cX2_opens 2 (some .boolean) :: ([.fieldLink RX2 18 "ShaftHunt$Orders" "count" "I", .fieldLink RX2 9 "ShaftHunt$Orders" "letter" "[I", .fieldLink RX2 22 "ShaftHunt$Orders" "open" "Z", .fieldLink RX2 68 "ShaftHunt$Orders" "begun" "I", .fieldLink RX2 48 "ShaftHunt$Orders" "figures" "I", .methodLink RX2 65 yX2_numbersOf, .static yX2_numbersOf, .initialized RX2, .code yX2_numbersOf cX2_numbersOf 1 (some .int)] ++ wsX20)
def wsX2_closes : List Cond := .code yX2_closes cX2_closes 1 (some .boolean) :: ([.fieldLink RX2 68 "ShaftHunt$Orders" "begun" "I", .fieldLink RX2 9 "ShaftHunt$Orders" "letter" "[I", .fieldLink RX2 18 "ShaftHunt$Orders" "count" "I", .fieldLink RX2 22 "ShaftHunt$Orders" "open" "Z", .methodLink RX2 65 yX2_numbersOf, .static yX2_numbersOf, .initialized RX2, .code yX2_numbersOf cX2_numbersOf 1 (some .int)] ++ wsX20)
def wsX2_takesFigure : List Cond := .code yX2_takesFigure cX2_takesFigure 3 (some .boolean) :: ([.fieldLink RX2 48 "ShaftHunt$Orders" "figures" "I", .fieldLink RX2 68 "ShaftHunt$Orders" "begun" "I", .fieldLink RX2 9 "ShaftHunt$Orders" "letter" "[I", .fieldLink RX2 18 "ShaftHunt$Orders" "count" "I", .fieldLink RX2 15 "ShaftHunt$Orders" "numbers" "[I", .methodLink RX2 65 yX2_numbersOf, .static yX2_numbersOf, .initialized RX2, .code yX2_numbersOf cX2_numbersOf 1 (some .int)] ++ wsX20)
def wsX2_takes_r1 : List Cond := [Cond.fieldLink RX2 48 "ShaftHunt$Orders" "figures" "I", Cond.fieldLink RX2 22 "ShaftHunt$Orders" "open" "Z", Cond.methodLink RX2 51 yX2_opens, Cond.instanceMethod yX2_opens, Cond.selects RX2 yX2_opens yX2_opens, Cond.initialized RX2, Cond.code yX2_opens cX2_opens 2 (some .boolean), Cond.fieldLink RX2 18 "ShaftHunt$Orders" "count" "I", Cond.fieldLink RX2 9 "ShaftHunt$Orders" "letter" "[I", Cond.fieldLink RX2 68 "ShaftHunt$Orders" "begun" "I", Cond.methodLink RX2 65 yX2_numbersOf, Cond.static yX2_numbersOf, Cond.code yX2_numbersOf cX2_numbersOf 1 (some .int), Cond.methodLink RX2 54 yX2_closes, Cond.instanceMethod yX2_closes, Cond.selects RX2 yX2_closes yX2_closes, Cond.code yX2_closes cX2_closes 1 (some .boolean), Cond.static yX5_within, Cond.initialized RX5, Cond.code yX5_within cX5_within 3 (some .boolean), Cond.methodLink RX2 62 yX2_takesFigure, Cond.instanceMethod yX2_takesFigure, Cond.selects RX2 yX2_takesFigure yX2_takesFigure, Cond.code yX2_takesFigure cX2_takesFigure 3 (some .boolean)]
def wsX2_takes_r2 : List Cond := [Cond.fieldLink RX2 15 "ShaftHunt$Orders" "numbers" "[I"]
def wsX2_takes : List Cond := .code yX2_takes cX2_takes 2 (some .boolean) :: ((wsX2_takes_r1 ++ wsX2_takes_r2) ++ wsX20)
def wsX2_parse_r1 : List Cond := [Cond.fieldLink RX2 18 "ShaftHunt$Orders" "count" "I", Cond.fieldLink RX2 22 "ShaftHunt$Orders" "open" "Z", Cond.methodLink RX2 26 yX2_takes, Cond.instanceMethod yX2_takes, Cond.selects RX2 yX2_takes yX2_takes, Cond.initialized RX2, Cond.code yX2_takes cX2_takes 2 (some .boolean), Cond.fieldLink RX2 48 "ShaftHunt$Orders" "figures" "I", Cond.methodLink RX2 51 yX2_opens, Cond.instanceMethod yX2_opens, Cond.selects RX2 yX2_opens yX2_opens, Cond.code yX2_opens cX2_opens 2 (some .boolean), Cond.fieldLink RX2 9 "ShaftHunt$Orders" "letter" "[I", Cond.fieldLink RX2 68 "ShaftHunt$Orders" "begun" "I", Cond.methodLink RX2 65 yX2_numbersOf, Cond.static yX2_numbersOf, Cond.code yX2_numbersOf cX2_numbersOf 1 (some .int), Cond.methodLink RX2 54 yX2_closes, Cond.instanceMethod yX2_closes, Cond.selects RX2 yX2_closes yX2_closes, Cond.code yX2_closes cX2_closes 1 (some .boolean), Cond.static yX5_within, Cond.initialized RX5, Cond.code yX5_within cX5_within 3 (some .boolean)]
def wsX2_parse_r2 : List Cond := [Cond.methodLink RX2 62 yX2_takesFigure, Cond.instanceMethod yX2_takesFigure, Cond.selects RX2 yX2_takesFigure yX2_takesFigure, Cond.code yX2_takesFigure cX2_takesFigure 3 (some .boolean), Cond.fieldLink RX2 15 "ShaftHunt$Orders" "numbers" "[I"]
def wsX2_parse : List Cond := .code yX2_parse cX2_parse 4 (some .int) :: ((wsX2_parse_r1 ++ wsX2_parse_r2) ++ wsX20)
def wsX2_obey_r1 : List Cond := [Cond.fieldLink RX2 15 "ShaftHunt$Orders" "numbers" "[I", Cond.fieldLink RX2 9 "ShaftHunt$Orders" "letter" "[I", Cond.methodLink RX2 30 yX0_addShaft, Cond.instanceMethod yX0_addShaft, Cond.selects RX0 yX0_addShaft yX0_addShaft, Cond.initialized RX0, Cond.code yX0_addShaft cX0_addShaft 4 (some .int), Cond.fieldLink RX0 45 "ShaftHunt$Drains" "shafts" "I", Cond.fieldLink RX0 9 "ShaftHunt$Drains" "kind" "[I", Cond.fieldLink RX0 15 "ShaftHunt$Drains" "pace" "[I", Cond.methodLink RX0 56 yX0_isKind, Cond.static yX0_isKind, Cond.code yX0_isKind cX0_isKind 1 (some .boolean), Cond.static yX5_within, Cond.initialized RX5, Cond.code yX5_within cX5_within 3 (some .boolean), Cond.methodLink RX0 60 yX0_isPace, Cond.static yX0_isPace, Cond.code yX0_isPace cX0_isPace 1 (some .boolean), Cond.methodLink RX0 63 yX0_findWays, Cond.instanceMethod yX0_findWays, Cond.selects RX0 yX0_findWays yX0_findWays, Cond.code yX0_findWays cX0_findWays 1 none, Cond.methodLink RX0 91 yX0_findBelow]
def wsX2_obey_r2 : List Cond := [Cond.instanceMethod yX0_findBelow, Cond.selects RX0 yX0_findBelow yX0_findBelow, Cond.code yX0_findBelow cX0_findBelow 3 none, Cond.fieldLink RX0 39 "ShaftHunt$Drains" "below" "[I", Cond.fieldLink RX0 53 "ShaftHunt$Drains" "pipes" "I", Cond.fieldLink RX0 18 "ShaftHunt$Drains" "from" "[I", Cond.fieldLink RX0 21 "ShaftHunt$Drains" "to" "[I", Cond.methodLink RX0 94 yX0_findRoute, Cond.instanceMethod yX0_findRoute, Cond.selects RX0 yX0_findRoute yX0_findRoute, Cond.code yX0_findRoute cX0_findRoute 4 none, Cond.fieldLink RX0 42 "ShaftHunt$Drains" "route" "[I", Cond.methodLink RX0 97 yJ6_bitCount_0f7a4, Cond.static yJ6_bitCount_0f7a4, Cond.initialized RJ6, Cond.code yJ6_bitCount_0f7a4 cJ6_bitCount_0f7a4 1 (some .int), Cond.constant RJ6 265 (1431655765), Cond.constant RJ6 266 (858993459), Cond.constant RJ6 267 (252645135), Cond.methodLink RX2 36 yX0_addPipe, Cond.instanceMethod yX0_addPipe, Cond.selects RX0 yX0_addPipe yX0_addPipe, Cond.code yX0_addPipe cX0_addPipe 6 (some .int), Cond.fieldLink RX0 24 "ShaftHunt$Drains" "low" "[I"]
def wsX2_obey_r3 : List Cond := [Cond.fieldLink RX0 27 "ShaftHunt$Drains" "high" "[I", Cond.methodLink RX0 66 yX0_hasShaft, Cond.instanceMethod yX0_hasShaft, Cond.selects RX0 yX0_hasShaft yX0_hasShaft, Cond.code yX0_hasShaft cX0_hasShaft 2 (some .boolean), Cond.methodLink RX0 69 yX0_isBelow, Cond.instanceMethod yX0_isBelow, Cond.selects RX0 yX0_isBelow yX0_isBelow, Cond.code yX0_isBelow cX0_isBelow 3 (some .boolean), Cond.methodLink RX2 40 yX0_addSight, Cond.instanceMethod yX0_addSight, Cond.selects RX0 yX0_addSight yX0_addSight, Cond.code yX0_addSight cX0_addSight 4 (some .int), Cond.fieldLink RX0 76 "ShaftHunt$Drains" "sights" "I", Cond.fieldLink RX0 30 "ShaftHunt$Drains" "sort" "[I", Cond.fieldLink RX0 33 "ShaftHunt$Drains" "place" "[I", Cond.fieldLink RX0 36 "ShaftHunt$Drains" "minute" "[I", Cond.methodLink RX2 44 yX0_dropPipe, Cond.instanceMethod yX0_dropPipe, Cond.selects RX0 yX0_dropPipe yX0_dropPipe, Cond.code yX0_dropPipe cX0_dropPipe 3 (some .int), Cond.methodLink RX0 73 yX0_hasPipe, Cond.instanceMethod yX0_hasPipe, Cond.selects RX0 yX0_hasPipe yX0_hasPipe]
def wsX2_obey_r4 : List Cond := [Cond.code yX0_hasPipe cX0_hasPipe 2 (some .boolean)]
def wsX2_obey : List Cond := .code yX2_obey cX2_obey 6 (some .int) :: ((wsX2_obey_r1 ++ (wsX2_obey_r2 ++ (wsX2_obey_r3 ++ wsX2_obey_r4))) ++ wsX20 ++ wsX00)
def wsX3_init : List Cond := .code yX3_init cX3_init 2 none :: ([.methodLink RX3 3 objectInit, .instanceMethod objectInit, .code objectInit ⟨#[0xb1]⟩ 1 none, .classLink RX3 9 RX0, .fieldLink RX3 11 "ShaftHunt$Past" "kept" "[LShaftHunt$Drains;", .instantiable RX0 14, .initialized RX0, .instanceMethod yX0_init, .code yX0_init cX0_init 1 none, .methodLink RX0 3 objectInit, .arrayClass .int, .fieldLink RX0 9 "ShaftHunt$Drains" "kind" "[I", .fieldLink RX0 15 "ShaftHunt$Drains" "pace" "[I", .fieldLink RX0 18 "ShaftHunt$Drains" "from" "[I", .fieldLink RX0 21 "ShaftHunt$Drains" "to" "[I", .fieldLink RX0 24 "ShaftHunt$Drains" "low" "[I", .fieldLink RX0 27 "ShaftHunt$Drains" "high" "[I", .fieldLink RX0 30 "ShaftHunt$Drains" "sort" "[I", .fieldLink RX0 33 "ShaftHunt$Drains" "place" "[I", .fieldLink RX0 36 "ShaftHunt$Drains" "minute" "[I", .fieldLink RX0 39 "ShaftHunt$Drains" "below" "[I", .fieldLink RX0 42 "ShaftHunt$Drains" "route" "[I"] ++ wsX30 ++ wsX00)
def wsX3_mark_r1 : List Cond := [Cond.fieldLink RX3 11 "ShaftHunt$Past" "kept" "[LShaftHunt$Drains;", Cond.fieldLink RX3 18 "ShaftHunt$Past" "count" "I", Cond.methodLink RX3 22 yX0_copyFrom, Cond.instanceMethod yX0_copyFrom, Cond.selects RX0 yX0_copyFrom yX0_copyFrom, Cond.initialized RX0, Cond.code yX0_copyFrom cX0_copyFrom 2 none, Cond.fieldLink RX0 45 "ShaftHunt$Drains" "shafts" "I", Cond.fieldLink RX0 9 "ShaftHunt$Drains" "kind" "[I", Cond.fieldLink RX0 15 "ShaftHunt$Drains" "pace" "[I", Cond.fieldLink RX0 39 "ShaftHunt$Drains" "below" "[I", Cond.fieldLink RX0 53 "ShaftHunt$Drains" "pipes" "I", Cond.fieldLink RX0 18 "ShaftHunt$Drains" "from" "[I", Cond.fieldLink RX0 21 "ShaftHunt$Drains" "to" "[I", Cond.fieldLink RX0 24 "ShaftHunt$Drains" "low" "[I", Cond.fieldLink RX0 27 "ShaftHunt$Drains" "high" "[I", Cond.fieldLink RX0 42 "ShaftHunt$Drains" "route" "[I", Cond.fieldLink RX0 76 "ShaftHunt$Drains" "sights" "I", Cond.fieldLink RX0 30 "ShaftHunt$Drains" "sort" "[I", Cond.fieldLink RX0 33 "ShaftHunt$Drains" "place" "[I", Cond.fieldLink RX0 36 "ShaftHunt$Drains" "minute" "[I", Cond.methodLink RX0 87 yX0_copyRow, Cond.static yX0_copyRow, Cond.code yX0_copyRow cX0_copyRow 2 none]
def wsX3_mark_r2 : List Cond := [Cond.methodLink RX0 103 Lib.Math.min.name, Cond.static Lib.Math.min.name, Cond.initialized "java/lang/Math", Cond.code Lib.Math.min.name Lib.Math.min.code 2 (some .int), Cond.methodLink RX0 109 arraycopyName, Cond.native arraycopyName, Cond.static arraycopyName, Cond.initialized "java/lang/System"]
def wsX3_mark : List Cond := .code yX3_mark cX3_mark 2 none :: ((wsX3_mark_r1 ++ wsX3_mark_r2) ++ wsX30 ++ wsX00)
def wsX3_toMark_r1 : List Cond := [Cond.fieldLink RX3 11 "ShaftHunt$Past" "kept" "[LShaftHunt$Drains;", Cond.fieldLink RX3 18 "ShaftHunt$Past" "count" "I", Cond.methodLink RX3 22 yX0_copyFrom, Cond.instanceMethod yX0_copyFrom, Cond.selects RX0 yX0_copyFrom yX0_copyFrom, Cond.initialized RX0, Cond.code yX0_copyFrom cX0_copyFrom 2 none, Cond.fieldLink RX0 45 "ShaftHunt$Drains" "shafts" "I", Cond.fieldLink RX0 9 "ShaftHunt$Drains" "kind" "[I", Cond.fieldLink RX0 15 "ShaftHunt$Drains" "pace" "[I", Cond.fieldLink RX0 39 "ShaftHunt$Drains" "below" "[I", Cond.fieldLink RX0 53 "ShaftHunt$Drains" "pipes" "I", Cond.fieldLink RX0 18 "ShaftHunt$Drains" "from" "[I", Cond.fieldLink RX0 21 "ShaftHunt$Drains" "to" "[I", Cond.fieldLink RX0 24 "ShaftHunt$Drains" "low" "[I", Cond.fieldLink RX0 27 "ShaftHunt$Drains" "high" "[I", Cond.fieldLink RX0 42 "ShaftHunt$Drains" "route" "[I", Cond.fieldLink RX0 76 "ShaftHunt$Drains" "sights" "I", Cond.fieldLink RX0 30 "ShaftHunt$Drains" "sort" "[I", Cond.fieldLink RX0 33 "ShaftHunt$Drains" "place" "[I", Cond.fieldLink RX0 36 "ShaftHunt$Drains" "minute" "[I", Cond.methodLink RX0 87 yX0_copyRow, Cond.static yX0_copyRow, Cond.code yX0_copyRow cX0_copyRow 2 none]
def wsX3_toMark_r2 : List Cond := [Cond.methodLink RX0 103 Lib.Math.min.name, Cond.static Lib.Math.min.name, Cond.initialized "java/lang/Math", Cond.code Lib.Math.min.name Lib.Math.min.code 2 (some .int), Cond.methodLink RX0 109 arraycopyName, Cond.native arraycopyName, Cond.static arraycopyName, Cond.initialized "java/lang/System"]
def wsX3_toMark : List Cond := .code yX3_toMark cX3_toMark 2 none :: ((wsX3_toMark_r1 ++ wsX3_toMark_r2) ++ wsX30 ++ wsX00)
def wsX3_keep : List Cond := .code yX3_keep cX3_keep 3 none :: ([.fieldLink RX3 18 "ShaftHunt$Past" "count" "I", .fieldLink RX3 11 "ShaftHunt$Past" "kept" "[LShaftHunt$Drains;"] ++ wsX30)
def wsX3_undo_r1 : List Cond := [Cond.fieldLink RX3 18 "ShaftHunt$Past" "count" "I", Cond.fieldLink RX3 11 "ShaftHunt$Past" "kept" "[LShaftHunt$Drains;", Cond.methodLink RX3 22 yX0_copyFrom, Cond.instanceMethod yX0_copyFrom, Cond.selects RX0 yX0_copyFrom yX0_copyFrom, Cond.initialized RX0, Cond.code yX0_copyFrom cX0_copyFrom 2 none, Cond.fieldLink RX0 45 "ShaftHunt$Drains" "shafts" "I", Cond.fieldLink RX0 9 "ShaftHunt$Drains" "kind" "[I", Cond.fieldLink RX0 15 "ShaftHunt$Drains" "pace" "[I", Cond.fieldLink RX0 39 "ShaftHunt$Drains" "below" "[I", Cond.fieldLink RX0 53 "ShaftHunt$Drains" "pipes" "I", Cond.fieldLink RX0 18 "ShaftHunt$Drains" "from" "[I", Cond.fieldLink RX0 21 "ShaftHunt$Drains" "to" "[I", Cond.fieldLink RX0 24 "ShaftHunt$Drains" "low" "[I", Cond.fieldLink RX0 27 "ShaftHunt$Drains" "high" "[I", Cond.fieldLink RX0 42 "ShaftHunt$Drains" "route" "[I", Cond.fieldLink RX0 76 "ShaftHunt$Drains" "sights" "I", Cond.fieldLink RX0 30 "ShaftHunt$Drains" "sort" "[I", Cond.fieldLink RX0 33 "ShaftHunt$Drains" "place" "[I", Cond.fieldLink RX0 36 "ShaftHunt$Drains" "minute" "[I", Cond.methodLink RX0 87 yX0_copyRow, Cond.static yX0_copyRow, Cond.code yX0_copyRow cX0_copyRow 2 none]
def wsX3_undo_r2 : List Cond := [Cond.methodLink RX0 103 Lib.Math.min.name, Cond.static Lib.Math.min.name, Cond.initialized "java/lang/Math", Cond.code Lib.Math.min.name Lib.Math.min.code 2 (some .int), Cond.methodLink RX0 109 arraycopyName, Cond.native arraycopyName, Cond.static arraycopyName, Cond.initialized "java/lang/System"]
def wsX3_undo : List Cond := .code yX3_undo cX3_undo 2 none :: ((wsX3_undo_r1 ++ wsX3_undo_r2) ++ wsX30 ++ wsX00)
def wsX4_init : List Cond := .code yX4_init cX4_init 1 none :: ([.methodLink RX4 3 objectInit, .instanceMethod objectInit, .code objectInit ⟨#[0xb1]⟩ 1 none, .arrayClass .int, .fieldLink RX4 9 "ShaftHunt$Watch" "tellers" "[I"] ++ wsX40)
def wsX4_compare : List Cond := .code yX4_compare cX4_compare 4 none :: ([.fieldLink RX4 15 "ShaftHunt$Watch" "pairs" "I", .fieldLink RX4 19 "ShaftHunt$Drains" "shafts" "I", .fieldLink RX4 9 "ShaftHunt$Watch" "tellers" "[I", .fieldLink RX4 24 "ShaftHunt$Drains" "below" "[I"] ++ wsX40 ++ wsX00)
def wsX4_untold : List Cond := .code yX4_untold cX4_untold 4 (some .int) :: ([.fieldLink RX4 15 "ShaftHunt$Watch" "pairs" "I", .fieldLink RX4 9 "ShaftHunt$Watch" "tellers" "[I"] ++ wsX40)
def wsX4_tellsAll : List Cond := .code yX4_tellsAll cX4_tellsAll 3 (some .boolean) :: ([.fieldLink RX4 15 "ShaftHunt$Watch" "pairs" "I", .fieldLink RX4 9 "ShaftHunt$Watch" "tellers" "[I"] ++ wsX40)
def wsX4_fewest : List Cond := .code yX4_fewest cX4_fewest 6 (some .int) :: ([.methodLink RX4 27 yJ6_bitCount_0f7a4, .static yJ6_bitCount_0f7a4, .initialized RJ6, .code yJ6_bitCount_0f7a4 cJ6_bitCount_0f7a4 1 (some .int), .constant RJ6 265 (1431655765), .constant RJ6 266 (858993459), .constant RJ6 267 (252645135), .methodLink RX4 33 yX4_tellsAll, .instanceMethod yX4_tellsAll, .selects RX4 yX4_tellsAll yX4_tellsAll, .initialized RX4, .code yX4_tellsAll cX4_tellsAll 3 (some .boolean), .fieldLink RX4 15 "ShaftHunt$Watch" "pairs" "I", .fieldLink RX4 9 "ShaftHunt$Watch" "tellers" "[I"] ++ wsX40)
def wsX5_init_r1 : List Cond := [Cond.methodLink RX5 5 objectInit, Cond.instanceMethod objectInit, Cond.code objectInit ⟨#[0xb1]⟩ 1 none, Cond.classLink RX5 11 RX0, Cond.instantiable RX0 14, Cond.initialized RX0, Cond.fieldLink RX5 14 "ShaftHunt" "now" "LShaftHunt$Drains;", Cond.classLink RX5 18 RX3, Cond.instantiable RX3 2, Cond.initialized RX3, Cond.fieldLink RX5 21 "ShaftHunt" "past" "LShaftHunt$Past;", Cond.classLink RX5 25 RX1, Cond.instantiable RX1 4, Cond.initialized RX1, Cond.fieldLink RX5 30 "ShaftHunt" "flow" "LShaftHunt$Flow;", Cond.classLink RX5 34 RX4, Cond.instantiable RX4 2, Cond.initialized RX4, Cond.fieldLink RX5 37 "ShaftHunt" "watch" "LShaftHunt$Watch;", Cond.classLink RX5 41 RX2, Cond.instantiable RX2 6, Cond.initialized RX2, Cond.fieldLink RX5 44 "ShaftHunt" "orders" "LShaftHunt$Orders;", Cond.arrayClass .byte]
def wsX5_init_r2 : List Cond := [Cond.fieldLink RX5 48 "ShaftHunt" "text" "[B", Cond.instanceMethod yX0_init, Cond.code yX0_init cX0_init 1 none, Cond.methodLink RX0 3 objectInit, Cond.arrayClass .int, Cond.fieldLink RX0 9 "ShaftHunt$Drains" "kind" "[I", Cond.fieldLink RX0 15 "ShaftHunt$Drains" "pace" "[I", Cond.fieldLink RX0 18 "ShaftHunt$Drains" "from" "[I", Cond.fieldLink RX0 21 "ShaftHunt$Drains" "to" "[I", Cond.fieldLink RX0 24 "ShaftHunt$Drains" "low" "[I", Cond.fieldLink RX0 27 "ShaftHunt$Drains" "high" "[I", Cond.fieldLink RX0 30 "ShaftHunt$Drains" "sort" "[I", Cond.fieldLink RX0 33 "ShaftHunt$Drains" "place" "[I", Cond.fieldLink RX0 36 "ShaftHunt$Drains" "minute" "[I", Cond.fieldLink RX0 39 "ShaftHunt$Drains" "below" "[I", Cond.fieldLink RX0 42 "ShaftHunt$Drains" "route" "[I", Cond.methodLink RX5 20 yX3_init, Cond.instanceMethod yX3_init, Cond.code yX3_init cX3_init 2 none, Cond.methodLink RX3 3 objectInit, Cond.classLink RX3 9 RX0, Cond.fieldLink RX3 11 "ShaftHunt$Past" "kept" "[LShaftHunt$Drains;", Cond.methodLink RX5 27 yX1_init, Cond.instanceMethod yX1_init]
def wsX5_init_r3 : List Cond := [Cond.code yX1_init cX1_init 2 none, Cond.methodLink RX1 3 objectInit, Cond.arrayClass .long, Cond.fieldLink RX1 9 "ShaftHunt$Flow" "come" "[J", Cond.fieldLink RX1 15 "ShaftHunt$Flow" "starts" "[I", Cond.fieldLink RX1 19 "ShaftHunt$Flow" "drains" "LShaftHunt$Drains;", Cond.instanceMethod yX4_init, Cond.code yX4_init cX4_init 1 none, Cond.methodLink RX4 3 objectInit, Cond.fieldLink RX4 9 "ShaftHunt$Watch" "tellers" "[I", Cond.instanceMethod yX2_init, Cond.code yX2_init cX2_init 1 none, Cond.methodLink RX2 3 objectInit, Cond.fieldLink RX2 9 "ShaftHunt$Orders" "letter" "[I", Cond.fieldLink RX2 15 "ShaftHunt$Orders" "numbers" "[I"]
def wsX5_init : List Cond := .code yX5_init cX5_init 1 none :: ((wsX5_init_r1 ++ (wsX5_init_r2 ++ wsX5_init_r3)) ++ wsX00 ++ wsX50 ++ wsX30 ++ wsX10 ++ wsX40 ++ wsX20)
def wsX5_refused : List Cond := .code yX5_refused cX5_refused 2 (some .int) :: ([.fieldLink RX5 204 "ShaftHunt" "bads" "I", .fieldLink RX5 207 "ShaftHunt" "noes" "I", .fieldLink RX5 210 "ShaftHunt" "fulls" "I"] ++ wsX50)
def wsX5_settled : List Cond := .code yX5_settled cX5_settled 2 (some .int) :: ([.fieldLink RX5 21 "ShaftHunt" "past" "LShaftHunt$Past;", .fieldLink RX5 30 "ShaftHunt" "flow" "LShaftHunt$Flow;", .methodLink RX5 78 yX5_refused, .instanceMethod yX5_refused, .selects RX5 yX5_refused yX5_refused, .initialized RX5, .code yX5_refused cX5_refused 2 (some .int), .fieldLink RX5 204 "ShaftHunt" "bads" "I", .fieldLink RX5 207 "ShaftHunt" "noes" "I", .fieldLink RX5 210 "ShaftHunt" "fulls" "I", .methodLink RX5 252 yX3_keep, .instanceMethod yX3_keep, .selects RX3 yX3_keep yX3_keep, .initialized RX3, .code yX3_keep cX3_keep 3 none, .fieldLink RX3 18 "ShaftHunt$Past" "count" "I", .fieldLink RX3 11 "ShaftHunt$Past" "kept" "[LShaftHunt$Drains;", .methodLink RX5 201 yX1_outdate, .instanceMethod yX1_outdate, .selects RX1 yX1_outdate yX1_outdate, .initialized RX1, .code yX1_outdate cX1_outdate 1 none, .fieldLink RX1 23 "ShaftHunt$Flow" "known" "I"] ++ wsX50 ++ wsX30 ++ wsX10)
def wsX5_shaft_r1 : List Cond := [Cond.fieldLink RX5 21 "ShaftHunt" "past" "LShaftHunt$Past;", Cond.fieldLink RX5 14 "ShaftHunt" "now" "LShaftHunt$Drains;", Cond.methodLink RX5 52 yX3_mark, Cond.instanceMethod yX3_mark, Cond.selects RX3 yX3_mark yX3_mark, Cond.initialized RX3, Cond.code yX3_mark cX3_mark 2 none, Cond.fieldLink RX3 11 "ShaftHunt$Past" "kept" "[LShaftHunt$Drains;", Cond.fieldLink RX3 18 "ShaftHunt$Past" "count" "I", Cond.methodLink RX3 22 yX0_copyFrom, Cond.instanceMethod yX0_copyFrom, Cond.selects RX0 yX0_copyFrom yX0_copyFrom, Cond.initialized RX0, Cond.code yX0_copyFrom cX0_copyFrom 2 none, Cond.fieldLink RX0 45 "ShaftHunt$Drains" "shafts" "I", Cond.fieldLink RX0 9 "ShaftHunt$Drains" "kind" "[I", Cond.fieldLink RX0 15 "ShaftHunt$Drains" "pace" "[I", Cond.fieldLink RX0 39 "ShaftHunt$Drains" "below" "[I", Cond.fieldLink RX0 53 "ShaftHunt$Drains" "pipes" "I", Cond.fieldLink RX0 18 "ShaftHunt$Drains" "from" "[I", Cond.fieldLink RX0 21 "ShaftHunt$Drains" "to" "[I", Cond.fieldLink RX0 24 "ShaftHunt$Drains" "low" "[I", Cond.fieldLink RX0 27 "ShaftHunt$Drains" "high" "[I", Cond.fieldLink RX0 42 "ShaftHunt$Drains" "route" "[I"]
def wsX5_shaft_r2 : List Cond := [Cond.fieldLink RX0 76 "ShaftHunt$Drains" "sights" "I", Cond.fieldLink RX0 30 "ShaftHunt$Drains" "sort" "[I", Cond.fieldLink RX0 33 "ShaftHunt$Drains" "place" "[I", Cond.fieldLink RX0 36 "ShaftHunt$Drains" "minute" "[I", Cond.methodLink RX0 87 yX0_copyRow, Cond.static yX0_copyRow, Cond.code yX0_copyRow cX0_copyRow 2 none, Cond.methodLink RX0 103 Lib.Math.min.name, Cond.static Lib.Math.min.name, Cond.initialized "java/lang/Math", Cond.code Lib.Math.min.name Lib.Math.min.code 2 (some .int), Cond.methodLink RX0 109 arraycopyName, Cond.native arraycopyName, Cond.static arraycopyName, Cond.initialized "java/lang/System", Cond.methodLink RX5 55 yX0_addShaft, Cond.instanceMethod yX0_addShaft, Cond.selects RX0 yX0_addShaft yX0_addShaft, Cond.code yX0_addShaft cX0_addShaft 4 (some .int), Cond.methodLink RX0 56 yX0_isKind, Cond.static yX0_isKind, Cond.code yX0_isKind cX0_isKind 1 (some .boolean), Cond.static yX5_within, Cond.initialized RX5]
def wsX5_shaft_r3 : List Cond := [Cond.code yX5_within cX5_within 3 (some .boolean), Cond.methodLink RX0 60 yX0_isPace, Cond.static yX0_isPace, Cond.code yX0_isPace cX0_isPace 1 (some .boolean), Cond.methodLink RX0 63 yX0_findWays, Cond.instanceMethod yX0_findWays, Cond.selects RX0 yX0_findWays yX0_findWays, Cond.code yX0_findWays cX0_findWays 1 none, Cond.methodLink RX0 91 yX0_findBelow, Cond.instanceMethod yX0_findBelow, Cond.selects RX0 yX0_findBelow yX0_findBelow, Cond.code yX0_findBelow cX0_findBelow 3 none, Cond.methodLink RX0 94 yX0_findRoute, Cond.instanceMethod yX0_findRoute, Cond.selects RX0 yX0_findRoute yX0_findRoute, Cond.code yX0_findRoute cX0_findRoute 4 none, Cond.methodLink RX0 97 yJ6_bitCount_0f7a4, Cond.static yJ6_bitCount_0f7a4, Cond.initialized RJ6, Cond.code yJ6_bitCount_0f7a4 cJ6_bitCount_0f7a4 1 (some .int), Cond.constant RJ6 265 (1431655765), Cond.constant RJ6 266 (858993459), Cond.constant RJ6 267 (252645135), Cond.methodLink RX5 59 yX5_settled]
def wsX5_shaft_r4 : List Cond := [Cond.instanceMethod yX5_settled, Cond.selects RX5 yX5_settled yX5_settled, Cond.code yX5_settled cX5_settled 2 (some .int), Cond.fieldLink RX5 30 "ShaftHunt" "flow" "LShaftHunt$Flow;", Cond.methodLink RX5 78 yX5_refused, Cond.instanceMethod yX5_refused, Cond.selects RX5 yX5_refused yX5_refused, Cond.code yX5_refused cX5_refused 2 (some .int), Cond.fieldLink RX5 204 "ShaftHunt" "bads" "I", Cond.fieldLink RX5 207 "ShaftHunt" "noes" "I", Cond.fieldLink RX5 210 "ShaftHunt" "fulls" "I", Cond.methodLink RX5 252 yX3_keep, Cond.instanceMethod yX3_keep, Cond.selects RX3 yX3_keep yX3_keep, Cond.code yX3_keep cX3_keep 3 none, Cond.methodLink RX5 201 yX1_outdate, Cond.instanceMethod yX1_outdate, Cond.selects RX1 yX1_outdate yX1_outdate, Cond.initialized RX1, Cond.code yX1_outdate cX1_outdate 1 none, Cond.fieldLink RX1 23 "ShaftHunt$Flow" "known" "I"]
def wsX5_shaft : List Cond := .code yX5_shaft cX5_shaft 3 (some .int) :: ((wsX5_shaft_r1 ++ (wsX5_shaft_r2 ++ (wsX5_shaft_r3 ++ wsX5_shaft_r4))) ++ wsX50 ++ wsX30 ++ wsX00 ++ wsX10)
def wsX5_sets_r1 : List Cond := [Cond.fieldLink RX5 21 "ShaftHunt" "past" "LShaftHunt$Past;", Cond.fieldLink RX5 14 "ShaftHunt" "now" "LShaftHunt$Drains;", Cond.methodLink RX5 52 yX3_mark, Cond.instanceMethod yX3_mark, Cond.selects RX3 yX3_mark yX3_mark, Cond.initialized RX3, Cond.code yX3_mark cX3_mark 2 none, Cond.fieldLink RX3 11 "ShaftHunt$Past" "kept" "[LShaftHunt$Drains;", Cond.fieldLink RX3 18 "ShaftHunt$Past" "count" "I", Cond.methodLink RX3 22 yX0_copyFrom, Cond.instanceMethod yX0_copyFrom, Cond.selects RX0 yX0_copyFrom yX0_copyFrom, Cond.initialized RX0, Cond.code yX0_copyFrom cX0_copyFrom 2 none, Cond.fieldLink RX0 45 "ShaftHunt$Drains" "shafts" "I", Cond.fieldLink RX0 9 "ShaftHunt$Drains" "kind" "[I", Cond.fieldLink RX0 15 "ShaftHunt$Drains" "pace" "[I", Cond.fieldLink RX0 39 "ShaftHunt$Drains" "below" "[I", Cond.fieldLink RX0 53 "ShaftHunt$Drains" "pipes" "I", Cond.fieldLink RX0 18 "ShaftHunt$Drains" "from" "[I", Cond.fieldLink RX0 21 "ShaftHunt$Drains" "to" "[I", Cond.fieldLink RX0 24 "ShaftHunt$Drains" "low" "[I", Cond.fieldLink RX0 27 "ShaftHunt$Drains" "high" "[I", Cond.fieldLink RX0 42 "ShaftHunt$Drains" "route" "[I"]
def wsX5_sets_r2 : List Cond := [Cond.fieldLink RX0 76 "ShaftHunt$Drains" "sights" "I", Cond.fieldLink RX0 30 "ShaftHunt$Drains" "sort" "[I", Cond.fieldLink RX0 33 "ShaftHunt$Drains" "place" "[I", Cond.fieldLink RX0 36 "ShaftHunt$Drains" "minute" "[I", Cond.methodLink RX0 87 yX0_copyRow, Cond.static yX0_copyRow, Cond.code yX0_copyRow cX0_copyRow 2 none, Cond.methodLink RX0 103 Lib.Math.min.name, Cond.static Lib.Math.min.name, Cond.initialized "java/lang/Math", Cond.code Lib.Math.min.name Lib.Math.min.code 2 (some .int), Cond.methodLink RX0 109 arraycopyName, Cond.native arraycopyName, Cond.static arraycopyName, Cond.initialized "java/lang/System", Cond.methodLink RX5 63 yX0_changeShaft, Cond.instanceMethod yX0_changeShaft, Cond.selects RX0 yX0_changeShaft yX0_changeShaft, Cond.code yX0_changeShaft cX0_changeShaft 5 (some .int), Cond.methodLink RX0 66 yX0_hasShaft, Cond.instanceMethod yX0_hasShaft, Cond.selects RX0 yX0_hasShaft yX0_hasShaft, Cond.code yX0_hasShaft cX0_hasShaft 2 (some .boolean), Cond.static yX5_within]
def wsX5_sets_r3 : List Cond := [Cond.initialized RX5, Cond.code yX5_within cX5_within 3 (some .boolean), Cond.methodLink RX0 56 yX0_isKind, Cond.static yX0_isKind, Cond.code yX0_isKind cX0_isKind 1 (some .boolean), Cond.methodLink RX0 60 yX0_isPace, Cond.static yX0_isPace, Cond.code yX0_isPace cX0_isPace 1 (some .boolean), Cond.methodLink RX5 59 yX5_settled, Cond.instanceMethod yX5_settled, Cond.selects RX5 yX5_settled yX5_settled, Cond.code yX5_settled cX5_settled 2 (some .int), Cond.fieldLink RX5 30 "ShaftHunt" "flow" "LShaftHunt$Flow;", Cond.methodLink RX5 78 yX5_refused, Cond.instanceMethod yX5_refused, Cond.selects RX5 yX5_refused yX5_refused, Cond.code yX5_refused cX5_refused 2 (some .int), Cond.fieldLink RX5 204 "ShaftHunt" "bads" "I", Cond.fieldLink RX5 207 "ShaftHunt" "noes" "I", Cond.fieldLink RX5 210 "ShaftHunt" "fulls" "I", Cond.methodLink RX5 252 yX3_keep, Cond.instanceMethod yX3_keep, Cond.selects RX3 yX3_keep yX3_keep, Cond.code yX3_keep cX3_keep 3 none]
def wsX5_sets_r4 : List Cond := [Cond.methodLink RX5 201 yX1_outdate, Cond.instanceMethod yX1_outdate, Cond.selects RX1 yX1_outdate yX1_outdate, Cond.initialized RX1, Cond.code yX1_outdate cX1_outdate 1 none, Cond.fieldLink RX1 23 "ShaftHunt$Flow" "known" "I"]
def wsX5_sets : List Cond := .code yX5_sets cX5_sets 4 (some .int) :: ((wsX5_sets_r1 ++ (wsX5_sets_r2 ++ (wsX5_sets_r3 ++ wsX5_sets_r4))) ++ wsX50 ++ wsX30 ++ wsX00 ++ wsX10)
def wsX5_pipe_r1 : List Cond := [Cond.fieldLink RX5 21 "ShaftHunt" "past" "LShaftHunt$Past;", Cond.fieldLink RX5 14 "ShaftHunt" "now" "LShaftHunt$Drains;", Cond.methodLink RX5 52 yX3_mark, Cond.instanceMethod yX3_mark, Cond.selects RX3 yX3_mark yX3_mark, Cond.initialized RX3, Cond.code yX3_mark cX3_mark 2 none, Cond.fieldLink RX3 11 "ShaftHunt$Past" "kept" "[LShaftHunt$Drains;", Cond.fieldLink RX3 18 "ShaftHunt$Past" "count" "I", Cond.methodLink RX3 22 yX0_copyFrom, Cond.instanceMethod yX0_copyFrom, Cond.selects RX0 yX0_copyFrom yX0_copyFrom, Cond.initialized RX0, Cond.code yX0_copyFrom cX0_copyFrom 2 none, Cond.fieldLink RX0 45 "ShaftHunt$Drains" "shafts" "I", Cond.fieldLink RX0 9 "ShaftHunt$Drains" "kind" "[I", Cond.fieldLink RX0 15 "ShaftHunt$Drains" "pace" "[I", Cond.fieldLink RX0 39 "ShaftHunt$Drains" "below" "[I", Cond.fieldLink RX0 53 "ShaftHunt$Drains" "pipes" "I", Cond.fieldLink RX0 18 "ShaftHunt$Drains" "from" "[I", Cond.fieldLink RX0 21 "ShaftHunt$Drains" "to" "[I", Cond.fieldLink RX0 24 "ShaftHunt$Drains" "low" "[I", Cond.fieldLink RX0 27 "ShaftHunt$Drains" "high" "[I", Cond.fieldLink RX0 42 "ShaftHunt$Drains" "route" "[I"]
def wsX5_pipe_r2 : List Cond := [Cond.fieldLink RX0 76 "ShaftHunt$Drains" "sights" "I", Cond.fieldLink RX0 30 "ShaftHunt$Drains" "sort" "[I", Cond.fieldLink RX0 33 "ShaftHunt$Drains" "place" "[I", Cond.fieldLink RX0 36 "ShaftHunt$Drains" "minute" "[I", Cond.methodLink RX0 87 yX0_copyRow, Cond.static yX0_copyRow, Cond.code yX0_copyRow cX0_copyRow 2 none, Cond.methodLink RX0 103 Lib.Math.min.name, Cond.static Lib.Math.min.name, Cond.initialized "java/lang/Math", Cond.code Lib.Math.min.name Lib.Math.min.code 2 (some .int), Cond.methodLink RX0 109 arraycopyName, Cond.native arraycopyName, Cond.static arraycopyName, Cond.initialized "java/lang/System", Cond.methodLink RX5 67 yX0_addPipe, Cond.instanceMethod yX0_addPipe, Cond.selects RX0 yX0_addPipe yX0_addPipe, Cond.code yX0_addPipe cX0_addPipe 6 (some .int), Cond.methodLink RX0 66 yX0_hasShaft, Cond.instanceMethod yX0_hasShaft, Cond.selects RX0 yX0_hasShaft yX0_hasShaft, Cond.code yX0_hasShaft cX0_hasShaft 2 (some .boolean), Cond.static yX5_within]
def wsX5_pipe_r3 : List Cond := [Cond.initialized RX5, Cond.code yX5_within cX5_within 3 (some .boolean), Cond.methodLink RX0 69 yX0_isBelow, Cond.instanceMethod yX0_isBelow, Cond.selects RX0 yX0_isBelow yX0_isBelow, Cond.code yX0_isBelow cX0_isBelow 3 (some .boolean), Cond.methodLink RX0 63 yX0_findWays, Cond.instanceMethod yX0_findWays, Cond.selects RX0 yX0_findWays yX0_findWays, Cond.code yX0_findWays cX0_findWays 1 none, Cond.methodLink RX0 91 yX0_findBelow, Cond.instanceMethod yX0_findBelow, Cond.selects RX0 yX0_findBelow yX0_findBelow, Cond.code yX0_findBelow cX0_findBelow 3 none, Cond.methodLink RX0 94 yX0_findRoute, Cond.instanceMethod yX0_findRoute, Cond.selects RX0 yX0_findRoute yX0_findRoute, Cond.code yX0_findRoute cX0_findRoute 4 none, Cond.methodLink RX0 97 yJ6_bitCount_0f7a4, Cond.static yJ6_bitCount_0f7a4, Cond.initialized RJ6, Cond.code yJ6_bitCount_0f7a4 cJ6_bitCount_0f7a4 1 (some .int), Cond.constant RJ6 265 (1431655765), Cond.constant RJ6 266 (858993459)]
def wsX5_pipe_r4 : List Cond := [Cond.constant RJ6 267 (252645135), Cond.methodLink RX5 59 yX5_settled, Cond.instanceMethod yX5_settled, Cond.selects RX5 yX5_settled yX5_settled, Cond.code yX5_settled cX5_settled 2 (some .int), Cond.fieldLink RX5 30 "ShaftHunt" "flow" "LShaftHunt$Flow;", Cond.methodLink RX5 78 yX5_refused, Cond.instanceMethod yX5_refused, Cond.selects RX5 yX5_refused yX5_refused, Cond.code yX5_refused cX5_refused 2 (some .int), Cond.fieldLink RX5 204 "ShaftHunt" "bads" "I", Cond.fieldLink RX5 207 "ShaftHunt" "noes" "I", Cond.fieldLink RX5 210 "ShaftHunt" "fulls" "I", Cond.methodLink RX5 252 yX3_keep, Cond.instanceMethod yX3_keep, Cond.selects RX3 yX3_keep yX3_keep, Cond.code yX3_keep cX3_keep 3 none, Cond.methodLink RX5 201 yX1_outdate, Cond.instanceMethod yX1_outdate, Cond.selects RX1 yX1_outdate yX1_outdate, Cond.initialized RX1, Cond.code yX1_outdate cX1_outdate 1 none, Cond.fieldLink RX1 23 "ShaftHunt$Flow" "known" "I"]
def wsX5_pipe : List Cond := .code yX5_pipe cX5_pipe 5 (some .int) :: ((wsX5_pipe_r1 ++ (wsX5_pipe_r2 ++ (wsX5_pipe_r3 ++ wsX5_pipe_r4))) ++ wsX50 ++ wsX30 ++ wsX00 ++ wsX10)
def wsX5_drops_r1 : List Cond := [Cond.fieldLink RX5 21 "ShaftHunt" "past" "LShaftHunt$Past;", Cond.fieldLink RX5 14 "ShaftHunt" "now" "LShaftHunt$Drains;", Cond.methodLink RX5 52 yX3_mark, Cond.instanceMethod yX3_mark, Cond.selects RX3 yX3_mark yX3_mark, Cond.initialized RX3, Cond.code yX3_mark cX3_mark 2 none, Cond.fieldLink RX3 11 "ShaftHunt$Past" "kept" "[LShaftHunt$Drains;", Cond.fieldLink RX3 18 "ShaftHunt$Past" "count" "I", Cond.methodLink RX3 22 yX0_copyFrom, Cond.instanceMethod yX0_copyFrom, Cond.selects RX0 yX0_copyFrom yX0_copyFrom, Cond.initialized RX0, Cond.code yX0_copyFrom cX0_copyFrom 2 none, Cond.fieldLink RX0 45 "ShaftHunt$Drains" "shafts" "I", Cond.fieldLink RX0 9 "ShaftHunt$Drains" "kind" "[I", Cond.fieldLink RX0 15 "ShaftHunt$Drains" "pace" "[I", Cond.fieldLink RX0 39 "ShaftHunt$Drains" "below" "[I", Cond.fieldLink RX0 53 "ShaftHunt$Drains" "pipes" "I", Cond.fieldLink RX0 18 "ShaftHunt$Drains" "from" "[I", Cond.fieldLink RX0 21 "ShaftHunt$Drains" "to" "[I", Cond.fieldLink RX0 24 "ShaftHunt$Drains" "low" "[I", Cond.fieldLink RX0 27 "ShaftHunt$Drains" "high" "[I", Cond.fieldLink RX0 42 "ShaftHunt$Drains" "route" "[I"]
def wsX5_drops_r2 : List Cond := [Cond.fieldLink RX0 76 "ShaftHunt$Drains" "sights" "I", Cond.fieldLink RX0 30 "ShaftHunt$Drains" "sort" "[I", Cond.fieldLink RX0 33 "ShaftHunt$Drains" "place" "[I", Cond.fieldLink RX0 36 "ShaftHunt$Drains" "minute" "[I", Cond.methodLink RX0 87 yX0_copyRow, Cond.static yX0_copyRow, Cond.code yX0_copyRow cX0_copyRow 2 none, Cond.methodLink RX0 103 Lib.Math.min.name, Cond.static Lib.Math.min.name, Cond.initialized "java/lang/Math", Cond.code Lib.Math.min.name Lib.Math.min.code 2 (some .int), Cond.methodLink RX0 109 arraycopyName, Cond.native arraycopyName, Cond.static arraycopyName, Cond.initialized "java/lang/System", Cond.methodLink RX5 71 yX0_dropPipe, Cond.instanceMethod yX0_dropPipe, Cond.selects RX0 yX0_dropPipe yX0_dropPipe, Cond.code yX0_dropPipe cX0_dropPipe 3 (some .int), Cond.methodLink RX0 73 yX0_hasPipe, Cond.instanceMethod yX0_hasPipe, Cond.selects RX0 yX0_hasPipe yX0_hasPipe, Cond.code yX0_hasPipe cX0_hasPipe 2 (some .boolean), Cond.static yX5_within]
def wsX5_drops_r3 : List Cond := [Cond.initialized RX5, Cond.code yX5_within cX5_within 3 (some .boolean), Cond.methodLink RX0 63 yX0_findWays, Cond.instanceMethod yX0_findWays, Cond.selects RX0 yX0_findWays yX0_findWays, Cond.code yX0_findWays cX0_findWays 1 none, Cond.methodLink RX0 91 yX0_findBelow, Cond.instanceMethod yX0_findBelow, Cond.selects RX0 yX0_findBelow yX0_findBelow, Cond.code yX0_findBelow cX0_findBelow 3 none, Cond.methodLink RX0 94 yX0_findRoute, Cond.instanceMethod yX0_findRoute, Cond.selects RX0 yX0_findRoute yX0_findRoute, Cond.code yX0_findRoute cX0_findRoute 4 none, Cond.methodLink RX0 97 yJ6_bitCount_0f7a4, Cond.static yJ6_bitCount_0f7a4, Cond.initialized RJ6, Cond.code yJ6_bitCount_0f7a4 cJ6_bitCount_0f7a4 1 (some .int), Cond.constant RJ6 265 (1431655765), Cond.constant RJ6 266 (858993459), Cond.constant RJ6 267 (252645135), Cond.methodLink RX5 59 yX5_settled, Cond.instanceMethod yX5_settled, Cond.selects RX5 yX5_settled yX5_settled]
def wsX5_drops_r4 : List Cond := [Cond.code yX5_settled cX5_settled 2 (some .int), Cond.fieldLink RX5 30 "ShaftHunt" "flow" "LShaftHunt$Flow;", Cond.methodLink RX5 78 yX5_refused, Cond.instanceMethod yX5_refused, Cond.selects RX5 yX5_refused yX5_refused, Cond.code yX5_refused cX5_refused 2 (some .int), Cond.fieldLink RX5 204 "ShaftHunt" "bads" "I", Cond.fieldLink RX5 207 "ShaftHunt" "noes" "I", Cond.fieldLink RX5 210 "ShaftHunt" "fulls" "I", Cond.methodLink RX5 252 yX3_keep, Cond.instanceMethod yX3_keep, Cond.selects RX3 yX3_keep yX3_keep, Cond.code yX3_keep cX3_keep 3 none, Cond.methodLink RX5 201 yX1_outdate, Cond.instanceMethod yX1_outdate, Cond.selects RX1 yX1_outdate yX1_outdate, Cond.initialized RX1, Cond.code yX1_outdate cX1_outdate 1 none, Cond.fieldLink RX1 23 "ShaftHunt$Flow" "known" "I"]
def wsX5_drops : List Cond := .code yX5_drops cX5_drops 2 (some .int) :: ((wsX5_drops_r1 ++ (wsX5_drops_r2 ++ (wsX5_drops_r3 ++ wsX5_drops_r4))) ++ wsX50 ++ wsX30 ++ wsX00 ++ wsX10)
def wsX5_of_r1 : List Cond := [Cond.fieldLink RX5 14 "ShaftHunt" "now" "LShaftHunt$Drains;", Cond.fieldLink RX5 81 "ShaftHunt$Drains" "kind" "[I", Cond.fieldLink RX5 85 "ShaftHunt$Drains" "pace" "[I", Cond.fieldLink RX5 88 "ShaftHunt$Drains" "from" "[I", Cond.fieldLink RX5 95 "ShaftHunt$Drains" "to" "[I", Cond.fieldLink RX5 98 "ShaftHunt$Drains" "below" "[I", Cond.methodLink RX5 74 yX0_hasShaft, Cond.instanceMethod yX0_hasShaft, Cond.selects RX0 yX0_hasShaft yX0_hasShaft, Cond.initialized RX0, Cond.code yX0_hasShaft cX0_hasShaft 2 (some .boolean), Cond.fieldLink RX0 45 "ShaftHunt$Drains" "shafts" "I", Cond.static yX5_within, Cond.initialized RX5, Cond.code yX5_within cX5_within 3 (some .boolean), Cond.methodLink RX5 78 yX5_refused, Cond.instanceMethod yX5_refused, Cond.selects RX5 yX5_refused yX5_refused, Cond.code yX5_refused cX5_refused 2 (some .int), Cond.fieldLink RX5 204 "ShaftHunt" "bads" "I", Cond.fieldLink RX5 207 "ShaftHunt" "noes" "I", Cond.fieldLink RX5 210 "ShaftHunt" "fulls" "I", Cond.methodLink RX5 91 yX0_pipesAt, Cond.instanceMethod yX0_pipesAt]
def wsX5_of_r2 : List Cond := [Cond.selects RX0 yX0_pipesAt yX0_pipesAt, Cond.code yX0_pipesAt cX0_pipesAt 5 (some .int), Cond.fieldLink RX0 53 "ShaftHunt$Drains" "pipes" "I", Cond.methodLink RX5 101 yX0_above, Cond.instanceMethod yX0_above, Cond.selects RX0 yX0_above yX0_above, Cond.code yX0_above cX0_above 4 (some .int), Cond.methodLink RX0 69 yX0_isBelow, Cond.instanceMethod yX0_isBelow, Cond.selects RX0 yX0_isBelow yX0_isBelow, Cond.code yX0_isBelow cX0_isBelow 3 (some .boolean), Cond.fieldLink RX0 39 "ShaftHunt$Drains" "below" "[I"]
def wsX5_of : List Cond := .code yX5_of cX5_of 3 (some .int) :: ((wsX5_of_r1 ++ wsX5_of_r2) ++ wsX50 ++ wsX00)
def wsX5_about : List Cond := .code yX5_about cX5_about 3 (some .int) :: ([.fieldLink RX5 14 "ShaftHunt" "now" "LShaftHunt$Drains;", .fieldLink RX5 88 "ShaftHunt$Drains" "from" "[I", .fieldLink RX5 95 "ShaftHunt$Drains" "to" "[I", .fieldLink RX5 107 "ShaftHunt$Drains" "low" "[I", .fieldLink RX5 110 "ShaftHunt$Drains" "high" "[I", .methodLink RX5 104 yX0_hasPipe, .instanceMethod yX0_hasPipe, .selects RX0 yX0_hasPipe yX0_hasPipe, .initialized RX0, .code yX0_hasPipe cX0_hasPipe 2 (some .boolean), .fieldLink RX0 53 "ShaftHunt$Drains" "pipes" "I", .static yX5_within, .initialized RX5, .code yX5_within cX5_within 3 (some .boolean), .methodLink RX5 78 yX5_refused, .instanceMethod yX5_refused, .selects RX5 yX5_refused yX5_refused, .code yX5_refused cX5_refused 2 (some .int), .fieldLink RX5 204 "ShaftHunt" "bads" "I", .fieldLink RX5 207 "ShaftHunt" "noes" "I", .fieldLink RX5 210 "ShaftHunt" "fulls" "I"] ++ wsX50 ++ wsX00)
def wsX5_isStart : List Cond := .code yX5_isStart cX5_isStart 3 (some .boolean) :: ([.fieldLink RX5 14 "ShaftHunt" "now" "LShaftHunt$Drains;", .methodLink RX5 74 yX0_hasShaft, .instanceMethod yX0_hasShaft, .selects RX0 yX0_hasShaft yX0_hasShaft, .initialized RX0, .code yX0_hasShaft cX0_hasShaft 2 (some .boolean), .fieldLink RX0 45 "ShaftHunt$Drains" "shafts" "I", .static yX5_within, .initialized RX5, .code yX5_within cX5_within 3 (some .boolean), .methodLink RX5 125 yX5_within] ++ wsX50 ++ wsX00)
def wsX5_comes_r1 : List Cond := [Cond.fieldLink RX5 14 "ShaftHunt" "now" "LShaftHunt$Drains;", Cond.fieldLink RX5 30 "ShaftHunt" "flow" "LShaftHunt$Flow;", Cond.fieldLink RX5 121 "ShaftHunt$Flow" "come" "[J", Cond.methodLink RX5 113 yX5_isStart, Cond.instanceMethod yX5_isStart, Cond.selects RX5 yX5_isStart yX5_isStart, Cond.initialized RX5, Cond.code yX5_isStart cX5_isStart 3 (some .boolean), Cond.methodLink RX5 74 yX0_hasShaft, Cond.instanceMethod yX0_hasShaft, Cond.selects RX0 yX0_hasShaft yX0_hasShaft, Cond.initialized RX0, Cond.code yX0_hasShaft cX0_hasShaft 2 (some .boolean), Cond.fieldLink RX0 45 "ShaftHunt$Drains" "shafts" "I", Cond.static yX5_within, Cond.code yX5_within cX5_within 3 (some .boolean), Cond.methodLink RX5 125 yX5_within, Cond.methodLink RX5 78 yX5_refused, Cond.instanceMethod yX5_refused, Cond.selects RX5 yX5_refused yX5_refused, Cond.code yX5_refused cX5_refused 2 (some .int), Cond.fieldLink RX5 204 "ShaftHunt" "bads" "I", Cond.fieldLink RX5 207 "ShaftHunt" "noes" "I", Cond.fieldLink RX5 210 "ShaftHunt" "fulls" "I"]
def wsX5_comes_r2 : List Cond := [Cond.methodLink RX5 117 yX1_walk, Cond.instanceMethod yX1_walk, Cond.selects RX1 yX1_walk yX1_walk, Cond.initialized RX1, Cond.code yX1_walk cX1_walk 6 none, Cond.fieldLink RX1 9 "ShaftHunt$Flow" "come" "[J", Cond.fieldLink RX1 19 "ShaftHunt$Flow" "drains" "LShaftHunt$Drains;", Cond.fieldLink RX1 33 "ShaftHunt$Drains" "pipes" "I", Cond.fieldLink RX1 38 "ShaftHunt$Drains" "route" "[I", Cond.fieldLink RX1 41 "ShaftHunt$Drains" "from" "[I", Cond.fieldLink RX1 44 "ShaftHunt$Drains" "to" "[I", Cond.methodLink RX1 27 yJ7_fill_d0a16, Cond.static yJ7_fill_d0a16, Cond.initialized RJ7, Cond.code yJ7_fill_d0a16 cJ7_fill_d0a16 5 none, Cond.methodLink RX1 47 yX0_leaving, Cond.instanceMethod yX0_leaving, Cond.selects RX0 yX0_leaving yX0_leaving, Cond.code yX0_leaving cX0_leaving 5 (some .long), Cond.fieldLink RX0 15 "ShaftHunt$Drains" "pace" "[I", Cond.fieldLink RX0 9 "ShaftHunt$Drains" "kind" "[I", Cond.constantLong RX0 83 (9223372036854775807), Cond.constantLong RX0 85 (-1), Cond.methodLink RX0 79 yX0_pumped]
def wsX5_comes_r3 : List Cond := [Cond.static yX0_pumped, Cond.code yX0_pumped cX0_pumped 8 (some .long), Cond.methodLink RX1 51 yX0_brought, Cond.instanceMethod yX0_brought, Cond.selects RX0 yX0_brought yX0_brought, Cond.code yX0_brought cX0_brought 7 (some .long), Cond.fieldLink RX0 24 "ShaftHunt$Drains" "low" "[I", Cond.fieldLink RX0 27 "ShaftHunt$Drains" "high" "[I"]
def wsX5_comes : List Cond := .code yX5_comes cX5_comes 4 (some .long) :: ((wsX5_comes_r1 ++ (wsX5_comes_r2 ++ wsX5_comes_r3)) ++ wsX50 ++ wsX10 ++ wsX00)
def wsJ13_bitCount_95d88 : List Cond := .code yJ13_bitCount_95d88 cJ13_bitCount_95d88 2 (some .int) :: ([.constantLong RJ13 314 (6148914691236517205), .constantLong RJ13 316 (3689348814741910323), .constantLong RJ13 318 (1085102592571150095)])
def wsJ6_numberOfTrailingZeros_0f7a4 : List Cond := .code yJ6_numberOfTrailingZeros_0f7a4 cJ6_numberOfTrailingZeros_0f7a4 2 (some .int) :: ([.constant RJ6 264 (65536)])
def wsJ13_numberOfTrailingZeros_95d88 : List Cond := .code yJ13_numberOfTrailingZeros_95d88 cJ13_numberOfTrailingZeros_95d88 3 (some .int) :: ([.methodLink RJ13 311 yJ6_numberOfTrailingZeros_0f7a4, .static yJ6_numberOfTrailingZeros_0f7a4, .initialized RJ6, .code yJ6_numberOfTrailingZeros_0f7a4 cJ6_numberOfTrailingZeros_0f7a4 2 (some .int), .constant RJ6 264 (65536)])
def wsJ6_numberOfLeadingZeros_0f7a4 : List Cond := .code yJ6_numberOfLeadingZeros_0f7a4 cJ6_numberOfLeadingZeros_0f7a4 2 (some .int) :: ([.constant RJ6 264 (65536)])
def wsJ13_numberOfLeadingZeros_95d88 : List Cond := .code yJ13_numberOfLeadingZeros_95d88 cJ13_numberOfLeadingZeros_95d88 3 (some .int) :: ([.methodLink RJ13 308 yJ6_numberOfLeadingZeros_0f7a4, .static yJ6_numberOfLeadingZeros_0f7a4, .initialized RJ6, .code yJ6_numberOfLeadingZeros_0f7a4 cJ6_numberOfLeadingZeros_0f7a4 2 (some .int), .constant RJ6 264 (65536)])
def wsX5_times_r1 : List Cond := [Cond.fieldLink RX5 14 "ShaftHunt" "now" "LShaftHunt$Drains;", Cond.fieldLink RX5 30 "ShaftHunt" "flow" "LShaftHunt$Flow;", Cond.fieldLink RX5 121 "ShaftHunt$Flow" "come" "[J", Cond.methodLink RX5 113 yX5_isStart, Cond.instanceMethod yX5_isStart, Cond.selects RX5 yX5_isStart yX5_isStart, Cond.initialized RX5, Cond.code yX5_isStart cX5_isStart 3 (some .boolean), Cond.methodLink RX5 74 yX0_hasShaft, Cond.instanceMethod yX0_hasShaft, Cond.selects RX0 yX0_hasShaft yX0_hasShaft, Cond.initialized RX0, Cond.code yX0_hasShaft cX0_hasShaft 2 (some .boolean), Cond.fieldLink RX0 45 "ShaftHunt$Drains" "shafts" "I", Cond.static yX5_within, Cond.code yX5_within cX5_within 3 (some .boolean), Cond.methodLink RX5 125 yX5_within, Cond.methodLink RX5 78 yX5_refused, Cond.instanceMethod yX5_refused, Cond.selects RX5 yX5_refused yX5_refused, Cond.code yX5_refused cX5_refused 2 (some .int), Cond.fieldLink RX5 204 "ShaftHunt" "bads" "I", Cond.fieldLink RX5 207 "ShaftHunt" "noes" "I", Cond.fieldLink RX5 210 "ShaftHunt" "fulls" "I"]
def wsX5_times_r2 : List Cond := [Cond.methodLink RX5 117 yX1_walk, Cond.instanceMethod yX1_walk, Cond.selects RX1 yX1_walk yX1_walk, Cond.initialized RX1, Cond.code yX1_walk cX1_walk 6 none, Cond.fieldLink RX1 9 "ShaftHunt$Flow" "come" "[J", Cond.fieldLink RX1 19 "ShaftHunt$Flow" "drains" "LShaftHunt$Drains;", Cond.fieldLink RX1 33 "ShaftHunt$Drains" "pipes" "I", Cond.fieldLink RX1 38 "ShaftHunt$Drains" "route" "[I", Cond.fieldLink RX1 41 "ShaftHunt$Drains" "from" "[I", Cond.fieldLink RX1 44 "ShaftHunt$Drains" "to" "[I", Cond.methodLink RX1 27 yJ7_fill_d0a16, Cond.static yJ7_fill_d0a16, Cond.initialized RJ7, Cond.code yJ7_fill_d0a16 cJ7_fill_d0a16 5 none, Cond.methodLink RX1 47 yX0_leaving, Cond.instanceMethod yX0_leaving, Cond.selects RX0 yX0_leaving yX0_leaving, Cond.code yX0_leaving cX0_leaving 5 (some .long), Cond.fieldLink RX0 15 "ShaftHunt$Drains" "pace" "[I", Cond.fieldLink RX0 9 "ShaftHunt$Drains" "kind" "[I", Cond.constantLong RX0 83 (9223372036854775807), Cond.constantLong RX0 85 (-1), Cond.methodLink RX0 79 yX0_pumped]
def wsX5_times_r3 : List Cond := [Cond.static yX0_pumped, Cond.code yX0_pumped cX0_pumped 8 (some .long), Cond.methodLink RX1 51 yX0_brought, Cond.instanceMethod yX0_brought, Cond.selects RX0 yX0_brought yX0_brought, Cond.code yX0_brought cX0_brought 7 (some .long), Cond.fieldLink RX0 24 "ShaftHunt$Drains" "low" "[I", Cond.fieldLink RX0 27 "ShaftHunt$Drains" "high" "[I", Cond.methodLink RX5 129 yJ13_bitCount_95d88, Cond.static yJ13_bitCount_95d88, Cond.initialized RJ13, Cond.code yJ13_bitCount_95d88 cJ13_bitCount_95d88 2 (some .int), Cond.constantLong RJ13 314 (6148914691236517205), Cond.constantLong RJ13 316 (3689348814741910323), Cond.constantLong RJ13 318 (1085102592571150095), Cond.methodLink RX5 133 yJ13_numberOfTrailingZeros_95d88, Cond.static yJ13_numberOfTrailingZeros_95d88, Cond.code yJ13_numberOfTrailingZeros_95d88 cJ13_numberOfTrailingZeros_95d88 3 (some .int), Cond.methodLink RJ13 311 yJ6_numberOfTrailingZeros_0f7a4, Cond.static yJ6_numberOfTrailingZeros_0f7a4, Cond.initialized RJ6, Cond.code yJ6_numberOfTrailingZeros_0f7a4 cJ6_numberOfTrailingZeros_0f7a4 2 (some .int), Cond.constant RJ6 264 (65536), Cond.methodLink RX5 136 yJ13_numberOfLeadingZeros_95d88]
def wsX5_times_r4 : List Cond := [Cond.static yJ13_numberOfLeadingZeros_95d88, Cond.code yJ13_numberOfLeadingZeros_95d88 cJ13_numberOfLeadingZeros_95d88 3 (some .int), Cond.methodLink RJ13 308 yJ6_numberOfLeadingZeros_0f7a4, Cond.static yJ6_numberOfLeadingZeros_0f7a4, Cond.code yJ6_numberOfLeadingZeros_0f7a4 cJ6_numberOfLeadingZeros_0f7a4 2 (some .int)]
def wsX5_times : List Cond := .code yX5_times cX5_times 7 (some .int) :: ((wsX5_times_r1 ++ (wsX5_times_r2 ++ (wsX5_times_r3 ++ wsX5_times_r4))) ++ wsX50 ++ wsX10 ++ wsX00)
def wsX5_leaves_r1 : List Cond := [Cond.fieldLink RX5 14 "ShaftHunt" "now" "LShaftHunt$Drains;", Cond.methodLink RX5 74 yX0_hasShaft, Cond.instanceMethod yX0_hasShaft, Cond.selects RX0 yX0_hasShaft yX0_hasShaft, Cond.initialized RX0, Cond.code yX0_hasShaft cX0_hasShaft 2 (some .boolean), Cond.fieldLink RX0 45 "ShaftHunt$Drains" "shafts" "I", Cond.static yX5_within, Cond.initialized RX5, Cond.code yX5_within cX5_within 3 (some .boolean), Cond.methodLink RX5 125 yX5_within, Cond.methodLink RX5 78 yX5_refused, Cond.instanceMethod yX5_refused, Cond.selects RX5 yX5_refused yX5_refused, Cond.code yX5_refused cX5_refused 2 (some .int), Cond.fieldLink RX5 204 "ShaftHunt" "bads" "I", Cond.fieldLink RX5 207 "ShaftHunt" "noes" "I", Cond.fieldLink RX5 210 "ShaftHunt" "fulls" "I", Cond.methodLink RX5 139 yX0_leaving, Cond.instanceMethod yX0_leaving, Cond.selects RX0 yX0_leaving yX0_leaving, Cond.code yX0_leaving cX0_leaving 5 (some .long), Cond.fieldLink RX0 15 "ShaftHunt$Drains" "pace" "[I", Cond.fieldLink RX0 9 "ShaftHunt$Drains" "kind" "[I"]
def wsX5_leaves_r2 : List Cond := [Cond.constantLong RX0 83 (9223372036854775807), Cond.constantLong RX0 85 (-1), Cond.methodLink RX0 79 yX0_pumped, Cond.static yX0_pumped, Cond.code yX0_pumped cX0_pumped 8 (some .long), Cond.methodLink RX5 133 yJ13_numberOfTrailingZeros_95d88, Cond.static yJ13_numberOfTrailingZeros_95d88, Cond.initialized RJ13, Cond.code yJ13_numberOfTrailingZeros_95d88 cJ13_numberOfTrailingZeros_95d88 3 (some .int), Cond.methodLink RJ13 311 yJ6_numberOfTrailingZeros_0f7a4, Cond.static yJ6_numberOfTrailingZeros_0f7a4, Cond.initialized RJ6, Cond.code yJ6_numberOfTrailingZeros_0f7a4 cJ6_numberOfTrailingZeros_0f7a4 2 (some .int), Cond.constant RJ6 264 (65536)]
def wsX5_leaves : List Cond := .code yX5_leaves cX5_leaves 5 (some .int) :: ((wsX5_leaves_r1 ++ wsX5_leaves_r2) ++ wsX50 ++ wsX00)
def wsX5_sight_r1 : List Cond := [Cond.fieldLink RX5 21 "ShaftHunt" "past" "LShaftHunt$Past;", Cond.fieldLink RX5 14 "ShaftHunt" "now" "LShaftHunt$Drains;", Cond.methodLink RX5 52 yX3_mark, Cond.instanceMethod yX3_mark, Cond.selects RX3 yX3_mark yX3_mark, Cond.initialized RX3, Cond.code yX3_mark cX3_mark 2 none, Cond.fieldLink RX3 11 "ShaftHunt$Past" "kept" "[LShaftHunt$Drains;", Cond.fieldLink RX3 18 "ShaftHunt$Past" "count" "I", Cond.methodLink RX3 22 yX0_copyFrom, Cond.instanceMethod yX0_copyFrom, Cond.selects RX0 yX0_copyFrom yX0_copyFrom, Cond.initialized RX0, Cond.code yX0_copyFrom cX0_copyFrom 2 none, Cond.fieldLink RX0 45 "ShaftHunt$Drains" "shafts" "I", Cond.fieldLink RX0 9 "ShaftHunt$Drains" "kind" "[I", Cond.fieldLink RX0 15 "ShaftHunt$Drains" "pace" "[I", Cond.fieldLink RX0 39 "ShaftHunt$Drains" "below" "[I", Cond.fieldLink RX0 53 "ShaftHunt$Drains" "pipes" "I", Cond.fieldLink RX0 18 "ShaftHunt$Drains" "from" "[I", Cond.fieldLink RX0 21 "ShaftHunt$Drains" "to" "[I", Cond.fieldLink RX0 24 "ShaftHunt$Drains" "low" "[I", Cond.fieldLink RX0 27 "ShaftHunt$Drains" "high" "[I", Cond.fieldLink RX0 42 "ShaftHunt$Drains" "route" "[I"]
def wsX5_sight_r2 : List Cond := [Cond.fieldLink RX0 76 "ShaftHunt$Drains" "sights" "I", Cond.fieldLink RX0 30 "ShaftHunt$Drains" "sort" "[I", Cond.fieldLink RX0 33 "ShaftHunt$Drains" "place" "[I", Cond.fieldLink RX0 36 "ShaftHunt$Drains" "minute" "[I", Cond.methodLink RX0 87 yX0_copyRow, Cond.static yX0_copyRow, Cond.code yX0_copyRow cX0_copyRow 2 none, Cond.methodLink RX0 103 Lib.Math.min.name, Cond.static Lib.Math.min.name, Cond.initialized "java/lang/Math", Cond.code Lib.Math.min.name Lib.Math.min.code 2 (some .int), Cond.methodLink RX0 109 arraycopyName, Cond.native arraycopyName, Cond.static arraycopyName, Cond.initialized "java/lang/System", Cond.methodLink RX5 143 yX0_addSight, Cond.instanceMethod yX0_addSight, Cond.selects RX0 yX0_addSight yX0_addSight, Cond.code yX0_addSight cX0_addSight 4 (some .int), Cond.static yX5_within, Cond.initialized RX5, Cond.code yX5_within cX5_within 3 (some .boolean), Cond.methodLink RX0 66 yX0_hasShaft, Cond.instanceMethod yX0_hasShaft]
def wsX5_sight_r3 : List Cond := [Cond.selects RX0 yX0_hasShaft yX0_hasShaft, Cond.code yX0_hasShaft cX0_hasShaft 2 (some .boolean), Cond.methodLink RX5 59 yX5_settled, Cond.instanceMethod yX5_settled, Cond.selects RX5 yX5_settled yX5_settled, Cond.code yX5_settled cX5_settled 2 (some .int), Cond.fieldLink RX5 30 "ShaftHunt" "flow" "LShaftHunt$Flow;", Cond.methodLink RX5 78 yX5_refused, Cond.instanceMethod yX5_refused, Cond.selects RX5 yX5_refused yX5_refused, Cond.code yX5_refused cX5_refused 2 (some .int), Cond.fieldLink RX5 204 "ShaftHunt" "bads" "I", Cond.fieldLink RX5 207 "ShaftHunt" "noes" "I", Cond.fieldLink RX5 210 "ShaftHunt" "fulls" "I", Cond.methodLink RX5 252 yX3_keep, Cond.instanceMethod yX3_keep, Cond.selects RX3 yX3_keep yX3_keep, Cond.code yX3_keep cX3_keep 3 none, Cond.methodLink RX5 201 yX1_outdate, Cond.instanceMethod yX1_outdate, Cond.selects RX1 yX1_outdate yX1_outdate, Cond.initialized RX1, Cond.code yX1_outdate cX1_outdate 1 none, Cond.fieldLink RX1 23 "ShaftHunt$Flow" "known" "I"]
def wsX5_sight : List Cond := .code yX5_sight cX5_sight 4 (some .int) :: ((wsX5_sight_r1 ++ (wsX5_sight_r2 ++ wsX5_sight_r3)) ++ wsX50 ++ wsX30 ++ wsX00 ++ wsX10)
def wsX5_forget_r1 : List Cond := [Cond.fieldLink RX5 21 "ShaftHunt" "past" "LShaftHunt$Past;", Cond.fieldLink RX5 14 "ShaftHunt" "now" "LShaftHunt$Drains;", Cond.methodLink RX5 52 yX3_mark, Cond.instanceMethod yX3_mark, Cond.selects RX3 yX3_mark yX3_mark, Cond.initialized RX3, Cond.code yX3_mark cX3_mark 2 none, Cond.fieldLink RX3 11 "ShaftHunt$Past" "kept" "[LShaftHunt$Drains;", Cond.fieldLink RX3 18 "ShaftHunt$Past" "count" "I", Cond.methodLink RX3 22 yX0_copyFrom, Cond.instanceMethod yX0_copyFrom, Cond.selects RX0 yX0_copyFrom yX0_copyFrom, Cond.initialized RX0, Cond.code yX0_copyFrom cX0_copyFrom 2 none, Cond.fieldLink RX0 45 "ShaftHunt$Drains" "shafts" "I", Cond.fieldLink RX0 9 "ShaftHunt$Drains" "kind" "[I", Cond.fieldLink RX0 15 "ShaftHunt$Drains" "pace" "[I", Cond.fieldLink RX0 39 "ShaftHunt$Drains" "below" "[I", Cond.fieldLink RX0 53 "ShaftHunt$Drains" "pipes" "I", Cond.fieldLink RX0 18 "ShaftHunt$Drains" "from" "[I", Cond.fieldLink RX0 21 "ShaftHunt$Drains" "to" "[I", Cond.fieldLink RX0 24 "ShaftHunt$Drains" "low" "[I", Cond.fieldLink RX0 27 "ShaftHunt$Drains" "high" "[I", Cond.fieldLink RX0 42 "ShaftHunt$Drains" "route" "[I"]
def wsX5_forget_r2 : List Cond := [Cond.fieldLink RX0 76 "ShaftHunt$Drains" "sights" "I", Cond.fieldLink RX0 30 "ShaftHunt$Drains" "sort" "[I", Cond.fieldLink RX0 33 "ShaftHunt$Drains" "place" "[I", Cond.fieldLink RX0 36 "ShaftHunt$Drains" "minute" "[I", Cond.methodLink RX0 87 yX0_copyRow, Cond.static yX0_copyRow, Cond.code yX0_copyRow cX0_copyRow 2 none, Cond.methodLink RX0 103 Lib.Math.min.name, Cond.static Lib.Math.min.name, Cond.initialized "java/lang/Math", Cond.code Lib.Math.min.name Lib.Math.min.code 2 (some .int), Cond.methodLink RX0 109 arraycopyName, Cond.native arraycopyName, Cond.static arraycopyName, Cond.initialized "java/lang/System", Cond.methodLink RX5 146 yX0_dropSights, Cond.instanceMethod yX0_dropSights, Cond.selects RX0 yX0_dropSights yX0_dropSights, Cond.code yX0_dropSights cX0_dropSights 2 (some .int), Cond.methodLink RX5 59 yX5_settled, Cond.instanceMethod yX5_settled, Cond.selects RX5 yX5_settled yX5_settled, Cond.initialized RX5, Cond.code yX5_settled cX5_settled 2 (some .int)]
def wsX5_forget_r3 : List Cond := [Cond.fieldLink RX5 30 "ShaftHunt" "flow" "LShaftHunt$Flow;", Cond.methodLink RX5 78 yX5_refused, Cond.instanceMethod yX5_refused, Cond.selects RX5 yX5_refused yX5_refused, Cond.code yX5_refused cX5_refused 2 (some .int), Cond.fieldLink RX5 204 "ShaftHunt" "bads" "I", Cond.fieldLink RX5 207 "ShaftHunt" "noes" "I", Cond.fieldLink RX5 210 "ShaftHunt" "fulls" "I", Cond.methodLink RX5 252 yX3_keep, Cond.instanceMethod yX3_keep, Cond.selects RX3 yX3_keep yX3_keep, Cond.code yX3_keep cX3_keep 3 none, Cond.methodLink RX5 201 yX1_outdate, Cond.instanceMethod yX1_outdate, Cond.selects RX1 yX1_outdate yX1_outdate, Cond.initialized RX1, Cond.code yX1_outdate cX1_outdate 1 none, Cond.fieldLink RX1 23 "ShaftHunt$Flow" "known" "I"]
def wsX5_forget : List Cond := .code yX5_forget cX5_forget 1 (some .int) :: ((wsX5_forget_r1 ++ (wsX5_forget_r2 ++ wsX5_forget_r3)) ++ wsX50 ++ wsX30 ++ wsX00 ++ wsX10)
def wsX5_fits_r1 : List Cond := [Cond.fieldLink RX5 30 "ShaftHunt" "flow" "LShaftHunt$Flow;", Cond.methodLink RX5 113 yX5_isStart, Cond.instanceMethod yX5_isStart, Cond.selects RX5 yX5_isStart yX5_isStart, Cond.initialized RX5, Cond.code yX5_isStart cX5_isStart 3 (some .boolean), Cond.fieldLink RX5 14 "ShaftHunt" "now" "LShaftHunt$Drains;", Cond.methodLink RX5 74 yX0_hasShaft, Cond.instanceMethod yX0_hasShaft, Cond.selects RX0 yX0_hasShaft yX0_hasShaft, Cond.initialized RX0, Cond.code yX0_hasShaft cX0_hasShaft 2 (some .boolean), Cond.fieldLink RX0 45 "ShaftHunt$Drains" "shafts" "I", Cond.static yX5_within, Cond.code yX5_within cX5_within 3 (some .boolean), Cond.methodLink RX5 125 yX5_within, Cond.methodLink RX5 78 yX5_refused, Cond.instanceMethod yX5_refused, Cond.selects RX5 yX5_refused yX5_refused, Cond.code yX5_refused cX5_refused 2 (some .int), Cond.fieldLink RX5 204 "ShaftHunt" "bads" "I", Cond.fieldLink RX5 207 "ShaftHunt" "noes" "I", Cond.fieldLink RX5 210 "ShaftHunt" "fulls" "I", Cond.methodLink RX5 117 yX1_walk]
def wsX5_fits_r2 : List Cond := [Cond.instanceMethod yX1_walk, Cond.selects RX1 yX1_walk yX1_walk, Cond.initialized RX1, Cond.code yX1_walk cX1_walk 6 none, Cond.fieldLink RX1 9 "ShaftHunt$Flow" "come" "[J", Cond.fieldLink RX1 19 "ShaftHunt$Flow" "drains" "LShaftHunt$Drains;", Cond.fieldLink RX1 33 "ShaftHunt$Drains" "pipes" "I", Cond.fieldLink RX1 38 "ShaftHunt$Drains" "route" "[I", Cond.fieldLink RX1 41 "ShaftHunt$Drains" "from" "[I", Cond.fieldLink RX1 44 "ShaftHunt$Drains" "to" "[I", Cond.methodLink RX1 27 yJ7_fill_d0a16, Cond.static yJ7_fill_d0a16, Cond.initialized RJ7, Cond.code yJ7_fill_d0a16 cJ7_fill_d0a16 5 none, Cond.methodLink RX1 47 yX0_leaving, Cond.instanceMethod yX0_leaving, Cond.selects RX0 yX0_leaving yX0_leaving, Cond.code yX0_leaving cX0_leaving 5 (some .long), Cond.fieldLink RX0 15 "ShaftHunt$Drains" "pace" "[I", Cond.fieldLink RX0 9 "ShaftHunt$Drains" "kind" "[I", Cond.constantLong RX0 83 (9223372036854775807), Cond.constantLong RX0 85 (-1), Cond.methodLink RX0 79 yX0_pumped, Cond.static yX0_pumped]
def wsX5_fits_r3 : List Cond := [Cond.code yX0_pumped cX0_pumped 8 (some .long), Cond.methodLink RX1 51 yX0_brought, Cond.instanceMethod yX0_brought, Cond.selects RX0 yX0_brought yX0_brought, Cond.code yX0_brought cX0_brought 7 (some .long), Cond.fieldLink RX0 24 "ShaftHunt$Drains" "low" "[I", Cond.fieldLink RX0 27 "ShaftHunt$Drains" "high" "[I", Cond.methodLink RX5 150 yX1_agrees, Cond.instanceMethod yX1_agrees, Cond.selects RX1 yX1_agrees yX1_agrees, Cond.code yX1_agrees cX1_agrees 2 (some .boolean), Cond.fieldLink RX1 54 "ShaftHunt$Drains" "sights" "I", Cond.methodLink RX1 57 yX1_agreesWith, Cond.instanceMethod yX1_agreesWith, Cond.selects RX1 yX1_agreesWith yX1_agreesWith, Cond.code yX1_agreesWith cX1_agreesWith 5 (some .boolean), Cond.fieldLink RX1 76 "ShaftHunt$Drains" "place" "[I", Cond.fieldLink RX1 79 "ShaftHunt$Drains" "minute" "[I", Cond.fieldLink RX1 82 "ShaftHunt$Drains" "sort" "[I"]
def wsX5_fits : List Cond := .code yX5_fits cX5_fits 3 (some .int) :: ((wsX5_fits_r1 ++ (wsX5_fits_r2 ++ wsX5_fits_r3)) ++ wsX50 ++ wsX00 ++ wsX10)
def wsX5_when_r1 : List Cond := [Cond.fieldLink RX5 14 "ShaftHunt" "now" "LShaftHunt$Drains;", Cond.fieldLink RX5 30 "ShaftHunt" "flow" "LShaftHunt$Flow;", Cond.methodLink RX5 74 yX0_hasShaft, Cond.instanceMethod yX0_hasShaft, Cond.selects RX0 yX0_hasShaft yX0_hasShaft, Cond.initialized RX0, Cond.code yX0_hasShaft cX0_hasShaft 2 (some .boolean), Cond.fieldLink RX0 45 "ShaftHunt$Drains" "shafts" "I", Cond.static yX5_within, Cond.initialized RX5, Cond.code yX5_within cX5_within 3 (some .boolean), Cond.methodLink RX5 78 yX5_refused, Cond.instanceMethod yX5_refused, Cond.selects RX5 yX5_refused yX5_refused, Cond.code yX5_refused cX5_refused 2 (some .int), Cond.fieldLink RX5 204 "ShaftHunt" "bads" "I", Cond.fieldLink RX5 207 "ShaftHunt" "noes" "I", Cond.fieldLink RX5 210 "ShaftHunt" "fulls" "I", Cond.methodLink RX5 154 yX1_startsAt, Cond.instanceMethod yX1_startsAt, Cond.selects RX1 yX1_startsAt yX1_startsAt, Cond.initialized RX1, Cond.code yX1_startsAt cX1_startsAt 4 (some .int), Cond.fieldLink RX1 23 "ShaftHunt$Flow" "known" "I"]
def wsX5_when_r2 : List Cond := [Cond.fieldLink RX1 15 "ShaftHunt$Flow" "starts" "[I", Cond.methodLink RX1 61 yX1_walk, Cond.instanceMethod yX1_walk, Cond.selects RX1 yX1_walk yX1_walk, Cond.code yX1_walk cX1_walk 6 none, Cond.fieldLink RX1 9 "ShaftHunt$Flow" "come" "[J", Cond.fieldLink RX1 19 "ShaftHunt$Flow" "drains" "LShaftHunt$Drains;", Cond.fieldLink RX1 33 "ShaftHunt$Drains" "pipes" "I", Cond.fieldLink RX1 38 "ShaftHunt$Drains" "route" "[I", Cond.fieldLink RX1 41 "ShaftHunt$Drains" "from" "[I", Cond.fieldLink RX1 44 "ShaftHunt$Drains" "to" "[I", Cond.methodLink RX1 27 yJ7_fill_d0a16, Cond.static yJ7_fill_d0a16, Cond.initialized RJ7, Cond.code yJ7_fill_d0a16 cJ7_fill_d0a16 5 none, Cond.methodLink RX1 47 yX0_leaving, Cond.instanceMethod yX0_leaving, Cond.selects RX0 yX0_leaving yX0_leaving, Cond.code yX0_leaving cX0_leaving 5 (some .long), Cond.fieldLink RX0 15 "ShaftHunt$Drains" "pace" "[I", Cond.fieldLink RX0 9 "ShaftHunt$Drains" "kind" "[I", Cond.constantLong RX0 83 (9223372036854775807), Cond.constantLong RX0 85 (-1), Cond.methodLink RX0 79 yX0_pumped]
def wsX5_when_r3 : List Cond := [Cond.static yX0_pumped, Cond.code yX0_pumped cX0_pumped 8 (some .long), Cond.methodLink RX1 51 yX0_brought, Cond.instanceMethod yX0_brought, Cond.selects RX0 yX0_brought yX0_brought, Cond.code yX0_brought cX0_brought 7 (some .long), Cond.fieldLink RX0 24 "ShaftHunt$Drains" "low" "[I", Cond.fieldLink RX0 27 "ShaftHunt$Drains" "high" "[I", Cond.methodLink RX1 65 yX1_agrees, Cond.instanceMethod yX1_agrees, Cond.selects RX1 yX1_agrees yX1_agrees, Cond.code yX1_agrees cX1_agrees 2 (some .boolean), Cond.fieldLink RX1 54 "ShaftHunt$Drains" "sights" "I", Cond.methodLink RX1 57 yX1_agreesWith, Cond.instanceMethod yX1_agreesWith, Cond.selects RX1 yX1_agreesWith yX1_agreesWith, Cond.code yX1_agreesWith cX1_agreesWith 5 (some .boolean), Cond.fieldLink RX1 76 "ShaftHunt$Drains" "place" "[I", Cond.fieldLink RX1 79 "ShaftHunt$Drains" "minute" "[I", Cond.fieldLink RX1 82 "ShaftHunt$Drains" "sort" "[I"]
def wsX5_when : List Cond := .code yX5_when cX5_when 2 (some .int) :: ((wsX5_when_r1 ++ (wsX5_when_r2 ++ wsX5_when_r3)) ++ wsX50 ++ wsX00 ++ wsX10)
def wsX5_suspects_r1 : List Cond := [Cond.fieldLink RX5 30 "ShaftHunt" "flow" "LShaftHunt$Flow;", Cond.methodLink RX5 157 yX1_suspicious, Cond.instanceMethod yX1_suspicious, Cond.selects RX1 yX1_suspicious yX1_suspicious, Cond.initialized RX1, Cond.code yX1_suspicious cX1_suspicious 3 (some .int), Cond.fieldLink RX1 19 "ShaftHunt$Flow" "drains" "LShaftHunt$Drains;", Cond.fieldLink RX1 69 "ShaftHunt$Drains" "shafts" "I", Cond.methodLink RX1 72 yX1_startsAt, Cond.instanceMethod yX1_startsAt, Cond.selects RX1 yX1_startsAt yX1_startsAt, Cond.code yX1_startsAt cX1_startsAt 4 (some .int), Cond.fieldLink RX1 23 "ShaftHunt$Flow" "known" "I", Cond.fieldLink RX1 15 "ShaftHunt$Flow" "starts" "[I", Cond.methodLink RX1 61 yX1_walk, Cond.instanceMethod yX1_walk, Cond.selects RX1 yX1_walk yX1_walk, Cond.code yX1_walk cX1_walk 6 none, Cond.fieldLink RX1 9 "ShaftHunt$Flow" "come" "[J", Cond.fieldLink RX1 33 "ShaftHunt$Drains" "pipes" "I", Cond.fieldLink RX1 38 "ShaftHunt$Drains" "route" "[I", Cond.fieldLink RX1 41 "ShaftHunt$Drains" "from" "[I", Cond.fieldLink RX1 44 "ShaftHunt$Drains" "to" "[I", Cond.methodLink RX1 27 yJ7_fill_d0a16]
def wsX5_suspects_r2 : List Cond := [Cond.static yJ7_fill_d0a16, Cond.initialized RJ7, Cond.code yJ7_fill_d0a16 cJ7_fill_d0a16 5 none, Cond.methodLink RX1 47 yX0_leaving, Cond.instanceMethod yX0_leaving, Cond.selects RX0 yX0_leaving yX0_leaving, Cond.initialized RX0, Cond.code yX0_leaving cX0_leaving 5 (some .long), Cond.fieldLink RX0 15 "ShaftHunt$Drains" "pace" "[I", Cond.fieldLink RX0 9 "ShaftHunt$Drains" "kind" "[I", Cond.constantLong RX0 83 (9223372036854775807), Cond.constantLong RX0 85 (-1), Cond.methodLink RX0 79 yX0_pumped, Cond.static yX0_pumped, Cond.code yX0_pumped cX0_pumped 8 (some .long), Cond.methodLink RX1 51 yX0_brought, Cond.instanceMethod yX0_brought, Cond.selects RX0 yX0_brought yX0_brought, Cond.code yX0_brought cX0_brought 7 (some .long), Cond.fieldLink RX0 24 "ShaftHunt$Drains" "low" "[I", Cond.fieldLink RX0 27 "ShaftHunt$Drains" "high" "[I", Cond.methodLink RX1 65 yX1_agrees, Cond.instanceMethod yX1_agrees, Cond.selects RX1 yX1_agrees yX1_agrees]
def wsX5_suspects_r3 : List Cond := [Cond.code yX1_agrees cX1_agrees 2 (some .boolean), Cond.fieldLink RX1 54 "ShaftHunt$Drains" "sights" "I", Cond.methodLink RX1 57 yX1_agreesWith, Cond.instanceMethod yX1_agreesWith, Cond.selects RX1 yX1_agreesWith yX1_agreesWith, Cond.code yX1_agreesWith cX1_agreesWith 5 (some .boolean), Cond.fieldLink RX1 76 "ShaftHunt$Drains" "place" "[I", Cond.fieldLink RX1 79 "ShaftHunt$Drains" "minute" "[I", Cond.fieldLink RX1 82 "ShaftHunt$Drains" "sort" "[I"]
def wsX5_suspects : List Cond := .code yX5_suspects cX5_suspects 1 (some .int) :: ((wsX5_suspects_r1 ++ (wsX5_suspects_r2 ++ wsX5_suspects_r3)) ++ wsX50 ++ wsX10 ++ wsX00)
def wsX5_largerPart : List Cond := .code yX5_largerPart cX5_largerPart 3 (some .int) :: ([.methodLink RX5 255 Lib.Math.max.name, .static Lib.Math.max.name, .initialized "java/lang/Math", .code Lib.Math.max.name Lib.Math.max.code 2 (some .int), .methodLink RX5 176 yJ6_bitCount_0f7a4, .static yJ6_bitCount_0f7a4, .initialized RJ6, .code yJ6_bitCount_0f7a4 cJ6_bitCount_0f7a4 1 (some .int), .constant RJ6 265 (1431655765), .constant RJ6 266 (858993459), .constant RJ6 267 (252645135)])
def wsX5_next_r1 : List Cond := [Cond.fieldLink RX5 30 "ShaftHunt" "flow" "LShaftHunt$Flow;", Cond.fieldLink RX5 14 "ShaftHunt" "now" "LShaftHunt$Drains;", Cond.fieldLink RX5 160 "ShaftHunt$Drains" "shafts" "I", Cond.methodLink RX5 125 yX5_within, Cond.static yX5_within, Cond.initialized RX5, Cond.code yX5_within cX5_within 3 (some .boolean), Cond.methodLink RX5 78 yX5_refused, Cond.instanceMethod yX5_refused, Cond.selects RX5 yX5_refused yX5_refused, Cond.code yX5_refused cX5_refused 2 (some .int), Cond.fieldLink RX5 204 "ShaftHunt" "bads" "I", Cond.fieldLink RX5 207 "ShaftHunt" "noes" "I", Cond.fieldLink RX5 210 "ShaftHunt" "fulls" "I", Cond.methodLink RX5 157 yX1_suspicious, Cond.instanceMethod yX1_suspicious, Cond.selects RX1 yX1_suspicious yX1_suspicious, Cond.initialized RX1, Cond.code yX1_suspicious cX1_suspicious 3 (some .int), Cond.fieldLink RX1 19 "ShaftHunt$Flow" "drains" "LShaftHunt$Drains;", Cond.fieldLink RX1 69 "ShaftHunt$Drains" "shafts" "I", Cond.methodLink RX1 72 yX1_startsAt, Cond.instanceMethod yX1_startsAt, Cond.selects RX1 yX1_startsAt yX1_startsAt]
def wsX5_next_r2 : List Cond := [Cond.code yX1_startsAt cX1_startsAt 4 (some .int), Cond.fieldLink RX1 23 "ShaftHunt$Flow" "known" "I", Cond.fieldLink RX1 15 "ShaftHunt$Flow" "starts" "[I", Cond.methodLink RX1 61 yX1_walk, Cond.instanceMethod yX1_walk, Cond.selects RX1 yX1_walk yX1_walk, Cond.code yX1_walk cX1_walk 6 none, Cond.fieldLink RX1 9 "ShaftHunt$Flow" "come" "[J", Cond.fieldLink RX1 33 "ShaftHunt$Drains" "pipes" "I", Cond.fieldLink RX1 38 "ShaftHunt$Drains" "route" "[I", Cond.fieldLink RX1 41 "ShaftHunt$Drains" "from" "[I", Cond.fieldLink RX1 44 "ShaftHunt$Drains" "to" "[I", Cond.methodLink RX1 27 yJ7_fill_d0a16, Cond.static yJ7_fill_d0a16, Cond.initialized RJ7, Cond.code yJ7_fill_d0a16 cJ7_fill_d0a16 5 none, Cond.methodLink RX1 47 yX0_leaving, Cond.instanceMethod yX0_leaving, Cond.selects RX0 yX0_leaving yX0_leaving, Cond.initialized RX0, Cond.code yX0_leaving cX0_leaving 5 (some .long), Cond.fieldLink RX0 15 "ShaftHunt$Drains" "pace" "[I", Cond.fieldLink RX0 9 "ShaftHunt$Drains" "kind" "[I", Cond.constantLong RX0 83 (9223372036854775807)]
def wsX5_next_r3 : List Cond := [Cond.constantLong RX0 85 (-1), Cond.methodLink RX0 79 yX0_pumped, Cond.static yX0_pumped, Cond.code yX0_pumped cX0_pumped 8 (some .long), Cond.methodLink RX1 51 yX0_brought, Cond.instanceMethod yX0_brought, Cond.selects RX0 yX0_brought yX0_brought, Cond.code yX0_brought cX0_brought 7 (some .long), Cond.fieldLink RX0 24 "ShaftHunt$Drains" "low" "[I", Cond.fieldLink RX0 27 "ShaftHunt$Drains" "high" "[I", Cond.methodLink RX1 65 yX1_agrees, Cond.instanceMethod yX1_agrees, Cond.selects RX1 yX1_agrees yX1_agrees, Cond.code yX1_agrees cX1_agrees 2 (some .boolean), Cond.fieldLink RX1 54 "ShaftHunt$Drains" "sights" "I", Cond.methodLink RX1 57 yX1_agreesWith, Cond.instanceMethod yX1_agreesWith, Cond.selects RX1 yX1_agreesWith yX1_agreesWith, Cond.code yX1_agreesWith cX1_agreesWith 5 (some .boolean), Cond.fieldLink RX1 76 "ShaftHunt$Drains" "place" "[I", Cond.fieldLink RX1 79 "ShaftHunt$Drains" "minute" "[I", Cond.fieldLink RX1 82 "ShaftHunt$Drains" "sort" "[I", Cond.methodLink RX5 101 yX0_above, Cond.instanceMethod yX0_above]
def wsX5_next_r4 : List Cond := [Cond.selects RX0 yX0_above yX0_above, Cond.code yX0_above cX0_above 4 (some .int), Cond.fieldLink RX0 45 "ShaftHunt$Drains" "shafts" "I", Cond.methodLink RX0 69 yX0_isBelow, Cond.instanceMethod yX0_isBelow, Cond.selects RX0 yX0_isBelow yX0_isBelow, Cond.code yX0_isBelow cX0_isBelow 3 (some .boolean), Cond.fieldLink RX0 39 "ShaftHunt$Drains" "below" "[I", Cond.methodLink RX5 164 yX5_largerPart, Cond.static yX5_largerPart, Cond.code yX5_largerPart cX5_largerPart 3 (some .int), Cond.methodLink RX5 255 Lib.Math.max.name, Cond.static Lib.Math.max.name, Cond.initialized "java/lang/Math", Cond.code Lib.Math.max.name Lib.Math.max.code 2 (some .int), Cond.methodLink RX5 176 yJ6_bitCount_0f7a4, Cond.static yJ6_bitCount_0f7a4, Cond.initialized RJ6, Cond.code yJ6_bitCount_0f7a4 cJ6_bitCount_0f7a4 1 (some .int), Cond.constant RJ6 265 (1431655765), Cond.constant RJ6 266 (858993459), Cond.constant RJ6 267 (252645135)]
def wsX5_next : List Cond := .code yX5_next cX5_next 7 (some .int) :: ((wsX5_next_r1 ++ (wsX5_next_r2 ++ (wsX5_next_r3 ++ wsX5_next_r4))) ++ wsX50 ++ wsX00 ++ wsX10)
def wsX5_alike_r1 : List Cond := [Cond.fieldLink RX5 14 "ShaftHunt" "now" "LShaftHunt$Drains;", Cond.fieldLink RX5 160 "ShaftHunt$Drains" "shafts" "I", Cond.fieldLink RX5 37 "ShaftHunt" "watch" "LShaftHunt$Watch;", Cond.methodLink RX5 125 yX5_within, Cond.static yX5_within, Cond.initialized RX5, Cond.code yX5_within cX5_within 3 (some .boolean), Cond.methodLink RX5 78 yX5_refused, Cond.instanceMethod yX5_refused, Cond.selects RX5 yX5_refused yX5_refused, Cond.code yX5_refused cX5_refused 2 (some .int), Cond.fieldLink RX5 204 "ShaftHunt" "bads" "I", Cond.fieldLink RX5 207 "ShaftHunt" "noes" "I", Cond.fieldLink RX5 210 "ShaftHunt" "fulls" "I", Cond.methodLink RX5 167 yX4_compare, Cond.instanceMethod yX4_compare, Cond.selects RX4 yX4_compare yX4_compare, Cond.initialized RX4, Cond.code yX4_compare cX4_compare 4 none, Cond.fieldLink RX4 15 "ShaftHunt$Watch" "pairs" "I", Cond.fieldLink RX4 19 "ShaftHunt$Drains" "shafts" "I", Cond.fieldLink RX4 9 "ShaftHunt$Watch" "tellers" "[I", Cond.fieldLink RX4 24 "ShaftHunt$Drains" "below" "[I", Cond.methodLink RX5 170 yX4_untold]
def wsX5_alike_r2 : List Cond := [Cond.instanceMethod yX4_untold, Cond.selects RX4 yX4_untold yX4_untold, Cond.code yX4_untold cX4_untold 4 (some .int)]
def wsX5_alike : List Cond := .code yX5_alike cX5_alike 2 (some .int) :: ((wsX5_alike_r1 ++ wsX5_alike_r2) ++ wsX50 ++ wsX00 ++ wsX40)
def wsX5_sensors_r1 : List Cond := [Cond.fieldLink RX5 37 "ShaftHunt" "watch" "LShaftHunt$Watch;", Cond.fieldLink RX5 14 "ShaftHunt" "now" "LShaftHunt$Drains;", Cond.fieldLink RX5 160 "ShaftHunt$Drains" "shafts" "I", Cond.methodLink RX5 125 yX5_within, Cond.static yX5_within, Cond.initialized RX5, Cond.code yX5_within cX5_within 3 (some .boolean), Cond.methodLink RX5 78 yX5_refused, Cond.instanceMethod yX5_refused, Cond.selects RX5 yX5_refused yX5_refused, Cond.code yX5_refused cX5_refused 2 (some .int), Cond.fieldLink RX5 204 "ShaftHunt" "bads" "I", Cond.fieldLink RX5 207 "ShaftHunt" "noes" "I", Cond.fieldLink RX5 210 "ShaftHunt" "fulls" "I", Cond.methodLink RX5 167 yX4_compare, Cond.instanceMethod yX4_compare, Cond.selects RX4 yX4_compare yX4_compare, Cond.initialized RX4, Cond.code yX4_compare cX4_compare 4 none, Cond.fieldLink RX4 15 "ShaftHunt$Watch" "pairs" "I", Cond.fieldLink RX4 19 "ShaftHunt$Drains" "shafts" "I", Cond.fieldLink RX4 9 "ShaftHunt$Watch" "tellers" "[I", Cond.fieldLink RX4 24 "ShaftHunt$Drains" "below" "[I", Cond.methodLink RX5 173 yX4_fewest]
def wsX5_sensors_r2 : List Cond := [Cond.instanceMethod yX4_fewest, Cond.selects RX4 yX4_fewest yX4_fewest, Cond.code yX4_fewest cX4_fewest 6 (some .int), Cond.methodLink RX4 27 yJ6_bitCount_0f7a4, Cond.static yJ6_bitCount_0f7a4, Cond.initialized RJ6, Cond.code yJ6_bitCount_0f7a4 cJ6_bitCount_0f7a4 1 (some .int), Cond.constant RJ6 265 (1431655765), Cond.constant RJ6 266 (858993459), Cond.constant RJ6 267 (252645135), Cond.methodLink RX4 33 yX4_tellsAll, Cond.instanceMethod yX4_tellsAll, Cond.selects RX4 yX4_tellsAll yX4_tellsAll, Cond.code yX4_tellsAll cX4_tellsAll 3 (some .boolean), Cond.methodLink RX5 176 yJ6_bitCount_0f7a4]
def wsX5_sensors : List Cond := .code yX5_sensors cX5_sensors 3 (some .int) :: ((wsX5_sensors_r1 ++ wsX5_sensors_r2) ++ wsX50 ++ wsX00 ++ wsX40)
def wsX5_type : List Cond := .code yX5_type cX5_type 2 (some .int) :: ([.fieldLink RX5 180 "ShaftHunt" "bytes" "I", .fieldLink RX5 48 "ShaftHunt" "text" "[B", .methodLink RX5 125 yX5_within, .static yX5_within, .initialized RX5, .code yX5_within cX5_within 3 (some .boolean), .methodLink RX5 78 yX5_refused, .instanceMethod yX5_refused, .selects RX5 yX5_refused yX5_refused, .code yX5_refused cX5_refused 2 (some .int), .fieldLink RX5 204 "ShaftHunt" "bads" "I", .fieldLink RX5 207 "ShaftHunt" "noes" "I", .fieldLink RX5 210 "ShaftHunt" "fulls" "I"] ++ wsX50)
def wsX5_clear : List Cond := .code yX5_clear cX5_clear 2 (some .int) :: ([.fieldLink RX5 180 "ShaftHunt" "bytes" "I"] ++ wsX50)
def wsX5_reads_r1 : List Cond := [Cond.fieldLink RX5 44 "ShaftHunt" "orders" "LShaftHunt$Orders;", Cond.fieldLink RX5 48 "ShaftHunt" "text" "[B", Cond.fieldLink RX5 180 "ShaftHunt" "bytes" "I", Cond.fieldLink RX5 21 "ShaftHunt" "past" "LShaftHunt$Past;", Cond.fieldLink RX5 14 "ShaftHunt" "now" "LShaftHunt$Drains;", Cond.fieldLink RX5 187 "ShaftHunt$Orders" "count" "I", Cond.methodLink RX5 183 yX2_parse, Cond.instanceMethod yX2_parse, Cond.selects RX2 yX2_parse yX2_parse, Cond.initialized RX2, Cond.code yX2_parse cX2_parse 4 (some .int), Cond.fieldLink RX2 18 "ShaftHunt$Orders" "count" "I", Cond.fieldLink RX2 22 "ShaftHunt$Orders" "open" "Z", Cond.methodLink RX2 26 yX2_takes, Cond.instanceMethod yX2_takes, Cond.selects RX2 yX2_takes yX2_takes, Cond.code yX2_takes cX2_takes 2 (some .boolean), Cond.fieldLink RX2 48 "ShaftHunt$Orders" "figures" "I", Cond.methodLink RX2 51 yX2_opens, Cond.instanceMethod yX2_opens, Cond.selects RX2 yX2_opens yX2_opens, Cond.code yX2_opens cX2_opens 2 (some .boolean), Cond.fieldLink RX2 9 "ShaftHunt$Orders" "letter" "[I", Cond.fieldLink RX2 68 "ShaftHunt$Orders" "begun" "I"]
def wsX5_reads_r2 : List Cond := [Cond.methodLink RX2 65 yX2_numbersOf, Cond.static yX2_numbersOf, Cond.code yX2_numbersOf cX2_numbersOf 1 (some .int), Cond.methodLink RX2 54 yX2_closes, Cond.instanceMethod yX2_closes, Cond.selects RX2 yX2_closes yX2_closes, Cond.code yX2_closes cX2_closes 1 (some .boolean), Cond.static yX5_within, Cond.initialized RX5, Cond.code yX5_within cX5_within 3 (some .boolean), Cond.methodLink RX2 62 yX2_takesFigure, Cond.instanceMethod yX2_takesFigure, Cond.selects RX2 yX2_takesFigure yX2_takesFigure, Cond.code yX2_takesFigure cX2_takesFigure 3 (some .boolean), Cond.fieldLink RX2 15 "ShaftHunt$Orders" "numbers" "[I", Cond.methodLink RX5 52 yX3_mark, Cond.instanceMethod yX3_mark, Cond.selects RX3 yX3_mark yX3_mark, Cond.initialized RX3, Cond.code yX3_mark cX3_mark 2 none, Cond.fieldLink RX3 11 "ShaftHunt$Past" "kept" "[LShaftHunt$Drains;", Cond.fieldLink RX3 18 "ShaftHunt$Past" "count" "I", Cond.methodLink RX3 22 yX0_copyFrom, Cond.instanceMethod yX0_copyFrom]
def wsX5_reads_r3 : List Cond := [Cond.selects RX0 yX0_copyFrom yX0_copyFrom, Cond.initialized RX0, Cond.code yX0_copyFrom cX0_copyFrom 2 none, Cond.fieldLink RX0 45 "ShaftHunt$Drains" "shafts" "I", Cond.fieldLink RX0 9 "ShaftHunt$Drains" "kind" "[I", Cond.fieldLink RX0 15 "ShaftHunt$Drains" "pace" "[I", Cond.fieldLink RX0 39 "ShaftHunt$Drains" "below" "[I", Cond.fieldLink RX0 53 "ShaftHunt$Drains" "pipes" "I", Cond.fieldLink RX0 18 "ShaftHunt$Drains" "from" "[I", Cond.fieldLink RX0 21 "ShaftHunt$Drains" "to" "[I", Cond.fieldLink RX0 24 "ShaftHunt$Drains" "low" "[I", Cond.fieldLink RX0 27 "ShaftHunt$Drains" "high" "[I", Cond.fieldLink RX0 42 "ShaftHunt$Drains" "route" "[I", Cond.fieldLink RX0 76 "ShaftHunt$Drains" "sights" "I", Cond.fieldLink RX0 30 "ShaftHunt$Drains" "sort" "[I", Cond.fieldLink RX0 33 "ShaftHunt$Drains" "place" "[I", Cond.fieldLink RX0 36 "ShaftHunt$Drains" "minute" "[I", Cond.methodLink RX0 87 yX0_copyRow, Cond.static yX0_copyRow, Cond.code yX0_copyRow cX0_copyRow 2 none, Cond.methodLink RX0 103 Lib.Math.min.name, Cond.static Lib.Math.min.name, Cond.initialized "java/lang/Math", Cond.code Lib.Math.min.name Lib.Math.min.code 2 (some .int)]
def wsX5_reads_r4 : List Cond := [Cond.methodLink RX0 109 arraycopyName, Cond.native arraycopyName, Cond.static arraycopyName, Cond.initialized "java/lang/System", Cond.methodLink RX5 190 yX2_obey, Cond.instanceMethod yX2_obey, Cond.selects RX2 yX2_obey yX2_obey, Cond.code yX2_obey cX2_obey 6 (some .int), Cond.methodLink RX2 30 yX0_addShaft, Cond.instanceMethod yX0_addShaft, Cond.selects RX0 yX0_addShaft yX0_addShaft, Cond.code yX0_addShaft cX0_addShaft 4 (some .int), Cond.methodLink RX0 56 yX0_isKind, Cond.static yX0_isKind, Cond.code yX0_isKind cX0_isKind 1 (some .boolean), Cond.methodLink RX0 60 yX0_isPace, Cond.static yX0_isPace, Cond.code yX0_isPace cX0_isPace 1 (some .boolean), Cond.methodLink RX0 63 yX0_findWays, Cond.instanceMethod yX0_findWays, Cond.selects RX0 yX0_findWays yX0_findWays, Cond.code yX0_findWays cX0_findWays 1 none, Cond.methodLink RX0 91 yX0_findBelow, Cond.instanceMethod yX0_findBelow]
def wsX5_reads_r5 : List Cond := [Cond.selects RX0 yX0_findBelow yX0_findBelow, Cond.code yX0_findBelow cX0_findBelow 3 none, Cond.methodLink RX0 94 yX0_findRoute, Cond.instanceMethod yX0_findRoute, Cond.selects RX0 yX0_findRoute yX0_findRoute, Cond.code yX0_findRoute cX0_findRoute 4 none, Cond.methodLink RX0 97 yJ6_bitCount_0f7a4, Cond.static yJ6_bitCount_0f7a4, Cond.initialized RJ6, Cond.code yJ6_bitCount_0f7a4 cJ6_bitCount_0f7a4 1 (some .int), Cond.constant RJ6 265 (1431655765), Cond.constant RJ6 266 (858993459), Cond.constant RJ6 267 (252645135), Cond.methodLink RX2 36 yX0_addPipe, Cond.instanceMethod yX0_addPipe, Cond.selects RX0 yX0_addPipe yX0_addPipe, Cond.code yX0_addPipe cX0_addPipe 6 (some .int), Cond.methodLink RX0 66 yX0_hasShaft, Cond.instanceMethod yX0_hasShaft, Cond.selects RX0 yX0_hasShaft yX0_hasShaft, Cond.code yX0_hasShaft cX0_hasShaft 2 (some .boolean), Cond.methodLink RX0 69 yX0_isBelow, Cond.instanceMethod yX0_isBelow, Cond.selects RX0 yX0_isBelow yX0_isBelow]
def wsX5_reads_r6 : List Cond := [Cond.code yX0_isBelow cX0_isBelow 3 (some .boolean), Cond.methodLink RX2 40 yX0_addSight, Cond.instanceMethod yX0_addSight, Cond.selects RX0 yX0_addSight yX0_addSight, Cond.code yX0_addSight cX0_addSight 4 (some .int), Cond.methodLink RX2 44 yX0_dropPipe, Cond.instanceMethod yX0_dropPipe, Cond.selects RX0 yX0_dropPipe yX0_dropPipe, Cond.code yX0_dropPipe cX0_dropPipe 3 (some .int), Cond.methodLink RX0 73 yX0_hasPipe, Cond.instanceMethod yX0_hasPipe, Cond.selects RX0 yX0_hasPipe yX0_hasPipe, Cond.code yX0_hasPipe cX0_hasPipe 2 (some .boolean), Cond.methodLink RX5 194 yX3_toMark, Cond.instanceMethod yX3_toMark, Cond.selects RX3 yX3_toMark yX3_toMark, Cond.code yX3_toMark cX3_toMark 2 none, Cond.methodLink RX5 59 yX5_settled, Cond.instanceMethod yX5_settled, Cond.selects RX5 yX5_settled yX5_settled, Cond.code yX5_settled cX5_settled 2 (some .int), Cond.fieldLink RX5 30 "ShaftHunt" "flow" "LShaftHunt$Flow;", Cond.methodLink RX5 78 yX5_refused, Cond.instanceMethod yX5_refused]
def wsX5_reads_r7 : List Cond := [Cond.selects RX5 yX5_refused yX5_refused, Cond.code yX5_refused cX5_refused 2 (some .int), Cond.fieldLink RX5 204 "ShaftHunt" "bads" "I", Cond.fieldLink RX5 207 "ShaftHunt" "noes" "I", Cond.fieldLink RX5 210 "ShaftHunt" "fulls" "I", Cond.methodLink RX5 252 yX3_keep, Cond.instanceMethod yX3_keep, Cond.selects RX3 yX3_keep yX3_keep, Cond.code yX3_keep cX3_keep 3 none, Cond.methodLink RX5 201 yX1_outdate, Cond.instanceMethod yX1_outdate, Cond.selects RX1 yX1_outdate yX1_outdate, Cond.initialized RX1, Cond.code yX1_outdate cX1_outdate 1 none, Cond.fieldLink RX1 23 "ShaftHunt$Flow" "known" "I"]
def wsX5_reads : List Cond := .code yX5_reads cX5_reads 3 (some .int) :: ((wsX5_reads_r1 ++ (wsX5_reads_r2 ++ (wsX5_reads_r3 ++ (wsX5_reads_r4 ++ (wsX5_reads_r5 ++ (wsX5_reads_r6 ++ wsX5_reads_r7)))))) ++ wsX50 ++ wsX20 ++ wsX30 ++ wsX00 ++ wsX10)
def wsX5_back_r1 : List Cond := [Cond.fieldLink RX5 21 "ShaftHunt" "past" "LShaftHunt$Past;", Cond.fieldLink RX5 197 "ShaftHunt$Past" "count" "I", Cond.fieldLink RX5 14 "ShaftHunt" "now" "LShaftHunt$Drains;", Cond.fieldLink RX5 30 "ShaftHunt" "flow" "LShaftHunt$Flow;", Cond.methodLink RX5 78 yX5_refused, Cond.instanceMethod yX5_refused, Cond.selects RX5 yX5_refused yX5_refused, Cond.initialized RX5, Cond.code yX5_refused cX5_refused 2 (some .int), Cond.fieldLink RX5 204 "ShaftHunt" "bads" "I", Cond.fieldLink RX5 207 "ShaftHunt" "noes" "I", Cond.fieldLink RX5 210 "ShaftHunt" "fulls" "I", Cond.methodLink RX5 198 yX3_undo, Cond.instanceMethod yX3_undo, Cond.selects RX3 yX3_undo yX3_undo, Cond.initialized RX3, Cond.code yX3_undo cX3_undo 2 none, Cond.fieldLink RX3 18 "ShaftHunt$Past" "count" "I", Cond.fieldLink RX3 11 "ShaftHunt$Past" "kept" "[LShaftHunt$Drains;", Cond.methodLink RX3 22 yX0_copyFrom, Cond.instanceMethod yX0_copyFrom, Cond.selects RX0 yX0_copyFrom yX0_copyFrom, Cond.initialized RX0, Cond.code yX0_copyFrom cX0_copyFrom 2 none]
def wsX5_back_r2 : List Cond := [Cond.fieldLink RX0 45 "ShaftHunt$Drains" "shafts" "I", Cond.fieldLink RX0 9 "ShaftHunt$Drains" "kind" "[I", Cond.fieldLink RX0 15 "ShaftHunt$Drains" "pace" "[I", Cond.fieldLink RX0 39 "ShaftHunt$Drains" "below" "[I", Cond.fieldLink RX0 53 "ShaftHunt$Drains" "pipes" "I", Cond.fieldLink RX0 18 "ShaftHunt$Drains" "from" "[I", Cond.fieldLink RX0 21 "ShaftHunt$Drains" "to" "[I", Cond.fieldLink RX0 24 "ShaftHunt$Drains" "low" "[I", Cond.fieldLink RX0 27 "ShaftHunt$Drains" "high" "[I", Cond.fieldLink RX0 42 "ShaftHunt$Drains" "route" "[I", Cond.fieldLink RX0 76 "ShaftHunt$Drains" "sights" "I", Cond.fieldLink RX0 30 "ShaftHunt$Drains" "sort" "[I", Cond.fieldLink RX0 33 "ShaftHunt$Drains" "place" "[I", Cond.fieldLink RX0 36 "ShaftHunt$Drains" "minute" "[I", Cond.methodLink RX0 87 yX0_copyRow, Cond.static yX0_copyRow, Cond.code yX0_copyRow cX0_copyRow 2 none, Cond.methodLink RX0 103 Lib.Math.min.name, Cond.static Lib.Math.min.name, Cond.initialized "java/lang/Math", Cond.code Lib.Math.min.name Lib.Math.min.code 2 (some .int), Cond.methodLink RX0 109 arraycopyName, Cond.native arraycopyName, Cond.static arraycopyName]
def wsX5_back_r3 : List Cond := [Cond.initialized "java/lang/System", Cond.methodLink RX5 201 yX1_outdate, Cond.instanceMethod yX1_outdate, Cond.selects RX1 yX1_outdate yX1_outdate, Cond.initialized RX1, Cond.code yX1_outdate cX1_outdate 1 none, Cond.fieldLink RX1 23 "ShaftHunt$Flow" "known" "I"]
def wsX5_back : List Cond := .code yX5_back cX5_back 1 (some .int) :: ((wsX5_back_r1 ++ (wsX5_back_r2 ++ wsX5_back_r3)) ++ wsX50 ++ wsX30 ++ wsX00 ++ wsX10)
def wsX5_told : List Cond := .code yX5_told cX5_told 2 (some .int) :: ([.fieldLink RX5 204 "ShaftHunt" "bads" "I", .fieldLink RX5 207 "ShaftHunt" "noes" "I", .fieldLink RX5 210 "ShaftHunt" "fulls" "I", .fieldLink RX5 180 "ShaftHunt" "bytes" "I", .fieldLink RX5 14 "ShaftHunt" "now" "LShaftHunt$Drains;", .fieldLink RX5 160 "ShaftHunt$Drains" "shafts" "I", .fieldLink RX5 213 "ShaftHunt$Drains" "pipes" "I", .fieldLink RX5 216 "ShaftHunt$Drains" "sights" "I", .fieldLink RX5 21 "ShaftHunt" "past" "LShaftHunt$Past;", .fieldLink RX5 197 "ShaftHunt$Past" "count" "I", .methodLink RX5 78 yX5_refused, .instanceMethod yX5_refused, .selects RX5 yX5_refused yX5_refused, .initialized RX5, .code yX5_refused cX5_refused 2 (some .int)] ++ wsX50 ++ wsX00 ++ wsX30)
def wsX5_digestShafts_r1 : List Cond := [Cond.fieldLink RX5 14 "ShaftHunt" "now" "LShaftHunt$Drains;", Cond.fieldLink RX5 160 "ShaftHunt$Drains" "shafts" "I", Cond.constantLong RX5 221 (31), Cond.methodLink RX5 243 yX5_of, Cond.instanceMethod yX5_of, Cond.selects RX5 yX5_of yX5_of, Cond.initialized RX5, Cond.code yX5_of cX5_of 3 (some .int), Cond.fieldLink RX5 81 "ShaftHunt$Drains" "kind" "[I", Cond.fieldLink RX5 85 "ShaftHunt$Drains" "pace" "[I", Cond.fieldLink RX5 88 "ShaftHunt$Drains" "from" "[I", Cond.fieldLink RX5 95 "ShaftHunt$Drains" "to" "[I", Cond.fieldLink RX5 98 "ShaftHunt$Drains" "below" "[I", Cond.methodLink RX5 74 yX0_hasShaft, Cond.instanceMethod yX0_hasShaft, Cond.selects RX0 yX0_hasShaft yX0_hasShaft, Cond.initialized RX0, Cond.code yX0_hasShaft cX0_hasShaft 2 (some .boolean), Cond.fieldLink RX0 45 "ShaftHunt$Drains" "shafts" "I", Cond.static yX5_within, Cond.code yX5_within cX5_within 3 (some .boolean), Cond.methodLink RX5 78 yX5_refused, Cond.instanceMethod yX5_refused, Cond.selects RX5 yX5_refused yX5_refused]
def wsX5_digestShafts_r2 : List Cond := [Cond.code yX5_refused cX5_refused 2 (some .int), Cond.fieldLink RX5 204 "ShaftHunt" "bads" "I", Cond.fieldLink RX5 207 "ShaftHunt" "noes" "I", Cond.fieldLink RX5 210 "ShaftHunt" "fulls" "I", Cond.methodLink RX5 91 yX0_pipesAt, Cond.instanceMethod yX0_pipesAt, Cond.selects RX0 yX0_pipesAt yX0_pipesAt, Cond.code yX0_pipesAt cX0_pipesAt 5 (some .int), Cond.fieldLink RX0 53 "ShaftHunt$Drains" "pipes" "I", Cond.methodLink RX5 101 yX0_above, Cond.instanceMethod yX0_above, Cond.selects RX0 yX0_above yX0_above, Cond.code yX0_above cX0_above 4 (some .int), Cond.methodLink RX0 69 yX0_isBelow, Cond.instanceMethod yX0_isBelow, Cond.selects RX0 yX0_isBelow yX0_isBelow, Cond.code yX0_isBelow cX0_isBelow 3 (some .boolean), Cond.fieldLink RX0 39 "ShaftHunt$Drains" "below" "[I", Cond.methodLink RX5 246 yX5_when, Cond.instanceMethod yX5_when, Cond.selects RX5 yX5_when yX5_when, Cond.code yX5_when cX5_when 2 (some .int), Cond.fieldLink RX5 30 "ShaftHunt" "flow" "LShaftHunt$Flow;", Cond.methodLink RX5 154 yX1_startsAt]
def wsX5_digestShafts_r3 : List Cond := [Cond.instanceMethod yX1_startsAt, Cond.selects RX1 yX1_startsAt yX1_startsAt, Cond.initialized RX1, Cond.code yX1_startsAt cX1_startsAt 4 (some .int), Cond.fieldLink RX1 23 "ShaftHunt$Flow" "known" "I", Cond.fieldLink RX1 15 "ShaftHunt$Flow" "starts" "[I", Cond.methodLink RX1 61 yX1_walk, Cond.instanceMethod yX1_walk, Cond.selects RX1 yX1_walk yX1_walk, Cond.code yX1_walk cX1_walk 6 none, Cond.fieldLink RX1 9 "ShaftHunt$Flow" "come" "[J", Cond.fieldLink RX1 19 "ShaftHunt$Flow" "drains" "LShaftHunt$Drains;", Cond.fieldLink RX1 33 "ShaftHunt$Drains" "pipes" "I", Cond.fieldLink RX1 38 "ShaftHunt$Drains" "route" "[I", Cond.fieldLink RX1 41 "ShaftHunt$Drains" "from" "[I", Cond.fieldLink RX1 44 "ShaftHunt$Drains" "to" "[I", Cond.methodLink RX1 27 yJ7_fill_d0a16, Cond.static yJ7_fill_d0a16, Cond.initialized RJ7, Cond.code yJ7_fill_d0a16 cJ7_fill_d0a16 5 none, Cond.methodLink RX1 47 yX0_leaving, Cond.instanceMethod yX0_leaving, Cond.selects RX0 yX0_leaving yX0_leaving, Cond.code yX0_leaving cX0_leaving 5 (some .long)]
def wsX5_digestShafts_r4 : List Cond := [Cond.fieldLink RX0 15 "ShaftHunt$Drains" "pace" "[I", Cond.fieldLink RX0 9 "ShaftHunt$Drains" "kind" "[I", Cond.constantLong RX0 83 (9223372036854775807), Cond.constantLong RX0 85 (-1), Cond.methodLink RX0 79 yX0_pumped, Cond.static yX0_pumped, Cond.code yX0_pumped cX0_pumped 8 (some .long), Cond.methodLink RX1 51 yX0_brought, Cond.instanceMethod yX0_brought, Cond.selects RX0 yX0_brought yX0_brought, Cond.code yX0_brought cX0_brought 7 (some .long), Cond.fieldLink RX0 24 "ShaftHunt$Drains" "low" "[I", Cond.fieldLink RX0 27 "ShaftHunt$Drains" "high" "[I", Cond.methodLink RX1 65 yX1_agrees, Cond.instanceMethod yX1_agrees, Cond.selects RX1 yX1_agrees yX1_agrees, Cond.code yX1_agrees cX1_agrees 2 (some .boolean), Cond.fieldLink RX1 54 "ShaftHunt$Drains" "sights" "I", Cond.methodLink RX1 57 yX1_agreesWith, Cond.instanceMethod yX1_agreesWith, Cond.selects RX1 yX1_agreesWith yX1_agreesWith, Cond.code yX1_agreesWith cX1_agreesWith 5 (some .boolean), Cond.fieldLink RX1 76 "ShaftHunt$Drains" "place" "[I", Cond.fieldLink RX1 79 "ShaftHunt$Drains" "minute" "[I"]
def wsX5_digestShafts_r5 : List Cond := [Cond.fieldLink RX1 82 "ShaftHunt$Drains" "sort" "[I"]
def wsX5_digestShafts : List Cond := .code yX5_digestShafts cX5_digestShafts 7 (some .long) :: ((wsX5_digestShafts_r1 ++ (wsX5_digestShafts_r2 ++ (wsX5_digestShafts_r3 ++ (wsX5_digestShafts_r4 ++ wsX5_digestShafts_r5)))) ++ wsX50 ++ wsX00 ++ wsX10)
def wsX5_digestPipes_r1 : List Cond := [Cond.fieldLink RX5 14 "ShaftHunt" "now" "LShaftHunt$Drains;", Cond.fieldLink RX5 213 "ShaftHunt$Drains" "pipes" "I", Cond.constantLong RX5 221 (31), Cond.methodLink RX5 249 yX5_about, Cond.instanceMethod yX5_about, Cond.selects RX5 yX5_about yX5_about, Cond.initialized RX5, Cond.code yX5_about cX5_about 3 (some .int), Cond.fieldLink RX5 88 "ShaftHunt$Drains" "from" "[I", Cond.fieldLink RX5 95 "ShaftHunt$Drains" "to" "[I", Cond.fieldLink RX5 107 "ShaftHunt$Drains" "low" "[I", Cond.fieldLink RX5 110 "ShaftHunt$Drains" "high" "[I", Cond.methodLink RX5 104 yX0_hasPipe, Cond.instanceMethod yX0_hasPipe, Cond.selects RX0 yX0_hasPipe yX0_hasPipe, Cond.initialized RX0, Cond.code yX0_hasPipe cX0_hasPipe 2 (some .boolean), Cond.fieldLink RX0 53 "ShaftHunt$Drains" "pipes" "I", Cond.static yX5_within, Cond.code yX5_within cX5_within 3 (some .boolean), Cond.methodLink RX5 78 yX5_refused, Cond.instanceMethod yX5_refused, Cond.selects RX5 yX5_refused yX5_refused, Cond.code yX5_refused cX5_refused 2 (some .int)]
def wsX5_digestPipes_r2 : List Cond := [Cond.fieldLink RX5 204 "ShaftHunt" "bads" "I", Cond.fieldLink RX5 207 "ShaftHunt" "noes" "I", Cond.fieldLink RX5 210 "ShaftHunt" "fulls" "I"]
def wsX5_digestPipes : List Cond := .code yX5_digestPipes cX5_digestPipes 7 (some .long) :: ((wsX5_digestPipes_r1 ++ wsX5_digestPipes_r2) ++ wsX50 ++ wsX00)
def wsX5_digest_r1 : List Cond := [Cond.constantLong RX5 219 (2557), Cond.constantLong RX5 221 (31), Cond.fieldLink RX5 14 "ShaftHunt" "now" "LShaftHunt$Drains;", Cond.fieldLink RX5 160 "ShaftHunt$Drains" "shafts" "I", Cond.methodLink RX5 223 yX5_told, Cond.instanceMethod yX5_told, Cond.selects RX5 yX5_told yX5_told, Cond.initialized RX5, Cond.code yX5_told cX5_told 2 (some .int), Cond.fieldLink RX5 204 "ShaftHunt" "bads" "I", Cond.fieldLink RX5 207 "ShaftHunt" "noes" "I", Cond.fieldLink RX5 210 "ShaftHunt" "fulls" "I", Cond.fieldLink RX5 180 "ShaftHunt" "bytes" "I", Cond.fieldLink RX5 213 "ShaftHunt$Drains" "pipes" "I", Cond.fieldLink RX5 216 "ShaftHunt$Drains" "sights" "I", Cond.fieldLink RX5 21 "ShaftHunt" "past" "LShaftHunt$Past;", Cond.fieldLink RX5 197 "ShaftHunt$Past" "count" "I", Cond.methodLink RX5 78 yX5_refused, Cond.instanceMethod yX5_refused, Cond.selects RX5 yX5_refused yX5_refused, Cond.code yX5_refused cX5_refused 2 (some .int), Cond.methodLink RX5 226 yX5_digestShafts, Cond.instanceMethod yX5_digestShafts, Cond.selects RX5 yX5_digestShafts yX5_digestShafts]
def wsX5_digest_r2 : List Cond := [Cond.code yX5_digestShafts cX5_digestShafts 7 (some .long), Cond.methodLink RX5 243 yX5_of, Cond.instanceMethod yX5_of, Cond.selects RX5 yX5_of yX5_of, Cond.code yX5_of cX5_of 3 (some .int), Cond.fieldLink RX5 81 "ShaftHunt$Drains" "kind" "[I", Cond.fieldLink RX5 85 "ShaftHunt$Drains" "pace" "[I", Cond.fieldLink RX5 88 "ShaftHunt$Drains" "from" "[I", Cond.fieldLink RX5 95 "ShaftHunt$Drains" "to" "[I", Cond.fieldLink RX5 98 "ShaftHunt$Drains" "below" "[I", Cond.methodLink RX5 74 yX0_hasShaft, Cond.instanceMethod yX0_hasShaft, Cond.selects RX0 yX0_hasShaft yX0_hasShaft, Cond.initialized RX0, Cond.code yX0_hasShaft cX0_hasShaft 2 (some .boolean), Cond.fieldLink RX0 45 "ShaftHunt$Drains" "shafts" "I", Cond.static yX5_within, Cond.code yX5_within cX5_within 3 (some .boolean), Cond.methodLink RX5 91 yX0_pipesAt, Cond.instanceMethod yX0_pipesAt, Cond.selects RX0 yX0_pipesAt yX0_pipesAt, Cond.code yX0_pipesAt cX0_pipesAt 5 (some .int), Cond.fieldLink RX0 53 "ShaftHunt$Drains" "pipes" "I", Cond.methodLink RX5 101 yX0_above]
def wsX5_digest_r3 : List Cond := [Cond.instanceMethod yX0_above, Cond.selects RX0 yX0_above yX0_above, Cond.code yX0_above cX0_above 4 (some .int), Cond.methodLink RX0 69 yX0_isBelow, Cond.instanceMethod yX0_isBelow, Cond.selects RX0 yX0_isBelow yX0_isBelow, Cond.code yX0_isBelow cX0_isBelow 3 (some .boolean), Cond.fieldLink RX0 39 "ShaftHunt$Drains" "below" "[I", Cond.methodLink RX5 246 yX5_when, Cond.instanceMethod yX5_when, Cond.selects RX5 yX5_when yX5_when, Cond.code yX5_when cX5_when 2 (some .int), Cond.fieldLink RX5 30 "ShaftHunt" "flow" "LShaftHunt$Flow;", Cond.methodLink RX5 154 yX1_startsAt, Cond.instanceMethod yX1_startsAt, Cond.selects RX1 yX1_startsAt yX1_startsAt, Cond.initialized RX1, Cond.code yX1_startsAt cX1_startsAt 4 (some .int), Cond.fieldLink RX1 23 "ShaftHunt$Flow" "known" "I", Cond.fieldLink RX1 15 "ShaftHunt$Flow" "starts" "[I", Cond.methodLink RX1 61 yX1_walk, Cond.instanceMethod yX1_walk, Cond.selects RX1 yX1_walk yX1_walk, Cond.code yX1_walk cX1_walk 6 none]
def wsX5_digest_r4 : List Cond := [Cond.fieldLink RX1 9 "ShaftHunt$Flow" "come" "[J", Cond.fieldLink RX1 19 "ShaftHunt$Flow" "drains" "LShaftHunt$Drains;", Cond.fieldLink RX1 33 "ShaftHunt$Drains" "pipes" "I", Cond.fieldLink RX1 38 "ShaftHunt$Drains" "route" "[I", Cond.fieldLink RX1 41 "ShaftHunt$Drains" "from" "[I", Cond.fieldLink RX1 44 "ShaftHunt$Drains" "to" "[I", Cond.methodLink RX1 27 yJ7_fill_d0a16, Cond.static yJ7_fill_d0a16, Cond.initialized RJ7, Cond.code yJ7_fill_d0a16 cJ7_fill_d0a16 5 none, Cond.methodLink RX1 47 yX0_leaving, Cond.instanceMethod yX0_leaving, Cond.selects RX0 yX0_leaving yX0_leaving, Cond.code yX0_leaving cX0_leaving 5 (some .long), Cond.fieldLink RX0 15 "ShaftHunt$Drains" "pace" "[I", Cond.fieldLink RX0 9 "ShaftHunt$Drains" "kind" "[I", Cond.constantLong RX0 83 (9223372036854775807), Cond.constantLong RX0 85 (-1), Cond.methodLink RX0 79 yX0_pumped, Cond.static yX0_pumped, Cond.code yX0_pumped cX0_pumped 8 (some .long), Cond.methodLink RX1 51 yX0_brought, Cond.instanceMethod yX0_brought, Cond.selects RX0 yX0_brought yX0_brought]
def wsX5_digest_r5 : List Cond := [Cond.code yX0_brought cX0_brought 7 (some .long), Cond.fieldLink RX0 24 "ShaftHunt$Drains" "low" "[I", Cond.fieldLink RX0 27 "ShaftHunt$Drains" "high" "[I", Cond.methodLink RX1 65 yX1_agrees, Cond.instanceMethod yX1_agrees, Cond.selects RX1 yX1_agrees yX1_agrees, Cond.code yX1_agrees cX1_agrees 2 (some .boolean), Cond.fieldLink RX1 54 "ShaftHunt$Drains" "sights" "I", Cond.methodLink RX1 57 yX1_agreesWith, Cond.instanceMethod yX1_agreesWith, Cond.selects RX1 yX1_agreesWith yX1_agreesWith, Cond.code yX1_agreesWith cX1_agreesWith 5 (some .boolean), Cond.fieldLink RX1 76 "ShaftHunt$Drains" "place" "[I", Cond.fieldLink RX1 79 "ShaftHunt$Drains" "minute" "[I", Cond.fieldLink RX1 82 "ShaftHunt$Drains" "sort" "[I", Cond.methodLink RX5 230 yX5_digestPipes, Cond.instanceMethod yX5_digestPipes, Cond.selects RX5 yX5_digestPipes yX5_digestPipes, Cond.code yX5_digestPipes cX5_digestPipes 7 (some .long), Cond.methodLink RX5 249 yX5_about, Cond.instanceMethod yX5_about, Cond.selects RX5 yX5_about yX5_about, Cond.code yX5_about cX5_about 3 (some .int), Cond.fieldLink RX5 107 "ShaftHunt$Drains" "low" "[I"]
def wsX5_digest_r6 : List Cond := [Cond.fieldLink RX5 110 "ShaftHunt$Drains" "high" "[I", Cond.methodLink RX5 104 yX0_hasPipe, Cond.instanceMethod yX0_hasPipe, Cond.selects RX0 yX0_hasPipe yX0_hasPipe, Cond.code yX0_hasPipe cX0_hasPipe 2 (some .boolean), Cond.methodLink RX5 233 yX5_comes, Cond.instanceMethod yX5_comes, Cond.selects RX5 yX5_comes yX5_comes, Cond.code yX5_comes cX5_comes 4 (some .long), Cond.fieldLink RX5 121 "ShaftHunt$Flow" "come" "[J", Cond.methodLink RX5 113 yX5_isStart, Cond.instanceMethod yX5_isStart, Cond.selects RX5 yX5_isStart yX5_isStart, Cond.code yX5_isStart cX5_isStart 3 (some .boolean), Cond.methodLink RX5 125 yX5_within, Cond.methodLink RX5 117 yX1_walk, Cond.methodLink RX5 237 yX5_next, Cond.instanceMethod yX5_next, Cond.selects RX5 yX5_next yX5_next, Cond.code yX5_next cX5_next 7 (some .int), Cond.methodLink RX5 157 yX1_suspicious, Cond.instanceMethod yX1_suspicious, Cond.selects RX1 yX1_suspicious yX1_suspicious, Cond.code yX1_suspicious cX1_suspicious 3 (some .int)]
def wsX5_digest_r7 : List Cond := [Cond.fieldLink RX1 69 "ShaftHunt$Drains" "shafts" "I", Cond.methodLink RX1 72 yX1_startsAt, Cond.methodLink RX5 164 yX5_largerPart, Cond.static yX5_largerPart, Cond.code yX5_largerPart cX5_largerPart 3 (some .int), Cond.methodLink RX5 255 Lib.Math.max.name, Cond.static Lib.Math.max.name, Cond.initialized "java/lang/Math", Cond.code Lib.Math.max.name Lib.Math.max.code 2 (some .int), Cond.methodLink RX5 176 yJ6_bitCount_0f7a4, Cond.static yJ6_bitCount_0f7a4, Cond.initialized RJ6, Cond.code yJ6_bitCount_0f7a4 cJ6_bitCount_0f7a4 1 (some .int), Cond.constant RJ6 265 (1431655765), Cond.constant RJ6 266 (858993459), Cond.constant RJ6 267 (252645135), Cond.methodLink RX5 240 yX5_sensors, Cond.instanceMethod yX5_sensors, Cond.selects RX5 yX5_sensors yX5_sensors, Cond.code yX5_sensors cX5_sensors 3 (some .int), Cond.fieldLink RX5 37 "ShaftHunt" "watch" "LShaftHunt$Watch;", Cond.methodLink RX5 167 yX4_compare, Cond.instanceMethod yX4_compare, Cond.selects RX4 yX4_compare yX4_compare]
def wsX5_digest_r8 : List Cond := [Cond.initialized RX4, Cond.code yX4_compare cX4_compare 4 none, Cond.fieldLink RX4 15 "ShaftHunt$Watch" "pairs" "I", Cond.fieldLink RX4 19 "ShaftHunt$Drains" "shafts" "I", Cond.fieldLink RX4 9 "ShaftHunt$Watch" "tellers" "[I", Cond.fieldLink RX4 24 "ShaftHunt$Drains" "below" "[I", Cond.methodLink RX5 173 yX4_fewest, Cond.instanceMethod yX4_fewest, Cond.selects RX4 yX4_fewest yX4_fewest, Cond.code yX4_fewest cX4_fewest 6 (some .int), Cond.methodLink RX4 27 yJ6_bitCount_0f7a4, Cond.methodLink RX4 33 yX4_tellsAll, Cond.instanceMethod yX4_tellsAll, Cond.selects RX4 yX4_tellsAll yX4_tellsAll, Cond.code yX4_tellsAll cX4_tellsAll 3 (some .boolean)]
def wsX5_digest : List Cond := .code yX5_digest cX5_digest 5 (some .long) :: ((wsX5_digest_r1 ++ (wsX5_digest_r2 ++ (wsX5_digest_r3 ++ (wsX5_digest_r4 ++ (wsX5_digest_r5 ++ (wsX5_digest_r6 ++ (wsX5_digest_r7 ++ wsX5_digest_r8))))))) ++ wsX50 ++ wsX00 ++ wsX30 ++ wsX10 ++ wsX40)
def wsX6_init : List Cond := .code yX6_init cX6_init 1 none :: ([.methodLink RX6 1 objectInit, .instanceMethod objectInit, .code objectInit ⟨#[0xb1]⟩ 1 none, .arrayClass .int, .fieldLink RX6 7 "ShaftHuntModel" "now" "[I", .fieldLink RX6 13 "ShaftHuntModel" "held" "[I", .fieldLink RX6 16 "ShaftHuntModel" "past" "[I", .fieldLink RX6 19 "ShaftHuntModel" "refused" "[I", .arrayClass .long, .fieldLink RX6 22 "ShaftHuntModel" "minutes" "[J", .fieldLink RX6 26 "ShaftHuntModel" "belows" "[I", .fieldLink RX6 29 "ShaftHuntModel" "text" "[I", .fieldLink RX6 32 "ShaftHuntModel" "letters" "[I", .fieldLink RX6 35 "ShaftHuntModel" "numbers" "[I", .fieldLink RX6 38 "ShaftHuntModel" "pasts" "I"] ++ wsX60)
def wsX6_in : List Cond := .code yX6_in cX6_in 3 (some .boolean) :: ([])
def wsX6_has : List Cond := .code yX6_has cX6_has 2 (some .boolean) :: ([])
def wsX6_ones : List Cond := .code yX6_ones cX6_ones 3 (some .int) :: ([.methodLink RX6 42 yX6_has, .static yX6_has, .initialized RX6, .code yX6_has cX6_has 2 (some .boolean)])
def wsX6_refuses : List Cond := .code yX6_refuses cX6_refuses 2 (some .int) :: ([.fieldLink RX6 19 "ShaftHuntModel" "refused" "[I"] ++ wsX60)
def wsX6_hold : List Cond := .code yX6_hold cX6_hold 2 none :: ([.fieldLink RX6 13 "ShaftHuntModel" "held" "[I", .fieldLink RX6 7 "ShaftHuntModel" "now" "[I"] ++ wsX60)
def wsX6_push : List Cond := .code yX6_push cX6_push 2 none :: ([.fieldLink RX6 38 "ShaftHuntModel" "pasts" "I", .fieldLink RX6 16 "ShaftHuntModel" "past" "[I", .fieldLink RX6 13 "ShaftHuntModel" "held" "[I"] ++ wsX60)
def wsX6_ends : List Cond := .code yX6_ends cX6_ends 2 (some .int) :: ([.methodLink RX6 46 yX6_refuses, .instanceMethod yX6_refuses, .selects RX6 yX6_refuses yX6_refuses, .initialized RX6, .code yX6_refuses cX6_refuses 2 (some .int), .fieldLink RX6 19 "ShaftHuntModel" "refused" "[I", .methodLink RX6 50 yX6_push, .instanceMethod yX6_push, .selects RX6 yX6_push yX6_push, .code yX6_push cX6_push 2 none, .fieldLink RX6 38 "ShaftHuntModel" "pasts" "I", .fieldLink RX6 16 "ShaftHuntModel" "past" "[I", .fieldLink RX6 13 "ShaftHuntModel" "held" "[I"] ++ wsX60)
def wsX6_back : List Cond := .code yX6_back cX6_back 2 (some .int) :: ([.fieldLink RX6 38 "ShaftHuntModel" "pasts" "I", .fieldLink RX6 7 "ShaftHuntModel" "now" "[I", .fieldLink RX6 16 "ShaftHuntModel" "past" "[I", .methodLink RX6 46 yX6_refuses, .instanceMethod yX6_refuses, .selects RX6 yX6_refuses yX6_refuses, .initialized RX6, .code yX6_refuses cX6_refuses 2 (some .int), .fieldLink RX6 19 "ShaftHuntModel" "refused" "[I"] ++ wsX60)
def wsX6_isShaft : List Cond := .code yX6_isShaft cX6_isShaft 2 (some .boolean) :: ([.fieldLink RX6 7 "ShaftHuntModel" "now" "[I", .methodLink RX6 53 yX6_in, .static yX6_in, .initialized RX6, .code yX6_in cX6_in 3 (some .boolean)] ++ wsX60)
def wsX6_isPipe : List Cond := .code yX6_isPipe cX6_isPipe 2 (some .boolean) :: ([.fieldLink RX6 7 "ShaftHuntModel" "now" "[I", .methodLink RX6 53 yX6_in, .static yX6_in, .initialized RX6, .code yX6_in cX6_in 3 (some .boolean)] ++ wsX60)
def wsX6_kindOf : List Cond := .code yX6_kindOf cX6_kindOf 2 (some .int) :: ([.fieldLink RX6 7 "ShaftHuntModel" "now" "[I"] ++ wsX60)
def wsX6_numberOf : List Cond := .code yX6_numberOf cX6_numberOf 2 (some .int) :: ([.fieldLink RX6 7 "ShaftHuntModel" "now" "[I"] ++ wsX60)
def wsX6_pipeOf : List Cond := .code yX6_pipeOf cX6_pipeOf 3 (some .int) :: ([.fieldLink RX6 7 "ShaftHuntModel" "now" "[I"] ++ wsX60)
def wsX6_below : List Cond := .code yX6_below cX6_below 5 (some .int) :: ([.fieldLink RX6 7 "ShaftHuntModel" "now" "[I", .methodLink RX6 57 yX6_pipeOf, .instanceMethod yX6_pipeOf, .selects RX6 yX6_pipeOf yX6_pipeOf, .initialized RX6, .code yX6_pipeOf cX6_pipeOf 3 (some .int), .methodLink RX6 42 yX6_has, .static yX6_has, .code yX6_has cX6_has 2 (some .boolean)] ++ wsX60)
def wsX6_isKind : List Cond := .code yX6_isKind cX6_isKind 1 (some .boolean) :: ([.methodLink RX6 53 yX6_in, .static yX6_in, .initialized RX6, .code yX6_in cX6_in 3 (some .boolean)])
def wsX6_doShaft : List Cond := .code yX6_doShaft cX6_doShaft 4 (some .int) :: ([.fieldLink RX6 7 "ShaftHuntModel" "now" "[I", .methodLink RX6 61 yX6_isKind, .static yX6_isKind, .initialized RX6, .code yX6_isKind cX6_isKind 1 (some .boolean), .methodLink RX6 53 yX6_in, .static yX6_in, .code yX6_in cX6_in 3 (some .boolean)] ++ wsX60)
def wsX6_doSets : List Cond := .code yX6_doSets cX6_doSets 6 (some .int) :: ([.fieldLink RX6 7 "ShaftHuntModel" "now" "[I", .methodLink RX6 61 yX6_isKind, .static yX6_isKind, .initialized RX6, .code yX6_isKind cX6_isKind 1 (some .boolean), .methodLink RX6 53 yX6_in, .static yX6_in, .code yX6_in cX6_in 3 (some .boolean), .methodLink RX6 65 yX6_isShaft, .instanceMethod yX6_isShaft, .selects RX6 yX6_isShaft yX6_isShaft, .code yX6_isShaft cX6_isShaft 2 (some .boolean)] ++ wsX60)
def wsX6_doPipe : List Cond := .code yX6_doPipe cX6_doPipe 6 (some .int) :: ([.fieldLink RX6 7 "ShaftHuntModel" "now" "[I", .methodLink RX6 65 yX6_isShaft, .instanceMethod yX6_isShaft, .selects RX6 yX6_isShaft yX6_isShaft, .initialized RX6, .code yX6_isShaft cX6_isShaft 2 (some .boolean), .methodLink RX6 53 yX6_in, .static yX6_in, .code yX6_in cX6_in 3 (some .boolean), .methodLink RX6 68 yX6_below, .instanceMethod yX6_below, .selects RX6 yX6_below yX6_below, .code yX6_below cX6_below 5 (some .int), .methodLink RX6 57 yX6_pipeOf, .instanceMethod yX6_pipeOf, .selects RX6 yX6_pipeOf yX6_pipeOf, .code yX6_pipeOf cX6_pipeOf 3 (some .int), .methodLink RX6 42 yX6_has, .static yX6_has, .code yX6_has cX6_has 2 (some .boolean)] ++ wsX60)
def wsX6_doDrops : List Cond := .code yX6_doDrops cX6_doDrops 3 (some .int) :: ([.fieldLink RX6 7 "ShaftHuntModel" "now" "[I", .methodLink RX6 71 yX6_isPipe, .instanceMethod yX6_isPipe, .selects RX6 yX6_isPipe yX6_isPipe, .initialized RX6, .code yX6_isPipe cX6_isPipe 2 (some .boolean), .methodLink RX6 53 yX6_in, .static yX6_in, .code yX6_in cX6_in 3 (some .boolean)] ++ wsX60)
def wsX6_doSight : List Cond := .code yX6_doSight cX6_doSight 5 (some .int) :: ([.fieldLink RX6 7 "ShaftHuntModel" "now" "[I", .methodLink RX6 53 yX6_in, .static yX6_in, .initialized RX6, .code yX6_in cX6_in 3 (some .boolean), .methodLink RX6 65 yX6_isShaft, .instanceMethod yX6_isShaft, .selects RX6 yX6_isShaft yX6_isShaft, .code yX6_isShaft cX6_isShaft 2 (some .boolean)] ++ wsX60)
def wsX6_doForget : List Cond := .code yX6_doForget cX6_doForget 2 (some .int) :: ([.fieldLink RX6 7 "ShaftHuntModel" "now" "[I"] ++ wsX60)
def wsX6_shaft_r1 : List Cond := [Cond.methodLink RX6 74 yX6_hold, Cond.instanceMethod yX6_hold, Cond.selects RX6 yX6_hold yX6_hold, Cond.initialized RX6, Cond.code yX6_hold cX6_hold 2 none, Cond.fieldLink RX6 13 "ShaftHuntModel" "held" "[I", Cond.fieldLink RX6 7 "ShaftHuntModel" "now" "[I", Cond.methodLink RX6 77 yX6_doShaft, Cond.instanceMethod yX6_doShaft, Cond.selects RX6 yX6_doShaft yX6_doShaft, Cond.code yX6_doShaft cX6_doShaft 4 (some .int), Cond.methodLink RX6 61 yX6_isKind, Cond.static yX6_isKind, Cond.code yX6_isKind cX6_isKind 1 (some .boolean), Cond.methodLink RX6 53 yX6_in, Cond.static yX6_in, Cond.code yX6_in cX6_in 3 (some .boolean), Cond.methodLink RX6 80 yX6_ends, Cond.instanceMethod yX6_ends, Cond.selects RX6 yX6_ends yX6_ends, Cond.code yX6_ends cX6_ends 2 (some .int), Cond.methodLink RX6 46 yX6_refuses, Cond.instanceMethod yX6_refuses, Cond.selects RX6 yX6_refuses yX6_refuses]
def wsX6_shaft_r2 : List Cond := [Cond.code yX6_refuses cX6_refuses 2 (some .int), Cond.fieldLink RX6 19 "ShaftHuntModel" "refused" "[I", Cond.methodLink RX6 50 yX6_push, Cond.instanceMethod yX6_push, Cond.selects RX6 yX6_push yX6_push, Cond.code yX6_push cX6_push 2 none, Cond.fieldLink RX6 38 "ShaftHuntModel" "pasts" "I", Cond.fieldLink RX6 16 "ShaftHuntModel" "past" "[I"]
def wsX6_shaft : List Cond := .code yX6_shaft cX6_shaft 3 (some .int) :: ((wsX6_shaft_r1 ++ wsX6_shaft_r2) ++ wsX60)
def wsX6_sets_r1 : List Cond := [Cond.methodLink RX6 74 yX6_hold, Cond.instanceMethod yX6_hold, Cond.selects RX6 yX6_hold yX6_hold, Cond.initialized RX6, Cond.code yX6_hold cX6_hold 2 none, Cond.fieldLink RX6 13 "ShaftHuntModel" "held" "[I", Cond.fieldLink RX6 7 "ShaftHuntModel" "now" "[I", Cond.methodLink RX6 83 yX6_doSets, Cond.instanceMethod yX6_doSets, Cond.selects RX6 yX6_doSets yX6_doSets, Cond.code yX6_doSets cX6_doSets 6 (some .int), Cond.methodLink RX6 61 yX6_isKind, Cond.static yX6_isKind, Cond.code yX6_isKind cX6_isKind 1 (some .boolean), Cond.methodLink RX6 53 yX6_in, Cond.static yX6_in, Cond.code yX6_in cX6_in 3 (some .boolean), Cond.methodLink RX6 65 yX6_isShaft, Cond.instanceMethod yX6_isShaft, Cond.selects RX6 yX6_isShaft yX6_isShaft, Cond.code yX6_isShaft cX6_isShaft 2 (some .boolean), Cond.methodLink RX6 80 yX6_ends, Cond.instanceMethod yX6_ends, Cond.selects RX6 yX6_ends yX6_ends]
def wsX6_sets_r2 : List Cond := [Cond.code yX6_ends cX6_ends 2 (some .int), Cond.methodLink RX6 46 yX6_refuses, Cond.instanceMethod yX6_refuses, Cond.selects RX6 yX6_refuses yX6_refuses, Cond.code yX6_refuses cX6_refuses 2 (some .int), Cond.fieldLink RX6 19 "ShaftHuntModel" "refused" "[I", Cond.methodLink RX6 50 yX6_push, Cond.instanceMethod yX6_push, Cond.selects RX6 yX6_push yX6_push, Cond.code yX6_push cX6_push 2 none, Cond.fieldLink RX6 38 "ShaftHuntModel" "pasts" "I", Cond.fieldLink RX6 16 "ShaftHuntModel" "past" "[I"]
def wsX6_sets : List Cond := .code yX6_sets cX6_sets 4 (some .int) :: ((wsX6_sets_r1 ++ wsX6_sets_r2) ++ wsX60)
def wsX6_pipe_r1 : List Cond := [Cond.methodLink RX6 74 yX6_hold, Cond.instanceMethod yX6_hold, Cond.selects RX6 yX6_hold yX6_hold, Cond.initialized RX6, Cond.code yX6_hold cX6_hold 2 none, Cond.fieldLink RX6 13 "ShaftHuntModel" "held" "[I", Cond.fieldLink RX6 7 "ShaftHuntModel" "now" "[I", Cond.methodLink RX6 87 yX6_doPipe, Cond.instanceMethod yX6_doPipe, Cond.selects RX6 yX6_doPipe yX6_doPipe, Cond.code yX6_doPipe cX6_doPipe 6 (some .int), Cond.methodLink RX6 65 yX6_isShaft, Cond.instanceMethod yX6_isShaft, Cond.selects RX6 yX6_isShaft yX6_isShaft, Cond.code yX6_isShaft cX6_isShaft 2 (some .boolean), Cond.methodLink RX6 53 yX6_in, Cond.static yX6_in, Cond.code yX6_in cX6_in 3 (some .boolean), Cond.methodLink RX6 68 yX6_below, Cond.instanceMethod yX6_below, Cond.selects RX6 yX6_below yX6_below, Cond.code yX6_below cX6_below 5 (some .int), Cond.methodLink RX6 57 yX6_pipeOf, Cond.instanceMethod yX6_pipeOf]
def wsX6_pipe_r2 : List Cond := [Cond.selects RX6 yX6_pipeOf yX6_pipeOf, Cond.code yX6_pipeOf cX6_pipeOf 3 (some .int), Cond.methodLink RX6 42 yX6_has, Cond.static yX6_has, Cond.code yX6_has cX6_has 2 (some .boolean), Cond.methodLink RX6 80 yX6_ends, Cond.instanceMethod yX6_ends, Cond.selects RX6 yX6_ends yX6_ends, Cond.code yX6_ends cX6_ends 2 (some .int), Cond.methodLink RX6 46 yX6_refuses, Cond.instanceMethod yX6_refuses, Cond.selects RX6 yX6_refuses yX6_refuses, Cond.code yX6_refuses cX6_refuses 2 (some .int), Cond.fieldLink RX6 19 "ShaftHuntModel" "refused" "[I", Cond.methodLink RX6 50 yX6_push, Cond.instanceMethod yX6_push, Cond.selects RX6 yX6_push yX6_push, Cond.code yX6_push cX6_push 2 none, Cond.fieldLink RX6 38 "ShaftHuntModel" "pasts" "I", Cond.fieldLink RX6 16 "ShaftHuntModel" "past" "[I"]
def wsX6_pipe : List Cond := .code yX6_pipe cX6_pipe 5 (some .int) :: ((wsX6_pipe_r1 ++ wsX6_pipe_r2) ++ wsX60)
def wsX6_drops_r1 : List Cond := [Cond.methodLink RX6 74 yX6_hold, Cond.instanceMethod yX6_hold, Cond.selects RX6 yX6_hold yX6_hold, Cond.initialized RX6, Cond.code yX6_hold cX6_hold 2 none, Cond.fieldLink RX6 13 "ShaftHuntModel" "held" "[I", Cond.fieldLink RX6 7 "ShaftHuntModel" "now" "[I", Cond.methodLink RX6 91 yX6_doDrops, Cond.instanceMethod yX6_doDrops, Cond.selects RX6 yX6_doDrops yX6_doDrops, Cond.code yX6_doDrops cX6_doDrops 3 (some .int), Cond.methodLink RX6 71 yX6_isPipe, Cond.instanceMethod yX6_isPipe, Cond.selects RX6 yX6_isPipe yX6_isPipe, Cond.code yX6_isPipe cX6_isPipe 2 (some .boolean), Cond.methodLink RX6 53 yX6_in, Cond.static yX6_in, Cond.code yX6_in cX6_in 3 (some .boolean), Cond.methodLink RX6 80 yX6_ends, Cond.instanceMethod yX6_ends, Cond.selects RX6 yX6_ends yX6_ends, Cond.code yX6_ends cX6_ends 2 (some .int), Cond.methodLink RX6 46 yX6_refuses, Cond.instanceMethod yX6_refuses]
def wsX6_drops_r2 : List Cond := [Cond.selects RX6 yX6_refuses yX6_refuses, Cond.code yX6_refuses cX6_refuses 2 (some .int), Cond.fieldLink RX6 19 "ShaftHuntModel" "refused" "[I", Cond.methodLink RX6 50 yX6_push, Cond.instanceMethod yX6_push, Cond.selects RX6 yX6_push yX6_push, Cond.code yX6_push cX6_push 2 none, Cond.fieldLink RX6 38 "ShaftHuntModel" "pasts" "I", Cond.fieldLink RX6 16 "ShaftHuntModel" "past" "[I"]
def wsX6_drops : List Cond := .code yX6_drops cX6_drops 2 (some .int) :: ((wsX6_drops_r1 ++ wsX6_drops_r2) ++ wsX60)
def wsX6_sight_r1 : List Cond := [Cond.methodLink RX6 74 yX6_hold, Cond.instanceMethod yX6_hold, Cond.selects RX6 yX6_hold yX6_hold, Cond.initialized RX6, Cond.code yX6_hold cX6_hold 2 none, Cond.fieldLink RX6 13 "ShaftHuntModel" "held" "[I", Cond.fieldLink RX6 7 "ShaftHuntModel" "now" "[I", Cond.methodLink RX6 94 yX6_doSight, Cond.instanceMethod yX6_doSight, Cond.selects RX6 yX6_doSight yX6_doSight, Cond.code yX6_doSight cX6_doSight 5 (some .int), Cond.methodLink RX6 53 yX6_in, Cond.static yX6_in, Cond.code yX6_in cX6_in 3 (some .boolean), Cond.methodLink RX6 65 yX6_isShaft, Cond.instanceMethod yX6_isShaft, Cond.selects RX6 yX6_isShaft yX6_isShaft, Cond.code yX6_isShaft cX6_isShaft 2 (some .boolean), Cond.methodLink RX6 80 yX6_ends, Cond.instanceMethod yX6_ends, Cond.selects RX6 yX6_ends yX6_ends, Cond.code yX6_ends cX6_ends 2 (some .int), Cond.methodLink RX6 46 yX6_refuses, Cond.instanceMethod yX6_refuses]
def wsX6_sight_r2 : List Cond := [Cond.selects RX6 yX6_refuses yX6_refuses, Cond.code yX6_refuses cX6_refuses 2 (some .int), Cond.fieldLink RX6 19 "ShaftHuntModel" "refused" "[I", Cond.methodLink RX6 50 yX6_push, Cond.instanceMethod yX6_push, Cond.selects RX6 yX6_push yX6_push, Cond.code yX6_push cX6_push 2 none, Cond.fieldLink RX6 38 "ShaftHuntModel" "pasts" "I", Cond.fieldLink RX6 16 "ShaftHuntModel" "past" "[I"]
def wsX6_sight : List Cond := .code yX6_sight cX6_sight 4 (some .int) :: ((wsX6_sight_r1 ++ wsX6_sight_r2) ++ wsX60)
def wsX6_forget_r1 : List Cond := [Cond.methodLink RX6 74 yX6_hold, Cond.instanceMethod yX6_hold, Cond.selects RX6 yX6_hold yX6_hold, Cond.initialized RX6, Cond.code yX6_hold cX6_hold 2 none, Cond.fieldLink RX6 13 "ShaftHuntModel" "held" "[I", Cond.fieldLink RX6 7 "ShaftHuntModel" "now" "[I", Cond.methodLink RX6 97 yX6_doForget, Cond.instanceMethod yX6_doForget, Cond.selects RX6 yX6_doForget yX6_doForget, Cond.code yX6_doForget cX6_doForget 2 (some .int), Cond.methodLink RX6 80 yX6_ends, Cond.instanceMethod yX6_ends, Cond.selects RX6 yX6_ends yX6_ends, Cond.code yX6_ends cX6_ends 2 (some .int), Cond.methodLink RX6 46 yX6_refuses, Cond.instanceMethod yX6_refuses, Cond.selects RX6 yX6_refuses yX6_refuses, Cond.code yX6_refuses cX6_refuses 2 (some .int), Cond.fieldLink RX6 19 "ShaftHuntModel" "refused" "[I", Cond.methodLink RX6 50 yX6_push, Cond.instanceMethod yX6_push, Cond.selects RX6 yX6_push yX6_push, Cond.code yX6_push cX6_push 2 none]
def wsX6_forget_r2 : List Cond := [Cond.fieldLink RX6 38 "ShaftHuntModel" "pasts" "I", Cond.fieldLink RX6 16 "ShaftHuntModel" "past" "[I"]
def wsX6_forget : List Cond := .code yX6_forget cX6_forget 1 (some .int) :: ((wsX6_forget_r1 ++ wsX6_forget_r2) ++ wsX60)
def wsX6_ofShaft : List Cond := .code yX6_ofShaft cX6_ofShaft 7 (some .int) :: ([.fieldLink RX6 7 "ShaftHuntModel" "now" "[I", .methodLink RX6 57 yX6_pipeOf, .instanceMethod yX6_pipeOf, .selects RX6 yX6_pipeOf yX6_pipeOf, .initialized RX6, .code yX6_pipeOf cX6_pipeOf 3 (some .int), .methodLink RX6 68 yX6_below, .instanceMethod yX6_below, .selects RX6 yX6_below yX6_below, .code yX6_below cX6_below 5 (some .int), .methodLink RX6 42 yX6_has, .static yX6_has, .code yX6_has cX6_has 2 (some .boolean), .methodLink RX6 101 yX6_kindOf, .instanceMethod yX6_kindOf, .selects RX6 yX6_kindOf yX6_kindOf, .code yX6_kindOf cX6_kindOf 2 (some .int), .methodLink RX6 104 yX6_numberOf, .instanceMethod yX6_numberOf, .selects RX6 yX6_numberOf yX6_numberOf, .code yX6_numberOf cX6_numberOf 2 (some .int)] ++ wsX60)
def wsX6_of_r1 : List Cond := [Cond.methodLink RX6 65 yX6_isShaft, Cond.instanceMethod yX6_isShaft, Cond.selects RX6 yX6_isShaft yX6_isShaft, Cond.initialized RX6, Cond.code yX6_isShaft cX6_isShaft 2 (some .boolean), Cond.fieldLink RX6 7 "ShaftHuntModel" "now" "[I", Cond.methodLink RX6 53 yX6_in, Cond.static yX6_in, Cond.code yX6_in cX6_in 3 (some .boolean), Cond.methodLink RX6 107 yX6_ofShaft, Cond.instanceMethod yX6_ofShaft, Cond.selects RX6 yX6_ofShaft yX6_ofShaft, Cond.code yX6_ofShaft cX6_ofShaft 7 (some .int), Cond.methodLink RX6 57 yX6_pipeOf, Cond.instanceMethod yX6_pipeOf, Cond.selects RX6 yX6_pipeOf yX6_pipeOf, Cond.code yX6_pipeOf cX6_pipeOf 3 (some .int), Cond.methodLink RX6 68 yX6_below, Cond.instanceMethod yX6_below, Cond.selects RX6 yX6_below yX6_below, Cond.code yX6_below cX6_below 5 (some .int), Cond.methodLink RX6 42 yX6_has, Cond.static yX6_has, Cond.code yX6_has cX6_has 2 (some .boolean)]
def wsX6_of_r2 : List Cond := [Cond.methodLink RX6 101 yX6_kindOf, Cond.instanceMethod yX6_kindOf, Cond.selects RX6 yX6_kindOf yX6_kindOf, Cond.code yX6_kindOf cX6_kindOf 2 (some .int), Cond.methodLink RX6 104 yX6_numberOf, Cond.instanceMethod yX6_numberOf, Cond.selects RX6 yX6_numberOf yX6_numberOf, Cond.code yX6_numberOf cX6_numberOf 2 (some .int), Cond.methodLink RX6 46 yX6_refuses, Cond.instanceMethod yX6_refuses, Cond.selects RX6 yX6_refuses yX6_refuses, Cond.code yX6_refuses cX6_refuses 2 (some .int), Cond.fieldLink RX6 19 "ShaftHuntModel" "refused" "[I"]
def wsX6_of : List Cond := .code yX6_of cX6_of 3 (some .int) :: ((wsX6_of_r1 ++ wsX6_of_r2) ++ wsX60)
def wsX6_about : List Cond := .code yX6_about cX6_about 3 (some .int) :: ([.methodLink RX6 71 yX6_isPipe, .instanceMethod yX6_isPipe, .selects RX6 yX6_isPipe yX6_isPipe, .initialized RX6, .code yX6_isPipe cX6_isPipe 2 (some .boolean), .fieldLink RX6 7 "ShaftHuntModel" "now" "[I", .methodLink RX6 53 yX6_in, .static yX6_in, .code yX6_in cX6_in 3 (some .boolean), .methodLink RX6 57 yX6_pipeOf, .instanceMethod yX6_pipeOf, .selects RX6 yX6_pipeOf yX6_pipeOf, .code yX6_pipeOf cX6_pipeOf 3 (some .int), .methodLink RX6 46 yX6_refuses, .instanceMethod yX6_refuses, .selects RX6 yX6_refuses yX6_refuses, .code yX6_refuses cX6_refuses 2 (some .int), .fieldLink RX6 19 "ShaftHuntModel" "refused" "[I"] ++ wsX60)
def wsX6_pumped : List Cond := .code yX6_pumped cX6_pumped 4 (some .int) :: ([.methodLink RX6 104 yX6_numberOf, .instanceMethod yX6_numberOf, .selects RX6 yX6_numberOf yX6_numberOf, .initialized RX6, .code yX6_numberOf cX6_numberOf 2 (some .int), .fieldLink RX6 7 "ShaftHuntModel" "now" "[I"] ++ wsX60)
def wsX6_leavesAt : List Cond := .code yX6_leavesAt cX6_leavesAt 4 (some .int) :: ([.methodLink RX6 101 yX6_kindOf, .instanceMethod yX6_kindOf, .selects RX6 yX6_kindOf yX6_kindOf, .initialized RX6, .code yX6_kindOf cX6_kindOf 2 (some .int), .fieldLink RX6 7 "ShaftHuntModel" "now" "[I", .methodLink RX6 110 yX6_pumped, .instanceMethod yX6_pumped, .selects RX6 yX6_pumped yX6_pumped, .code yX6_pumped cX6_pumped 4 (some .int), .methodLink RX6 104 yX6_numberOf, .instanceMethod yX6_numberOf, .selects RX6 yX6_numberOf yX6_numberOf, .code yX6_numberOf cX6_numberOf 2 (some .int)] ++ wsX60)
def wsX6_hasMinute : List Cond := .code yX6_hasMinute cX6_hasMinute 3 (some .boolean) :: ([])
def wsX6_carries_r1 : List Cond := [Cond.fieldLink RX6 22 "ShaftHuntModel" "minutes" "[J", Cond.methodLink RX6 57 yX6_pipeOf, Cond.instanceMethod yX6_pipeOf, Cond.selects RX6 yX6_pipeOf yX6_pipeOf, Cond.initialized RX6, Cond.code yX6_pipeOf cX6_pipeOf 3 (some .int), Cond.fieldLink RX6 7 "ShaftHuntModel" "now" "[I", Cond.methodLink RX6 113 yX6_hasMinute, Cond.static yX6_hasMinute, Cond.code yX6_hasMinute cX6_hasMinute 3 (some .boolean), Cond.methodLink RX6 117 yX6_leavesAt, Cond.instanceMethod yX6_leavesAt, Cond.selects RX6 yX6_leavesAt yX6_leavesAt, Cond.code yX6_leavesAt cX6_leavesAt 4 (some .int), Cond.methodLink RX6 101 yX6_kindOf, Cond.instanceMethod yX6_kindOf, Cond.selects RX6 yX6_kindOf yX6_kindOf, Cond.code yX6_kindOf cX6_kindOf 2 (some .int), Cond.methodLink RX6 110 yX6_pumped, Cond.instanceMethod yX6_pumped, Cond.selects RX6 yX6_pumped yX6_pumped, Cond.code yX6_pumped cX6_pumped 4 (some .int), Cond.methodLink RX6 104 yX6_numberOf, Cond.instanceMethod yX6_numberOf]
def wsX6_carries_r2 : List Cond := [Cond.selects RX6 yX6_numberOf yX6_numberOf, Cond.code yX6_numberOf cX6_numberOf 2 (some .int)]
def wsX6_carries : List Cond := .code yX6_carries cX6_carries 9 (some .boolean) :: ((wsX6_carries_r1 ++ wsX6_carries_r2) ++ wsX60)
def wsX6_start_r1 : List Cond := [Cond.fieldLink RX6 22 "ShaftHuntModel" "minutes" "[J", Cond.fieldLink RX6 7 "ShaftHuntModel" "now" "[I", Cond.methodLink RX6 120 yX6_carries, Cond.instanceMethod yX6_carries, Cond.selects RX6 yX6_carries yX6_carries, Cond.initialized RX6, Cond.code yX6_carries cX6_carries 9 (some .boolean), Cond.methodLink RX6 57 yX6_pipeOf, Cond.instanceMethod yX6_pipeOf, Cond.selects RX6 yX6_pipeOf yX6_pipeOf, Cond.code yX6_pipeOf cX6_pipeOf 3 (some .int), Cond.methodLink RX6 113 yX6_hasMinute, Cond.static yX6_hasMinute, Cond.code yX6_hasMinute cX6_hasMinute 3 (some .boolean), Cond.methodLink RX6 117 yX6_leavesAt, Cond.instanceMethod yX6_leavesAt, Cond.selects RX6 yX6_leavesAt yX6_leavesAt, Cond.code yX6_leavesAt cX6_leavesAt 4 (some .int), Cond.methodLink RX6 101 yX6_kindOf, Cond.instanceMethod yX6_kindOf, Cond.selects RX6 yX6_kindOf yX6_kindOf, Cond.code yX6_kindOf cX6_kindOf 2 (some .int), Cond.methodLink RX6 110 yX6_pumped, Cond.instanceMethod yX6_pumped]
def wsX6_start_r2 : List Cond := [Cond.selects RX6 yX6_pumped yX6_pumped, Cond.code yX6_pumped cX6_pumped 4 (some .int), Cond.methodLink RX6 104 yX6_numberOf, Cond.instanceMethod yX6_numberOf, Cond.selects RX6 yX6_numberOf yX6_numberOf, Cond.code yX6_numberOf cX6_numberOf 2 (some .int)]
def wsX6_start : List Cond := .code yX6_start cX6_start 5 none :: ((wsX6_start_r1 ++ wsX6_start_r2) ++ wsX60)
def wsX6_isStart : List Cond := .code yX6_isStart cX6_isStart 3 (some .boolean) :: ([.methodLink RX6 65 yX6_isShaft, .instanceMethod yX6_isShaft, .selects RX6 yX6_isShaft yX6_isShaft, .initialized RX6, .code yX6_isShaft cX6_isShaft 2 (some .boolean), .fieldLink RX6 7 "ShaftHuntModel" "now" "[I", .methodLink RX6 53 yX6_in, .static yX6_in, .code yX6_in cX6_in 3 (some .boolean)] ++ wsX60)
def wsX6_comesOf_r1 : List Cond := [Cond.fieldLink RX6 22 "ShaftHuntModel" "minutes" "[J", Cond.methodLink RX6 123 yX6_start, Cond.instanceMethod yX6_start, Cond.selects RX6 yX6_start yX6_start, Cond.initialized RX6, Cond.code yX6_start cX6_start 5 none, Cond.fieldLink RX6 7 "ShaftHuntModel" "now" "[I", Cond.methodLink RX6 120 yX6_carries, Cond.instanceMethod yX6_carries, Cond.selects RX6 yX6_carries yX6_carries, Cond.code yX6_carries cX6_carries 9 (some .boolean), Cond.methodLink RX6 57 yX6_pipeOf, Cond.instanceMethod yX6_pipeOf, Cond.selects RX6 yX6_pipeOf yX6_pipeOf, Cond.code yX6_pipeOf cX6_pipeOf 3 (some .int), Cond.methodLink RX6 113 yX6_hasMinute, Cond.static yX6_hasMinute, Cond.code yX6_hasMinute cX6_hasMinute 3 (some .boolean), Cond.methodLink RX6 117 yX6_leavesAt, Cond.instanceMethod yX6_leavesAt, Cond.selects RX6 yX6_leavesAt yX6_leavesAt, Cond.code yX6_leavesAt cX6_leavesAt 4 (some .int), Cond.methodLink RX6 101 yX6_kindOf, Cond.instanceMethod yX6_kindOf]
def wsX6_comesOf_r2 : List Cond := [Cond.selects RX6 yX6_kindOf yX6_kindOf, Cond.code yX6_kindOf cX6_kindOf 2 (some .int), Cond.methodLink RX6 110 yX6_pumped, Cond.instanceMethod yX6_pumped, Cond.selects RX6 yX6_pumped yX6_pumped, Cond.code yX6_pumped cX6_pumped 4 (some .int), Cond.methodLink RX6 104 yX6_numberOf, Cond.instanceMethod yX6_numberOf, Cond.selects RX6 yX6_numberOf yX6_numberOf, Cond.code yX6_numberOf cX6_numberOf 2 (some .int)]
def wsX6_comesOf : List Cond := .code yX6_comesOf cX6_comesOf 4 (some .long) :: ((wsX6_comesOf_r1 ++ wsX6_comesOf_r2) ++ wsX60)
def wsX6_comes_r1 : List Cond := [Cond.methodLink RX6 127 yX6_isStart, Cond.instanceMethod yX6_isStart, Cond.selects RX6 yX6_isStart yX6_isStart, Cond.initialized RX6, Cond.code yX6_isStart cX6_isStart 3 (some .boolean), Cond.methodLink RX6 65 yX6_isShaft, Cond.instanceMethod yX6_isShaft, Cond.selects RX6 yX6_isShaft yX6_isShaft, Cond.code yX6_isShaft cX6_isShaft 2 (some .boolean), Cond.fieldLink RX6 7 "ShaftHuntModel" "now" "[I", Cond.methodLink RX6 53 yX6_in, Cond.static yX6_in, Cond.code yX6_in cX6_in 3 (some .boolean), Cond.methodLink RX6 130 yX6_comesOf, Cond.instanceMethod yX6_comesOf, Cond.selects RX6 yX6_comesOf yX6_comesOf, Cond.code yX6_comesOf cX6_comesOf 4 (some .long), Cond.fieldLink RX6 22 "ShaftHuntModel" "minutes" "[J", Cond.methodLink RX6 123 yX6_start, Cond.instanceMethod yX6_start, Cond.selects RX6 yX6_start yX6_start, Cond.code yX6_start cX6_start 5 none, Cond.methodLink RX6 120 yX6_carries, Cond.instanceMethod yX6_carries]
def wsX6_comes_r2 : List Cond := [Cond.selects RX6 yX6_carries yX6_carries, Cond.code yX6_carries cX6_carries 9 (some .boolean), Cond.methodLink RX6 57 yX6_pipeOf, Cond.instanceMethod yX6_pipeOf, Cond.selects RX6 yX6_pipeOf yX6_pipeOf, Cond.code yX6_pipeOf cX6_pipeOf 3 (some .int), Cond.methodLink RX6 113 yX6_hasMinute, Cond.static yX6_hasMinute, Cond.code yX6_hasMinute cX6_hasMinute 3 (some .boolean), Cond.methodLink RX6 117 yX6_leavesAt, Cond.instanceMethod yX6_leavesAt, Cond.selects RX6 yX6_leavesAt yX6_leavesAt, Cond.code yX6_leavesAt cX6_leavesAt 4 (some .int), Cond.methodLink RX6 101 yX6_kindOf, Cond.instanceMethod yX6_kindOf, Cond.selects RX6 yX6_kindOf yX6_kindOf, Cond.code yX6_kindOf cX6_kindOf 2 (some .int), Cond.methodLink RX6 110 yX6_pumped, Cond.instanceMethod yX6_pumped, Cond.selects RX6 yX6_pumped yX6_pumped, Cond.code yX6_pumped cX6_pumped 4 (some .int), Cond.methodLink RX6 104 yX6_numberOf, Cond.instanceMethod yX6_numberOf, Cond.selects RX6 yX6_numberOf yX6_numberOf]
def wsX6_comes_r3 : List Cond := [Cond.code yX6_numberOf cX6_numberOf 2 (some .int), Cond.methodLink RX6 46 yX6_refuses, Cond.instanceMethod yX6_refuses, Cond.selects RX6 yX6_refuses yX6_refuses, Cond.code yX6_refuses cX6_refuses 2 (some .int), Cond.fieldLink RX6 19 "ShaftHuntModel" "refused" "[I"]
def wsX6_comes : List Cond := .code yX6_comes cX6_comes 4 (some .long) :: ((wsX6_comes_r1 ++ (wsX6_comes_r2 ++ wsX6_comes_r3)) ++ wsX60)
def wsX6_lastOf : List Cond := .code yX6_lastOf cX6_lastOf 4 (some .int) :: ([.methodLink RX6 113 yX6_hasMinute, .static yX6_hasMinute, .initialized RX6, .code yX6_hasMinute cX6_hasMinute 3 (some .boolean)])
def wsX6_times_r1 : List Cond := [Cond.methodLink RX6 127 yX6_isStart, Cond.instanceMethod yX6_isStart, Cond.selects RX6 yX6_isStart yX6_isStart, Cond.initialized RX6, Cond.code yX6_isStart cX6_isStart 3 (some .boolean), Cond.methodLink RX6 65 yX6_isShaft, Cond.instanceMethod yX6_isShaft, Cond.selects RX6 yX6_isShaft yX6_isShaft, Cond.code yX6_isShaft cX6_isShaft 2 (some .boolean), Cond.fieldLink RX6 7 "ShaftHuntModel" "now" "[I", Cond.methodLink RX6 53 yX6_in, Cond.static yX6_in, Cond.code yX6_in cX6_in 3 (some .boolean), Cond.methodLink RX6 46 yX6_refuses, Cond.instanceMethod yX6_refuses, Cond.selects RX6 yX6_refuses yX6_refuses, Cond.code yX6_refuses cX6_refuses 2 (some .int), Cond.fieldLink RX6 19 "ShaftHuntModel" "refused" "[I", Cond.methodLink RX6 130 yX6_comesOf, Cond.instanceMethod yX6_comesOf, Cond.selects RX6 yX6_comesOf yX6_comesOf, Cond.code yX6_comesOf cX6_comesOf 4 (some .long), Cond.fieldLink RX6 22 "ShaftHuntModel" "minutes" "[J", Cond.methodLink RX6 123 yX6_start]
def wsX6_times_r2 : List Cond := [Cond.instanceMethod yX6_start, Cond.selects RX6 yX6_start yX6_start, Cond.code yX6_start cX6_start 5 none, Cond.methodLink RX6 120 yX6_carries, Cond.instanceMethod yX6_carries, Cond.selects RX6 yX6_carries yX6_carries, Cond.code yX6_carries cX6_carries 9 (some .boolean), Cond.methodLink RX6 57 yX6_pipeOf, Cond.instanceMethod yX6_pipeOf, Cond.selects RX6 yX6_pipeOf yX6_pipeOf, Cond.code yX6_pipeOf cX6_pipeOf 3 (some .int), Cond.methodLink RX6 113 yX6_hasMinute, Cond.static yX6_hasMinute, Cond.code yX6_hasMinute cX6_hasMinute 3 (some .boolean), Cond.methodLink RX6 117 yX6_leavesAt, Cond.instanceMethod yX6_leavesAt, Cond.selects RX6 yX6_leavesAt yX6_leavesAt, Cond.code yX6_leavesAt cX6_leavesAt 4 (some .int), Cond.methodLink RX6 101 yX6_kindOf, Cond.instanceMethod yX6_kindOf, Cond.selects RX6 yX6_kindOf yX6_kindOf, Cond.code yX6_kindOf cX6_kindOf 2 (some .int), Cond.methodLink RX6 110 yX6_pumped, Cond.instanceMethod yX6_pumped]
def wsX6_times_r3 : List Cond := [Cond.selects RX6 yX6_pumped yX6_pumped, Cond.code yX6_pumped cX6_pumped 4 (some .int), Cond.methodLink RX6 104 yX6_numberOf, Cond.instanceMethod yX6_numberOf, Cond.selects RX6 yX6_numberOf yX6_numberOf, Cond.code yX6_numberOf cX6_numberOf 2 (some .int), Cond.methodLink RX6 134 yX6_lastOf, Cond.static yX6_lastOf, Cond.code yX6_lastOf cX6_lastOf 4 (some .int)]
def wsX6_times : List Cond := .code yX6_times cX6_times 10 (some .int) :: ((wsX6_times_r1 ++ (wsX6_times_r2 ++ wsX6_times_r3)) ++ wsX60)
def wsX6_leaves_r1 : List Cond := [Cond.methodLink RX6 65 yX6_isShaft, Cond.instanceMethod yX6_isShaft, Cond.selects RX6 yX6_isShaft yX6_isShaft, Cond.initialized RX6, Cond.code yX6_isShaft cX6_isShaft 2 (some .boolean), Cond.fieldLink RX6 7 "ShaftHuntModel" "now" "[I", Cond.methodLink RX6 53 yX6_in, Cond.static yX6_in, Cond.code yX6_in cX6_in 3 (some .boolean), Cond.methodLink RX6 117 yX6_leavesAt, Cond.instanceMethod yX6_leavesAt, Cond.selects RX6 yX6_leavesAt yX6_leavesAt, Cond.code yX6_leavesAt cX6_leavesAt 4 (some .int), Cond.methodLink RX6 101 yX6_kindOf, Cond.instanceMethod yX6_kindOf, Cond.selects RX6 yX6_kindOf yX6_kindOf, Cond.code yX6_kindOf cX6_kindOf 2 (some .int), Cond.methodLink RX6 110 yX6_pumped, Cond.instanceMethod yX6_pumped, Cond.selects RX6 yX6_pumped yX6_pumped, Cond.code yX6_pumped cX6_pumped 4 (some .int), Cond.methodLink RX6 104 yX6_numberOf, Cond.instanceMethod yX6_numberOf, Cond.selects RX6 yX6_numberOf yX6_numberOf]
def wsX6_leaves_r2 : List Cond := [Cond.code yX6_numberOf cX6_numberOf 2 (some .int), Cond.methodLink RX6 46 yX6_refuses, Cond.instanceMethod yX6_refuses, Cond.selects RX6 yX6_refuses yX6_refuses, Cond.code yX6_refuses cX6_refuses 2 (some .int), Cond.fieldLink RX6 19 "ShaftHuntModel" "refused" "[I"]
def wsX6_leaves : List Cond := .code yX6_leaves cX6_leaves 3 (some .int) :: ((wsX6_leaves_r1 ++ wsX6_leaves_r2) ++ wsX60)
def wsX6_isFit_r1 : List Cond := [Cond.fieldLink RX6 7 "ShaftHuntModel" "now" "[I", Cond.fieldLink RX6 22 "ShaftHuntModel" "minutes" "[J", Cond.methodLink RX6 123 yX6_start, Cond.instanceMethod yX6_start, Cond.selects RX6 yX6_start yX6_start, Cond.initialized RX6, Cond.code yX6_start cX6_start 5 none, Cond.methodLink RX6 120 yX6_carries, Cond.instanceMethod yX6_carries, Cond.selects RX6 yX6_carries yX6_carries, Cond.code yX6_carries cX6_carries 9 (some .boolean), Cond.methodLink RX6 57 yX6_pipeOf, Cond.instanceMethod yX6_pipeOf, Cond.selects RX6 yX6_pipeOf yX6_pipeOf, Cond.code yX6_pipeOf cX6_pipeOf 3 (some .int), Cond.methodLink RX6 113 yX6_hasMinute, Cond.static yX6_hasMinute, Cond.code yX6_hasMinute cX6_hasMinute 3 (some .boolean), Cond.methodLink RX6 117 yX6_leavesAt, Cond.instanceMethod yX6_leavesAt, Cond.selects RX6 yX6_leavesAt yX6_leavesAt, Cond.code yX6_leavesAt cX6_leavesAt 4 (some .int), Cond.methodLink RX6 101 yX6_kindOf, Cond.instanceMethod yX6_kindOf]
def wsX6_isFit_r2 : List Cond := [Cond.selects RX6 yX6_kindOf yX6_kindOf, Cond.code yX6_kindOf cX6_kindOf 2 (some .int), Cond.methodLink RX6 110 yX6_pumped, Cond.instanceMethod yX6_pumped, Cond.selects RX6 yX6_pumped yX6_pumped, Cond.code yX6_pumped cX6_pumped 4 (some .int), Cond.methodLink RX6 104 yX6_numberOf, Cond.instanceMethod yX6_numberOf, Cond.selects RX6 yX6_numberOf yX6_numberOf, Cond.code yX6_numberOf cX6_numberOf 2 (some .int), Cond.methodLink RX6 134 yX6_lastOf, Cond.static yX6_lastOf, Cond.code yX6_lastOf cX6_lastOf 4 (some .int)]
def wsX6_isFit : List Cond := .code yX6_isFit cX6_isFit 8 (some .boolean) :: ((wsX6_isFit_r1 ++ wsX6_isFit_r2) ++ wsX60)
def wsX6_fits_r1 : List Cond := [Cond.methodLink RX6 127 yX6_isStart, Cond.instanceMethod yX6_isStart, Cond.selects RX6 yX6_isStart yX6_isStart, Cond.initialized RX6, Cond.code yX6_isStart cX6_isStart 3 (some .boolean), Cond.methodLink RX6 65 yX6_isShaft, Cond.instanceMethod yX6_isShaft, Cond.selects RX6 yX6_isShaft yX6_isShaft, Cond.code yX6_isShaft cX6_isShaft 2 (some .boolean), Cond.fieldLink RX6 7 "ShaftHuntModel" "now" "[I", Cond.methodLink RX6 53 yX6_in, Cond.static yX6_in, Cond.code yX6_in cX6_in 3 (some .boolean), Cond.methodLink RX6 46 yX6_refuses, Cond.instanceMethod yX6_refuses, Cond.selects RX6 yX6_refuses yX6_refuses, Cond.code yX6_refuses cX6_refuses 2 (some .int), Cond.fieldLink RX6 19 "ShaftHuntModel" "refused" "[I", Cond.methodLink RX6 138 yX6_isFit, Cond.instanceMethod yX6_isFit, Cond.selects RX6 yX6_isFit yX6_isFit, Cond.code yX6_isFit cX6_isFit 8 (some .boolean), Cond.fieldLink RX6 22 "ShaftHuntModel" "minutes" "[J", Cond.methodLink RX6 123 yX6_start]
def wsX6_fits_r2 : List Cond := [Cond.instanceMethod yX6_start, Cond.selects RX6 yX6_start yX6_start, Cond.code yX6_start cX6_start 5 none, Cond.methodLink RX6 120 yX6_carries, Cond.instanceMethod yX6_carries, Cond.selects RX6 yX6_carries yX6_carries, Cond.code yX6_carries cX6_carries 9 (some .boolean), Cond.methodLink RX6 57 yX6_pipeOf, Cond.instanceMethod yX6_pipeOf, Cond.selects RX6 yX6_pipeOf yX6_pipeOf, Cond.code yX6_pipeOf cX6_pipeOf 3 (some .int), Cond.methodLink RX6 113 yX6_hasMinute, Cond.static yX6_hasMinute, Cond.code yX6_hasMinute cX6_hasMinute 3 (some .boolean), Cond.methodLink RX6 117 yX6_leavesAt, Cond.instanceMethod yX6_leavesAt, Cond.selects RX6 yX6_leavesAt yX6_leavesAt, Cond.code yX6_leavesAt cX6_leavesAt 4 (some .int), Cond.methodLink RX6 101 yX6_kindOf, Cond.instanceMethod yX6_kindOf, Cond.selects RX6 yX6_kindOf yX6_kindOf, Cond.code yX6_kindOf cX6_kindOf 2 (some .int), Cond.methodLink RX6 110 yX6_pumped, Cond.instanceMethod yX6_pumped]
def wsX6_fits_r3 : List Cond := [Cond.selects RX6 yX6_pumped yX6_pumped, Cond.code yX6_pumped cX6_pumped 4 (some .int), Cond.methodLink RX6 104 yX6_numberOf, Cond.instanceMethod yX6_numberOf, Cond.selects RX6 yX6_numberOf yX6_numberOf, Cond.code yX6_numberOf cX6_numberOf 2 (some .int), Cond.methodLink RX6 134 yX6_lastOf, Cond.static yX6_lastOf, Cond.code yX6_lastOf cX6_lastOf 4 (some .int)]
def wsX6_fits : List Cond := .code yX6_fits cX6_fits 3 (some .int) :: ((wsX6_fits_r1 ++ (wsX6_fits_r2 ++ wsX6_fits_r3)) ++ wsX60)
def wsX6_whenOf_r1 : List Cond := [Cond.methodLink RX6 138 yX6_isFit, Cond.instanceMethod yX6_isFit, Cond.selects RX6 yX6_isFit yX6_isFit, Cond.initialized RX6, Cond.code yX6_isFit cX6_isFit 8 (some .boolean), Cond.fieldLink RX6 7 "ShaftHuntModel" "now" "[I", Cond.fieldLink RX6 22 "ShaftHuntModel" "minutes" "[J", Cond.methodLink RX6 123 yX6_start, Cond.instanceMethod yX6_start, Cond.selects RX6 yX6_start yX6_start, Cond.code yX6_start cX6_start 5 none, Cond.methodLink RX6 120 yX6_carries, Cond.instanceMethod yX6_carries, Cond.selects RX6 yX6_carries yX6_carries, Cond.code yX6_carries cX6_carries 9 (some .boolean), Cond.methodLink RX6 57 yX6_pipeOf, Cond.instanceMethod yX6_pipeOf, Cond.selects RX6 yX6_pipeOf yX6_pipeOf, Cond.code yX6_pipeOf cX6_pipeOf 3 (some .int), Cond.methodLink RX6 113 yX6_hasMinute, Cond.static yX6_hasMinute, Cond.code yX6_hasMinute cX6_hasMinute 3 (some .boolean), Cond.methodLink RX6 117 yX6_leavesAt, Cond.instanceMethod yX6_leavesAt]
def wsX6_whenOf_r2 : List Cond := [Cond.selects RX6 yX6_leavesAt yX6_leavesAt, Cond.code yX6_leavesAt cX6_leavesAt 4 (some .int), Cond.methodLink RX6 101 yX6_kindOf, Cond.instanceMethod yX6_kindOf, Cond.selects RX6 yX6_kindOf yX6_kindOf, Cond.code yX6_kindOf cX6_kindOf 2 (some .int), Cond.methodLink RX6 110 yX6_pumped, Cond.instanceMethod yX6_pumped, Cond.selects RX6 yX6_pumped yX6_pumped, Cond.code yX6_pumped cX6_pumped 4 (some .int), Cond.methodLink RX6 104 yX6_numberOf, Cond.instanceMethod yX6_numberOf, Cond.selects RX6 yX6_numberOf yX6_numberOf, Cond.code yX6_numberOf cX6_numberOf 2 (some .int), Cond.methodLink RX6 134 yX6_lastOf, Cond.static yX6_lastOf, Cond.code yX6_lastOf cX6_lastOf 4 (some .int)]
def wsX6_whenOf : List Cond := .code yX6_whenOf cX6_whenOf 4 (some .int) :: ((wsX6_whenOf_r1 ++ wsX6_whenOf_r2) ++ wsX60)
def wsX6_when_r1 : List Cond := [Cond.methodLink RX6 65 yX6_isShaft, Cond.instanceMethod yX6_isShaft, Cond.selects RX6 yX6_isShaft yX6_isShaft, Cond.initialized RX6, Cond.code yX6_isShaft cX6_isShaft 2 (some .boolean), Cond.fieldLink RX6 7 "ShaftHuntModel" "now" "[I", Cond.methodLink RX6 53 yX6_in, Cond.static yX6_in, Cond.code yX6_in cX6_in 3 (some .boolean), Cond.methodLink RX6 141 yX6_whenOf, Cond.instanceMethod yX6_whenOf, Cond.selects RX6 yX6_whenOf yX6_whenOf, Cond.code yX6_whenOf cX6_whenOf 4 (some .int), Cond.methodLink RX6 138 yX6_isFit, Cond.instanceMethod yX6_isFit, Cond.selects RX6 yX6_isFit yX6_isFit, Cond.code yX6_isFit cX6_isFit 8 (some .boolean), Cond.fieldLink RX6 22 "ShaftHuntModel" "minutes" "[J", Cond.methodLink RX6 123 yX6_start, Cond.instanceMethod yX6_start, Cond.selects RX6 yX6_start yX6_start, Cond.code yX6_start cX6_start 5 none, Cond.methodLink RX6 120 yX6_carries, Cond.instanceMethod yX6_carries]
def wsX6_when_r2 : List Cond := [Cond.selects RX6 yX6_carries yX6_carries, Cond.code yX6_carries cX6_carries 9 (some .boolean), Cond.methodLink RX6 57 yX6_pipeOf, Cond.instanceMethod yX6_pipeOf, Cond.selects RX6 yX6_pipeOf yX6_pipeOf, Cond.code yX6_pipeOf cX6_pipeOf 3 (some .int), Cond.methodLink RX6 113 yX6_hasMinute, Cond.static yX6_hasMinute, Cond.code yX6_hasMinute cX6_hasMinute 3 (some .boolean), Cond.methodLink RX6 117 yX6_leavesAt, Cond.instanceMethod yX6_leavesAt, Cond.selects RX6 yX6_leavesAt yX6_leavesAt, Cond.code yX6_leavesAt cX6_leavesAt 4 (some .int), Cond.methodLink RX6 101 yX6_kindOf, Cond.instanceMethod yX6_kindOf, Cond.selects RX6 yX6_kindOf yX6_kindOf, Cond.code yX6_kindOf cX6_kindOf 2 (some .int), Cond.methodLink RX6 110 yX6_pumped, Cond.instanceMethod yX6_pumped, Cond.selects RX6 yX6_pumped yX6_pumped, Cond.code yX6_pumped cX6_pumped 4 (some .int), Cond.methodLink RX6 104 yX6_numberOf, Cond.instanceMethod yX6_numberOf, Cond.selects RX6 yX6_numberOf yX6_numberOf]
def wsX6_when_r3 : List Cond := [Cond.code yX6_numberOf cX6_numberOf 2 (some .int), Cond.methodLink RX6 134 yX6_lastOf, Cond.static yX6_lastOf, Cond.code yX6_lastOf cX6_lastOf 4 (some .int), Cond.methodLink RX6 46 yX6_refuses, Cond.instanceMethod yX6_refuses, Cond.selects RX6 yX6_refuses yX6_refuses, Cond.code yX6_refuses cX6_refuses 2 (some .int), Cond.fieldLink RX6 19 "ShaftHuntModel" "refused" "[I"]
def wsX6_when : List Cond := .code yX6_when cX6_when 2 (some .int) :: ((wsX6_when_r1 ++ (wsX6_when_r2 ++ wsX6_when_r3)) ++ wsX60)
def wsX6_suspectsNow_r1 : List Cond := [Cond.fieldLink RX6 7 "ShaftHuntModel" "now" "[I", Cond.methodLink RX6 141 yX6_whenOf, Cond.instanceMethod yX6_whenOf, Cond.selects RX6 yX6_whenOf yX6_whenOf, Cond.initialized RX6, Cond.code yX6_whenOf cX6_whenOf 4 (some .int), Cond.methodLink RX6 138 yX6_isFit, Cond.instanceMethod yX6_isFit, Cond.selects RX6 yX6_isFit yX6_isFit, Cond.code yX6_isFit cX6_isFit 8 (some .boolean), Cond.fieldLink RX6 22 "ShaftHuntModel" "minutes" "[J", Cond.methodLink RX6 123 yX6_start, Cond.instanceMethod yX6_start, Cond.selects RX6 yX6_start yX6_start, Cond.code yX6_start cX6_start 5 none, Cond.methodLink RX6 120 yX6_carries, Cond.instanceMethod yX6_carries, Cond.selects RX6 yX6_carries yX6_carries, Cond.code yX6_carries cX6_carries 9 (some .boolean), Cond.methodLink RX6 57 yX6_pipeOf, Cond.instanceMethod yX6_pipeOf, Cond.selects RX6 yX6_pipeOf yX6_pipeOf, Cond.code yX6_pipeOf cX6_pipeOf 3 (some .int), Cond.methodLink RX6 113 yX6_hasMinute]
def wsX6_suspectsNow_r2 : List Cond := [Cond.static yX6_hasMinute, Cond.code yX6_hasMinute cX6_hasMinute 3 (some .boolean), Cond.methodLink RX6 117 yX6_leavesAt, Cond.instanceMethod yX6_leavesAt, Cond.selects RX6 yX6_leavesAt yX6_leavesAt, Cond.code yX6_leavesAt cX6_leavesAt 4 (some .int), Cond.methodLink RX6 101 yX6_kindOf, Cond.instanceMethod yX6_kindOf, Cond.selects RX6 yX6_kindOf yX6_kindOf, Cond.code yX6_kindOf cX6_kindOf 2 (some .int), Cond.methodLink RX6 110 yX6_pumped, Cond.instanceMethod yX6_pumped, Cond.selects RX6 yX6_pumped yX6_pumped, Cond.code yX6_pumped cX6_pumped 4 (some .int), Cond.methodLink RX6 104 yX6_numberOf, Cond.instanceMethod yX6_numberOf, Cond.selects RX6 yX6_numberOf yX6_numberOf, Cond.code yX6_numberOf cX6_numberOf 2 (some .int), Cond.methodLink RX6 134 yX6_lastOf, Cond.static yX6_lastOf, Cond.code yX6_lastOf cX6_lastOf 4 (some .int)]
def wsX6_suspectsNow : List Cond := .code yX6_suspectsNow cX6_suspectsNow 3 (some .int) :: ((wsX6_suspectsNow_r1 ++ wsX6_suspectsNow_r2) ++ wsX60)
def wsX6_suspects_r1 : List Cond := [Cond.methodLink RX6 144 yX6_suspectsNow, Cond.instanceMethod yX6_suspectsNow, Cond.selects RX6 yX6_suspectsNow yX6_suspectsNow, Cond.initialized RX6, Cond.code yX6_suspectsNow cX6_suspectsNow 3 (some .int), Cond.fieldLink RX6 7 "ShaftHuntModel" "now" "[I", Cond.methodLink RX6 141 yX6_whenOf, Cond.instanceMethod yX6_whenOf, Cond.selects RX6 yX6_whenOf yX6_whenOf, Cond.code yX6_whenOf cX6_whenOf 4 (some .int), Cond.methodLink RX6 138 yX6_isFit, Cond.instanceMethod yX6_isFit, Cond.selects RX6 yX6_isFit yX6_isFit, Cond.code yX6_isFit cX6_isFit 8 (some .boolean), Cond.fieldLink RX6 22 "ShaftHuntModel" "minutes" "[J", Cond.methodLink RX6 123 yX6_start, Cond.instanceMethod yX6_start, Cond.selects RX6 yX6_start yX6_start, Cond.code yX6_start cX6_start 5 none, Cond.methodLink RX6 120 yX6_carries, Cond.instanceMethod yX6_carries, Cond.selects RX6 yX6_carries yX6_carries, Cond.code yX6_carries cX6_carries 9 (some .boolean), Cond.methodLink RX6 57 yX6_pipeOf]
def wsX6_suspects_r2 : List Cond := [Cond.instanceMethod yX6_pipeOf, Cond.selects RX6 yX6_pipeOf yX6_pipeOf, Cond.code yX6_pipeOf cX6_pipeOf 3 (some .int), Cond.methodLink RX6 113 yX6_hasMinute, Cond.static yX6_hasMinute, Cond.code yX6_hasMinute cX6_hasMinute 3 (some .boolean), Cond.methodLink RX6 117 yX6_leavesAt, Cond.instanceMethod yX6_leavesAt, Cond.selects RX6 yX6_leavesAt yX6_leavesAt, Cond.code yX6_leavesAt cX6_leavesAt 4 (some .int), Cond.methodLink RX6 101 yX6_kindOf, Cond.instanceMethod yX6_kindOf, Cond.selects RX6 yX6_kindOf yX6_kindOf, Cond.code yX6_kindOf cX6_kindOf 2 (some .int), Cond.methodLink RX6 110 yX6_pumped, Cond.instanceMethod yX6_pumped, Cond.selects RX6 yX6_pumped yX6_pumped, Cond.code yX6_pumped cX6_pumped 4 (some .int), Cond.methodLink RX6 104 yX6_numberOf, Cond.instanceMethod yX6_numberOf, Cond.selects RX6 yX6_numberOf yX6_numberOf, Cond.code yX6_numberOf cX6_numberOf 2 (some .int), Cond.methodLink RX6 134 yX6_lastOf, Cond.static yX6_lastOf]
def wsX6_suspects_r3 : List Cond := [Cond.code yX6_lastOf cX6_lastOf 4 (some .int)]
def wsX6_suspects : List Cond := .code yX6_suspects cX6_suspects 1 (some .int) :: ((wsX6_suspects_r1 ++ (wsX6_suspects_r2 ++ wsX6_suspects_r3)) ++ wsX60)
def wsX6_nextOf_r1 : List Cond := [Cond.fieldLink RX6 7 "ShaftHuntModel" "now" "[I", Cond.methodLink RX6 144 yX6_suspectsNow, Cond.instanceMethod yX6_suspectsNow, Cond.selects RX6 yX6_suspectsNow yX6_suspectsNow, Cond.initialized RX6, Cond.code yX6_suspectsNow cX6_suspectsNow 3 (some .int), Cond.methodLink RX6 141 yX6_whenOf, Cond.instanceMethod yX6_whenOf, Cond.selects RX6 yX6_whenOf yX6_whenOf, Cond.code yX6_whenOf cX6_whenOf 4 (some .int), Cond.methodLink RX6 138 yX6_isFit, Cond.instanceMethod yX6_isFit, Cond.selects RX6 yX6_isFit yX6_isFit, Cond.code yX6_isFit cX6_isFit 8 (some .boolean), Cond.fieldLink RX6 22 "ShaftHuntModel" "minutes" "[J", Cond.methodLink RX6 123 yX6_start, Cond.instanceMethod yX6_start, Cond.selects RX6 yX6_start yX6_start, Cond.code yX6_start cX6_start 5 none, Cond.methodLink RX6 120 yX6_carries, Cond.instanceMethod yX6_carries, Cond.selects RX6 yX6_carries yX6_carries, Cond.code yX6_carries cX6_carries 9 (some .boolean), Cond.methodLink RX6 57 yX6_pipeOf]
def wsX6_nextOf_r2 : List Cond := [Cond.instanceMethod yX6_pipeOf, Cond.selects RX6 yX6_pipeOf yX6_pipeOf, Cond.code yX6_pipeOf cX6_pipeOf 3 (some .int), Cond.methodLink RX6 113 yX6_hasMinute, Cond.static yX6_hasMinute, Cond.code yX6_hasMinute cX6_hasMinute 3 (some .boolean), Cond.methodLink RX6 117 yX6_leavesAt, Cond.instanceMethod yX6_leavesAt, Cond.selects RX6 yX6_leavesAt yX6_leavesAt, Cond.code yX6_leavesAt cX6_leavesAt 4 (some .int), Cond.methodLink RX6 101 yX6_kindOf, Cond.instanceMethod yX6_kindOf, Cond.selects RX6 yX6_kindOf yX6_kindOf, Cond.code yX6_kindOf cX6_kindOf 2 (some .int), Cond.methodLink RX6 110 yX6_pumped, Cond.instanceMethod yX6_pumped, Cond.selects RX6 yX6_pumped yX6_pumped, Cond.code yX6_pumped cX6_pumped 4 (some .int), Cond.methodLink RX6 104 yX6_numberOf, Cond.instanceMethod yX6_numberOf, Cond.selects RX6 yX6_numberOf yX6_numberOf, Cond.code yX6_numberOf cX6_numberOf 2 (some .int), Cond.methodLink RX6 134 yX6_lastOf, Cond.static yX6_lastOf]
def wsX6_nextOf_r3 : List Cond := [Cond.code yX6_lastOf cX6_lastOf 4 (some .int), Cond.methodLink RX6 42 yX6_has, Cond.static yX6_has, Cond.code yX6_has cX6_has 2 (some .boolean), Cond.methodLink RX6 68 yX6_below, Cond.instanceMethod yX6_below, Cond.selects RX6 yX6_below yX6_below, Cond.code yX6_below cX6_below 5 (some .int), Cond.methodLink RX6 147 yX6_ones, Cond.static yX6_ones, Cond.code yX6_ones cX6_ones 3 (some .int)]
def wsX6_nextOf : List Cond := .code yX6_nextOf cX6_nextOf 9 (some .int) :: ((wsX6_nextOf_r1 ++ (wsX6_nextOf_r2 ++ wsX6_nextOf_r3)) ++ wsX60)
def wsX6_next_r1 : List Cond := [Cond.methodLink RX6 53 yX6_in, Cond.static yX6_in, Cond.initialized RX6, Cond.code yX6_in cX6_in 3 (some .boolean), Cond.methodLink RX6 150 yX6_nextOf, Cond.instanceMethod yX6_nextOf, Cond.selects RX6 yX6_nextOf yX6_nextOf, Cond.code yX6_nextOf cX6_nextOf 9 (some .int), Cond.fieldLink RX6 7 "ShaftHuntModel" "now" "[I", Cond.methodLink RX6 144 yX6_suspectsNow, Cond.instanceMethod yX6_suspectsNow, Cond.selects RX6 yX6_suspectsNow yX6_suspectsNow, Cond.code yX6_suspectsNow cX6_suspectsNow 3 (some .int), Cond.methodLink RX6 141 yX6_whenOf, Cond.instanceMethod yX6_whenOf, Cond.selects RX6 yX6_whenOf yX6_whenOf, Cond.code yX6_whenOf cX6_whenOf 4 (some .int), Cond.methodLink RX6 138 yX6_isFit, Cond.instanceMethod yX6_isFit, Cond.selects RX6 yX6_isFit yX6_isFit, Cond.code yX6_isFit cX6_isFit 8 (some .boolean), Cond.fieldLink RX6 22 "ShaftHuntModel" "minutes" "[J", Cond.methodLink RX6 123 yX6_start, Cond.instanceMethod yX6_start]
def wsX6_next_r2 : List Cond := [Cond.selects RX6 yX6_start yX6_start, Cond.code yX6_start cX6_start 5 none, Cond.methodLink RX6 120 yX6_carries, Cond.instanceMethod yX6_carries, Cond.selects RX6 yX6_carries yX6_carries, Cond.code yX6_carries cX6_carries 9 (some .boolean), Cond.methodLink RX6 57 yX6_pipeOf, Cond.instanceMethod yX6_pipeOf, Cond.selects RX6 yX6_pipeOf yX6_pipeOf, Cond.code yX6_pipeOf cX6_pipeOf 3 (some .int), Cond.methodLink RX6 113 yX6_hasMinute, Cond.static yX6_hasMinute, Cond.code yX6_hasMinute cX6_hasMinute 3 (some .boolean), Cond.methodLink RX6 117 yX6_leavesAt, Cond.instanceMethod yX6_leavesAt, Cond.selects RX6 yX6_leavesAt yX6_leavesAt, Cond.code yX6_leavesAt cX6_leavesAt 4 (some .int), Cond.methodLink RX6 101 yX6_kindOf, Cond.instanceMethod yX6_kindOf, Cond.selects RX6 yX6_kindOf yX6_kindOf, Cond.code yX6_kindOf cX6_kindOf 2 (some .int), Cond.methodLink RX6 110 yX6_pumped, Cond.instanceMethod yX6_pumped, Cond.selects RX6 yX6_pumped yX6_pumped]
def wsX6_next_r3 : List Cond := [Cond.code yX6_pumped cX6_pumped 4 (some .int), Cond.methodLink RX6 104 yX6_numberOf, Cond.instanceMethod yX6_numberOf, Cond.selects RX6 yX6_numberOf yX6_numberOf, Cond.code yX6_numberOf cX6_numberOf 2 (some .int), Cond.methodLink RX6 134 yX6_lastOf, Cond.static yX6_lastOf, Cond.code yX6_lastOf cX6_lastOf 4 (some .int), Cond.methodLink RX6 42 yX6_has, Cond.static yX6_has, Cond.code yX6_has cX6_has 2 (some .boolean), Cond.methodLink RX6 68 yX6_below, Cond.instanceMethod yX6_below, Cond.selects RX6 yX6_below yX6_below, Cond.code yX6_below cX6_below 5 (some .int), Cond.methodLink RX6 147 yX6_ones, Cond.static yX6_ones, Cond.code yX6_ones cX6_ones 3 (some .int), Cond.methodLink RX6 46 yX6_refuses, Cond.instanceMethod yX6_refuses, Cond.selects RX6 yX6_refuses yX6_refuses, Cond.code yX6_refuses cX6_refuses 2 (some .int), Cond.fieldLink RX6 19 "ShaftHuntModel" "refused" "[I"]
def wsX6_next : List Cond := .code yX6_next cX6_next 2 (some .int) :: ((wsX6_next_r1 ++ (wsX6_next_r2 ++ wsX6_next_r3)) ++ wsX60)
def wsX6_findBelows : List Cond := .code yX6_findBelows cX6_findBelows 2 none :: ([.fieldLink RX6 7 "ShaftHuntModel" "now" "[I", .fieldLink RX6 26 "ShaftHuntModel" "belows" "[I", .methodLink RX6 68 yX6_below, .instanceMethod yX6_below, .selects RX6 yX6_below yX6_below, .initialized RX6, .code yX6_below cX6_below 5 (some .int), .methodLink RX6 57 yX6_pipeOf, .instanceMethod yX6_pipeOf, .selects RX6 yX6_pipeOf yX6_pipeOf, .code yX6_pipeOf cX6_pipeOf 3 (some .int), .methodLink RX6 42 yX6_has, .static yX6_has, .code yX6_has cX6_has 2 (some .boolean)] ++ wsX60)
def wsX6_alikeBy : List Cond := .code yX6_alikeBy cX6_alikeBy 5 (some .int) :: ([.fieldLink RX6 7 "ShaftHuntModel" "now" "[I", .fieldLink RX6 26 "ShaftHuntModel" "belows" "[I"] ++ wsX60)
def wsX6_alike_r1 : List Cond := [Cond.fieldLink RX6 7 "ShaftHuntModel" "now" "[I", Cond.methodLink RX6 53 yX6_in, Cond.static yX6_in, Cond.initialized RX6, Cond.code yX6_in cX6_in 3 (some .boolean), Cond.methodLink RX6 46 yX6_refuses, Cond.instanceMethod yX6_refuses, Cond.selects RX6 yX6_refuses yX6_refuses, Cond.code yX6_refuses cX6_refuses 2 (some .int), Cond.fieldLink RX6 19 "ShaftHuntModel" "refused" "[I", Cond.methodLink RX6 153 yX6_findBelows, Cond.instanceMethod yX6_findBelows, Cond.selects RX6 yX6_findBelows yX6_findBelows, Cond.code yX6_findBelows cX6_findBelows 2 none, Cond.fieldLink RX6 26 "ShaftHuntModel" "belows" "[I", Cond.methodLink RX6 68 yX6_below, Cond.instanceMethod yX6_below, Cond.selects RX6 yX6_below yX6_below, Cond.code yX6_below cX6_below 5 (some .int), Cond.methodLink RX6 57 yX6_pipeOf, Cond.instanceMethod yX6_pipeOf, Cond.selects RX6 yX6_pipeOf yX6_pipeOf, Cond.code yX6_pipeOf cX6_pipeOf 3 (some .int), Cond.methodLink RX6 42 yX6_has]
def wsX6_alike_r2 : List Cond := [Cond.static yX6_has, Cond.code yX6_has cX6_has 2 (some .boolean), Cond.methodLink RX6 156 yX6_alikeBy, Cond.instanceMethod yX6_alikeBy, Cond.selects RX6 yX6_alikeBy yX6_alikeBy, Cond.code yX6_alikeBy cX6_alikeBy 5 (some .int)]
def wsX6_alike : List Cond := .code yX6_alike cX6_alike 2 (some .int) :: ((wsX6_alike_r1 ++ wsX6_alike_r2) ++ wsX60)
def wsX6_sensorsOf_r1 : List Cond := [Cond.fieldLink RX6 7 "ShaftHuntModel" "now" "[I", Cond.methodLink RX6 153 yX6_findBelows, Cond.instanceMethod yX6_findBelows, Cond.selects RX6 yX6_findBelows yX6_findBelows, Cond.initialized RX6, Cond.code yX6_findBelows cX6_findBelows 2 none, Cond.fieldLink RX6 26 "ShaftHuntModel" "belows" "[I", Cond.methodLink RX6 68 yX6_below, Cond.instanceMethod yX6_below, Cond.selects RX6 yX6_below yX6_below, Cond.code yX6_below cX6_below 5 (some .int), Cond.methodLink RX6 57 yX6_pipeOf, Cond.instanceMethod yX6_pipeOf, Cond.selects RX6 yX6_pipeOf yX6_pipeOf, Cond.code yX6_pipeOf cX6_pipeOf 3 (some .int), Cond.methodLink RX6 42 yX6_has, Cond.static yX6_has, Cond.code yX6_has cX6_has 2 (some .boolean), Cond.methodLink RX6 147 yX6_ones, Cond.static yX6_ones, Cond.code yX6_ones cX6_ones 3 (some .int), Cond.methodLink RX6 156 yX6_alikeBy, Cond.instanceMethod yX6_alikeBy, Cond.selects RX6 yX6_alikeBy yX6_alikeBy]
def wsX6_sensorsOf_r2 : List Cond := [Cond.code yX6_alikeBy cX6_alikeBy 5 (some .int)]
def wsX6_sensorsOf : List Cond := .code yX6_sensorsOf cX6_sensorsOf 5 (some .int) :: ((wsX6_sensorsOf_r1 ++ wsX6_sensorsOf_r2) ++ wsX60)
def wsX6_sensors_r1 : List Cond := [Cond.methodLink RX6 53 yX6_in, Cond.static yX6_in, Cond.initialized RX6, Cond.code yX6_in cX6_in 3 (some .boolean), Cond.methodLink RX6 159 yX6_sensorsOf, Cond.instanceMethod yX6_sensorsOf, Cond.selects RX6 yX6_sensorsOf yX6_sensorsOf, Cond.code yX6_sensorsOf cX6_sensorsOf 5 (some .int), Cond.fieldLink RX6 7 "ShaftHuntModel" "now" "[I", Cond.methodLink RX6 153 yX6_findBelows, Cond.instanceMethod yX6_findBelows, Cond.selects RX6 yX6_findBelows yX6_findBelows, Cond.code yX6_findBelows cX6_findBelows 2 none, Cond.fieldLink RX6 26 "ShaftHuntModel" "belows" "[I", Cond.methodLink RX6 68 yX6_below, Cond.instanceMethod yX6_below, Cond.selects RX6 yX6_below yX6_below, Cond.code yX6_below cX6_below 5 (some .int), Cond.methodLink RX6 57 yX6_pipeOf, Cond.instanceMethod yX6_pipeOf, Cond.selects RX6 yX6_pipeOf yX6_pipeOf, Cond.code yX6_pipeOf cX6_pipeOf 3 (some .int), Cond.methodLink RX6 42 yX6_has, Cond.static yX6_has]
def wsX6_sensors_r2 : List Cond := [Cond.code yX6_has cX6_has 2 (some .boolean), Cond.methodLink RX6 147 yX6_ones, Cond.static yX6_ones, Cond.code yX6_ones cX6_ones 3 (some .int), Cond.methodLink RX6 156 yX6_alikeBy, Cond.instanceMethod yX6_alikeBy, Cond.selects RX6 yX6_alikeBy yX6_alikeBy, Cond.code yX6_alikeBy cX6_alikeBy 5 (some .int), Cond.methodLink RX6 46 yX6_refuses, Cond.instanceMethod yX6_refuses, Cond.selects RX6 yX6_refuses yX6_refuses, Cond.code yX6_refuses cX6_refuses 2 (some .int), Cond.fieldLink RX6 19 "ShaftHuntModel" "refused" "[I"]
def wsX6_sensors : List Cond := .code yX6_sensors cX6_sensors 2 (some .int) :: ((wsX6_sensors_r1 ++ wsX6_sensors_r2) ++ wsX60)
def wsX6_type : List Cond := .code yX6_type cX6_type 2 (some .int) :: ([.fieldLink RX6 162 "ShaftHuntModel" "typed" "I", .fieldLink RX6 29 "ShaftHuntModel" "text" "[I", .methodLink RX6 53 yX6_in, .static yX6_in, .initialized RX6, .code yX6_in cX6_in 3 (some .boolean), .methodLink RX6 46 yX6_refuses, .instanceMethod yX6_refuses, .selects RX6 yX6_refuses yX6_refuses, .code yX6_refuses cX6_refuses 2 (some .int), .fieldLink RX6 19 "ShaftHuntModel" "refused" "[I"] ++ wsX60)
def wsX6_clear : List Cond := .code yX6_clear cX6_clear 2 (some .int) :: ([.fieldLink RX6 162 "ShaftHuntModel" "typed" "I"] ++ wsX60)
def wsX6_here : List Cond := .code yX6_here cX6_here 1 (some .int) :: ([.fieldLink RX6 165 "ShaftHuntModel" "at" "I", .fieldLink RX6 162 "ShaftHuntModel" "typed" "I", .fieldLink RX6 29 "ShaftHuntModel" "text" "[I"] ++ wsX60)
def wsX6_must : List Cond := .code yX6_must cX6_must 2 none :: ([.fieldLink RX6 168 "ShaftHuntModel" "fault" "I", .fieldLink RX6 165 "ShaftHuntModel" "at" "I"] ++ wsX60)
def wsX6_isFigure : List Cond := .code yX6_isFigure cX6_isFigure 1 (some .boolean) :: ([.fieldLink RX6 165 "ShaftHuntModel" "at" "I", .fieldLink RX6 162 "ShaftHuntModel" "typed" "I", .fieldLink RX6 29 "ShaftHuntModel" "text" "[I", .methodLink RX6 53 yX6_in, .static yX6_in, .initialized RX6, .code yX6_in cX6_in 3 (some .boolean)] ++ wsX60)
def wsX6_number : List Cond := .code yX6_number cX6_number 2 (some .int) :: ([.fieldLink RX6 168 "ShaftHuntModel" "fault" "I", .fieldLink RX6 29 "ShaftHuntModel" "text" "[I", .fieldLink RX6 165 "ShaftHuntModel" "at" "I", .methodLink RX6 171 yX6_here, .instanceMethod yX6_here, .selects RX6 yX6_here yX6_here, .initialized RX6, .code yX6_here cX6_here 1 (some .int), .fieldLink RX6 162 "ShaftHuntModel" "typed" "I", .methodLink RX6 53 yX6_in, .static yX6_in, .code yX6_in cX6_in 3 (some .boolean), .methodLink RX6 174 yX6_must, .instanceMethod yX6_must, .selects RX6 yX6_must yX6_must, .code yX6_must cX6_must 2 none, .methodLink RX6 178 yX6_isFigure, .instanceMethod yX6_isFigure, .selects RX6 yX6_isFigure yX6_isFigure, .code yX6_isFigure cX6_isFigure 1 (some .boolean)] ++ wsX60)
def wsX6_numbersOf : List Cond := .code yX6_numbersOf cX6_numbersOf 1 (some .int) :: ([])
def wsX6_readOrder_r1 : List Cond := [Cond.fieldLink RX6 168 "ShaftHuntModel" "fault" "I", Cond.fieldLink RX6 35 "ShaftHuntModel" "numbers" "[I", Cond.fieldLink RX6 185 "ShaftHuntModel" "orders" "I", Cond.fieldLink RX6 32 "ShaftHuntModel" "letters" "[I", Cond.methodLink RX6 171 yX6_here, Cond.instanceMethod yX6_here, Cond.selects RX6 yX6_here yX6_here, Cond.initialized RX6, Cond.code yX6_here cX6_here 1 (some .int), Cond.fieldLink RX6 165 "ShaftHuntModel" "at" "I", Cond.fieldLink RX6 162 "ShaftHuntModel" "typed" "I", Cond.fieldLink RX6 29 "ShaftHuntModel" "text" "[I", Cond.methodLink RX6 182 yX6_numbersOf, Cond.static yX6_numbersOf, Cond.code yX6_numbersOf cX6_numbersOf 1 (some .int), Cond.methodLink RX6 174 yX6_must, Cond.instanceMethod yX6_must, Cond.selects RX6 yX6_must yX6_must, Cond.code yX6_must cX6_must 2 none, Cond.methodLink RX6 188 yX6_number, Cond.instanceMethod yX6_number, Cond.selects RX6 yX6_number yX6_number, Cond.code yX6_number cX6_number 2 (some .int), Cond.methodLink RX6 53 yX6_in]
def wsX6_readOrder_r2 : List Cond := [Cond.static yX6_in, Cond.code yX6_in cX6_in 3 (some .boolean), Cond.methodLink RX6 178 yX6_isFigure, Cond.instanceMethod yX6_isFigure, Cond.selects RX6 yX6_isFigure yX6_isFigure, Cond.code yX6_isFigure cX6_isFigure 1 (some .boolean)]
def wsX6_readOrder : List Cond := .code yX6_readOrder cX6_readOrder 4 none :: ((wsX6_readOrder_r1 ++ wsX6_readOrder_r2) ++ wsX60)
def wsX6_doOrder_r1 : List Cond := [Cond.fieldLink RX6 35 "ShaftHuntModel" "numbers" "[I", Cond.fieldLink RX6 32 "ShaftHuntModel" "letters" "[I", Cond.methodLink RX6 77 yX6_doShaft, Cond.instanceMethod yX6_doShaft, Cond.selects RX6 yX6_doShaft yX6_doShaft, Cond.initialized RX6, Cond.code yX6_doShaft cX6_doShaft 4 (some .int), Cond.fieldLink RX6 7 "ShaftHuntModel" "now" "[I", Cond.methodLink RX6 61 yX6_isKind, Cond.static yX6_isKind, Cond.code yX6_isKind cX6_isKind 1 (some .boolean), Cond.methodLink RX6 53 yX6_in, Cond.static yX6_in, Cond.code yX6_in cX6_in 3 (some .boolean), Cond.methodLink RX6 87 yX6_doPipe, Cond.instanceMethod yX6_doPipe, Cond.selects RX6 yX6_doPipe yX6_doPipe, Cond.code yX6_doPipe cX6_doPipe 6 (some .int), Cond.methodLink RX6 65 yX6_isShaft, Cond.instanceMethod yX6_isShaft, Cond.selects RX6 yX6_isShaft yX6_isShaft, Cond.code yX6_isShaft cX6_isShaft 2 (some .boolean), Cond.methodLink RX6 68 yX6_below, Cond.instanceMethod yX6_below]
def wsX6_doOrder_r2 : List Cond := [Cond.selects RX6 yX6_below yX6_below, Cond.code yX6_below cX6_below 5 (some .int), Cond.methodLink RX6 57 yX6_pipeOf, Cond.instanceMethod yX6_pipeOf, Cond.selects RX6 yX6_pipeOf yX6_pipeOf, Cond.code yX6_pipeOf cX6_pipeOf 3 (some .int), Cond.methodLink RX6 42 yX6_has, Cond.static yX6_has, Cond.code yX6_has cX6_has 2 (some .boolean), Cond.methodLink RX6 94 yX6_doSight, Cond.instanceMethod yX6_doSight, Cond.selects RX6 yX6_doSight yX6_doSight, Cond.code yX6_doSight cX6_doSight 5 (some .int), Cond.methodLink RX6 91 yX6_doDrops, Cond.instanceMethod yX6_doDrops, Cond.selects RX6 yX6_doDrops yX6_doDrops, Cond.code yX6_doDrops cX6_doDrops 3 (some .int), Cond.methodLink RX6 71 yX6_isPipe, Cond.instanceMethod yX6_isPipe, Cond.selects RX6 yX6_isPipe yX6_isPipe, Cond.code yX6_isPipe cX6_isPipe 2 (some .boolean)]
def wsX6_doOrder : List Cond := .code yX6_doOrder cX6_doOrder 4 (some .int) :: ((wsX6_doOrder_r1 ++ wsX6_doOrder_r2) ++ wsX60)
def wsX6_reads_r1 : List Cond := [Cond.fieldLink RX6 165 "ShaftHuntModel" "at" "I", Cond.fieldLink RX6 168 "ShaftHuntModel" "fault" "I", Cond.fieldLink RX6 185 "ShaftHuntModel" "orders" "I", Cond.fieldLink RX6 162 "ShaftHuntModel" "typed" "I", Cond.fieldLink RX6 7 "ShaftHuntModel" "now" "[I", Cond.fieldLink RX6 13 "ShaftHuntModel" "held" "[I", Cond.methodLink RX6 171 yX6_here, Cond.instanceMethod yX6_here, Cond.selects RX6 yX6_here yX6_here, Cond.initialized RX6, Cond.code yX6_here cX6_here 1 (some .int), Cond.fieldLink RX6 29 "ShaftHuntModel" "text" "[I", Cond.methodLink RX6 191 yX6_readOrder, Cond.instanceMethod yX6_readOrder, Cond.selects RX6 yX6_readOrder yX6_readOrder, Cond.code yX6_readOrder cX6_readOrder 4 none, Cond.fieldLink RX6 35 "ShaftHuntModel" "numbers" "[I", Cond.fieldLink RX6 32 "ShaftHuntModel" "letters" "[I", Cond.methodLink RX6 182 yX6_numbersOf, Cond.static yX6_numbersOf, Cond.code yX6_numbersOf cX6_numbersOf 1 (some .int), Cond.methodLink RX6 174 yX6_must, Cond.instanceMethod yX6_must, Cond.selects RX6 yX6_must yX6_must]
def wsX6_reads_r2 : List Cond := [Cond.code yX6_must cX6_must 2 none, Cond.methodLink RX6 188 yX6_number, Cond.instanceMethod yX6_number, Cond.selects RX6 yX6_number yX6_number, Cond.code yX6_number cX6_number 2 (some .int), Cond.methodLink RX6 53 yX6_in, Cond.static yX6_in, Cond.code yX6_in cX6_in 3 (some .boolean), Cond.methodLink RX6 178 yX6_isFigure, Cond.instanceMethod yX6_isFigure, Cond.selects RX6 yX6_isFigure yX6_isFigure, Cond.code yX6_isFigure cX6_isFigure 1 (some .boolean), Cond.methodLink RX6 74 yX6_hold, Cond.instanceMethod yX6_hold, Cond.selects RX6 yX6_hold yX6_hold, Cond.code yX6_hold cX6_hold 2 none, Cond.methodLink RX6 194 yX6_doOrder, Cond.instanceMethod yX6_doOrder, Cond.selects RX6 yX6_doOrder yX6_doOrder, Cond.code yX6_doOrder cX6_doOrder 4 (some .int), Cond.methodLink RX6 77 yX6_doShaft, Cond.instanceMethod yX6_doShaft, Cond.selects RX6 yX6_doShaft yX6_doShaft, Cond.code yX6_doShaft cX6_doShaft 4 (some .int)]
def wsX6_reads_r3 : List Cond := [Cond.methodLink RX6 61 yX6_isKind, Cond.static yX6_isKind, Cond.code yX6_isKind cX6_isKind 1 (some .boolean), Cond.methodLink RX6 87 yX6_doPipe, Cond.instanceMethod yX6_doPipe, Cond.selects RX6 yX6_doPipe yX6_doPipe, Cond.code yX6_doPipe cX6_doPipe 6 (some .int), Cond.methodLink RX6 65 yX6_isShaft, Cond.instanceMethod yX6_isShaft, Cond.selects RX6 yX6_isShaft yX6_isShaft, Cond.code yX6_isShaft cX6_isShaft 2 (some .boolean), Cond.methodLink RX6 68 yX6_below, Cond.instanceMethod yX6_below, Cond.selects RX6 yX6_below yX6_below, Cond.code yX6_below cX6_below 5 (some .int), Cond.methodLink RX6 57 yX6_pipeOf, Cond.instanceMethod yX6_pipeOf, Cond.selects RX6 yX6_pipeOf yX6_pipeOf, Cond.code yX6_pipeOf cX6_pipeOf 3 (some .int), Cond.methodLink RX6 42 yX6_has, Cond.static yX6_has, Cond.code yX6_has cX6_has 2 (some .boolean), Cond.methodLink RX6 94 yX6_doSight, Cond.instanceMethod yX6_doSight]
def wsX6_reads_r4 : List Cond := [Cond.selects RX6 yX6_doSight yX6_doSight, Cond.code yX6_doSight cX6_doSight 5 (some .int), Cond.methodLink RX6 91 yX6_doDrops, Cond.instanceMethod yX6_doDrops, Cond.selects RX6 yX6_doDrops yX6_doDrops, Cond.code yX6_doDrops cX6_doDrops 3 (some .int), Cond.methodLink RX6 71 yX6_isPipe, Cond.instanceMethod yX6_isPipe, Cond.selects RX6 yX6_isPipe yX6_isPipe, Cond.code yX6_isPipe cX6_isPipe 2 (some .boolean), Cond.methodLink RX6 50 yX6_push, Cond.instanceMethod yX6_push, Cond.selects RX6 yX6_push yX6_push, Cond.code yX6_push cX6_push 2 none, Cond.fieldLink RX6 38 "ShaftHuntModel" "pasts" "I", Cond.fieldLink RX6 16 "ShaftHuntModel" "past" "[I"]
def wsX6_reads : List Cond := .code yX6_reads cX6_reads 3 (some .int) :: ((wsX6_reads_r1 ++ (wsX6_reads_r2 ++ (wsX6_reads_r3 ++ wsX6_reads_r4))) ++ wsX60)
def wsX6_toldOf : List Cond := .code yX6_toldOf cX6_toldOf 2 (some .int) :: ([.fieldLink RX6 19 "ShaftHuntModel" "refused" "[I", .fieldLink RX6 162 "ShaftHuntModel" "typed" "I", .fieldLink RX6 7 "ShaftHuntModel" "now" "[I", .fieldLink RX6 38 "ShaftHuntModel" "pasts" "I"] ++ wsX60)
def wsX6_told : List Cond := .code yX6_told cX6_told 2 (some .int) :: ([.methodLink RX6 53 yX6_in, .static yX6_in, .initialized RX6, .code yX6_in cX6_in 3 (some .boolean), .methodLink RX6 197 yX6_toldOf, .instanceMethod yX6_toldOf, .selects RX6 yX6_toldOf yX6_toldOf, .code yX6_toldOf cX6_toldOf 2 (some .int), .fieldLink RX6 19 "ShaftHuntModel" "refused" "[I", .fieldLink RX6 162 "ShaftHuntModel" "typed" "I", .fieldLink RX6 7 "ShaftHuntModel" "now" "[I", .fieldLink RX6 38 "ShaftHuntModel" "pasts" "I", .methodLink RX6 46 yX6_refuses, .instanceMethod yX6_refuses, .selects RX6 yX6_refuses yX6_refuses, .code yX6_refuses cX6_refuses 2 (some .int)] ++ wsX60)
def wsX6_mix : List Cond := .code yX6_mix cX6_mix 3 none :: ([.constantLong RX6 200 (31), .fieldLink RX6 202 "ShaftHuntModel" "h" "J"] ++ wsX60)
def wsX6_digest_r1 : List Cond := [Cond.constantLong RX6 206 (2557), Cond.fieldLink RX6 202 "ShaftHuntModel" "h" "J", Cond.fieldLink RX6 7 "ShaftHuntModel" "now" "[I", Cond.methodLink RX6 197 yX6_toldOf, Cond.instanceMethod yX6_toldOf, Cond.selects RX6 yX6_toldOf yX6_toldOf, Cond.initialized RX6, Cond.code yX6_toldOf cX6_toldOf 2 (some .int), Cond.fieldLink RX6 19 "ShaftHuntModel" "refused" "[I", Cond.fieldLink RX6 162 "ShaftHuntModel" "typed" "I", Cond.fieldLink RX6 38 "ShaftHuntModel" "pasts" "I", Cond.methodLink RX6 208 yX6_mix, Cond.instanceMethod yX6_mix, Cond.selects RX6 yX6_mix yX6_mix, Cond.code yX6_mix cX6_mix 3 none, Cond.constantLong RX6 200 (31), Cond.methodLink RX6 107 yX6_ofShaft, Cond.instanceMethod yX6_ofShaft, Cond.selects RX6 yX6_ofShaft yX6_ofShaft, Cond.code yX6_ofShaft cX6_ofShaft 7 (some .int), Cond.methodLink RX6 57 yX6_pipeOf, Cond.instanceMethod yX6_pipeOf, Cond.selects RX6 yX6_pipeOf yX6_pipeOf, Cond.code yX6_pipeOf cX6_pipeOf 3 (some .int)]
def wsX6_digest_r2 : List Cond := [Cond.methodLink RX6 68 yX6_below, Cond.instanceMethod yX6_below, Cond.selects RX6 yX6_below yX6_below, Cond.code yX6_below cX6_below 5 (some .int), Cond.methodLink RX6 42 yX6_has, Cond.static yX6_has, Cond.code yX6_has cX6_has 2 (some .boolean), Cond.methodLink RX6 101 yX6_kindOf, Cond.instanceMethod yX6_kindOf, Cond.selects RX6 yX6_kindOf yX6_kindOf, Cond.code yX6_kindOf cX6_kindOf 2 (some .int), Cond.methodLink RX6 104 yX6_numberOf, Cond.instanceMethod yX6_numberOf, Cond.selects RX6 yX6_numberOf yX6_numberOf, Cond.code yX6_numberOf cX6_numberOf 2 (some .int), Cond.methodLink RX6 141 yX6_whenOf, Cond.instanceMethod yX6_whenOf, Cond.selects RX6 yX6_whenOf yX6_whenOf, Cond.code yX6_whenOf cX6_whenOf 4 (some .int), Cond.methodLink RX6 138 yX6_isFit, Cond.instanceMethod yX6_isFit, Cond.selects RX6 yX6_isFit yX6_isFit, Cond.code yX6_isFit cX6_isFit 8 (some .boolean), Cond.fieldLink RX6 22 "ShaftHuntModel" "minutes" "[J"]
def wsX6_digest_r3 : List Cond := [Cond.methodLink RX6 123 yX6_start, Cond.instanceMethod yX6_start, Cond.selects RX6 yX6_start yX6_start, Cond.code yX6_start cX6_start 5 none, Cond.methodLink RX6 120 yX6_carries, Cond.instanceMethod yX6_carries, Cond.selects RX6 yX6_carries yX6_carries, Cond.code yX6_carries cX6_carries 9 (some .boolean), Cond.methodLink RX6 113 yX6_hasMinute, Cond.static yX6_hasMinute, Cond.code yX6_hasMinute cX6_hasMinute 3 (some .boolean), Cond.methodLink RX6 117 yX6_leavesAt, Cond.instanceMethod yX6_leavesAt, Cond.selects RX6 yX6_leavesAt yX6_leavesAt, Cond.code yX6_leavesAt cX6_leavesAt 4 (some .int), Cond.methodLink RX6 110 yX6_pumped, Cond.instanceMethod yX6_pumped, Cond.selects RX6 yX6_pumped yX6_pumped, Cond.code yX6_pumped cX6_pumped 4 (some .int), Cond.methodLink RX6 134 yX6_lastOf, Cond.static yX6_lastOf, Cond.code yX6_lastOf cX6_lastOf 4 (some .int), Cond.methodLink RX6 130 yX6_comesOf, Cond.instanceMethod yX6_comesOf]
def wsX6_digest_r4 : List Cond := [Cond.selects RX6 yX6_comesOf yX6_comesOf, Cond.code yX6_comesOf cX6_comesOf 4 (some .long), Cond.methodLink RX6 150 yX6_nextOf, Cond.instanceMethod yX6_nextOf, Cond.selects RX6 yX6_nextOf yX6_nextOf, Cond.code yX6_nextOf cX6_nextOf 9 (some .int), Cond.methodLink RX6 144 yX6_suspectsNow, Cond.instanceMethod yX6_suspectsNow, Cond.selects RX6 yX6_suspectsNow yX6_suspectsNow, Cond.code yX6_suspectsNow cX6_suspectsNow 3 (some .int), Cond.methodLink RX6 147 yX6_ones, Cond.static yX6_ones, Cond.code yX6_ones cX6_ones 3 (some .int), Cond.methodLink RX6 159 yX6_sensorsOf, Cond.instanceMethod yX6_sensorsOf, Cond.selects RX6 yX6_sensorsOf yX6_sensorsOf, Cond.code yX6_sensorsOf cX6_sensorsOf 5 (some .int), Cond.methodLink RX6 153 yX6_findBelows, Cond.instanceMethod yX6_findBelows, Cond.selects RX6 yX6_findBelows yX6_findBelows, Cond.code yX6_findBelows cX6_findBelows 2 none, Cond.fieldLink RX6 26 "ShaftHuntModel" "belows" "[I", Cond.methodLink RX6 156 yX6_alikeBy, Cond.instanceMethod yX6_alikeBy]
def wsX6_digest_r5 : List Cond := [Cond.selects RX6 yX6_alikeBy yX6_alikeBy, Cond.code yX6_alikeBy cX6_alikeBy 5 (some .int)]
def wsX6_digest : List Cond := .code yX6_digest cX6_digest 4 (some .long) :: ((wsX6_digest_r1 ++ (wsX6_digest_r2 ++ (wsX6_digest_r3 ++ (wsX6_digest_r4 ++ wsX6_digest_r5)))) ++ wsX60)
def wsJ9_max_7cf53 : List Cond := .code yJ9_max_7cf53 cJ9_max_7cf53 2 (some .int) :: ([])
def wsJ9_min_7cf53 : List Cond := .code yJ9_min_7cf53 cJ9_min_7cf53 2 (some .int) :: ([])
def wsL_law_r1 : List Cond := [Cond.classLink RL 7 RX5, Cond.instantiable RX5 10, Cond.initialized RX5, Cond.classLink RL 10 RX6, Cond.instantiable RX6 15, Cond.initialized RX6, Cond.methodLink RL 9 yX5_init, Cond.instanceMethod yX5_init, Cond.code yX5_init cX5_init 1 none, Cond.methodLink RX5 5 objectInit, Cond.instanceMethod objectInit, Cond.code objectInit ⟨#[0xb1]⟩ 1 none, Cond.classLink RX5 11 RX0, Cond.instantiable RX0 14, Cond.initialized RX0, Cond.fieldLink RX5 14 "ShaftHunt" "now" "LShaftHunt$Drains;", Cond.classLink RX5 18 RX3, Cond.instantiable RX3 2, Cond.initialized RX3, Cond.fieldLink RX5 21 "ShaftHunt" "past" "LShaftHunt$Past;", Cond.classLink RX5 25 RX1, Cond.instantiable RX1 4, Cond.initialized RX1, Cond.fieldLink RX5 30 "ShaftHunt" "flow" "LShaftHunt$Flow;"]
def wsL_law_r2 : List Cond := [Cond.classLink RX5 34 RX4, Cond.instantiable RX4 2, Cond.initialized RX4, Cond.fieldLink RX5 37 "ShaftHunt" "watch" "LShaftHunt$Watch;", Cond.classLink RX5 41 RX2, Cond.instantiable RX2 6, Cond.initialized RX2, Cond.fieldLink RX5 44 "ShaftHunt" "orders" "LShaftHunt$Orders;", Cond.arrayClass .byte, Cond.fieldLink RX5 48 "ShaftHunt" "text" "[B", Cond.instanceMethod yX0_init, Cond.code yX0_init cX0_init 1 none, Cond.methodLink RX0 3 objectInit, Cond.arrayClass .int, Cond.fieldLink RX0 9 "ShaftHunt$Drains" "kind" "[I", Cond.fieldLink RX0 15 "ShaftHunt$Drains" "pace" "[I", Cond.fieldLink RX0 18 "ShaftHunt$Drains" "from" "[I", Cond.fieldLink RX0 21 "ShaftHunt$Drains" "to" "[I", Cond.fieldLink RX0 24 "ShaftHunt$Drains" "low" "[I", Cond.fieldLink RX0 27 "ShaftHunt$Drains" "high" "[I", Cond.fieldLink RX0 30 "ShaftHunt$Drains" "sort" "[I", Cond.fieldLink RX0 33 "ShaftHunt$Drains" "place" "[I", Cond.fieldLink RX0 36 "ShaftHunt$Drains" "minute" "[I", Cond.fieldLink RX0 39 "ShaftHunt$Drains" "below" "[I"]
def wsL_law_r3 : List Cond := [Cond.fieldLink RX0 42 "ShaftHunt$Drains" "route" "[I", Cond.methodLink RX5 20 yX3_init, Cond.instanceMethod yX3_init, Cond.code yX3_init cX3_init 2 none, Cond.methodLink RX3 3 objectInit, Cond.classLink RX3 9 RX0, Cond.fieldLink RX3 11 "ShaftHunt$Past" "kept" "[LShaftHunt$Drains;", Cond.methodLink RX5 27 yX1_init, Cond.instanceMethod yX1_init, Cond.code yX1_init cX1_init 2 none, Cond.methodLink RX1 3 objectInit, Cond.arrayClass .long, Cond.fieldLink RX1 9 "ShaftHunt$Flow" "come" "[J", Cond.fieldLink RX1 15 "ShaftHunt$Flow" "starts" "[I", Cond.fieldLink RX1 19 "ShaftHunt$Flow" "drains" "LShaftHunt$Drains;", Cond.instanceMethod yX4_init, Cond.code yX4_init cX4_init 1 none, Cond.methodLink RX4 3 objectInit, Cond.fieldLink RX4 9 "ShaftHunt$Watch" "tellers" "[I", Cond.instanceMethod yX2_init, Cond.code yX2_init cX2_init 1 none, Cond.methodLink RX2 3 objectInit, Cond.fieldLink RX2 9 "ShaftHunt$Orders" "letter" "[I", Cond.fieldLink RX2 15 "ShaftHunt$Orders" "numbers" "[I"]
def wsL_law_r4 : List Cond := [Cond.methodLink RL 12 yX6_init, Cond.instanceMethod yX6_init, Cond.code yX6_init cX6_init 1 none, Cond.methodLink RX6 1 objectInit, Cond.fieldLink RX6 7 "ShaftHuntModel" "now" "[I", Cond.fieldLink RX6 13 "ShaftHuntModel" "held" "[I", Cond.fieldLink RX6 16 "ShaftHuntModel" "past" "[I", Cond.fieldLink RX6 19 "ShaftHuntModel" "refused" "[I", Cond.fieldLink RX6 22 "ShaftHuntModel" "minutes" "[J", Cond.fieldLink RX6 26 "ShaftHuntModel" "belows" "[I", Cond.fieldLink RX6 29 "ShaftHuntModel" "text" "[I", Cond.fieldLink RX6 32 "ShaftHuntModel" "letters" "[I", Cond.fieldLink RX6 35 "ShaftHuntModel" "numbers" "[I", Cond.fieldLink RX6 38 "ShaftHuntModel" "pasts" "I", Cond.methodLink RL 13 yX5_shaft, Cond.instanceMethod yX5_shaft, Cond.selects RX5 yX5_shaft yX5_shaft, Cond.code yX5_shaft cX5_shaft 3 (some .int), Cond.methodLink RX5 52 yX3_mark, Cond.instanceMethod yX3_mark, Cond.selects RX3 yX3_mark yX3_mark, Cond.code yX3_mark cX3_mark 2 none, Cond.fieldLink RX3 18 "ShaftHunt$Past" "count" "I", Cond.methodLink RX3 22 yX0_copyFrom]
def wsL_law_r5 : List Cond := [Cond.instanceMethod yX0_copyFrom, Cond.selects RX0 yX0_copyFrom yX0_copyFrom, Cond.code yX0_copyFrom cX0_copyFrom 2 none, Cond.fieldLink RX0 45 "ShaftHunt$Drains" "shafts" "I", Cond.fieldLink RX0 53 "ShaftHunt$Drains" "pipes" "I", Cond.fieldLink RX0 76 "ShaftHunt$Drains" "sights" "I", Cond.methodLink RX0 87 yX0_copyRow, Cond.static yX0_copyRow, Cond.code yX0_copyRow cX0_copyRow 2 none, Cond.methodLink RX0 103 Lib.Math.min.name, Cond.static Lib.Math.min.name, Cond.initialized "java/lang/Math", Cond.code Lib.Math.min.name Lib.Math.min.code 2 (some .int), Cond.methodLink RX0 109 arraycopyName, Cond.native arraycopyName, Cond.static arraycopyName, Cond.initialized "java/lang/System", Cond.methodLink RX5 55 yX0_addShaft, Cond.instanceMethod yX0_addShaft, Cond.selects RX0 yX0_addShaft yX0_addShaft, Cond.code yX0_addShaft cX0_addShaft 4 (some .int), Cond.methodLink RX0 56 yX0_isKind, Cond.static yX0_isKind, Cond.code yX0_isKind cX0_isKind 1 (some .boolean)]
def wsL_law_r6 : List Cond := [Cond.static yX5_within, Cond.code yX5_within cX5_within 3 (some .boolean), Cond.methodLink RX0 60 yX0_isPace, Cond.static yX0_isPace, Cond.code yX0_isPace cX0_isPace 1 (some .boolean), Cond.methodLink RX0 63 yX0_findWays, Cond.instanceMethod yX0_findWays, Cond.selects RX0 yX0_findWays yX0_findWays, Cond.code yX0_findWays cX0_findWays 1 none, Cond.methodLink RX0 91 yX0_findBelow, Cond.instanceMethod yX0_findBelow, Cond.selects RX0 yX0_findBelow yX0_findBelow, Cond.code yX0_findBelow cX0_findBelow 3 none, Cond.methodLink RX0 94 yX0_findRoute, Cond.instanceMethod yX0_findRoute, Cond.selects RX0 yX0_findRoute yX0_findRoute, Cond.code yX0_findRoute cX0_findRoute 4 none, Cond.methodLink RX0 97 yJ6_bitCount_0f7a4, Cond.static yJ6_bitCount_0f7a4, Cond.initialized RJ6, Cond.code yJ6_bitCount_0f7a4 cJ6_bitCount_0f7a4 1 (some .int), Cond.constant RJ6 265 (1431655765), Cond.constant RJ6 266 (858993459), Cond.constant RJ6 267 (252645135)]
def wsL_law_r7 : List Cond := [Cond.methodLink RX5 59 yX5_settled, Cond.instanceMethod yX5_settled, Cond.selects RX5 yX5_settled yX5_settled, Cond.code yX5_settled cX5_settled 2 (some .int), Cond.methodLink RX5 78 yX5_refused, Cond.instanceMethod yX5_refused, Cond.selects RX5 yX5_refused yX5_refused, Cond.code yX5_refused cX5_refused 2 (some .int), Cond.fieldLink RX5 204 "ShaftHunt" "bads" "I", Cond.fieldLink RX5 207 "ShaftHunt" "noes" "I", Cond.fieldLink RX5 210 "ShaftHunt" "fulls" "I", Cond.methodLink RX5 252 yX3_keep, Cond.instanceMethod yX3_keep, Cond.selects RX3 yX3_keep yX3_keep, Cond.code yX3_keep cX3_keep 3 none, Cond.methodLink RX5 201 yX1_outdate, Cond.instanceMethod yX1_outdate, Cond.selects RX1 yX1_outdate yX1_outdate, Cond.code yX1_outdate cX1_outdate 1 none, Cond.fieldLink RX1 23 "ShaftHunt$Flow" "known" "I", Cond.methodLink RL 17 yX6_shaft, Cond.instanceMethod yX6_shaft, Cond.selects RX6 yX6_shaft yX6_shaft, Cond.code yX6_shaft cX6_shaft 3 (some .int)]
def wsL_law_r8 : List Cond := [Cond.methodLink RX6 74 yX6_hold, Cond.instanceMethod yX6_hold, Cond.selects RX6 yX6_hold yX6_hold, Cond.code yX6_hold cX6_hold 2 none, Cond.methodLink RX6 77 yX6_doShaft, Cond.instanceMethod yX6_doShaft, Cond.selects RX6 yX6_doShaft yX6_doShaft, Cond.code yX6_doShaft cX6_doShaft 4 (some .int), Cond.methodLink RX6 61 yX6_isKind, Cond.static yX6_isKind, Cond.code yX6_isKind cX6_isKind 1 (some .boolean), Cond.methodLink RX6 53 yX6_in, Cond.static yX6_in, Cond.code yX6_in cX6_in 3 (some .boolean), Cond.methodLink RX6 80 yX6_ends, Cond.instanceMethod yX6_ends, Cond.selects RX6 yX6_ends yX6_ends, Cond.code yX6_ends cX6_ends 2 (some .int), Cond.methodLink RX6 46 yX6_refuses, Cond.instanceMethod yX6_refuses, Cond.selects RX6 yX6_refuses yX6_refuses, Cond.code yX6_refuses cX6_refuses 2 (some .int), Cond.methodLink RX6 50 yX6_push, Cond.instanceMethod yX6_push]
def wsL_law_r9 : List Cond := [Cond.selects RX6 yX6_push yX6_push, Cond.code yX6_push cX6_push 2 none, Cond.methodLink RL 18 yX5_sets, Cond.instanceMethod yX5_sets, Cond.selects RX5 yX5_sets yX5_sets, Cond.code yX5_sets cX5_sets 4 (some .int), Cond.methodLink RX5 63 yX0_changeShaft, Cond.instanceMethod yX0_changeShaft, Cond.selects RX0 yX0_changeShaft yX0_changeShaft, Cond.code yX0_changeShaft cX0_changeShaft 5 (some .int), Cond.methodLink RX0 66 yX0_hasShaft, Cond.instanceMethod yX0_hasShaft, Cond.selects RX0 yX0_hasShaft yX0_hasShaft, Cond.code yX0_hasShaft cX0_hasShaft 2 (some .boolean), Cond.methodLink RL 22 yX6_sets, Cond.instanceMethod yX6_sets, Cond.selects RX6 yX6_sets yX6_sets, Cond.code yX6_sets cX6_sets 4 (some .int), Cond.methodLink RX6 83 yX6_doSets, Cond.instanceMethod yX6_doSets, Cond.selects RX6 yX6_doSets yX6_doSets, Cond.code yX6_doSets cX6_doSets 6 (some .int), Cond.methodLink RX6 65 yX6_isShaft, Cond.instanceMethod yX6_isShaft]
def wsL_law_r10 : List Cond := [Cond.selects RX6 yX6_isShaft yX6_isShaft, Cond.code yX6_isShaft cX6_isShaft 2 (some .boolean), Cond.methodLink RL 23 yX5_pipe, Cond.instanceMethod yX5_pipe, Cond.selects RX5 yX5_pipe yX5_pipe, Cond.code yX5_pipe cX5_pipe 5 (some .int), Cond.methodLink RX5 67 yX0_addPipe, Cond.instanceMethod yX0_addPipe, Cond.selects RX0 yX0_addPipe yX0_addPipe, Cond.code yX0_addPipe cX0_addPipe 6 (some .int), Cond.methodLink RX0 69 yX0_isBelow, Cond.instanceMethod yX0_isBelow, Cond.selects RX0 yX0_isBelow yX0_isBelow, Cond.code yX0_isBelow cX0_isBelow 3 (some .boolean), Cond.methodLink RL 27 yX6_pipe, Cond.instanceMethod yX6_pipe, Cond.selects RX6 yX6_pipe yX6_pipe, Cond.code yX6_pipe cX6_pipe 5 (some .int), Cond.methodLink RX6 87 yX6_doPipe, Cond.instanceMethod yX6_doPipe, Cond.selects RX6 yX6_doPipe yX6_doPipe, Cond.code yX6_doPipe cX6_doPipe 6 (some .int), Cond.methodLink RX6 68 yX6_below, Cond.instanceMethod yX6_below]
def wsL_law_r11 : List Cond := [Cond.selects RX6 yX6_below yX6_below, Cond.code yX6_below cX6_below 5 (some .int), Cond.methodLink RX6 57 yX6_pipeOf, Cond.instanceMethod yX6_pipeOf, Cond.selects RX6 yX6_pipeOf yX6_pipeOf, Cond.code yX6_pipeOf cX6_pipeOf 3 (some .int), Cond.methodLink RX6 42 yX6_has, Cond.static yX6_has, Cond.code yX6_has cX6_has 2 (some .boolean), Cond.methodLink RL 28 yX5_drops, Cond.instanceMethod yX5_drops, Cond.selects RX5 yX5_drops yX5_drops, Cond.code yX5_drops cX5_drops 2 (some .int), Cond.methodLink RX5 71 yX0_dropPipe, Cond.instanceMethod yX0_dropPipe, Cond.selects RX0 yX0_dropPipe yX0_dropPipe, Cond.code yX0_dropPipe cX0_dropPipe 3 (some .int), Cond.methodLink RX0 73 yX0_hasPipe, Cond.instanceMethod yX0_hasPipe, Cond.selects RX0 yX0_hasPipe yX0_hasPipe, Cond.code yX0_hasPipe cX0_hasPipe 2 (some .boolean), Cond.methodLink RL 32 yX6_drops, Cond.instanceMethod yX6_drops, Cond.selects RX6 yX6_drops yX6_drops]
def wsL_law_r12 : List Cond := [Cond.code yX6_drops cX6_drops 2 (some .int), Cond.methodLink RX6 91 yX6_doDrops, Cond.instanceMethod yX6_doDrops, Cond.selects RX6 yX6_doDrops yX6_doDrops, Cond.code yX6_doDrops cX6_doDrops 3 (some .int), Cond.methodLink RX6 71 yX6_isPipe, Cond.instanceMethod yX6_isPipe, Cond.selects RX6 yX6_isPipe yX6_isPipe, Cond.code yX6_isPipe cX6_isPipe 2 (some .boolean), Cond.methodLink RL 33 yX5_of, Cond.instanceMethod yX5_of, Cond.selects RX5 yX5_of yX5_of, Cond.code yX5_of cX5_of 3 (some .int), Cond.fieldLink RX5 81 "ShaftHunt$Drains" "kind" "[I", Cond.fieldLink RX5 85 "ShaftHunt$Drains" "pace" "[I", Cond.fieldLink RX5 88 "ShaftHunt$Drains" "from" "[I", Cond.fieldLink RX5 95 "ShaftHunt$Drains" "to" "[I", Cond.fieldLink RX5 98 "ShaftHunt$Drains" "below" "[I", Cond.methodLink RX5 74 yX0_hasShaft, Cond.methodLink RX5 91 yX0_pipesAt, Cond.instanceMethod yX0_pipesAt, Cond.selects RX0 yX0_pipesAt yX0_pipesAt, Cond.code yX0_pipesAt cX0_pipesAt 5 (some .int), Cond.methodLink RX5 101 yX0_above]
def wsL_law_r13 : List Cond := [Cond.instanceMethod yX0_above, Cond.selects RX0 yX0_above yX0_above, Cond.code yX0_above cX0_above 4 (some .int), Cond.methodLink RL 36 yX6_of, Cond.instanceMethod yX6_of, Cond.selects RX6 yX6_of yX6_of, Cond.code yX6_of cX6_of 3 (some .int), Cond.methodLink RX6 107 yX6_ofShaft, Cond.instanceMethod yX6_ofShaft, Cond.selects RX6 yX6_ofShaft yX6_ofShaft, Cond.code yX6_ofShaft cX6_ofShaft 7 (some .int), Cond.methodLink RX6 101 yX6_kindOf, Cond.instanceMethod yX6_kindOf, Cond.selects RX6 yX6_kindOf yX6_kindOf, Cond.code yX6_kindOf cX6_kindOf 2 (some .int), Cond.methodLink RX6 104 yX6_numberOf, Cond.instanceMethod yX6_numberOf, Cond.selects RX6 yX6_numberOf yX6_numberOf, Cond.code yX6_numberOf cX6_numberOf 2 (some .int), Cond.methodLink RL 37 yX5_about, Cond.instanceMethod yX5_about, Cond.selects RX5 yX5_about yX5_about, Cond.code yX5_about cX5_about 3 (some .int), Cond.fieldLink RX5 107 "ShaftHunt$Drains" "low" "[I"]
def wsL_law_r14 : List Cond := [Cond.fieldLink RX5 110 "ShaftHunt$Drains" "high" "[I", Cond.methodLink RX5 104 yX0_hasPipe, Cond.methodLink RL 40 yX6_about, Cond.instanceMethod yX6_about, Cond.selects RX6 yX6_about yX6_about, Cond.code yX6_about cX6_about 3 (some .int), Cond.methodLink RL 41 yX5_comes, Cond.instanceMethod yX5_comes, Cond.selects RX5 yX5_comes yX5_comes, Cond.code yX5_comes cX5_comes 4 (some .long), Cond.fieldLink RX5 121 "ShaftHunt$Flow" "come" "[J", Cond.methodLink RX5 113 yX5_isStart, Cond.instanceMethod yX5_isStart, Cond.selects RX5 yX5_isStart yX5_isStart, Cond.code yX5_isStart cX5_isStart 3 (some .boolean), Cond.methodLink RX5 125 yX5_within, Cond.methodLink RX5 117 yX1_walk, Cond.instanceMethod yX1_walk, Cond.selects RX1 yX1_walk yX1_walk, Cond.code yX1_walk cX1_walk 6 none, Cond.fieldLink RX1 33 "ShaftHunt$Drains" "pipes" "I", Cond.fieldLink RX1 38 "ShaftHunt$Drains" "route" "[I", Cond.fieldLink RX1 41 "ShaftHunt$Drains" "from" "[I", Cond.fieldLink RX1 44 "ShaftHunt$Drains" "to" "[I"]
def wsL_law_r15 : List Cond := [Cond.methodLink RX1 27 yJ7_fill_d0a16, Cond.static yJ7_fill_d0a16, Cond.initialized RJ7, Cond.code yJ7_fill_d0a16 cJ7_fill_d0a16 5 none, Cond.methodLink RX1 47 yX0_leaving, Cond.instanceMethod yX0_leaving, Cond.selects RX0 yX0_leaving yX0_leaving, Cond.code yX0_leaving cX0_leaving 5 (some .long), Cond.constantLong RX0 83 (9223372036854775807), Cond.constantLong RX0 85 (-1), Cond.methodLink RX0 79 yX0_pumped, Cond.static yX0_pumped, Cond.code yX0_pumped cX0_pumped 8 (some .long), Cond.methodLink RX1 51 yX0_brought, Cond.instanceMethod yX0_brought, Cond.selects RX0 yX0_brought yX0_brought, Cond.code yX0_brought cX0_brought 7 (some .long), Cond.methodLink RL 45 yX6_comes, Cond.instanceMethod yX6_comes, Cond.selects RX6 yX6_comes yX6_comes, Cond.code yX6_comes cX6_comes 4 (some .long), Cond.methodLink RX6 127 yX6_isStart, Cond.instanceMethod yX6_isStart, Cond.selects RX6 yX6_isStart yX6_isStart]
def wsL_law_r16 : List Cond := [Cond.code yX6_isStart cX6_isStart 3 (some .boolean), Cond.methodLink RX6 130 yX6_comesOf, Cond.instanceMethod yX6_comesOf, Cond.selects RX6 yX6_comesOf yX6_comesOf, Cond.code yX6_comesOf cX6_comesOf 4 (some .long), Cond.methodLink RX6 123 yX6_start, Cond.instanceMethod yX6_start, Cond.selects RX6 yX6_start yX6_start, Cond.code yX6_start cX6_start 5 none, Cond.methodLink RX6 120 yX6_carries, Cond.instanceMethod yX6_carries, Cond.selects RX6 yX6_carries yX6_carries, Cond.code yX6_carries cX6_carries 9 (some .boolean), Cond.methodLink RX6 113 yX6_hasMinute, Cond.static yX6_hasMinute, Cond.code yX6_hasMinute cX6_hasMinute 3 (some .boolean), Cond.methodLink RX6 117 yX6_leavesAt, Cond.instanceMethod yX6_leavesAt, Cond.selects RX6 yX6_leavesAt yX6_leavesAt, Cond.code yX6_leavesAt cX6_leavesAt 4 (some .int), Cond.methodLink RX6 110 yX6_pumped, Cond.instanceMethod yX6_pumped, Cond.selects RX6 yX6_pumped yX6_pumped, Cond.code yX6_pumped cX6_pumped 4 (some .int)]
def wsL_law_r17 : List Cond := [Cond.methodLink RL 46 yX5_times, Cond.instanceMethod yX5_times, Cond.selects RX5 yX5_times yX5_times, Cond.code yX5_times cX5_times 7 (some .int), Cond.methodLink RX5 129 yJ13_bitCount_95d88, Cond.static yJ13_bitCount_95d88, Cond.initialized RJ13, Cond.code yJ13_bitCount_95d88 cJ13_bitCount_95d88 2 (some .int), Cond.constantLong RJ13 314 (6148914691236517205), Cond.constantLong RJ13 316 (3689348814741910323), Cond.constantLong RJ13 318 (1085102592571150095), Cond.methodLink RX5 133 yJ13_numberOfTrailingZeros_95d88, Cond.static yJ13_numberOfTrailingZeros_95d88, Cond.code yJ13_numberOfTrailingZeros_95d88 cJ13_numberOfTrailingZeros_95d88 3 (some .int), Cond.methodLink RJ13 311 yJ6_numberOfTrailingZeros_0f7a4, Cond.static yJ6_numberOfTrailingZeros_0f7a4, Cond.code yJ6_numberOfTrailingZeros_0f7a4 cJ6_numberOfTrailingZeros_0f7a4 2 (some .int), Cond.constant RJ6 264 (65536), Cond.methodLink RX5 136 yJ13_numberOfLeadingZeros_95d88, Cond.static yJ13_numberOfLeadingZeros_95d88, Cond.code yJ13_numberOfLeadingZeros_95d88 cJ13_numberOfLeadingZeros_95d88 3 (some .int), Cond.methodLink RJ13 308 yJ6_numberOfLeadingZeros_0f7a4, Cond.static yJ6_numberOfLeadingZeros_0f7a4, Cond.code yJ6_numberOfLeadingZeros_0f7a4 cJ6_numberOfLeadingZeros_0f7a4 2 (some .int)]
def wsL_law_r18 : List Cond := [Cond.methodLink RL 49 yX6_times, Cond.instanceMethod yX6_times, Cond.selects RX6 yX6_times yX6_times, Cond.code yX6_times cX6_times 10 (some .int), Cond.methodLink RX6 134 yX6_lastOf, Cond.static yX6_lastOf, Cond.code yX6_lastOf cX6_lastOf 4 (some .int), Cond.methodLink RL 50 yX5_leaves, Cond.instanceMethod yX5_leaves, Cond.selects RX5 yX5_leaves yX5_leaves, Cond.code yX5_leaves cX5_leaves 5 (some .int), Cond.methodLink RX5 139 yX0_leaving, Cond.methodLink RL 53 yX6_leaves, Cond.instanceMethod yX6_leaves, Cond.selects RX6 yX6_leaves yX6_leaves, Cond.code yX6_leaves cX6_leaves 3 (some .int), Cond.methodLink RL 54 yX5_sight, Cond.instanceMethod yX5_sight, Cond.selects RX5 yX5_sight yX5_sight, Cond.code yX5_sight cX5_sight 4 (some .int), Cond.methodLink RX5 143 yX0_addSight, Cond.instanceMethod yX0_addSight, Cond.selects RX0 yX0_addSight yX0_addSight, Cond.code yX0_addSight cX0_addSight 4 (some .int)]
def wsL_law_r19 : List Cond := [Cond.methodLink RL 57 yX6_sight, Cond.instanceMethod yX6_sight, Cond.selects RX6 yX6_sight yX6_sight, Cond.code yX6_sight cX6_sight 4 (some .int), Cond.methodLink RX6 94 yX6_doSight, Cond.instanceMethod yX6_doSight, Cond.selects RX6 yX6_doSight yX6_doSight, Cond.code yX6_doSight cX6_doSight 5 (some .int), Cond.methodLink RL 58 yX5_forget, Cond.instanceMethod yX5_forget, Cond.selects RX5 yX5_forget yX5_forget, Cond.code yX5_forget cX5_forget 1 (some .int), Cond.methodLink RX5 146 yX0_dropSights, Cond.instanceMethod yX0_dropSights, Cond.selects RX0 yX0_dropSights yX0_dropSights, Cond.code yX0_dropSights cX0_dropSights 2 (some .int), Cond.methodLink RL 62 yX6_forget, Cond.instanceMethod yX6_forget, Cond.selects RX6 yX6_forget yX6_forget, Cond.code yX6_forget cX6_forget 1 (some .int), Cond.methodLink RX6 97 yX6_doForget, Cond.instanceMethod yX6_doForget, Cond.selects RX6 yX6_doForget yX6_doForget, Cond.code yX6_doForget cX6_doForget 2 (some .int)]
def wsL_law_r20 : List Cond := [Cond.methodLink RL 63 yX5_fits, Cond.instanceMethod yX5_fits, Cond.selects RX5 yX5_fits yX5_fits, Cond.code yX5_fits cX5_fits 3 (some .int), Cond.methodLink RX5 150 yX1_agrees, Cond.instanceMethod yX1_agrees, Cond.selects RX1 yX1_agrees yX1_agrees, Cond.code yX1_agrees cX1_agrees 2 (some .boolean), Cond.fieldLink RX1 54 "ShaftHunt$Drains" "sights" "I", Cond.methodLink RX1 57 yX1_agreesWith, Cond.instanceMethod yX1_agreesWith, Cond.selects RX1 yX1_agreesWith yX1_agreesWith, Cond.code yX1_agreesWith cX1_agreesWith 5 (some .boolean), Cond.fieldLink RX1 76 "ShaftHunt$Drains" "place" "[I", Cond.fieldLink RX1 79 "ShaftHunt$Drains" "minute" "[I", Cond.fieldLink RX1 82 "ShaftHunt$Drains" "sort" "[I", Cond.methodLink RL 66 yX6_fits, Cond.instanceMethod yX6_fits, Cond.selects RX6 yX6_fits yX6_fits, Cond.code yX6_fits cX6_fits 3 (some .int), Cond.methodLink RX6 138 yX6_isFit, Cond.instanceMethod yX6_isFit, Cond.selects RX6 yX6_isFit yX6_isFit, Cond.code yX6_isFit cX6_isFit 8 (some .boolean)]
def wsL_law_r21 : List Cond := [Cond.methodLink RL 67 yX5_when, Cond.instanceMethod yX5_when, Cond.selects RX5 yX5_when yX5_when, Cond.code yX5_when cX5_when 2 (some .int), Cond.methodLink RX5 154 yX1_startsAt, Cond.instanceMethod yX1_startsAt, Cond.selects RX1 yX1_startsAt yX1_startsAt, Cond.code yX1_startsAt cX1_startsAt 4 (some .int), Cond.methodLink RX1 61 yX1_walk, Cond.methodLink RX1 65 yX1_agrees, Cond.methodLink RL 70 yX6_when, Cond.instanceMethod yX6_when, Cond.selects RX6 yX6_when yX6_when, Cond.code yX6_when cX6_when 2 (some .int), Cond.methodLink RX6 141 yX6_whenOf, Cond.instanceMethod yX6_whenOf, Cond.selects RX6 yX6_whenOf yX6_whenOf, Cond.code yX6_whenOf cX6_whenOf 4 (some .int), Cond.methodLink RL 71 yX5_suspects, Cond.instanceMethod yX5_suspects, Cond.selects RX5 yX5_suspects yX5_suspects, Cond.code yX5_suspects cX5_suspects 1 (some .int), Cond.methodLink RX5 157 yX1_suspicious, Cond.instanceMethod yX1_suspicious]
def wsL_law_r22 : List Cond := [Cond.selects RX1 yX1_suspicious yX1_suspicious, Cond.code yX1_suspicious cX1_suspicious 3 (some .int), Cond.fieldLink RX1 69 "ShaftHunt$Drains" "shafts" "I", Cond.methodLink RX1 72 yX1_startsAt, Cond.methodLink RL 74 yX6_suspects, Cond.instanceMethod yX6_suspects, Cond.selects RX6 yX6_suspects yX6_suspects, Cond.code yX6_suspects cX6_suspects 1 (some .int), Cond.methodLink RX6 144 yX6_suspectsNow, Cond.instanceMethod yX6_suspectsNow, Cond.selects RX6 yX6_suspectsNow yX6_suspectsNow, Cond.code yX6_suspectsNow cX6_suspectsNow 3 (some .int), Cond.methodLink RL 75 yX5_next, Cond.instanceMethod yX5_next, Cond.selects RX5 yX5_next yX5_next, Cond.code yX5_next cX5_next 7 (some .int), Cond.fieldLink RX5 160 "ShaftHunt$Drains" "shafts" "I", Cond.methodLink RX5 164 yX5_largerPart, Cond.static yX5_largerPart, Cond.code yX5_largerPart cX5_largerPart 3 (some .int), Cond.methodLink RX5 255 Lib.Math.max.name, Cond.static Lib.Math.max.name, Cond.code Lib.Math.max.name Lib.Math.max.code 2 (some .int), Cond.methodLink RX5 176 yJ6_bitCount_0f7a4]
def wsL_law_r23 : List Cond := [Cond.methodLink RL 78 yX6_next, Cond.instanceMethod yX6_next, Cond.selects RX6 yX6_next yX6_next, Cond.code yX6_next cX6_next 2 (some .int), Cond.methodLink RX6 150 yX6_nextOf, Cond.instanceMethod yX6_nextOf, Cond.selects RX6 yX6_nextOf yX6_nextOf, Cond.code yX6_nextOf cX6_nextOf 9 (some .int), Cond.methodLink RX6 147 yX6_ones, Cond.static yX6_ones, Cond.code yX6_ones cX6_ones 3 (some .int), Cond.methodLink RL 79 yX5_alike, Cond.instanceMethod yX5_alike, Cond.selects RX5 yX5_alike yX5_alike, Cond.code yX5_alike cX5_alike 2 (some .int), Cond.methodLink RX5 167 yX4_compare, Cond.instanceMethod yX4_compare, Cond.selects RX4 yX4_compare yX4_compare, Cond.code yX4_compare cX4_compare 4 none, Cond.fieldLink RX4 15 "ShaftHunt$Watch" "pairs" "I", Cond.fieldLink RX4 19 "ShaftHunt$Drains" "shafts" "I", Cond.fieldLink RX4 24 "ShaftHunt$Drains" "below" "[I", Cond.methodLink RX5 170 yX4_untold, Cond.instanceMethod yX4_untold]
def wsL_law_r24 : List Cond := [Cond.selects RX4 yX4_untold yX4_untold, Cond.code yX4_untold cX4_untold 4 (some .int), Cond.methodLink RL 82 yX6_alike, Cond.instanceMethod yX6_alike, Cond.selects RX6 yX6_alike yX6_alike, Cond.code yX6_alike cX6_alike 2 (some .int), Cond.methodLink RX6 153 yX6_findBelows, Cond.instanceMethod yX6_findBelows, Cond.selects RX6 yX6_findBelows yX6_findBelows, Cond.code yX6_findBelows cX6_findBelows 2 none, Cond.methodLink RX6 156 yX6_alikeBy, Cond.instanceMethod yX6_alikeBy, Cond.selects RX6 yX6_alikeBy yX6_alikeBy, Cond.code yX6_alikeBy cX6_alikeBy 5 (some .int), Cond.methodLink RL 83 yX5_sensors, Cond.instanceMethod yX5_sensors, Cond.selects RX5 yX5_sensors yX5_sensors, Cond.code yX5_sensors cX5_sensors 3 (some .int), Cond.methodLink RX5 173 yX4_fewest, Cond.instanceMethod yX4_fewest, Cond.selects RX4 yX4_fewest yX4_fewest, Cond.code yX4_fewest cX4_fewest 6 (some .int), Cond.methodLink RX4 27 yJ6_bitCount_0f7a4, Cond.methodLink RX4 33 yX4_tellsAll]
def wsL_law_r25 : List Cond := [Cond.instanceMethod yX4_tellsAll, Cond.selects RX4 yX4_tellsAll yX4_tellsAll, Cond.code yX4_tellsAll cX4_tellsAll 3 (some .boolean), Cond.methodLink RL 86 yX6_sensors, Cond.instanceMethod yX6_sensors, Cond.selects RX6 yX6_sensors yX6_sensors, Cond.code yX6_sensors cX6_sensors 2 (some .int), Cond.methodLink RX6 159 yX6_sensorsOf, Cond.instanceMethod yX6_sensorsOf, Cond.selects RX6 yX6_sensorsOf yX6_sensorsOf, Cond.code yX6_sensorsOf cX6_sensorsOf 5 (some .int), Cond.methodLink RL 87 yX5_type, Cond.instanceMethod yX5_type, Cond.selects RX5 yX5_type yX5_type, Cond.code yX5_type cX5_type 2 (some .int), Cond.fieldLink RX5 180 "ShaftHunt" "bytes" "I", Cond.methodLink RL 90 yX6_type, Cond.instanceMethod yX6_type, Cond.selects RX6 yX6_type yX6_type, Cond.code yX6_type cX6_type 2 (some .int), Cond.fieldLink RX6 162 "ShaftHuntModel" "typed" "I", Cond.methodLink RL 91 yX5_clear, Cond.instanceMethod yX5_clear, Cond.selects RX5 yX5_clear yX5_clear]
def wsL_law_r26 : List Cond := [Cond.code yX5_clear cX5_clear 2 (some .int), Cond.methodLink RL 94 yX6_clear, Cond.instanceMethod yX6_clear, Cond.selects RX6 yX6_clear yX6_clear, Cond.code yX6_clear cX6_clear 2 (some .int), Cond.methodLink RL 95 yX5_reads, Cond.instanceMethod yX5_reads, Cond.selects RX5 yX5_reads yX5_reads, Cond.code yX5_reads cX5_reads 3 (some .int), Cond.fieldLink RX5 187 "ShaftHunt$Orders" "count" "I", Cond.methodLink RX5 183 yX2_parse, Cond.instanceMethod yX2_parse, Cond.selects RX2 yX2_parse yX2_parse, Cond.code yX2_parse cX2_parse 4 (some .int), Cond.fieldLink RX2 18 "ShaftHunt$Orders" "count" "I", Cond.fieldLink RX2 22 "ShaftHunt$Orders" "open" "Z", Cond.methodLink RX2 26 yX2_takes, Cond.instanceMethod yX2_takes, Cond.selects RX2 yX2_takes yX2_takes, Cond.code yX2_takes cX2_takes 2 (some .boolean), Cond.fieldLink RX2 48 "ShaftHunt$Orders" "figures" "I", Cond.methodLink RX2 51 yX2_opens, Cond.instanceMethod yX2_opens, Cond.selects RX2 yX2_opens yX2_opens]
def wsL_law_r27 : List Cond := [Cond.code yX2_opens cX2_opens 2 (some .boolean), Cond.fieldLink RX2 68 "ShaftHunt$Orders" "begun" "I", Cond.methodLink RX2 65 yX2_numbersOf, Cond.static yX2_numbersOf, Cond.code yX2_numbersOf cX2_numbersOf 1 (some .int), Cond.methodLink RX2 54 yX2_closes, Cond.instanceMethod yX2_closes, Cond.selects RX2 yX2_closes yX2_closes, Cond.code yX2_closes cX2_closes 1 (some .boolean), Cond.methodLink RX2 62 yX2_takesFigure, Cond.instanceMethod yX2_takesFigure, Cond.selects RX2 yX2_takesFigure yX2_takesFigure, Cond.code yX2_takesFigure cX2_takesFigure 3 (some .boolean), Cond.methodLink RX5 190 yX2_obey, Cond.instanceMethod yX2_obey, Cond.selects RX2 yX2_obey yX2_obey, Cond.code yX2_obey cX2_obey 6 (some .int), Cond.methodLink RX2 30 yX0_addShaft, Cond.methodLink RX2 36 yX0_addPipe, Cond.methodLink RX2 40 yX0_addSight, Cond.methodLink RX2 44 yX0_dropPipe, Cond.methodLink RX5 194 yX3_toMark, Cond.instanceMethod yX3_toMark, Cond.selects RX3 yX3_toMark yX3_toMark]
def wsL_law_r28 : List Cond := [Cond.code yX3_toMark cX3_toMark 2 none, Cond.methodLink RL 98 yX6_reads, Cond.instanceMethod yX6_reads, Cond.selects RX6 yX6_reads yX6_reads, Cond.code yX6_reads cX6_reads 3 (some .int), Cond.fieldLink RX6 165 "ShaftHuntModel" "at" "I", Cond.fieldLink RX6 168 "ShaftHuntModel" "fault" "I", Cond.fieldLink RX6 185 "ShaftHuntModel" "orders" "I", Cond.methodLink RX6 171 yX6_here, Cond.instanceMethod yX6_here, Cond.selects RX6 yX6_here yX6_here, Cond.code yX6_here cX6_here 1 (some .int), Cond.methodLink RX6 191 yX6_readOrder, Cond.instanceMethod yX6_readOrder, Cond.selects RX6 yX6_readOrder yX6_readOrder, Cond.code yX6_readOrder cX6_readOrder 4 none, Cond.methodLink RX6 182 yX6_numbersOf, Cond.static yX6_numbersOf, Cond.code yX6_numbersOf cX6_numbersOf 1 (some .int), Cond.methodLink RX6 174 yX6_must, Cond.instanceMethod yX6_must, Cond.selects RX6 yX6_must yX6_must, Cond.code yX6_must cX6_must 2 none, Cond.methodLink RX6 188 yX6_number]
def wsL_law_r29 : List Cond := [Cond.instanceMethod yX6_number, Cond.selects RX6 yX6_number yX6_number, Cond.code yX6_number cX6_number 2 (some .int), Cond.methodLink RX6 178 yX6_isFigure, Cond.instanceMethod yX6_isFigure, Cond.selects RX6 yX6_isFigure yX6_isFigure, Cond.code yX6_isFigure cX6_isFigure 1 (some .boolean), Cond.methodLink RX6 194 yX6_doOrder, Cond.instanceMethod yX6_doOrder, Cond.selects RX6 yX6_doOrder yX6_doOrder, Cond.code yX6_doOrder cX6_doOrder 4 (some .int), Cond.methodLink RL 99 yX5_back, Cond.instanceMethod yX5_back, Cond.selects RX5 yX5_back yX5_back, Cond.code yX5_back cX5_back 1 (some .int), Cond.fieldLink RX5 197 "ShaftHunt$Past" "count" "I", Cond.methodLink RX5 198 yX3_undo, Cond.instanceMethod yX3_undo, Cond.selects RX3 yX3_undo yX3_undo, Cond.code yX3_undo cX3_undo 2 none, Cond.methodLink RL 102 yX6_back, Cond.instanceMethod yX6_back, Cond.selects RX6 yX6_back yX6_back, Cond.code yX6_back cX6_back 2 (some .int)]
def wsL_law_r30 : List Cond := [Cond.methodLink RL 103 yX5_told, Cond.instanceMethod yX5_told, Cond.selects RX5 yX5_told yX5_told, Cond.code yX5_told cX5_told 2 (some .int), Cond.fieldLink RX5 213 "ShaftHunt$Drains" "pipes" "I", Cond.fieldLink RX5 216 "ShaftHunt$Drains" "sights" "I", Cond.methodLink RL 106 yX6_told, Cond.instanceMethod yX6_told, Cond.selects RX6 yX6_told yX6_told, Cond.code yX6_told cX6_told 2 (some .int), Cond.methodLink RX6 197 yX6_toldOf, Cond.instanceMethod yX6_toldOf, Cond.selects RX6 yX6_toldOf yX6_toldOf, Cond.code yX6_toldOf cX6_toldOf 2 (some .int), Cond.methodLink RL 107 yX5_digest, Cond.instanceMethod yX5_digest, Cond.selects RX5 yX5_digest yX5_digest, Cond.code yX5_digest cX5_digest 5 (some .long), Cond.constantLong RX5 219 (2557), Cond.constantLong RX5 221 (31), Cond.methodLink RX5 223 yX5_told, Cond.methodLink RX5 226 yX5_digestShafts, Cond.instanceMethod yX5_digestShafts, Cond.selects RX5 yX5_digestShafts yX5_digestShafts]
def wsL_law_r31 : List Cond := [Cond.code yX5_digestShafts cX5_digestShafts 7 (some .long), Cond.methodLink RX5 243 yX5_of, Cond.methodLink RX5 246 yX5_when, Cond.methodLink RX5 230 yX5_digestPipes, Cond.instanceMethod yX5_digestPipes, Cond.selects RX5 yX5_digestPipes yX5_digestPipes, Cond.code yX5_digestPipes cX5_digestPipes 7 (some .long), Cond.methodLink RX5 249 yX5_about, Cond.methodLink RX5 233 yX5_comes, Cond.methodLink RX5 237 yX5_next, Cond.methodLink RX5 240 yX5_sensors, Cond.methodLink RL 111 yX6_digest, Cond.instanceMethod yX6_digest, Cond.selects RX6 yX6_digest yX6_digest, Cond.code yX6_digest cX6_digest 4 (some .long), Cond.constantLong RX6 206 (2557), Cond.fieldLink RX6 202 "ShaftHuntModel" "h" "J", Cond.methodLink RX6 208 yX6_mix, Cond.instanceMethod yX6_mix, Cond.selects RX6 yX6_mix yX6_mix, Cond.code yX6_mix cX6_mix 3 none, Cond.constantLong RX6 200 (31)]
def wsL_law : List Cond := (wsL_law_r1 ++ (wsL_law_r2 ++ (wsL_law_r3 ++ (wsL_law_r4 ++ (wsL_law_r5 ++ (wsL_law_r6 ++ (wsL_law_r7 ++ (wsL_law_r8 ++ (wsL_law_r9 ++ (wsL_law_r10 ++ (wsL_law_r11 ++ (wsL_law_r12 ++ (wsL_law_r13 ++ (wsL_law_r14 ++ (wsL_law_r15 ++ (wsL_law_r16 ++ (wsL_law_r17 ++ (wsL_law_r18 ++ (wsL_law_r19 ++ (wsL_law_r20 ++ (wsL_law_r21 ++ (wsL_law_r22 ++ (wsL_law_r23 ++ (wsL_law_r24 ++ (wsL_law_r25 ++ (wsL_law_r26 ++ (wsL_law_r27 ++ (wsL_law_r28 ++ (wsL_law_r29 ++ (wsL_law_r30 ++ wsL_law_r31)))))))))))))))))))))))))))))) ++ wsX50 ++ wsX60 ++ wsX00 ++ wsX30 ++ wsX10 ++ wsX40 ++ wsX20 ++ ([] : List Cond)
end
section
theorem in_pl {big : List Cond} (ws : List Cond) (ps : List Nat) (hp : ws = ps.filterMap (fun i => big[i]?)) : ∀ w ∈ ws, w ∈ big := by
  intro w hw
  rw [hp] at hw
  obtain ⟨i, -, hi⟩ := List.mem_filterMap.mp hw
  exact List.mem_of_getElem? hi
set_option maxRecDepth 20000 in
theorem wsL_law_r1_in : ∀ w ∈ wsL_law_r1, w ∈ lw_tbl := in_pl _ [66, 67, 53, 597, 598, 59, 68, 69, 70, 71, 72, 73, 74, 75, 54, 222, 145, 146, 55, 223, 162, 163, 56, 224] (by decide +kernel)
set_option maxRecDepth 20000 in
theorem wsL_law_r2_in : ∀ w ∈ wsL_law_r2, w ∈ lw_tbl := in_pl _ [183, 184, 57, 225, 196, 197, 58, 226, 253, 227, 77, 78, 79, 144, 84, 86, 91, 94, 97, 99, 104, 106, 108, 110] (by decide +kernel)
set_option maxRecDepth 20000 in
theorem wsL_law_r3_in : ∀ w ∈ wsL_law_r3, w ∈ lw_tbl := in_pl _ [113, 147, 148, 149, 150, 151, 154, 164, 165, 166, 167, 182, 169, 171, 168, 186, 187, 188, 189, 199, 200, 201, 202, 203] (by decide +kernel)
set_option maxRecDepth 20000 in
theorem wsL_law_r4_in : ∀ w ∈ wsL_law_r4, w ∈ lw_tbl := in_pl _ [599, 600, 601, 602, 603, 604, 605, 607, 608, 609, 610, 615, 616, 606, 254, 255, 256, 257, 258, 259, 260, 261, 155, 262] (by decide +kernel)
set_option maxRecDepth 20000 in
theorem wsL_law_r5_in : ∀ w ∈ wsL_law_r5, w ∈ lw_tbl := in_pl _ [263, 264, 265, 80, 88, 102, 266, 267, 268, 269, 270, 60, 271, 272, 274, 273, 61, 275, 276, 277, 278, 279, 280, 281] (by decide +kernel)
set_option maxRecDepth 20000 in
theorem wsL_law_r6_in : ∀ w ∈ wsL_law_r6, w ∈ lw_tbl := in_pl _ [283, 284, 285, 286, 287, 288, 290, 0, 291, 292, 294, 1, 295, 296, 298, 2, 299, 300, 301, 63, 302, 303, 304, 305] (by decide +kernel)
set_option maxRecDepth 20000 in
theorem wsL_law_r7_in : ∀ w ∈ wsL_law_r7, w ∈ lw_tbl := in_pl _ [306, 308, 3, 309, 310, 312, 4, 313, 229, 230, 231, 314, 315, 316, 317, 318, 319, 320, 321, 172, 657, 658, 659, 660] (by decide +kernel)
set_option maxRecDepth 20000 in
theorem wsL_law_r8_in : ∀ w ∈ wsL_law_r8, w ∈ lw_tbl := in_pl _ [661, 663, 15, 664, 665, 667, 16, 668, 669, 670, 671, 672, 673, 674, 675, 677, 17, 678, 653, 655, 14, 656, 679, 681] (by decide +kernel)
set_option maxRecDepth 20000 in
theorem wsL_law_r9_in : ∀ w ∈ wsL_law_r9, w ∈ lw_tbl := in_pl _ [18, 682, 322, 323, 324, 325, 326, 327, 328, 329, 330, 331, 332, 333, 683, 684, 685, 686, 687, 689, 19, 690, 691, 693] (by decide +kernel)
set_option maxRecDepth 20000 in
theorem wsL_law_r10_in : ∀ w ∈ wsL_law_r10, w ∈ lw_tbl := in_pl _ [20, 694, 334, 335, 336, 337, 338, 339, 340, 341, 342, 343, 344, 345, 695, 696, 697, 698, 699, 701, 21, 702, 703, 705] (by decide +kernel)
set_option maxRecDepth 20000 in
theorem wsL_law_r11_in : ∀ w ∈ wsL_law_r11, w ∈ lw_tbl := in_pl _ [22, 706, 707, 709, 23, 710, 711, 712, 713, 346, 347, 348, 349, 350, 351, 352, 353, 354, 355, 356, 357, 714, 715, 716] (by decide +kernel)
set_option maxRecDepth 20000 in
theorem wsL_law_r12_in : ∀ w ∈ wsL_law_r12, w ∈ lw_tbl := in_pl _ [717, 718, 720, 24, 721, 722, 724, 25, 725, 358, 359, 360, 361, 85, 87, 93, 96, 112, 362, 363, 364, 365, 366, 367] (by decide +kernel)
set_option maxRecDepth 20000 in
theorem wsL_law_r13_in : ∀ w ∈ wsL_law_r13, w ∈ lw_tbl := in_pl _ [368, 369, 370, 742, 743, 744, 745, 746, 748, 28, 749, 750, 752, 29, 753, 754, 756, 30, 757, 371, 372, 373, 374, 98] (by decide +kernel)
set_option maxRecDepth 20000 in
theorem wsL_law_r14_in : ∀ w ∈ wsL_law_r14, w ∈ lw_tbl := in_pl _ [100, 375, 758, 759, 760, 761, 376, 377, 378, 379, 170, 380, 382, 5, 383, 384, 385, 386, 387, 388, 89, 114, 92, 95] (by decide +kernel)
set_option maxRecDepth 20000 in
theorem wsL_law_r15_in : ∀ w ∈ wsL_law_r15, w ∈ lw_tbl := in_pl _ [389, 390, 64, 391, 392, 393, 394, 395, 399, 400, 396, 397, 398, 401, 402, 403, 404, 762, 763, 764, 765, 766, 768, 31] (by decide +kernel)
set_option maxRecDepth 20000 in
theorem wsL_law_r16_in : ∀ w ∈ wsL_law_r16, w ∈ lw_tbl := in_pl _ [769, 770, 772, 32, 773, 774, 776, 33, 777, 778, 780, 34, 781, 782, 783, 784, 785, 787, 35, 788, 789, 791, 36, 792] (by decide +kernel)
set_option maxRecDepth 20000 in
theorem wsL_law_r17_in : ∀ w ∈ wsL_law_r17, w ∈ lw_tbl := in_pl _ [405, 406, 407, 408, 409, 410, 65, 411, 412, 413, 414, 415, 416, 417, 418, 419, 420, 421, 422, 423, 424, 425, 426, 427] (by decide +kernel)
set_option maxRecDepth 20000 in
theorem wsL_law_r18_in : ∀ w ∈ wsL_law_r18, w ∈ lw_tbl := in_pl _ [793, 794, 795, 796, 797, 798, 799, 428, 429, 430, 431, 432, 800, 801, 802, 803, 433, 434, 435, 436, 437, 438, 439, 440] (by decide +kernel)
set_option maxRecDepth 20000 in
theorem wsL_law_r19_in : ∀ w ∈ wsL_law_r19, w ∈ lw_tbl := in_pl _ [726, 727, 728, 729, 730, 732, 26, 733, 441, 442, 443, 444, 445, 446, 447, 448, 734, 735, 736, 737, 738, 740, 27, 741] (by decide +kernel)
set_option maxRecDepth 20000 in
theorem wsL_law_r20_in : ∀ w ∈ wsL_law_r20, w ∈ lw_tbl := in_pl _ [449, 450, 451, 452, 453, 454, 455, 456, 101, 457, 459, 6, 460, 107, 109, 105, 804, 805, 806, 807, 808, 810, 37, 811] (by decide +kernel)
set_option maxRecDepth 20000 in
theorem wsL_law_r21_in : ∀ w ∈ wsL_law_r21, w ∈ lw_tbl := in_pl _ [461, 462, 463, 464, 465, 466, 467, 468, 469, 470, 812, 813, 814, 815, 816, 818, 38, 819, 471, 472, 473, 474, 475, 476] (by decide +kernel)
set_option maxRecDepth 20000 in
theorem wsL_law_r22_in : ∀ w ∈ wsL_law_r22, w ∈ lw_tbl := in_pl _ [477, 478, 82, 479, 820, 821, 822, 823, 824, 826, 39, 827, 480, 481, 482, 483, 83, 484, 485, 486, 488, 489, 490, 487] (by decide +kernel)
set_option maxRecDepth 20000 in
theorem wsL_law_r23_in : ∀ w ∈ wsL_law_r23, w ∈ lw_tbl := in_pl _ [828, 829, 830, 831, 832, 834, 40, 835, 836, 837, 838, 491, 492, 493, 494, 495, 496, 497, 498, 190, 81, 111, 499, 500] (by decide +kernel)
set_option maxRecDepth 20000 in
theorem wsL_law_r24_in : ∀ w ∈ wsL_law_r24, w ∈ lw_tbl := in_pl _ [501, 502, 839, 840, 841, 842, 843, 845, 41, 846, 847, 849, 42, 850, 503, 504, 505, 506, 507, 508, 509, 510, 511, 512] (by decide +kernel)
set_option maxRecDepth 20000 in
theorem wsL_law_r25_in : ∀ w ∈ wsL_law_r25, w ∈ lw_tbl := in_pl _ [514, 7, 515, 851, 852, 853, 854, 855, 857, 43, 858, 516, 517, 518, 519, 228, 859, 860, 861, 862, 611, 520, 521, 522] (by decide +kernel)
set_option maxRecDepth 20000 in
theorem wsL_law_r26_in : ∀ w ∈ wsL_law_r26, w ∈ lw_tbl := in_pl _ [523, 863, 864, 865, 866, 524, 525, 526, 527, 205, 528, 529, 530, 531, 204, 206, 532, 534, 8, 535, 208, 536, 538, 9] (by decide +kernel)
set_option maxRecDepth 20000 in
theorem wsL_law_r27_in : ∀ w ∈ wsL_law_r27, w ∈ lw_tbl := in_pl _ [539, 207, 540, 541, 542, 543, 545, 10, 546, 548, 550, 11, 551, 552, 553, 554, 555, 556, 557, 558, 559, 560, 561, 562] (by decide +kernel)
set_option maxRecDepth 20000 in
theorem wsL_law_r28_in : ∀ w ∈ wsL_law_r28, w ∈ lw_tbl := in_pl _ [563, 867, 868, 869, 870, 612, 613, 614, 871, 873, 44, 874, 875, 877, 45, 878, 879, 880, 881, 882, 884, 46, 885, 886] (by decide +kernel)
set_option maxRecDepth 20000 in
theorem wsL_law_r29_in : ∀ w ∈ wsL_law_r29, w ∈ lw_tbl := in_pl _ [888, 47, 889, 890, 892, 48, 893, 894, 896, 49, 897, 564, 565, 566, 567, 156, 568, 569, 570, 571, 649, 650, 651, 652] (by decide +kernel)
set_option maxRecDepth 20000 in
theorem wsL_law_r30_in : ∀ w ∈ wsL_law_r30, w ∈ lw_tbl := in_pl _ [572, 573, 574, 575, 90, 103, 898, 899, 900, 901, 902, 904, 50, 905, 576, 577, 578, 579, 580, 581, 582, 583, 585, 12] (by decide +kernel)
set_option maxRecDepth 20000 in
theorem wsL_law_r31_in : ∀ w ∈ wsL_law_r31, w ∈ lw_tbl := in_pl _ [586, 587, 588, 589, 591, 13, 592, 593, 594, 595, 596, 906, 907, 908, 909, 910, 617, 911, 913, 51, 914, 915] (by decide +kernel)
set_option maxRecDepth 20000 in
theorem inwX0 : ∀ w ∈ wsX00, w ∈ lw_tbl := by decide +kernel
set_option maxRecDepth 20000 in
theorem inwX1 : ∀ w ∈ wsX10, w ∈ lw_tbl := by decide +kernel
set_option maxRecDepth 20000 in
theorem inwX2 : ∀ w ∈ wsX20, w ∈ lw_tbl := by decide +kernel
set_option maxRecDepth 20000 in
theorem inwX3 : ∀ w ∈ wsX30, w ∈ lw_tbl := by decide +kernel
set_option maxRecDepth 20000 in
theorem inwX4 : ∀ w ∈ wsX40, w ∈ lw_tbl := by decide +kernel
set_option maxRecDepth 20000 in
theorem inwX5 : ∀ w ∈ wsX50, w ∈ lw_tbl := by decide +kernel
set_option maxRecDepth 20000 in
theorem inwX6 : ∀ w ∈ wsX60, w ∈ lw_tbl := by decide +kernel
theorem in_app {big a b : List Cond} (ha : ∀ w ∈ a, w ∈ big) (hb : ∀ w ∈ b, w ∈ big) : ∀ w ∈ a ++ b, w ∈ big := fun w h => (List.mem_append.mp h).elim (ha w) (hb w)
theorem wsL_law_in : ∀ w ∈ wsL_law, w ∈ lw_tbl := in_app (in_app (in_app (in_app (in_app (in_app (in_app (in_app (in_app wsL_law_r1_in (in_app wsL_law_r2_in (in_app wsL_law_r3_in (in_app wsL_law_r4_in (in_app wsL_law_r5_in (in_app wsL_law_r6_in (in_app wsL_law_r7_in (in_app wsL_law_r8_in (in_app wsL_law_r9_in (in_app wsL_law_r10_in (in_app wsL_law_r11_in (in_app wsL_law_r12_in (in_app wsL_law_r13_in (in_app wsL_law_r14_in (in_app wsL_law_r15_in (in_app wsL_law_r16_in (in_app wsL_law_r17_in (in_app wsL_law_r18_in (in_app wsL_law_r19_in (in_app wsL_law_r20_in (in_app wsL_law_r21_in (in_app wsL_law_r22_in (in_app wsL_law_r23_in (in_app wsL_law_r24_in (in_app wsL_law_r25_in (in_app wsL_law_r26_in (in_app wsL_law_r27_in (in_app wsL_law_r28_in (in_app wsL_law_r29_in (in_app wsL_law_r30_in (wsL_law_r31_in))))))))))))))))))))))))))))))) inwX5) inwX6) inwX0) inwX3) inwX1) inwX4) inwX2) (fun _ h => absurd h List.not_mem_nil)
theorem inlX0 : ∀ w ∈ wsX00, w ∈ wsL_law := fun _ h => List.mem_append_left _ (List.mem_append_left _ (List.mem_append_left _ (List.mem_append_left _ (List.mem_append_left _ (List.mem_append_right _ h)))))
theorem inX0 : ∀ w ∈ wsX00, w ∈ lw_tbl := fun w h => wsL_law_in w (inlX0 w h)
theorem inlX1 : ∀ w ∈ wsX10, w ∈ wsL_law := fun _ h => List.mem_append_left _ (List.mem_append_left _ (List.mem_append_left _ (List.mem_append_right _ h)))
theorem inX1 : ∀ w ∈ wsX10, w ∈ lw_tbl := fun w h => wsL_law_in w (inlX1 w h)
theorem inlX2 : ∀ w ∈ wsX20, w ∈ wsL_law := fun _ h => List.mem_append_left _ (List.mem_append_right _ h)
theorem inX2 : ∀ w ∈ wsX20, w ∈ lw_tbl := fun w h => wsL_law_in w (inlX2 w h)
theorem inlX3 : ∀ w ∈ wsX30, w ∈ wsL_law := fun _ h => List.mem_append_left _ (List.mem_append_left _ (List.mem_append_left _ (List.mem_append_left _ (List.mem_append_right _ h))))
theorem inX3 : ∀ w ∈ wsX30, w ∈ lw_tbl := fun w h => wsL_law_in w (inlX3 w h)
theorem inlX4 : ∀ w ∈ wsX40, w ∈ wsL_law := fun _ h => List.mem_append_left _ (List.mem_append_left _ (List.mem_append_right _ h))
theorem inX4 : ∀ w ∈ wsX40, w ∈ lw_tbl := fun w h => wsL_law_in w (inlX4 w h)
theorem inlX5 : ∀ w ∈ wsX50, w ∈ wsL_law := fun _ h => List.mem_append_left _ (List.mem_append_left _ (List.mem_append_left _ (List.mem_append_left _ (List.mem_append_left _ (List.mem_append_left _ (List.mem_append_left _ (List.mem_append_right _ h)))))))
theorem inX5 : ∀ w ∈ wsX50, w ∈ lw_tbl := fun w h => wsL_law_in w (inlX5 w h)
theorem inlX6 : ∀ w ∈ wsX60, w ∈ wsL_law := fun _ h => List.mem_append_left _ (List.mem_append_left _ (List.mem_append_left _ (List.mem_append_left _ (List.mem_append_left _ (List.mem_append_left _ (List.mem_append_right _ h))))))
theorem inX6 : ∀ w ∈ wsX60, w ∈ lw_tbl := fun w h => wsL_law_in w (inlX6 w h)
end
section
theorem dX0_init_0 : decode cX0_init 0 = .ok (.aload_n 0, 1) := by decide +kernel
theorem dX0_init_1 : decode cX0_init 1 = .ok (.invokespecial 3, 3) := by decide +kernel
theorem dX0_init_4 : decode cX0_init 4 = .ok (.aload_n 0, 1) := by decide +kernel
theorem dX0_init_5 : decode cX0_init 5 = .ok (.bipush 10, 2) := by decide +kernel
theorem dX0_init_7 : decode cX0_init 7 = .ok (.newarray .int, 2) := by decide +kernel
theorem dX0_init_9 : decode cX0_init 9 = .ok (.putfield 9, 3) := by decide +kernel
theorem dX0_init_12 : decode cX0_init 12 = .ok (.aload_n 0, 1) := by decide +kernel
theorem dX0_init_13 : decode cX0_init 13 = .ok (.bipush 10, 2) := by decide +kernel
theorem dX0_init_15 : decode cX0_init 15 = .ok (.newarray .int, 2) := by decide +kernel
theorem dX0_init_17 : decode cX0_init 17 = .ok (.putfield 15, 3) := by decide +kernel
theorem dX0_init_20 : decode cX0_init 20 = .ok (.aload_n 0, 1) := by decide +kernel
theorem dX0_init_21 : decode cX0_init 21 = .ok (.bipush 16, 2) := by decide +kernel
theorem dX0_init_23 : decode cX0_init 23 = .ok (.newarray .int, 2) := by decide +kernel
theorem dX0_init_25 : decode cX0_init 25 = .ok (.putfield 18, 3) := by decide +kernel
theorem dX0_init_28 : decode cX0_init 28 = .ok (.aload_n 0, 1) := by decide +kernel
theorem dX0_init_29 : decode cX0_init 29 = .ok (.bipush 16, 2) := by decide +kernel
theorem dX0_init_31 : decode cX0_init 31 = .ok (.newarray .int, 2) := by decide +kernel
theorem dX0_init_33 : decode cX0_init 33 = .ok (.putfield 21, 3) := by decide +kernel
theorem dX0_init_36 : decode cX0_init 36 = .ok (.aload_n 0, 1) := by decide +kernel
theorem dX0_init_37 : decode cX0_init 37 = .ok (.bipush 16, 2) := by decide +kernel
theorem dX0_init_39 : decode cX0_init 39 = .ok (.newarray .int, 2) := by decide +kernel
theorem dX0_init_41 : decode cX0_init 41 = .ok (.putfield 24, 3) := by decide +kernel
theorem dX0_init_44 : decode cX0_init 44 = .ok (.aload_n 0, 1) := by decide +kernel
theorem dX0_init_45 : decode cX0_init 45 = .ok (.bipush 16, 2) := by decide +kernel
theorem dX0_init_47 : decode cX0_init 47 = .ok (.newarray .int, 2) := by decide +kernel
theorem dX0_init_49 : decode cX0_init 49 = .ok (.putfield 27, 3) := by decide +kernel
theorem dX0_init_52 : decode cX0_init 52 = .ok (.aload_n 0, 1) := by decide +kernel
theorem dX0_init_53 : decode cX0_init 53 = .ok (.bipush 12, 2) := by decide +kernel
theorem dX0_init_55 : decode cX0_init 55 = .ok (.newarray .int, 2) := by decide +kernel
theorem dX0_init_57 : decode cX0_init 57 = .ok (.putfield 30, 3) := by decide +kernel
theorem dX0_init_60 : decode cX0_init 60 = .ok (.aload_n 0, 1) := by decide +kernel
theorem dX0_init_61 : decode cX0_init 61 = .ok (.bipush 12, 2) := by decide +kernel
theorem dX0_init_63 : decode cX0_init 63 = .ok (.newarray .int, 2) := by decide +kernel
theorem dX0_init_65 : decode cX0_init 65 = .ok (.putfield 33, 3) := by decide +kernel
theorem dX0_init_68 : decode cX0_init 68 = .ok (.aload_n 0, 1) := by decide +kernel
theorem dX0_init_69 : decode cX0_init 69 = .ok (.bipush 12, 2) := by decide +kernel
theorem dX0_init_71 : decode cX0_init 71 = .ok (.newarray .int, 2) := by decide +kernel
theorem dX0_init_73 : decode cX0_init 73 = .ok (.putfield 36, 3) := by decide +kernel
theorem dX0_init_76 : decode cX0_init 76 = .ok (.aload_n 0, 1) := by decide +kernel
theorem dX0_init_77 : decode cX0_init 77 = .ok (.bipush 10, 2) := by decide +kernel
theorem dX0_init_79 : decode cX0_init 79 = .ok (.newarray .int, 2) := by decide +kernel
theorem dX0_init_81 : decode cX0_init 81 = .ok (.putfield 39, 3) := by decide +kernel
theorem dX0_init_84 : decode cX0_init 84 = .ok (.aload_n 0, 1) := by decide +kernel
theorem dX0_init_85 : decode cX0_init 85 = .ok (.bipush 16, 2) := by decide +kernel
theorem dX0_init_87 : decode cX0_init 87 = .ok (.newarray .int, 2) := by decide +kernel
theorem dX0_init_89 : decode cX0_init 89 = .ok (.putfield 42, 3) := by decide +kernel
theorem dX0_init_92 : decode cX0_init 92 = .ok (.return_, 1) := by decide +kernel
set_option maxRecDepth 20000 in
theorem ggX0_hasShaft_X5_within : GoodIn wsX0_hasShaft wsX5_within := goodIn_r _ [4] (by decide +kernel) (by decide +kernel)
set_option maxRecDepth 20000 in
theorem gX0_hasShaft_X5_within_n49 : GoodIn wsX0_hasShaft (wsX5_within) := ggX0_hasShaft_X5_within
theorem dX0_hasShaft_0 : decode cX0_hasShaft 0 = .ok (.iload_n 1, 1) := by decide +kernel
theorem dX0_hasShaft_1 : decode cX0_hasShaft 1 = .ok (.iconst 0, 1) := by decide +kernel
theorem dX0_hasShaft_2 : decode cX0_hasShaft 2 = .ok (.aload_n 0, 1) := by decide +kernel
theorem dX0_hasShaft_3 : decode cX0_hasShaft 3 = .ok (.getfield 45, 3) := by decide +kernel
theorem dX0_hasShaft_6 : decode cX0_hasShaft 6 = .ok (.iconst 1, 1) := by decide +kernel
theorem dX0_hasShaft_7 : decode cX0_hasShaft 7 = .ok (.isub, 1) := by decide +kernel
theorem dX0_hasShaft_8 : decode cX0_hasShaft 8 = .ok (.invokestatic 49, 3) := by decide +kernel
theorem dX0_hasShaft_11 : decode cX0_hasShaft 11 = .ok (.ireturn, 1) := by decide +kernel
set_option maxRecDepth 20000 in
theorem ggX0_hasPipe_X5_within : GoodIn wsX0_hasPipe wsX5_within := goodIn_r _ [4] (by decide +kernel) (by decide +kernel)
set_option maxRecDepth 20000 in
theorem gX0_hasPipe_X5_within_n49 : GoodIn wsX0_hasPipe (wsX5_within) := ggX0_hasPipe_X5_within
theorem dX0_hasPipe_0 : decode cX0_hasPipe 0 = .ok (.iload_n 1, 1) := by decide +kernel
theorem dX0_hasPipe_1 : decode cX0_hasPipe 1 = .ok (.iconst 0, 1) := by decide +kernel
theorem dX0_hasPipe_2 : decode cX0_hasPipe 2 = .ok (.aload_n 0, 1) := by decide +kernel
theorem dX0_hasPipe_3 : decode cX0_hasPipe 3 = .ok (.getfield 53, 3) := by decide +kernel
theorem dX0_hasPipe_6 : decode cX0_hasPipe 6 = .ok (.iconst 1, 1) := by decide +kernel
theorem dX0_hasPipe_7 : decode cX0_hasPipe 7 = .ok (.isub, 1) := by decide +kernel
theorem dX0_hasPipe_8 : decode cX0_hasPipe 8 = .ok (.invokestatic 49, 3) := by decide +kernel
theorem dX0_hasPipe_11 : decode cX0_hasPipe 11 = .ok (.ireturn, 1) := by decide +kernel
set_option maxRecDepth 20000 in
theorem ggX0_addShaft_X0_isKind : GoodIn wsX0_addShaft wsX0_isKind := goodIn_r _ [7, 8, 9, 10] (by decide +kernel) (by decide +kernel)
set_option maxRecDepth 20000 in
theorem gX0_addShaft_X0_isKind : GoodIn wsX0_addShaft (va_wsS RX0 56 yX0_isKind wsX0_isKind) := goodIn_app (goodIn_of _ (by decide +kernel)) ggX0_addShaft_X0_isKind
set_option maxRecDepth 20000 in
theorem ggX0_addShaft_X0_isPace : GoodIn wsX0_addShaft wsX0_isPace := goodIn_r _ [13, 8, 9, 10] (by decide +kernel) (by decide +kernel)
set_option maxRecDepth 20000 in
theorem gX0_addShaft_X0_isPace : GoodIn wsX0_addShaft (va_wsS RX0 60 yX0_isPace wsX0_isPace) := goodIn_app (goodIn_of _ (by decide +kernel)) ggX0_addShaft_X0_isPace
set_option maxRecDepth 20000 in
theorem ggX0_addShaft_X0_findWays : GoodIn wsX0_addShaft wsX0_findWays := goodIn_r _ [17, 18, 19, 20, 6, 21, 1, 22, 23, 24, 25, 26, 27, 28, 29, 30, 31, 32, 33, 34, 35, 36, 37, 38, 39, 40, 41, 42, 43, 44, 45, 46, 47, 48, 49, 50, 51] (by decide +kernel) (by decide +kernel)
set_option maxRecDepth 20000 in
theorem gX0_addShaft_X0_findWays : GoodIn wsX0_addShaft (wsV RX0 63 RX0 yX0_findWays wsX0_findWays) := goodIn_app (goodIn_of _ (by decide +kernel)) ggX0_addShaft_X0_findWays
theorem dX0_addShaft_0 : decode cX0_addShaft 0 = .ok (.iload_n 1, 1) := by decide +kernel
theorem dX0_addShaft_1 : decode cX0_addShaft 1 = .ok (.invokestatic 56, 3) := by decide +kernel
theorem dX0_addShaft_4 : decode cX0_addShaft 4 = .ok (.ifCond .eq 10, 3) := by decide +kernel
theorem dX0_addShaft_7 : decode cX0_addShaft 7 = .ok (.iload_n 2, 1) := by decide +kernel
theorem dX0_addShaft_8 : decode cX0_addShaft 8 = .ok (.invokestatic 60, 3) := by decide +kernel
theorem dX0_addShaft_11 : decode cX0_addShaft 11 = .ok (.ifCond .ne 6, 3) := by decide +kernel
theorem dX0_addShaft_14 : decode cX0_addShaft 14 = .ok (.bipush (-2), 2) := by decide +kernel
theorem dX0_addShaft_16 : decode cX0_addShaft 16 = .ok (.ireturn, 1) := by decide +kernel
theorem dX0_addShaft_17 : decode cX0_addShaft 17 = .ok (.aload_n 0, 1) := by decide +kernel
theorem dX0_addShaft_18 : decode cX0_addShaft 18 = .ok (.getfield 45, 3) := by decide +kernel
theorem dX0_addShaft_21 : decode cX0_addShaft 21 = .ok (.bipush 10, 2) := by decide +kernel
theorem dX0_addShaft_23 : decode cX0_addShaft 23 = .ok (.if_icmp .lt 6, 3) := by decide +kernel
theorem dX0_addShaft_26 : decode cX0_addShaft 26 = .ok (.bipush (-4), 2) := by decide +kernel
theorem dX0_addShaft_28 : decode cX0_addShaft 28 = .ok (.ireturn, 1) := by decide +kernel
theorem dX0_addShaft_29 : decode cX0_addShaft 29 = .ok (.aload_n 0, 1) := by decide +kernel
theorem dX0_addShaft_30 : decode cX0_addShaft 30 = .ok (.getfield 45, 3) := by decide +kernel
theorem dX0_addShaft_33 : decode cX0_addShaft 33 = .ok (.istore_n 3, 1) := by decide +kernel
theorem dX0_addShaft_34 : decode cX0_addShaft 34 = .ok (.aload_n 0, 1) := by decide +kernel
theorem dX0_addShaft_35 : decode cX0_addShaft 35 = .ok (.getfield 9, 3) := by decide +kernel
theorem dX0_addShaft_38 : decode cX0_addShaft 38 = .ok (.iload_n 3, 1) := by decide +kernel
theorem dX0_addShaft_39 : decode cX0_addShaft 39 = .ok (.iload_n 1, 1) := by decide +kernel
theorem dX0_addShaft_40 : decode cX0_addShaft 40 = .ok (.iastore, 1) := by decide +kernel
theorem dX0_addShaft_41 : decode cX0_addShaft 41 = .ok (.aload_n 0, 1) := by decide +kernel
theorem dX0_addShaft_42 : decode cX0_addShaft 42 = .ok (.getfield 15, 3) := by decide +kernel
theorem dX0_addShaft_45 : decode cX0_addShaft 45 = .ok (.iload_n 3, 1) := by decide +kernel
theorem dX0_addShaft_46 : decode cX0_addShaft 46 = .ok (.iload_n 2, 1) := by decide +kernel
theorem dX0_addShaft_47 : decode cX0_addShaft 47 = .ok (.iastore, 1) := by decide +kernel
theorem dX0_addShaft_48 : decode cX0_addShaft 48 = .ok (.aload_n 0, 1) := by decide +kernel
theorem dX0_addShaft_49 : decode cX0_addShaft 49 = .ok (.dup, 1) := by decide +kernel
theorem dX0_addShaft_50 : decode cX0_addShaft 50 = .ok (.getfield 45, 3) := by decide +kernel
theorem dX0_addShaft_53 : decode cX0_addShaft 53 = .ok (.iconst 1, 1) := by decide +kernel
theorem dX0_addShaft_54 : decode cX0_addShaft 54 = .ok (.iadd, 1) := by decide +kernel
theorem dX0_addShaft_55 : decode cX0_addShaft 55 = .ok (.putfield 45, 3) := by decide +kernel
theorem dX0_addShaft_58 : decode cX0_addShaft 58 = .ok (.aload_n 0, 1) := by decide +kernel
theorem dX0_addShaft_59 : decode cX0_addShaft 59 = .ok (.invokevirtual 63, 3) := by decide +kernel
theorem dX0_addShaft_62 : decode cX0_addShaft 62 = .ok (.iload_n 3, 1) := by decide +kernel
theorem dX0_addShaft_63 : decode cX0_addShaft 63 = .ok (.ireturn, 1) := by decide +kernel
set_option maxRecDepth 20000 in
theorem ggX0_changeShaft_X0_hasShaft : GoodIn wsX0_changeShaft wsX0_hasShaft := goodIn_r _ [7, 8, 9, 10, 11, 18, 19, 20, 21, 22, 23, 24, 25, 26, 27, 28, 29, 30, 31] (by decide +kernel) (by decide +kernel)
set_option maxRecDepth 20000 in
theorem gX0_changeShaft_X0_hasShaft : GoodIn wsX0_changeShaft (wsV RX0 66 RX0 yX0_hasShaft wsX0_hasShaft) := goodIn_app (goodIn_of _ (by decide +kernel)) ggX0_changeShaft_X0_hasShaft
set_option maxRecDepth 20000 in
theorem ggX0_changeShaft_X0_isKind : GoodIn wsX0_changeShaft wsX0_isKind := goodIn_r _ [14, 9, 10, 11] (by decide +kernel) (by decide +kernel)
set_option maxRecDepth 20000 in
theorem gX0_changeShaft_X0_isKind : GoodIn wsX0_changeShaft (va_wsS RX0 56 yX0_isKind wsX0_isKind) := goodIn_app (goodIn_of _ (by decide +kernel)) ggX0_changeShaft_X0_isKind
set_option maxRecDepth 20000 in
theorem ggX0_changeShaft_X0_isPace : GoodIn wsX0_changeShaft wsX0_isPace := goodIn_r _ [17, 9, 10, 11] (by decide +kernel) (by decide +kernel)
set_option maxRecDepth 20000 in
theorem gX0_changeShaft_X0_isPace : GoodIn wsX0_changeShaft (va_wsS RX0 60 yX0_isPace wsX0_isPace) := goodIn_app (goodIn_of _ (by decide +kernel)) ggX0_changeShaft_X0_isPace
theorem dX0_changeShaft_0 : decode cX0_changeShaft 0 = .ok (.aload_n 0, 1) := by decide +kernel
theorem dX0_changeShaft_1 : decode cX0_changeShaft 1 = .ok (.iload_n 1, 1) := by decide +kernel
theorem dX0_changeShaft_2 : decode cX0_changeShaft 2 = .ok (.invokevirtual 66, 3) := by decide +kernel
theorem dX0_changeShaft_5 : decode cX0_changeShaft 5 = .ok (.ifCond .ne 6, 3) := by decide +kernel
theorem dX0_changeShaft_8 : decode cX0_changeShaft 8 = .ok (.bipush (-2), 2) := by decide +kernel
theorem dX0_changeShaft_10 : decode cX0_changeShaft 10 = .ok (.ireturn, 1) := by decide +kernel
theorem dX0_changeShaft_11 : decode cX0_changeShaft 11 = .ok (.iload_n 2, 1) := by decide +kernel
theorem dX0_changeShaft_12 : decode cX0_changeShaft 12 = .ok (.ifCond .ne 28, 3) := by decide +kernel
theorem dX0_changeShaft_15 : decode cX0_changeShaft 15 = .ok (.iload_n 3, 1) := by decide +kernel
theorem dX0_changeShaft_16 : decode cX0_changeShaft 16 = .ok (.invokestatic 56, 3) := by decide +kernel
theorem dX0_changeShaft_19 : decode cX0_changeShaft 19 = .ok (.ifCond .eq 21, 3) := by decide +kernel
theorem dX0_changeShaft_22 : decode cX0_changeShaft 22 = .ok (.aload_n 0, 1) := by decide +kernel
theorem dX0_changeShaft_23 : decode cX0_changeShaft 23 = .ok (.getfield 9, 3) := by decide +kernel
theorem dX0_changeShaft_26 : decode cX0_changeShaft 26 = .ok (.iload_n 1, 1) := by decide +kernel
theorem dX0_changeShaft_27 : decode cX0_changeShaft 27 = .ok (.iaload, 1) := by decide +kernel
theorem dX0_changeShaft_28 : decode cX0_changeShaft 28 = .ok (.istore 4, 2) := by decide +kernel
theorem dX0_changeShaft_30 : decode cX0_changeShaft 30 = .ok (.aload_n 0, 1) := by decide +kernel
theorem dX0_changeShaft_31 : decode cX0_changeShaft 31 = .ok (.getfield 9, 3) := by decide +kernel
theorem dX0_changeShaft_34 : decode cX0_changeShaft 34 = .ok (.iload_n 1, 1) := by decide +kernel
theorem dX0_changeShaft_35 : decode cX0_changeShaft 35 = .ok (.iload_n 3, 1) := by decide +kernel
theorem dX0_changeShaft_36 : decode cX0_changeShaft 36 = .ok (.iastore, 1) := by decide +kernel
theorem dX0_changeShaft_37 : decode cX0_changeShaft 37 = .ok (.iload 4, 2) := by decide +kernel
theorem dX0_changeShaft_39 : decode cX0_changeShaft 39 = .ok (.ireturn, 1) := by decide +kernel
theorem dX0_changeShaft_40 : decode cX0_changeShaft 40 = .ok (.iload_n 2, 1) := by decide +kernel
theorem dX0_changeShaft_41 : decode cX0_changeShaft 41 = .ok (.iconst 1, 1) := by decide +kernel
theorem dX0_changeShaft_42 : decode cX0_changeShaft 42 = .ok (.if_icmp .ne 28, 3) := by decide +kernel
theorem dX0_changeShaft_45 : decode cX0_changeShaft 45 = .ok (.iload_n 3, 1) := by decide +kernel
theorem dX0_changeShaft_46 : decode cX0_changeShaft 46 = .ok (.invokestatic 60, 3) := by decide +kernel
theorem dX0_changeShaft_49 : decode cX0_changeShaft 49 = .ok (.ifCond .eq 21, 3) := by decide +kernel
theorem dX0_changeShaft_52 : decode cX0_changeShaft 52 = .ok (.aload_n 0, 1) := by decide +kernel
theorem dX0_changeShaft_53 : decode cX0_changeShaft 53 = .ok (.getfield 15, 3) := by decide +kernel
theorem dX0_changeShaft_56 : decode cX0_changeShaft 56 = .ok (.iload_n 1, 1) := by decide +kernel
theorem dX0_changeShaft_57 : decode cX0_changeShaft 57 = .ok (.iaload, 1) := by decide +kernel
theorem dX0_changeShaft_58 : decode cX0_changeShaft 58 = .ok (.istore 4, 2) := by decide +kernel
theorem dX0_changeShaft_60 : decode cX0_changeShaft 60 = .ok (.aload_n 0, 1) := by decide +kernel
theorem dX0_changeShaft_61 : decode cX0_changeShaft 61 = .ok (.getfield 15, 3) := by decide +kernel
theorem dX0_changeShaft_64 : decode cX0_changeShaft 64 = .ok (.iload_n 1, 1) := by decide +kernel
theorem dX0_changeShaft_65 : decode cX0_changeShaft 65 = .ok (.iload_n 3, 1) := by decide +kernel
theorem dX0_changeShaft_66 : decode cX0_changeShaft 66 = .ok (.iastore, 1) := by decide +kernel
theorem dX0_changeShaft_67 : decode cX0_changeShaft 67 = .ok (.iload 4, 2) := by decide +kernel
theorem dX0_changeShaft_69 : decode cX0_changeShaft 69 = .ok (.ireturn, 1) := by decide +kernel
theorem dX0_changeShaft_70 : decode cX0_changeShaft 70 = .ok (.bipush (-2), 2) := by decide +kernel
theorem dX0_changeShaft_72 : decode cX0_changeShaft 72 = .ok (.ireturn, 1) := by decide +kernel
set_option maxRecDepth 20000 in
theorem ggX0_addPipe_X0_hasShaft : GoodIn wsX0_addPipe wsX0_hasShaft := goodIn_r _ [10, 11, 12, 13, 14, 40, 41, 42, 43, 44, 45, 46, 47, 48, 49, 50, 51, 52, 53] (by decide +kernel) (by decide +kernel)
set_option maxRecDepth 20000 in
theorem gX0_addPipe_X0_hasShaft : GoodIn wsX0_addPipe (wsV RX0 66 RX0 yX0_hasShaft wsX0_hasShaft) := goodIn_app (goodIn_of _ (by decide +kernel)) ggX0_addPipe_X0_hasShaft
set_option maxRecDepth 20000 in
theorem ggX0_addPipe_X0_isBelow : GoodIn wsX0_addPipe wsX0_isBelow := goodIn_r _ [18, 19, 40, 41, 42, 43, 44, 45, 46, 47, 48, 49, 50, 51, 52, 53] (by decide +kernel) (by decide +kernel)
set_option maxRecDepth 20000 in
theorem gX0_addPipe_X0_isBelow : GoodIn wsX0_addPipe (wsV RX0 69 RX0 yX0_isBelow wsX0_isBelow) := goodIn_app (goodIn_of _ (by decide +kernel)) ggX0_addPipe_X0_isBelow
set_option maxRecDepth 20000 in
theorem ggX0_addPipe_X0_findWays : GoodIn wsX0_addPipe wsX0_findWays := goodIn_r _ [23, 24, 25, 26, 9, 27, 11, 19, 1, 2, 3, 28, 29, 30, 31, 32, 33, 34, 35, 36, 37, 38, 39, 40, 41, 42, 43, 44, 45, 46, 47, 48, 49, 50, 51, 52, 53] (by decide +kernel) (by decide +kernel)
set_option maxRecDepth 20000 in
theorem gX0_addPipe_X0_findWays : GoodIn wsX0_addPipe (wsV RX0 63 RX0 yX0_findWays wsX0_findWays) := goodIn_app (goodIn_of _ (by decide +kernel)) ggX0_addPipe_X0_findWays
theorem dX0_addPipe_0 : decode cX0_addPipe 0 = .ok (.aload_n 0, 1) := by decide +kernel
theorem dX0_addPipe_1 : decode cX0_addPipe 1 = .ok (.iload_n 1, 1) := by decide +kernel
theorem dX0_addPipe_2 : decode cX0_addPipe 2 = .ok (.invokevirtual 66, 3) := by decide +kernel
theorem dX0_addPipe_5 : decode cX0_addPipe 5 = .ok (.ifCond .eq 16, 3) := by decide +kernel
theorem dX0_addPipe_8 : decode cX0_addPipe 8 = .ok (.aload_n 0, 1) := by decide +kernel
theorem dX0_addPipe_9 : decode cX0_addPipe 9 = .ok (.iload_n 2, 1) := by decide +kernel
theorem dX0_addPipe_10 : decode cX0_addPipe 10 = .ok (.invokevirtual 66, 3) := by decide +kernel
theorem dX0_addPipe_13 : decode cX0_addPipe 13 = .ok (.ifCond .eq 8, 3) := by decide +kernel
theorem dX0_addPipe_16 : decode cX0_addPipe 16 = .ok (.iload_n 1, 1) := by decide +kernel
theorem dX0_addPipe_17 : decode cX0_addPipe 17 = .ok (.iload_n 2, 1) := by decide +kernel
theorem dX0_addPipe_18 : decode cX0_addPipe 18 = .ok (.if_icmp .ne 6, 3) := by decide +kernel
theorem dX0_addPipe_21 : decode cX0_addPipe 21 = .ok (.bipush (-2), 2) := by decide +kernel
theorem dX0_addPipe_23 : decode cX0_addPipe 23 = .ok (.ireturn, 1) := by decide +kernel
theorem dX0_addPipe_24 : decode cX0_addPipe 24 = .ok (.iload_n 3, 1) := by decide +kernel
theorem dX0_addPipe_25 : decode cX0_addPipe 25 = .ok (.ifCond .lt 16, 3) := by decide +kernel
theorem dX0_addPipe_28 : decode cX0_addPipe 28 = .ok (.iload 4, 2) := by decide +kernel
theorem dX0_addPipe_30 : decode cX0_addPipe 30 = .ok (.bipush 9, 2) := by decide +kernel
theorem dX0_addPipe_32 : decode cX0_addPipe 32 = .ok (.if_icmp .gt 9, 3) := by decide +kernel
theorem dX0_addPipe_35 : decode cX0_addPipe 35 = .ok (.iload_n 3, 1) := by decide +kernel
theorem dX0_addPipe_36 : decode cX0_addPipe 36 = .ok (.iload 4, 2) := by decide +kernel
theorem dX0_addPipe_38 : decode cX0_addPipe 38 = .ok (.if_icmp .le 6, 3) := by decide +kernel
theorem dX0_addPipe_41 : decode cX0_addPipe 41 = .ok (.bipush (-2), 2) := by decide +kernel
theorem dX0_addPipe_43 : decode cX0_addPipe 43 = .ok (.ireturn, 1) := by decide +kernel
theorem dX0_addPipe_44 : decode cX0_addPipe 44 = .ok (.aload_n 0, 1) := by decide +kernel
theorem dX0_addPipe_45 : decode cX0_addPipe 45 = .ok (.iload_n 1, 1) := by decide +kernel
theorem dX0_addPipe_46 : decode cX0_addPipe 46 = .ok (.iload_n 2, 1) := by decide +kernel
theorem dX0_addPipe_47 : decode cX0_addPipe 47 = .ok (.invokevirtual 69, 3) := by decide +kernel
theorem dX0_addPipe_50 : decode cX0_addPipe 50 = .ok (.ifCond .eq 6, 3) := by decide +kernel
theorem dX0_addPipe_53 : decode cX0_addPipe 53 = .ok (.bipush (-3), 2) := by decide +kernel
theorem dX0_addPipe_55 : decode cX0_addPipe 55 = .ok (.ireturn, 1) := by decide +kernel
theorem dX0_addPipe_56 : decode cX0_addPipe 56 = .ok (.aload_n 0, 1) := by decide +kernel
theorem dX0_addPipe_57 : decode cX0_addPipe 57 = .ok (.getfield 53, 3) := by decide +kernel
theorem dX0_addPipe_60 : decode cX0_addPipe 60 = .ok (.bipush 16, 2) := by decide +kernel
theorem dX0_addPipe_62 : decode cX0_addPipe 62 = .ok (.if_icmp .lt 6, 3) := by decide +kernel
theorem dX0_addPipe_65 : decode cX0_addPipe 65 = .ok (.bipush (-4), 2) := by decide +kernel
theorem dX0_addPipe_67 : decode cX0_addPipe 67 = .ok (.ireturn, 1) := by decide +kernel
theorem dX0_addPipe_68 : decode cX0_addPipe 68 = .ok (.aload_n 0, 1) := by decide +kernel
theorem dX0_addPipe_69 : decode cX0_addPipe 69 = .ok (.getfield 53, 3) := by decide +kernel
theorem dX0_addPipe_72 : decode cX0_addPipe 72 = .ok (.istore 5, 2) := by decide +kernel
theorem dX0_addPipe_74 : decode cX0_addPipe 74 = .ok (.aload_n 0, 1) := by decide +kernel
theorem dX0_addPipe_75 : decode cX0_addPipe 75 = .ok (.getfield 18, 3) := by decide +kernel
theorem dX0_addPipe_78 : decode cX0_addPipe 78 = .ok (.iload 5, 2) := by decide +kernel
theorem dX0_addPipe_80 : decode cX0_addPipe 80 = .ok (.iload_n 1, 1) := by decide +kernel
theorem dX0_addPipe_81 : decode cX0_addPipe 81 = .ok (.iastore, 1) := by decide +kernel
theorem dX0_addPipe_82 : decode cX0_addPipe 82 = .ok (.aload_n 0, 1) := by decide +kernel
theorem dX0_addPipe_83 : decode cX0_addPipe 83 = .ok (.getfield 21, 3) := by decide +kernel
theorem dX0_addPipe_86 : decode cX0_addPipe 86 = .ok (.iload 5, 2) := by decide +kernel
theorem dX0_addPipe_88 : decode cX0_addPipe 88 = .ok (.iload_n 2, 1) := by decide +kernel
theorem dX0_addPipe_89 : decode cX0_addPipe 89 = .ok (.iastore, 1) := by decide +kernel
theorem dX0_addPipe_90 : decode cX0_addPipe 90 = .ok (.aload_n 0, 1) := by decide +kernel
theorem dX0_addPipe_91 : decode cX0_addPipe 91 = .ok (.getfield 24, 3) := by decide +kernel
theorem dX0_addPipe_94 : decode cX0_addPipe 94 = .ok (.iload 5, 2) := by decide +kernel
theorem dX0_addPipe_96 : decode cX0_addPipe 96 = .ok (.iload_n 3, 1) := by decide +kernel
theorem dX0_addPipe_97 : decode cX0_addPipe 97 = .ok (.iastore, 1) := by decide +kernel
theorem dX0_addPipe_98 : decode cX0_addPipe 98 = .ok (.aload_n 0, 1) := by decide +kernel
theorem dX0_addPipe_99 : decode cX0_addPipe 99 = .ok (.getfield 27, 3) := by decide +kernel
theorem dX0_addPipe_102 : decode cX0_addPipe 102 = .ok (.iload 5, 2) := by decide +kernel
theorem dX0_addPipe_104 : decode cX0_addPipe 104 = .ok (.iload 4, 2) := by decide +kernel
theorem dX0_addPipe_106 : decode cX0_addPipe 106 = .ok (.iastore, 1) := by decide +kernel
theorem dX0_addPipe_107 : decode cX0_addPipe 107 = .ok (.aload_n 0, 1) := by decide +kernel
theorem dX0_addPipe_108 : decode cX0_addPipe 108 = .ok (.dup, 1) := by decide +kernel
theorem dX0_addPipe_109 : decode cX0_addPipe 109 = .ok (.getfield 53, 3) := by decide +kernel
theorem dX0_addPipe_112 : decode cX0_addPipe 112 = .ok (.iconst 1, 1) := by decide +kernel
theorem dX0_addPipe_113 : decode cX0_addPipe 113 = .ok (.iadd, 1) := by decide +kernel
theorem dX0_addPipe_114 : decode cX0_addPipe 114 = .ok (.putfield 53, 3) := by decide +kernel
theorem dX0_addPipe_117 : decode cX0_addPipe 117 = .ok (.aload_n 0, 1) := by decide +kernel
theorem dX0_addPipe_118 : decode cX0_addPipe 118 = .ok (.invokevirtual 63, 3) := by decide +kernel
theorem dX0_addPipe_121 : decode cX0_addPipe 121 = .ok (.iload 5, 2) := by decide +kernel
theorem dX0_addPipe_123 : decode cX0_addPipe 123 = .ok (.ireturn, 1) := by decide +kernel
set_option maxRecDepth 20000 in
theorem ggX0_dropPipe_X0_hasPipe : GoodIn wsX0_dropPipe wsX0_hasPipe := goodIn_r _ [10, 1, 11, 12, 13, 36, 37, 38, 39, 40, 41, 42, 43, 44, 45, 46, 47, 48, 49] (by decide +kernel) (by decide +kernel)
set_option maxRecDepth 20000 in
theorem gX0_dropPipe_X0_hasPipe : GoodIn wsX0_dropPipe (wsV RX0 73 RX0 yX0_hasPipe wsX0_hasPipe) := goodIn_app (goodIn_of _ (by decide +kernel)) ggX0_dropPipe_X0_hasPipe
set_option maxRecDepth 20000 in
theorem ggX0_dropPipe_X0_findWays : GoodIn wsX0_dropPipe wsX0_findWays := goodIn_r _ [17, 18, 19, 20, 9, 21, 22, 23, 1, 2, 3, 24, 25, 26, 27, 28, 29, 30, 31, 32, 33, 34, 35, 36, 37, 38, 39, 40, 41, 42, 43, 44, 45, 46, 47, 48, 49] (by decide +kernel) (by decide +kernel)
set_option maxRecDepth 20000 in
theorem gX0_dropPipe_X0_findWays : GoodIn wsX0_dropPipe (wsV RX0 63 RX0 yX0_findWays wsX0_findWays) := goodIn_app (goodIn_of _ (by decide +kernel)) ggX0_dropPipe_X0_findWays
theorem dX0_dropPipe_0 : decode cX0_dropPipe 0 = .ok (.aload_n 0, 1) := by decide +kernel
theorem dX0_dropPipe_1 : decode cX0_dropPipe 1 = .ok (.iload_n 1, 1) := by decide +kernel
theorem dX0_dropPipe_2 : decode cX0_dropPipe 2 = .ok (.invokevirtual 73, 3) := by decide +kernel
theorem dX0_dropPipe_5 : decode cX0_dropPipe 5 = .ok (.ifCond .ne 6, 3) := by decide +kernel
theorem dX0_dropPipe_8 : decode cX0_dropPipe 8 = .ok (.bipush (-2), 2) := by decide +kernel
theorem dX0_dropPipe_10 : decode cX0_dropPipe 10 = .ok (.ireturn, 1) := by decide +kernel
theorem dX0_dropPipe_11 : decode cX0_dropPipe 11 = .ok (.aload_n 0, 1) := by decide +kernel
theorem dX0_dropPipe_12 : decode cX0_dropPipe 12 = .ok (.dup, 1) := by decide +kernel
theorem dX0_dropPipe_13 : decode cX0_dropPipe 13 = .ok (.getfield 53, 3) := by decide +kernel
theorem dX0_dropPipe_16 : decode cX0_dropPipe 16 = .ok (.iconst 1, 1) := by decide +kernel
theorem dX0_dropPipe_17 : decode cX0_dropPipe 17 = .ok (.isub, 1) := by decide +kernel
theorem dX0_dropPipe_18 : decode cX0_dropPipe 18 = .ok (.putfield 53, 3) := by decide +kernel
theorem dX0_dropPipe_21 : decode cX0_dropPipe 21 = .ok (.iload_n 1, 1) := by decide +kernel
theorem dX0_dropPipe_22 : decode cX0_dropPipe 22 = .ok (.istore_n 2, 1) := by decide +kernel
theorem dX0_dropPipe_23 : decode cX0_dropPipe 23 = .ok (.iload_n 2, 1) := by decide +kernel
theorem dX0_dropPipe_24 : decode cX0_dropPipe 24 = .ok (.aload_n 0, 1) := by decide +kernel
theorem dX0_dropPipe_25 : decode cX0_dropPipe 25 = .ok (.getfield 53, 3) := by decide +kernel
theorem dX0_dropPipe_28 : decode cX0_dropPipe 28 = .ok (.if_icmp .ge 65, 3) := by decide +kernel
theorem dX0_dropPipe_31 : decode cX0_dropPipe 31 = .ok (.aload_n 0, 1) := by decide +kernel
theorem dX0_dropPipe_32 : decode cX0_dropPipe 32 = .ok (.getfield 18, 3) := by decide +kernel
theorem dX0_dropPipe_35 : decode cX0_dropPipe 35 = .ok (.iload_n 2, 1) := by decide +kernel
theorem dX0_dropPipe_36 : decode cX0_dropPipe 36 = .ok (.aload_n 0, 1) := by decide +kernel
theorem dX0_dropPipe_37 : decode cX0_dropPipe 37 = .ok (.getfield 18, 3) := by decide +kernel
theorem dX0_dropPipe_40 : decode cX0_dropPipe 40 = .ok (.iload_n 2, 1) := by decide +kernel
theorem dX0_dropPipe_41 : decode cX0_dropPipe 41 = .ok (.iconst 1, 1) := by decide +kernel
theorem dX0_dropPipe_42 : decode cX0_dropPipe 42 = .ok (.iadd, 1) := by decide +kernel
theorem dX0_dropPipe_43 : decode cX0_dropPipe 43 = .ok (.iaload, 1) := by decide +kernel
theorem dX0_dropPipe_44 : decode cX0_dropPipe 44 = .ok (.iastore, 1) := by decide +kernel
theorem dX0_dropPipe_45 : decode cX0_dropPipe 45 = .ok (.aload_n 0, 1) := by decide +kernel
theorem dX0_dropPipe_46 : decode cX0_dropPipe 46 = .ok (.getfield 21, 3) := by decide +kernel
theorem dX0_dropPipe_49 : decode cX0_dropPipe 49 = .ok (.iload_n 2, 1) := by decide +kernel
theorem dX0_dropPipe_50 : decode cX0_dropPipe 50 = .ok (.aload_n 0, 1) := by decide +kernel
theorem dX0_dropPipe_51 : decode cX0_dropPipe 51 = .ok (.getfield 21, 3) := by decide +kernel
theorem dX0_dropPipe_54 : decode cX0_dropPipe 54 = .ok (.iload_n 2, 1) := by decide +kernel
theorem dX0_dropPipe_55 : decode cX0_dropPipe 55 = .ok (.iconst 1, 1) := by decide +kernel
theorem dX0_dropPipe_56 : decode cX0_dropPipe 56 = .ok (.iadd, 1) := by decide +kernel
theorem dX0_dropPipe_57 : decode cX0_dropPipe 57 = .ok (.iaload, 1) := by decide +kernel
theorem dX0_dropPipe_58 : decode cX0_dropPipe 58 = .ok (.iastore, 1) := by decide +kernel
theorem dX0_dropPipe_59 : decode cX0_dropPipe 59 = .ok (.aload_n 0, 1) := by decide +kernel
theorem dX0_dropPipe_60 : decode cX0_dropPipe 60 = .ok (.getfield 24, 3) := by decide +kernel
theorem dX0_dropPipe_63 : decode cX0_dropPipe 63 = .ok (.iload_n 2, 1) := by decide +kernel
theorem dX0_dropPipe_64 : decode cX0_dropPipe 64 = .ok (.aload_n 0, 1) := by decide +kernel
theorem dX0_dropPipe_65 : decode cX0_dropPipe 65 = .ok (.getfield 24, 3) := by decide +kernel
theorem dX0_dropPipe_68 : decode cX0_dropPipe 68 = .ok (.iload_n 2, 1) := by decide +kernel
theorem dX0_dropPipe_69 : decode cX0_dropPipe 69 = .ok (.iconst 1, 1) := by decide +kernel
theorem dX0_dropPipe_70 : decode cX0_dropPipe 70 = .ok (.iadd, 1) := by decide +kernel
theorem dX0_dropPipe_71 : decode cX0_dropPipe 71 = .ok (.iaload, 1) := by decide +kernel
theorem dX0_dropPipe_72 : decode cX0_dropPipe 72 = .ok (.iastore, 1) := by decide +kernel
theorem dX0_dropPipe_73 : decode cX0_dropPipe 73 = .ok (.aload_n 0, 1) := by decide +kernel
theorem dX0_dropPipe_74 : decode cX0_dropPipe 74 = .ok (.getfield 27, 3) := by decide +kernel
theorem dX0_dropPipe_77 : decode cX0_dropPipe 77 = .ok (.iload_n 2, 1) := by decide +kernel
theorem dX0_dropPipe_78 : decode cX0_dropPipe 78 = .ok (.aload_n 0, 1) := by decide +kernel
theorem dX0_dropPipe_79 : decode cX0_dropPipe 79 = .ok (.getfield 27, 3) := by decide +kernel
theorem dX0_dropPipe_82 : decode cX0_dropPipe 82 = .ok (.iload_n 2, 1) := by decide +kernel
theorem dX0_dropPipe_83 : decode cX0_dropPipe 83 = .ok (.iconst 1, 1) := by decide +kernel
theorem dX0_dropPipe_84 : decode cX0_dropPipe 84 = .ok (.iadd, 1) := by decide +kernel
theorem dX0_dropPipe_85 : decode cX0_dropPipe 85 = .ok (.iaload, 1) := by decide +kernel
theorem dX0_dropPipe_86 : decode cX0_dropPipe 86 = .ok (.iastore, 1) := by decide +kernel
theorem dX0_dropPipe_87 : decode cX0_dropPipe 87 = .ok (.iinc 2 1, 3) := by decide +kernel
theorem dX0_dropPipe_90 : decode cX0_dropPipe 90 = .ok (.goto (-67), 3) := by decide +kernel
theorem dX0_dropPipe_93 : decode cX0_dropPipe 93 = .ok (.aload_n 0, 1) := by decide +kernel
theorem dX0_dropPipe_94 : decode cX0_dropPipe 94 = .ok (.invokevirtual 63, 3) := by decide +kernel
theorem dX0_dropPipe_97 : decode cX0_dropPipe 97 = .ok (.aload_n 0, 1) := by decide +kernel
theorem dX0_dropPipe_98 : decode cX0_dropPipe 98 = .ok (.getfield 53, 3) := by decide +kernel
theorem dX0_dropPipe_101 : decode cX0_dropPipe 101 = .ok (.ireturn, 1) := by decide +kernel
set_option maxRecDepth 20000 in
theorem ggX0_addSight_X5_within : GoodIn wsX0_addSight wsX5_within := goodIn_r _ [7] (by decide +kernel) (by decide +kernel)
set_option maxRecDepth 20000 in
theorem gX0_addSight_X5_within_n49 : GoodIn wsX0_addSight (wsX5_within) := ggX0_addSight_X5_within
set_option maxRecDepth 20000 in
theorem ggX0_addSight_X0_hasShaft : GoodIn wsX0_addSight wsX0_hasShaft := goodIn_r _ [12, 13, 5, 6, 7, 14, 15, 16, 17, 18, 19, 20, 21, 22, 23, 24, 25, 26, 27] (by decide +kernel) (by decide +kernel)
set_option maxRecDepth 20000 in
theorem gX0_addSight_X0_hasShaft : GoodIn wsX0_addSight (wsV RX0 66 RX0 yX0_hasShaft wsX0_hasShaft) := goodIn_app (goodIn_of _ (by decide +kernel)) ggX0_addSight_X0_hasShaft
theorem dX0_addSight_0 : decode cX0_addSight 0 = .ok (.iload_n 1, 1) := by decide +kernel
theorem dX0_addSight_1 : decode cX0_addSight 1 = .ok (.iconst 0, 1) := by decide +kernel
theorem dX0_addSight_2 : decode cX0_addSight 2 = .ok (.iconst 1, 1) := by decide +kernel
theorem dX0_addSight_3 : decode cX0_addSight 3 = .ok (.invokestatic 49, 3) := by decide +kernel
theorem dX0_addSight_6 : decode cX0_addSight 6 = .ok (.ifCond .eq 21, 3) := by decide +kernel
theorem dX0_addSight_9 : decode cX0_addSight 9 = .ok (.aload_n 0, 1) := by decide +kernel
theorem dX0_addSight_10 : decode cX0_addSight 10 = .ok (.iload_n 2, 1) := by decide +kernel
theorem dX0_addSight_11 : decode cX0_addSight 11 = .ok (.invokevirtual 66, 3) := by decide +kernel
theorem dX0_addSight_14 : decode cX0_addSight 14 = .ok (.ifCond .eq 13, 3) := by decide +kernel
theorem dX0_addSight_17 : decode cX0_addSight 17 = .ok (.iload_n 3, 1) := by decide +kernel
theorem dX0_addSight_18 : decode cX0_addSight 18 = .ok (.iconst 0, 1) := by decide +kernel
theorem dX0_addSight_19 : decode cX0_addSight 19 = .ok (.bipush 62, 2) := by decide +kernel
theorem dX0_addSight_21 : decode cX0_addSight 21 = .ok (.invokestatic 49, 3) := by decide +kernel
theorem dX0_addSight_24 : decode cX0_addSight 24 = .ok (.ifCond .ne 6, 3) := by decide +kernel
theorem dX0_addSight_27 : decode cX0_addSight 27 = .ok (.bipush (-2), 2) := by decide +kernel
theorem dX0_addSight_29 : decode cX0_addSight 29 = .ok (.ireturn, 1) := by decide +kernel
theorem dX0_addSight_30 : decode cX0_addSight 30 = .ok (.aload_n 0, 1) := by decide +kernel
theorem dX0_addSight_31 : decode cX0_addSight 31 = .ok (.getfield 76, 3) := by decide +kernel
theorem dX0_addSight_34 : decode cX0_addSight 34 = .ok (.bipush 12, 2) := by decide +kernel
theorem dX0_addSight_36 : decode cX0_addSight 36 = .ok (.if_icmp .lt 6, 3) := by decide +kernel
theorem dX0_addSight_39 : decode cX0_addSight 39 = .ok (.bipush (-4), 2) := by decide +kernel
theorem dX0_addSight_41 : decode cX0_addSight 41 = .ok (.ireturn, 1) := by decide +kernel
theorem dX0_addSight_42 : decode cX0_addSight 42 = .ok (.aload_n 0, 1) := by decide +kernel
theorem dX0_addSight_43 : decode cX0_addSight 43 = .ok (.getfield 30, 3) := by decide +kernel
theorem dX0_addSight_46 : decode cX0_addSight 46 = .ok (.aload_n 0, 1) := by decide +kernel
theorem dX0_addSight_47 : decode cX0_addSight 47 = .ok (.getfield 76, 3) := by decide +kernel
theorem dX0_addSight_50 : decode cX0_addSight 50 = .ok (.iload_n 1, 1) := by decide +kernel
theorem dX0_addSight_51 : decode cX0_addSight 51 = .ok (.iastore, 1) := by decide +kernel
theorem dX0_addSight_52 : decode cX0_addSight 52 = .ok (.aload_n 0, 1) := by decide +kernel
theorem dX0_addSight_53 : decode cX0_addSight 53 = .ok (.getfield 33, 3) := by decide +kernel
theorem dX0_addSight_56 : decode cX0_addSight 56 = .ok (.aload_n 0, 1) := by decide +kernel
theorem dX0_addSight_57 : decode cX0_addSight 57 = .ok (.getfield 76, 3) := by decide +kernel
theorem dX0_addSight_60 : decode cX0_addSight 60 = .ok (.iload_n 2, 1) := by decide +kernel
theorem dX0_addSight_61 : decode cX0_addSight 61 = .ok (.iastore, 1) := by decide +kernel
theorem dX0_addSight_62 : decode cX0_addSight 62 = .ok (.aload_n 0, 1) := by decide +kernel
theorem dX0_addSight_63 : decode cX0_addSight 63 = .ok (.getfield 36, 3) := by decide +kernel
theorem dX0_addSight_66 : decode cX0_addSight 66 = .ok (.aload_n 0, 1) := by decide +kernel
theorem dX0_addSight_67 : decode cX0_addSight 67 = .ok (.getfield 76, 3) := by decide +kernel
theorem dX0_addSight_70 : decode cX0_addSight 70 = .ok (.iload_n 3, 1) := by decide +kernel
theorem dX0_addSight_71 : decode cX0_addSight 71 = .ok (.iastore, 1) := by decide +kernel
theorem dX0_addSight_72 : decode cX0_addSight 72 = .ok (.aload_n 0, 1) := by decide +kernel
theorem dX0_addSight_73 : decode cX0_addSight 73 = .ok (.dup, 1) := by decide +kernel
theorem dX0_addSight_74 : decode cX0_addSight 74 = .ok (.getfield 76, 3) := by decide +kernel
theorem dX0_addSight_77 : decode cX0_addSight 77 = .ok (.iconst 1, 1) := by decide +kernel
theorem dX0_addSight_78 : decode cX0_addSight 78 = .ok (.iadd, 1) := by decide +kernel
theorem dX0_addSight_79 : decode cX0_addSight 79 = .ok (.putfield 76, 3) := by decide +kernel
theorem dX0_addSight_82 : decode cX0_addSight 82 = .ok (.aload_n 0, 1) := by decide +kernel
theorem dX0_addSight_83 : decode cX0_addSight 83 = .ok (.getfield 76, 3) := by decide +kernel
theorem dX0_addSight_86 : decode cX0_addSight 86 = .ok (.ireturn, 1) := by decide +kernel
theorem dX0_dropSights_0 : decode cX0_dropSights 0 = .ok (.aload_n 0, 1) := by decide +kernel
theorem dX0_dropSights_1 : decode cX0_dropSights 1 = .ok (.getfield 76, 3) := by decide +kernel
theorem dX0_dropSights_4 : decode cX0_dropSights 4 = .ok (.istore_n 1, 1) := by decide +kernel
theorem dX0_dropSights_5 : decode cX0_dropSights 5 = .ok (.aload_n 0, 1) := by decide +kernel
theorem dX0_dropSights_6 : decode cX0_dropSights 6 = .ok (.iconst 0, 1) := by decide +kernel
theorem dX0_dropSights_7 : decode cX0_dropSights 7 = .ok (.putfield 76, 3) := by decide +kernel
theorem dX0_dropSights_10 : decode cX0_dropSights 10 = .ok (.iload_n 1, 1) := by decide +kernel
theorem dX0_dropSights_11 : decode cX0_dropSights 11 = .ok (.ireturn, 1) := by decide +kernel
theorem dX0_isBelow_0 : decode cX0_isBelow 0 = .ok (.aload_n 0, 1) := by decide +kernel
theorem dX0_isBelow_1 : decode cX0_isBelow 1 = .ok (.getfield 39, 3) := by decide +kernel
theorem dX0_isBelow_4 : decode cX0_isBelow 4 = .ok (.iload_n 2, 1) := by decide +kernel
theorem dX0_isBelow_5 : decode cX0_isBelow 5 = .ok (.iaload, 1) := by decide +kernel
theorem dX0_isBelow_6 : decode cX0_isBelow 6 = .ok (.iload_n 1, 1) := by decide +kernel
theorem dX0_isBelow_7 : decode cX0_isBelow 7 = .ok (.ishr, 1) := by decide +kernel
theorem dX0_isBelow_8 : decode cX0_isBelow 8 = .ok (.iconst 1, 1) := by decide +kernel
theorem dX0_isBelow_9 : decode cX0_isBelow 9 = .ok (.iand, 1) := by decide +kernel
theorem dX0_isBelow_10 : decode cX0_isBelow 10 = .ok (.iconst 1, 1) := by decide +kernel
theorem dX0_isBelow_11 : decode cX0_isBelow 11 = .ok (.if_icmp .ne 7, 3) := by decide +kernel
theorem dX0_isBelow_14 : decode cX0_isBelow 14 = .ok (.iconst 1, 1) := by decide +kernel
theorem dX0_isBelow_15 : decode cX0_isBelow 15 = .ok (.goto 4, 3) := by decide +kernel
theorem dX0_isBelow_18 : decode cX0_isBelow 18 = .ok (.iconst 0, 1) := by decide +kernel
theorem dX0_isBelow_19 : decode cX0_isBelow 19 = .ok (.ireturn, 1) := by decide +kernel
set_option maxRecDepth 20000 in
theorem ggX0_above_X0_isBelow : GoodIn wsX0_above wsX0_isBelow := goodIn_r _ [6, 7, 8, 9, 10, 11, 12, 13, 14, 15, 16, 17, 18, 19, 20, 21] (by decide +kernel) (by decide +kernel)
set_option maxRecDepth 20000 in
theorem gX0_above_X0_isBelow : GoodIn wsX0_above (wsV RX0 69 RX0 yX0_isBelow wsX0_isBelow) := goodIn_app (goodIn_of _ (by decide +kernel)) ggX0_above_X0_isBelow
theorem dX0_above_0 : decode cX0_above 0 = .ok (.iconst 0, 1) := by decide +kernel
theorem dX0_above_1 : decode cX0_above 1 = .ok (.istore_n 2, 1) := by decide +kernel
theorem dX0_above_2 : decode cX0_above 2 = .ok (.iconst 0, 1) := by decide +kernel
theorem dX0_above_3 : decode cX0_above 3 = .ok (.istore_n 3, 1) := by decide +kernel
theorem dX0_above_4 : decode cX0_above 4 = .ok (.iload_n 3, 1) := by decide +kernel
theorem dX0_above_5 : decode cX0_above 5 = .ok (.aload_n 0, 1) := by decide +kernel
theorem dX0_above_6 : decode cX0_above 6 = .ok (.getfield 45, 3) := by decide +kernel
theorem dX0_above_9 : decode cX0_above 9 = .ok (.if_icmp .ge 24, 3) := by decide +kernel
theorem dX0_above_12 : decode cX0_above 12 = .ok (.aload_n 0, 1) := by decide +kernel
theorem dX0_above_13 : decode cX0_above 13 = .ok (.iload_n 1, 1) := by decide +kernel
theorem dX0_above_14 : decode cX0_above 14 = .ok (.iload_n 3, 1) := by decide +kernel
theorem dX0_above_15 : decode cX0_above 15 = .ok (.invokevirtual 69, 3) := by decide +kernel
theorem dX0_above_18 : decode cX0_above 18 = .ok (.ifCond .eq 9, 3) := by decide +kernel
theorem dX0_above_21 : decode cX0_above 21 = .ok (.iload_n 2, 1) := by decide +kernel
theorem dX0_above_22 : decode cX0_above 22 = .ok (.iconst 1, 1) := by decide +kernel
theorem dX0_above_23 : decode cX0_above 23 = .ok (.iload_n 3, 1) := by decide +kernel
theorem dX0_above_24 : decode cX0_above 24 = .ok (.ishl, 1) := by decide +kernel
theorem dX0_above_25 : decode cX0_above 25 = .ok (.ior, 1) := by decide +kernel
theorem dX0_above_26 : decode cX0_above 26 = .ok (.istore_n 2, 1) := by decide +kernel
theorem dX0_above_27 : decode cX0_above 27 = .ok (.iinc 3 1, 3) := by decide +kernel
theorem dX0_above_30 : decode cX0_above 30 = .ok (.goto (-26), 3) := by decide +kernel
theorem dX0_above_33 : decode cX0_above 33 = .ok (.iload_n 2, 1) := by decide +kernel
theorem dX0_above_34 : decode cX0_above 34 = .ok (.ireturn, 1) := by decide +kernel
theorem dX0_pipesAt_0 : decode cX0_pipesAt 0 = .ok (.iconst 0, 1) := by decide +kernel
theorem dX0_pipesAt_1 : decode cX0_pipesAt 1 = .ok (.istore_n 3, 1) := by decide +kernel
theorem dX0_pipesAt_2 : decode cX0_pipesAt 2 = .ok (.iconst 0, 1) := by decide +kernel
theorem dX0_pipesAt_3 : decode cX0_pipesAt 3 = .ok (.istore 4, 2) := by decide +kernel
theorem dX0_pipesAt_5 : decode cX0_pipesAt 5 = .ok (.iload 4, 2) := by decide +kernel
theorem dX0_pipesAt_7 : decode cX0_pipesAt 7 = .ok (.aload_n 0, 1) := by decide +kernel
theorem dX0_pipesAt_8 : decode cX0_pipesAt 8 = .ok (.getfield 53, 3) := by decide +kernel
theorem dX0_pipesAt_11 : decode cX0_pipesAt 11 = .ok (.if_icmp .ge 20, 3) := by decide +kernel
theorem dX0_pipesAt_14 : decode cX0_pipesAt 14 = .ok (.aload_n 1, 1) := by decide +kernel
theorem dX0_pipesAt_15 : decode cX0_pipesAt 15 = .ok (.iload 4, 2) := by decide +kernel
theorem dX0_pipesAt_17 : decode cX0_pipesAt 17 = .ok (.iaload, 1) := by decide +kernel
theorem dX0_pipesAt_18 : decode cX0_pipesAt 18 = .ok (.iload_n 2, 1) := by decide +kernel
theorem dX0_pipesAt_19 : decode cX0_pipesAt 19 = .ok (.if_icmp .ne 6, 3) := by decide +kernel
theorem dX0_pipesAt_22 : decode cX0_pipesAt 22 = .ok (.iinc 3 1, 3) := by decide +kernel
theorem dX0_pipesAt_25 : decode cX0_pipesAt 25 = .ok (.iinc 4 1, 3) := by decide +kernel
theorem dX0_pipesAt_28 : decode cX0_pipesAt 28 = .ok (.goto (-23), 3) := by decide +kernel
theorem dX0_pipesAt_31 : decode cX0_pipesAt 31 = .ok (.iload_n 3, 1) := by decide +kernel
theorem dX0_pipesAt_32 : decode cX0_pipesAt 32 = .ok (.ireturn, 1) := by decide +kernel
set_option maxRecDepth 20000 in
theorem ggX0_leaving_X0_pumped : GoodIn wsX0_leaving wsX0_pumped := goodIn_r _ [8] (by decide +kernel) (by decide +kernel)
set_option maxRecDepth 20000 in
theorem gX0_leaving_X0_pumped : GoodIn wsX0_leaving (va_wsS RX0 79 yX0_pumped wsX0_pumped) := goodIn_app (goodIn_of _ (by decide +kernel)) ggX0_leaving_X0_pumped
theorem dX0_leaving_0 : decode cX0_leaving 0 = .ok (.aload_n 0, 1) := by decide +kernel
theorem dX0_leaving_1 : decode cX0_leaving 1 = .ok (.getfield 15, 3) := by decide +kernel
theorem dX0_leaving_4 : decode cX0_leaving 4 = .ok (.iload_n 1, 1) := by decide +kernel
theorem dX0_leaving_5 : decode cX0_leaving 5 = .ok (.iaload, 1) := by decide +kernel
theorem dX0_leaving_6 : decode cX0_leaving 6 = .ok (.istore 4, 2) := by decide +kernel
theorem dX0_leaving_8 : decode cX0_leaving 8 = .ok (.aload_n 0, 1) := by decide +kernel
theorem dX0_leaving_9 : decode cX0_leaving 9 = .ok (.getfield 9, 3) := by decide +kernel
theorem dX0_leaving_12 : decode cX0_leaving 12 = .ok (.iload_n 1, 1) := by decide +kernel
theorem dX0_leaving_13 : decode cX0_leaving 13 = .ok (.iaload, 1) := by decide +kernel
theorem dX0_leaving_14 : decode cX0_leaving 14 = .ok (.tableswitch 78 0 4 #[78, 34, 41, 50, 59], 34) := by decide +kernel
theorem dX0_leaving_48 : decode cX0_leaving 48 = .ok (.lload_n 2, 1) := by decide +kernel
theorem dX0_leaving_49 : decode cX0_leaving 49 = .ok (.iload 4, 2) := by decide +kernel
theorem dX0_leaving_51 : decode cX0_leaving 51 = .ok (.invokestatic 79, 3) := by decide +kernel
theorem dX0_leaving_54 : decode cX0_leaving 54 = .ok (.lreturn, 1) := by decide +kernel
theorem dX0_leaving_55 : decode cX0_leaving 55 = .ok (.lload_n 2, 1) := by decide +kernel
theorem dX0_leaving_56 : decode cX0_leaving 56 = .ok (.iload 4, 2) := by decide +kernel
theorem dX0_leaving_58 : decode cX0_leaving 58 = .ok (.lshl, 1) := by decide +kernel
theorem dX0_leaving_59 : decode cX0_leaving 59 = .ok (.ldc2_w 83, 3) := by decide +kernel
theorem dX0_leaving_62 : decode cX0_leaving 62 = .ok (.land, 1) := by decide +kernel
theorem dX0_leaving_63 : decode cX0_leaving 63 = .ok (.lreturn, 1) := by decide +kernel
theorem dX0_leaving_64 : decode cX0_leaving 64 = .ok (.lload_n 2, 1) := by decide +kernel
theorem dX0_leaving_65 : decode cX0_leaving 65 = .ok (.ldc2_w 85, 3) := by decide +kernel
theorem dX0_leaving_68 : decode cX0_leaving 68 = .ok (.iload 4, 2) := by decide +kernel
theorem dX0_leaving_70 : decode cX0_leaving 70 = .ok (.lshl, 1) := by decide +kernel
theorem dX0_leaving_71 : decode cX0_leaving 71 = .ok (.land, 1) := by decide +kernel
theorem dX0_leaving_72 : decode cX0_leaving 72 = .ok (.lreturn, 1) := by decide +kernel
theorem dX0_leaving_73 : decode cX0_leaving 73 = .ok (.lload_n 2, 1) := by decide +kernel
theorem dX0_leaving_74 : decode cX0_leaving 74 = .ok (.iload 4, 2) := by decide +kernel
theorem dX0_leaving_76 : decode cX0_leaving 76 = .ok (.invokestatic 79, 3) := by decide +kernel
theorem dX0_leaving_79 : decode cX0_leaving 79 = .ok (.iload 4, 2) := by decide +kernel
theorem dX0_leaving_81 : decode cX0_leaving 81 = .ok (.bipush 10, 2) := by decide +kernel
theorem dX0_leaving_83 : decode cX0_leaving 83 = .ok (.idiv, 1) := by decide +kernel
theorem dX0_leaving_84 : decode cX0_leaving 84 = .ok (.iconst 1, 1) := by decide +kernel
theorem dX0_leaving_85 : decode cX0_leaving 85 = .ok (.iadd, 1) := by decide +kernel
theorem dX0_leaving_86 : decode cX0_leaving 86 = .ok (.lshl, 1) := by decide +kernel
theorem dX0_leaving_87 : decode cX0_leaving 87 = .ok (.ldc2_w 83, 3) := by decide +kernel
theorem dX0_leaving_90 : decode cX0_leaving 90 = .ok (.land, 1) := by decide +kernel
theorem dX0_leaving_91 : decode cX0_leaving 91 = .ok (.lreturn, 1) := by decide +kernel
theorem dX0_leaving_92 : decode cX0_leaving 92 = .ok (.lload_n 2, 1) := by decide +kernel
theorem dX0_leaving_93 : decode cX0_leaving 93 = .ok (.lreturn, 1) := by decide +kernel
theorem dX0_brought_0 : decode cX0_brought 0 = .ok (.lconst 0, 1) := by decide +kernel
theorem dX0_brought_1 : decode cX0_brought 1 = .ok (.lstore 4, 2) := by decide +kernel
theorem dX0_brought_3 : decode cX0_brought 3 = .ok (.aload_n 0, 1) := by decide +kernel
theorem dX0_brought_4 : decode cX0_brought 4 = .ok (.getfield 24, 3) := by decide +kernel
theorem dX0_brought_7 : decode cX0_brought 7 = .ok (.iload_n 1, 1) := by decide +kernel
theorem dX0_brought_8 : decode cX0_brought 8 = .ok (.iaload, 1) := by decide +kernel
theorem dX0_brought_9 : decode cX0_brought 9 = .ok (.istore 6, 2) := by decide +kernel
theorem dX0_brought_11 : decode cX0_brought 11 = .ok (.iload 6, 2) := by decide +kernel
theorem dX0_brought_13 : decode cX0_brought 13 = .ok (.aload_n 0, 1) := by decide +kernel
theorem dX0_brought_14 : decode cX0_brought 14 = .ok (.getfield 27, 3) := by decide +kernel
theorem dX0_brought_17 : decode cX0_brought 17 = .ok (.iload_n 1, 1) := by decide +kernel
theorem dX0_brought_18 : decode cX0_brought 18 = .ok (.iaload, 1) := by decide +kernel
theorem dX0_brought_19 : decode cX0_brought 19 = .ok (.if_icmp .gt 18, 3) := by decide +kernel
theorem dX0_brought_22 : decode cX0_brought 22 = .ok (.lload 4, 2) := by decide +kernel
theorem dX0_brought_24 : decode cX0_brought 24 = .ok (.lload_n 2, 1) := by decide +kernel
theorem dX0_brought_25 : decode cX0_brought 25 = .ok (.iload 6, 2) := by decide +kernel
theorem dX0_brought_27 : decode cX0_brought 27 = .ok (.lshl, 1) := by decide +kernel
theorem dX0_brought_28 : decode cX0_brought 28 = .ok (.lor, 1) := by decide +kernel
theorem dX0_brought_29 : decode cX0_brought 29 = .ok (.lstore 4, 2) := by decide +kernel
theorem dX0_brought_31 : decode cX0_brought 31 = .ok (.iinc 6 1, 3) := by decide +kernel
theorem dX0_brought_34 : decode cX0_brought 34 = .ok (.goto (-23), 3) := by decide +kernel
theorem dX0_brought_37 : decode cX0_brought 37 = .ok (.lload 4, 2) := by decide +kernel
theorem dX0_brought_39 : decode cX0_brought 39 = .ok (.ldc2_w 83, 3) := by decide +kernel
theorem dX0_brought_42 : decode cX0_brought 42 = .ok (.land, 1) := by decide +kernel
theorem dX0_brought_43 : decode cX0_brought 43 = .ok (.lreturn, 1) := by decide +kernel
set_option maxRecDepth 20000 in
theorem ggX0_copyFrom_X0_copyRow : GoodIn wsX0_copyFrom wsX0_copyRow := goodIn_r _ [18, 19, 20, 21, 22, 23, 24, 25, 26] (by decide +kernel) (by decide +kernel)
set_option maxRecDepth 20000 in
theorem gX0_copyFrom_X0_copyRow : GoodIn wsX0_copyFrom (va_wsS RX0 87 yX0_copyRow wsX0_copyRow) := goodIn_app (goodIn_of _ (by decide +kernel)) ggX0_copyFrom_X0_copyRow
theorem dX0_copyFrom_0 : decode cX0_copyFrom 0 = .ok (.aload_n 0, 1) := by decide +kernel
theorem dX0_copyFrom_1 : decode cX0_copyFrom 1 = .ok (.aload_n 1, 1) := by decide +kernel
theorem dX0_copyFrom_2 : decode cX0_copyFrom 2 = .ok (.getfield 45, 3) := by decide +kernel
theorem dX0_copyFrom_5 : decode cX0_copyFrom 5 = .ok (.putfield 45, 3) := by decide +kernel
theorem dX0_copyFrom_8 : decode cX0_copyFrom 8 = .ok (.aload_n 1, 1) := by decide +kernel
theorem dX0_copyFrom_9 : decode cX0_copyFrom 9 = .ok (.getfield 9, 3) := by decide +kernel
theorem dX0_copyFrom_12 : decode cX0_copyFrom 12 = .ok (.aload_n 0, 1) := by decide +kernel
theorem dX0_copyFrom_13 : decode cX0_copyFrom 13 = .ok (.getfield 9, 3) := by decide +kernel
theorem dX0_copyFrom_16 : decode cX0_copyFrom 16 = .ok (.invokestatic 87, 3) := by decide +kernel
theorem dX0_copyFrom_19 : decode cX0_copyFrom 19 = .ok (.aload_n 1, 1) := by decide +kernel
theorem dX0_copyFrom_20 : decode cX0_copyFrom 20 = .ok (.getfield 15, 3) := by decide +kernel
theorem dX0_copyFrom_23 : decode cX0_copyFrom 23 = .ok (.aload_n 0, 1) := by decide +kernel
theorem dX0_copyFrom_24 : decode cX0_copyFrom 24 = .ok (.getfield 15, 3) := by decide +kernel
theorem dX0_copyFrom_27 : decode cX0_copyFrom 27 = .ok (.invokestatic 87, 3) := by decide +kernel
theorem dX0_copyFrom_30 : decode cX0_copyFrom 30 = .ok (.aload_n 1, 1) := by decide +kernel
theorem dX0_copyFrom_31 : decode cX0_copyFrom 31 = .ok (.getfield 39, 3) := by decide +kernel
theorem dX0_copyFrom_34 : decode cX0_copyFrom 34 = .ok (.aload_n 0, 1) := by decide +kernel
theorem dX0_copyFrom_35 : decode cX0_copyFrom 35 = .ok (.getfield 39, 3) := by decide +kernel
theorem dX0_copyFrom_38 : decode cX0_copyFrom 38 = .ok (.invokestatic 87, 3) := by decide +kernel
theorem dX0_copyFrom_41 : decode cX0_copyFrom 41 = .ok (.aload_n 0, 1) := by decide +kernel
theorem dX0_copyFrom_42 : decode cX0_copyFrom 42 = .ok (.aload_n 1, 1) := by decide +kernel
theorem dX0_copyFrom_43 : decode cX0_copyFrom 43 = .ok (.getfield 53, 3) := by decide +kernel
theorem dX0_copyFrom_46 : decode cX0_copyFrom 46 = .ok (.putfield 53, 3) := by decide +kernel
theorem dX0_copyFrom_49 : decode cX0_copyFrom 49 = .ok (.aload_n 1, 1) := by decide +kernel
theorem dX0_copyFrom_50 : decode cX0_copyFrom 50 = .ok (.getfield 18, 3) := by decide +kernel
theorem dX0_copyFrom_53 : decode cX0_copyFrom 53 = .ok (.aload_n 0, 1) := by decide +kernel
theorem dX0_copyFrom_54 : decode cX0_copyFrom 54 = .ok (.getfield 18, 3) := by decide +kernel
theorem dX0_copyFrom_57 : decode cX0_copyFrom 57 = .ok (.invokestatic 87, 3) := by decide +kernel
theorem dX0_copyFrom_60 : decode cX0_copyFrom 60 = .ok (.aload_n 1, 1) := by decide +kernel
theorem dX0_copyFrom_61 : decode cX0_copyFrom 61 = .ok (.getfield 21, 3) := by decide +kernel
theorem dX0_copyFrom_64 : decode cX0_copyFrom 64 = .ok (.aload_n 0, 1) := by decide +kernel
theorem dX0_copyFrom_65 : decode cX0_copyFrom 65 = .ok (.getfield 21, 3) := by decide +kernel
theorem dX0_copyFrom_68 : decode cX0_copyFrom 68 = .ok (.invokestatic 87, 3) := by decide +kernel
theorem dX0_copyFrom_71 : decode cX0_copyFrom 71 = .ok (.aload_n 1, 1) := by decide +kernel
theorem dX0_copyFrom_72 : decode cX0_copyFrom 72 = .ok (.getfield 24, 3) := by decide +kernel
theorem dX0_copyFrom_75 : decode cX0_copyFrom 75 = .ok (.aload_n 0, 1) := by decide +kernel
theorem dX0_copyFrom_76 : decode cX0_copyFrom 76 = .ok (.getfield 24, 3) := by decide +kernel
theorem dX0_copyFrom_79 : decode cX0_copyFrom 79 = .ok (.invokestatic 87, 3) := by decide +kernel
theorem dX0_copyFrom_82 : decode cX0_copyFrom 82 = .ok (.aload_n 1, 1) := by decide +kernel
theorem dX0_copyFrom_83 : decode cX0_copyFrom 83 = .ok (.getfield 27, 3) := by decide +kernel
theorem dX0_copyFrom_86 : decode cX0_copyFrom 86 = .ok (.aload_n 0, 1) := by decide +kernel
theorem dX0_copyFrom_87 : decode cX0_copyFrom 87 = .ok (.getfield 27, 3) := by decide +kernel
theorem dX0_copyFrom_90 : decode cX0_copyFrom 90 = .ok (.invokestatic 87, 3) := by decide +kernel
theorem dX0_copyFrom_93 : decode cX0_copyFrom 93 = .ok (.aload_n 1, 1) := by decide +kernel
theorem dX0_copyFrom_94 : decode cX0_copyFrom 94 = .ok (.getfield 42, 3) := by decide +kernel
theorem dX0_copyFrom_97 : decode cX0_copyFrom 97 = .ok (.aload_n 0, 1) := by decide +kernel
theorem dX0_copyFrom_98 : decode cX0_copyFrom 98 = .ok (.getfield 42, 3) := by decide +kernel
theorem dX0_copyFrom_101 : decode cX0_copyFrom 101 = .ok (.invokestatic 87, 3) := by decide +kernel
theorem dX0_copyFrom_104 : decode cX0_copyFrom 104 = .ok (.aload_n 0, 1) := by decide +kernel
theorem dX0_copyFrom_105 : decode cX0_copyFrom 105 = .ok (.aload_n 1, 1) := by decide +kernel
theorem dX0_copyFrom_106 : decode cX0_copyFrom 106 = .ok (.getfield 76, 3) := by decide +kernel
theorem dX0_copyFrom_109 : decode cX0_copyFrom 109 = .ok (.putfield 76, 3) := by decide +kernel
theorem dX0_copyFrom_112 : decode cX0_copyFrom 112 = .ok (.aload_n 1, 1) := by decide +kernel
theorem dX0_copyFrom_113 : decode cX0_copyFrom 113 = .ok (.getfield 30, 3) := by decide +kernel
theorem dX0_copyFrom_116 : decode cX0_copyFrom 116 = .ok (.aload_n 0, 1) := by decide +kernel
theorem dX0_copyFrom_117 : decode cX0_copyFrom 117 = .ok (.getfield 30, 3) := by decide +kernel
theorem dX0_copyFrom_120 : decode cX0_copyFrom 120 = .ok (.invokestatic 87, 3) := by decide +kernel
theorem dX0_copyFrom_123 : decode cX0_copyFrom 123 = .ok (.aload_n 1, 1) := by decide +kernel
theorem dX0_copyFrom_124 : decode cX0_copyFrom 124 = .ok (.getfield 33, 3) := by decide +kernel
theorem dX0_copyFrom_127 : decode cX0_copyFrom 127 = .ok (.aload_n 0, 1) := by decide +kernel
theorem dX0_copyFrom_128 : decode cX0_copyFrom 128 = .ok (.getfield 33, 3) := by decide +kernel
theorem dX0_copyFrom_131 : decode cX0_copyFrom 131 = .ok (.invokestatic 87, 3) := by decide +kernel
theorem dX0_copyFrom_134 : decode cX0_copyFrom 134 = .ok (.aload_n 1, 1) := by decide +kernel
theorem dX0_copyFrom_135 : decode cX0_copyFrom 135 = .ok (.getfield 36, 3) := by decide +kernel
theorem dX0_copyFrom_138 : decode cX0_copyFrom 138 = .ok (.aload_n 0, 1) := by decide +kernel
theorem dX0_copyFrom_139 : decode cX0_copyFrom 139 = .ok (.getfield 36, 3) := by decide +kernel
theorem dX0_copyFrom_142 : decode cX0_copyFrom 142 = .ok (.invokestatic 87, 3) := by decide +kernel
theorem dX0_copyFrom_145 : decode cX0_copyFrom 145 = .ok (.return_, 1) := by decide +kernel
set_option maxRecDepth 20000 in
theorem ggX0_findWays_X0_findBelow : GoodIn wsX0_findWays wsX0_findBelow := goodIn_r _ [5, 6, 7, 8, 9, 10, 23, 24, 25, 26, 27, 28, 29, 30, 31, 32, 33, 34, 35, 36] (by decide +kernel) (by decide +kernel)
set_option maxRecDepth 20000 in
theorem gX0_findWays_X0_findBelow : GoodIn wsX0_findWays (wsV RX0 91 RX0 yX0_findBelow wsX0_findBelow) := goodIn_app (goodIn_of _ (by decide +kernel)) ggX0_findWays_X0_findBelow
set_option maxRecDepth 20000 in
theorem ggX0_findWays_X0_findRoute : GoodIn wsX0_findWays wsX0_findRoute := goodIn_r _ [14, 6, 8, 7, 9, 15, 16, 17, 18, 19, 20, 21, 22, 23, 24, 25, 26, 27, 28, 29, 30, 31, 32, 33, 34, 35, 36] (by decide +kernel) (by decide +kernel)
set_option maxRecDepth 20000 in
theorem gX0_findWays_X0_findRoute : GoodIn wsX0_findWays (wsV RX0 94 RX0 yX0_findRoute wsX0_findRoute) := goodIn_app (goodIn_of _ (by decide +kernel)) ggX0_findWays_X0_findRoute
theorem dX0_findWays_0 : decode cX0_findWays 0 = .ok (.aload_n 0, 1) := by decide +kernel
theorem dX0_findWays_1 : decode cX0_findWays 1 = .ok (.invokevirtual 91, 3) := by decide +kernel
theorem dX0_findWays_4 : decode cX0_findWays 4 = .ok (.aload_n 0, 1) := by decide +kernel
theorem dX0_findWays_5 : decode cX0_findWays 5 = .ok (.invokevirtual 94, 3) := by decide +kernel
theorem dX0_findWays_8 : decode cX0_findWays 8 = .ok (.return_, 1) := by decide +kernel
theorem dX0_findBelow_0 : decode cX0_findBelow 0 = .ok (.iconst 0, 1) := by decide +kernel
theorem dX0_findBelow_1 : decode cX0_findBelow 1 = .ok (.istore_n 1, 1) := by decide +kernel
theorem dX0_findBelow_2 : decode cX0_findBelow 2 = .ok (.iload_n 1, 1) := by decide +kernel
theorem dX0_findBelow_3 : decode cX0_findBelow 3 = .ok (.aload_n 0, 1) := by decide +kernel
theorem dX0_findBelow_4 : decode cX0_findBelow 4 = .ok (.getfield 45, 3) := by decide +kernel
theorem dX0_findBelow_7 : decode cX0_findBelow 7 = .ok (.if_icmp .ge 18, 3) := by decide +kernel
theorem dX0_findBelow_10 : decode cX0_findBelow 10 = .ok (.aload_n 0, 1) := by decide +kernel
theorem dX0_findBelow_11 : decode cX0_findBelow 11 = .ok (.getfield 39, 3) := by decide +kernel
theorem dX0_findBelow_14 : decode cX0_findBelow 14 = .ok (.iload_n 1, 1) := by decide +kernel
theorem dX0_findBelow_15 : decode cX0_findBelow 15 = .ok (.iconst 1, 1) := by decide +kernel
theorem dX0_findBelow_16 : decode cX0_findBelow 16 = .ok (.iload_n 1, 1) := by decide +kernel
theorem dX0_findBelow_17 : decode cX0_findBelow 17 = .ok (.ishl, 1) := by decide +kernel
theorem dX0_findBelow_18 : decode cX0_findBelow 18 = .ok (.iastore, 1) := by decide +kernel
theorem dX0_findBelow_19 : decode cX0_findBelow 19 = .ok (.iinc 1 1, 3) := by decide +kernel
theorem dX0_findBelow_22 : decode cX0_findBelow 22 = .ok (.goto (-20), 3) := by decide +kernel
theorem dX0_findBelow_25 : decode cX0_findBelow 25 = .ok (.iconst 1, 1) := by decide +kernel
theorem dX0_findBelow_26 : decode cX0_findBelow 26 = .ok (.istore_n 1, 1) := by decide +kernel
theorem dX0_findBelow_27 : decode cX0_findBelow 27 = .ok (.iload_n 1, 1) := by decide +kernel
theorem dX0_findBelow_28 : decode cX0_findBelow 28 = .ok (.aload_n 0, 1) := by decide +kernel
theorem dX0_findBelow_29 : decode cX0_findBelow 29 = .ok (.getfield 45, 3) := by decide +kernel
theorem dX0_findBelow_32 : decode cX0_findBelow 32 = .ok (.if_icmp .ge 50, 3) := by decide +kernel
theorem dX0_findBelow_35 : decode cX0_findBelow 35 = .ok (.iconst 0, 1) := by decide +kernel
theorem dX0_findBelow_36 : decode cX0_findBelow 36 = .ok (.istore_n 2, 1) := by decide +kernel
theorem dX0_findBelow_37 : decode cX0_findBelow 37 = .ok (.iload_n 2, 1) := by decide +kernel
theorem dX0_findBelow_38 : decode cX0_findBelow 38 = .ok (.aload_n 0, 1) := by decide +kernel
theorem dX0_findBelow_39 : decode cX0_findBelow 39 = .ok (.getfield 53, 3) := by decide +kernel
theorem dX0_findBelow_42 : decode cX0_findBelow 42 = .ok (.if_icmp .ge 34, 3) := by decide +kernel
theorem dX0_findBelow_45 : decode cX0_findBelow 45 = .ok (.aload_n 0, 1) := by decide +kernel
theorem dX0_findBelow_46 : decode cX0_findBelow 46 = .ok (.getfield 39, 3) := by decide +kernel
theorem dX0_findBelow_49 : decode cX0_findBelow 49 = .ok (.aload_n 0, 1) := by decide +kernel
theorem dX0_findBelow_50 : decode cX0_findBelow 50 = .ok (.getfield 18, 3) := by decide +kernel
theorem dX0_findBelow_53 : decode cX0_findBelow 53 = .ok (.iload_n 2, 1) := by decide +kernel
theorem dX0_findBelow_54 : decode cX0_findBelow 54 = .ok (.iaload, 1) := by decide +kernel
theorem dX0_findBelow_55 : decode cX0_findBelow 55 = .ok (.dup2, 1) := by decide +kernel
theorem dX0_findBelow_56 : decode cX0_findBelow 56 = .ok (.iaload, 1) := by decide +kernel
theorem dX0_findBelow_57 : decode cX0_findBelow 57 = .ok (.aload_n 0, 1) := by decide +kernel
theorem dX0_findBelow_58 : decode cX0_findBelow 58 = .ok (.getfield 39, 3) := by decide +kernel
theorem dX0_findBelow_61 : decode cX0_findBelow 61 = .ok (.aload_n 0, 1) := by decide +kernel
theorem dX0_findBelow_62 : decode cX0_findBelow 62 = .ok (.getfield 21, 3) := by decide +kernel
theorem dX0_findBelow_65 : decode cX0_findBelow 65 = .ok (.iload_n 2, 1) := by decide +kernel
theorem dX0_findBelow_66 : decode cX0_findBelow 66 = .ok (.iaload, 1) := by decide +kernel
theorem dX0_findBelow_67 : decode cX0_findBelow 67 = .ok (.iaload, 1) := by decide +kernel
theorem dX0_findBelow_68 : decode cX0_findBelow 68 = .ok (.ior, 1) := by decide +kernel
theorem dX0_findBelow_69 : decode cX0_findBelow 69 = .ok (.iastore, 1) := by decide +kernel
theorem dX0_findBelow_70 : decode cX0_findBelow 70 = .ok (.iinc 2 1, 3) := by decide +kernel
theorem dX0_findBelow_73 : decode cX0_findBelow 73 = .ok (.goto (-36), 3) := by decide +kernel
theorem dX0_findBelow_76 : decode cX0_findBelow 76 = .ok (.iinc 1 1, 3) := by decide +kernel
theorem dX0_findBelow_79 : decode cX0_findBelow 79 = .ok (.goto (-52), 3) := by decide +kernel
theorem dX0_findBelow_82 : decode cX0_findBelow 82 = .ok (.return_, 1) := by decide +kernel
set_option maxRecDepth 20000 in
theorem ggX0_findRoute_J6_bitCount_0f7a4 : GoodIn wsX0_findRoute wsJ6_bitCount_0f7a4 := goodIn_r _ [9, 10, 11, 12] (by decide +kernel) (by decide +kernel)
set_option maxRecDepth 20000 in
theorem gX0_findRoute_J6_bitCount_0f7a4 : GoodIn wsX0_findRoute (va_wsS RX0 97 yJ6_bitCount_0f7a4 wsJ6_bitCount_0f7a4) := goodIn_app (goodIn_of _ (by decide +kernel)) ggX0_findRoute_J6_bitCount_0f7a4
theorem dX0_findRoute_0 : decode cX0_findRoute 0 = .ok (.iconst 0, 1) := by decide +kernel
theorem dX0_findRoute_1 : decode cX0_findRoute 1 = .ok (.istore_n 1, 1) := by decide +kernel
theorem dX0_findRoute_2 : decode cX0_findRoute 2 = .ok (.aload_n 0, 1) := by decide +kernel
theorem dX0_findRoute_3 : decode cX0_findRoute 3 = .ok (.getfield 45, 3) := by decide +kernel
theorem dX0_findRoute_6 : decode cX0_findRoute 6 = .ok (.istore_n 2, 1) := by decide +kernel
theorem dX0_findRoute_7 : decode cX0_findRoute 7 = .ok (.iload_n 2, 1) := by decide +kernel
theorem dX0_findRoute_8 : decode cX0_findRoute 8 = .ok (.ifCond .le 59, 3) := by decide +kernel
theorem dX0_findRoute_11 : decode cX0_findRoute 11 = .ok (.iconst 0, 1) := by decide +kernel
theorem dX0_findRoute_12 : decode cX0_findRoute 12 = .ok (.istore_n 3, 1) := by decide +kernel
theorem dX0_findRoute_13 : decode cX0_findRoute 13 = .ok (.iload_n 3, 1) := by decide +kernel
theorem dX0_findRoute_14 : decode cX0_findRoute 14 = .ok (.aload_n 0, 1) := by decide +kernel
theorem dX0_findRoute_15 : decode cX0_findRoute 15 = .ok (.getfield 53, 3) := by decide +kernel
theorem dX0_findRoute_18 : decode cX0_findRoute 18 = .ok (.if_icmp .ge 43, 3) := by decide +kernel
theorem dX0_findRoute_21 : decode cX0_findRoute 21 = .ok (.aload_n 0, 1) := by decide +kernel
theorem dX0_findRoute_22 : decode cX0_findRoute 22 = .ok (.getfield 39, 3) := by decide +kernel
theorem dX0_findRoute_25 : decode cX0_findRoute 25 = .ok (.aload_n 0, 1) := by decide +kernel
theorem dX0_findRoute_26 : decode cX0_findRoute 26 = .ok (.getfield 18, 3) := by decide +kernel
theorem dX0_findRoute_29 : decode cX0_findRoute 29 = .ok (.iload_n 3, 1) := by decide +kernel
theorem dX0_findRoute_30 : decode cX0_findRoute 30 = .ok (.iaload, 1) := by decide +kernel
theorem dX0_findRoute_31 : decode cX0_findRoute 31 = .ok (.iaload, 1) := by decide +kernel
theorem dX0_findRoute_32 : decode cX0_findRoute 32 = .ok (.invokestatic 97, 3) := by decide +kernel
theorem dX0_findRoute_35 : decode cX0_findRoute 35 = .ok (.iload_n 2, 1) := by decide +kernel
theorem dX0_findRoute_36 : decode cX0_findRoute 36 = .ok (.if_icmp .ne 19, 3) := by decide +kernel
theorem dX0_findRoute_39 : decode cX0_findRoute 39 = .ok (.iload_n 1, 1) := by decide +kernel
theorem dX0_findRoute_40 : decode cX0_findRoute 40 = .ok (.bipush 16, 2) := by decide +kernel
theorem dX0_findRoute_42 : decode cX0_findRoute 42 = .ok (.if_icmp .ge 13, 3) := by decide +kernel
theorem dX0_findRoute_45 : decode cX0_findRoute 45 = .ok (.aload_n 0, 1) := by decide +kernel
theorem dX0_findRoute_46 : decode cX0_findRoute 46 = .ok (.getfield 42, 3) := by decide +kernel
theorem dX0_findRoute_49 : decode cX0_findRoute 49 = .ok (.iload_n 1, 1) := by decide +kernel
theorem dX0_findRoute_50 : decode cX0_findRoute 50 = .ok (.iload_n 3, 1) := by decide +kernel
theorem dX0_findRoute_51 : decode cX0_findRoute 51 = .ok (.iastore, 1) := by decide +kernel
theorem dX0_findRoute_52 : decode cX0_findRoute 52 = .ok (.iinc 1 1, 3) := by decide +kernel
theorem dX0_findRoute_55 : decode cX0_findRoute 55 = .ok (.iinc 3 1, 3) := by decide +kernel
theorem dX0_findRoute_58 : decode cX0_findRoute 58 = .ok (.goto (-45), 3) := by decide +kernel
theorem dX0_findRoute_61 : decode cX0_findRoute 61 = .ok (.iinc 2 (-1), 3) := by decide +kernel
theorem dX0_findRoute_64 : decode cX0_findRoute 64 = .ok (.goto (-57), 3) := by decide +kernel
theorem dX0_findRoute_67 : decode cX0_findRoute 67 = .ok (.return_, 1) := by decide +kernel
theorem dX0_pumped_0 : decode cX0_pumped 0 = .ok (.iload_n 2, 1) := by decide +kernel
theorem dX0_pumped_1 : decode cX0_pumped 1 = .ok (.iconst 1, 1) := by decide +kernel
theorem dX0_pumped_2 : decode cX0_pumped 2 = .ok (.if_icmp .ge 5, 3) := by decide +kernel
theorem dX0_pumped_5 : decode cX0_pumped 5 = .ok (.lconst 0, 1) := by decide +kernel
theorem dX0_pumped_6 : decode cX0_pumped 6 = .ok (.lreturn, 1) := by decide +kernel
theorem dX0_pumped_7 : decode cX0_pumped 7 = .ok (.lload_n 0, 1) := by decide +kernel
theorem dX0_pumped_8 : decode cX0_pumped 8 = .ok (.lconst 1, 1) := by decide +kernel
theorem dX0_pumped_9 : decode cX0_pumped 9 = .ok (.land, 1) := by decide +kernel
theorem dX0_pumped_10 : decode cX0_pumped 10 = .ok (.lstore_n 3, 1) := by decide +kernel
theorem dX0_pumped_11 : decode cX0_pumped 11 = .ok (.iload_n 2, 1) := by decide +kernel
theorem dX0_pumped_12 : decode cX0_pumped 12 = .ok (.istore 5, 2) := by decide +kernel
theorem dX0_pumped_14 : decode cX0_pumped 14 = .ok (.iload 5, 2) := by decide +kernel
theorem dX0_pumped_16 : decode cX0_pumped 16 = .ok (.bipush 62, 2) := by decide +kernel
theorem dX0_pumped_18 : decode cX0_pumped 18 = .ok (.if_icmp .gt 42, 3) := by decide +kernel
theorem dX0_pumped_21 : decode cX0_pumped 21 = .ok (.lconst 1, 1) := by decide +kernel
theorem dX0_pumped_22 : decode cX0_pumped 22 = .ok (.iload_n 2, 1) := by decide +kernel
theorem dX0_pumped_23 : decode cX0_pumped 23 = .ok (.lshl, 1) := by decide +kernel
theorem dX0_pumped_24 : decode cX0_pumped 24 = .ok (.lconst 1, 1) := by decide +kernel
theorem dX0_pumped_25 : decode cX0_pumped 25 = .ok (.lsub, 1) := by decide +kernel
theorem dX0_pumped_26 : decode cX0_pumped 26 = .ok (.iload 5, 2) := by decide +kernel
theorem dX0_pumped_28 : decode cX0_pumped 28 = .ok (.iload_n 2, 1) := by decide +kernel
theorem dX0_pumped_29 : decode cX0_pumped 29 = .ok (.isub, 1) := by decide +kernel
theorem dX0_pumped_30 : decode cX0_pumped 30 = .ok (.iconst 1, 1) := by decide +kernel
theorem dX0_pumped_31 : decode cX0_pumped 31 = .ok (.iadd, 1) := by decide +kernel
theorem dX0_pumped_32 : decode cX0_pumped 32 = .ok (.lshl, 1) := by decide +kernel
theorem dX0_pumped_33 : decode cX0_pumped 33 = .ok (.lstore 6, 2) := by decide +kernel
theorem dX0_pumped_35 : decode cX0_pumped 35 = .ok (.lload_n 0, 1) := by decide +kernel
theorem dX0_pumped_36 : decode cX0_pumped 36 = .ok (.lload 6, 2) := by decide +kernel
theorem dX0_pumped_38 : decode cX0_pumped 38 = .ok (.land, 1) := by decide +kernel
theorem dX0_pumped_39 : decode cX0_pumped 39 = .ok (.lconst 0, 1) := by decide +kernel
theorem dX0_pumped_40 : decode cX0_pumped 40 = .ok (.lcmp, 1) := by decide +kernel
theorem dX0_pumped_41 : decode cX0_pumped 41 = .ok (.ifCond .eq 10, 3) := by decide +kernel
theorem dX0_pumped_44 : decode cX0_pumped 44 = .ok (.lload_n 3, 1) := by decide +kernel
theorem dX0_pumped_45 : decode cX0_pumped 45 = .ok (.lconst 1, 1) := by decide +kernel
theorem dX0_pumped_46 : decode cX0_pumped 46 = .ok (.iload 5, 2) := by decide +kernel
theorem dX0_pumped_48 : decode cX0_pumped 48 = .ok (.lshl, 1) := by decide +kernel
theorem dX0_pumped_49 : decode cX0_pumped 49 = .ok (.lor, 1) := by decide +kernel
theorem dX0_pumped_50 : decode cX0_pumped 50 = .ok (.lstore_n 3, 1) := by decide +kernel
theorem dX0_pumped_51 : decode cX0_pumped 51 = .ok (.iload 5, 2) := by decide +kernel
theorem dX0_pumped_53 : decode cX0_pumped 53 = .ok (.iload_n 2, 1) := by decide +kernel
theorem dX0_pumped_54 : decode cX0_pumped 54 = .ok (.iadd, 1) := by decide +kernel
theorem dX0_pumped_55 : decode cX0_pumped 55 = .ok (.istore 5, 2) := by decide +kernel
theorem dX0_pumped_57 : decode cX0_pumped 57 = .ok (.goto (-43), 3) := by decide +kernel
theorem dX0_pumped_60 : decode cX0_pumped 60 = .ok (.lload_n 3, 1) := by decide +kernel
theorem dX0_pumped_61 : decode cX0_pumped 61 = .ok (.lreturn, 1) := by decide +kernel
set_option maxRecDepth 20000 in
theorem ggX0_isKind_X5_within : GoodIn wsX0_isKind wsX5_within := goodIn_r _ [3] (by decide +kernel) (by decide +kernel)
set_option maxRecDepth 20000 in
theorem gX0_isKind_X5_within_n49 : GoodIn wsX0_isKind (wsX5_within) := ggX0_isKind_X5_within
theorem dX0_isKind_0 : decode cX0_isKind 0 = .ok (.iload_n 0, 1) := by decide +kernel
theorem dX0_isKind_1 : decode cX0_isKind 1 = .ok (.iconst 0, 1) := by decide +kernel
theorem dX0_isKind_2 : decode cX0_isKind 2 = .ok (.iconst 4, 1) := by decide +kernel
theorem dX0_isKind_3 : decode cX0_isKind 3 = .ok (.invokestatic 49, 3) := by decide +kernel
theorem dX0_isKind_6 : decode cX0_isKind 6 = .ok (.ireturn, 1) := by decide +kernel
set_option maxRecDepth 20000 in
theorem ggX0_isPace_X5_within : GoodIn wsX0_isPace wsX5_within := goodIn_r _ [3] (by decide +kernel) (by decide +kernel)
set_option maxRecDepth 20000 in
theorem gX0_isPace_X5_within_n49 : GoodIn wsX0_isPace (wsX5_within) := ggX0_isPace_X5_within
theorem dX0_isPace_0 : decode cX0_isPace 0 = .ok (.iload_n 0, 1) := by decide +kernel
theorem dX0_isPace_1 : decode cX0_isPace 1 = .ok (.iconst 1, 1) := by decide +kernel
theorem dX0_isPace_2 : decode cX0_isPace 2 = .ok (.bipush 15, 2) := by decide +kernel
theorem dX0_isPace_4 : decode cX0_isPace 4 = .ok (.invokestatic 49, 3) := by decide +kernel
theorem dX0_isPace_7 : decode cX0_isPace 7 = .ok (.ireturn, 1) := by decide +kernel
theorem dX0_copyRow_0 : decode cX0_copyRow 0 = .ok (.aload_n 0, 1) := by decide +kernel
theorem dX0_copyRow_1 : decode cX0_copyRow 1 = .ok (.iconst 0, 1) := by decide +kernel
theorem dX0_copyRow_2 : decode cX0_copyRow 2 = .ok (.aload_n 1, 1) := by decide +kernel
theorem dX0_copyRow_3 : decode cX0_copyRow 3 = .ok (.iconst 0, 1) := by decide +kernel
theorem dX0_copyRow_4 : decode cX0_copyRow 4 = .ok (.aload_n 0, 1) := by decide +kernel
theorem dX0_copyRow_5 : decode cX0_copyRow 5 = .ok (.arraylength, 1) := by decide +kernel
theorem dX0_copyRow_6 : decode cX0_copyRow 6 = .ok (.aload_n 1, 1) := by decide +kernel
theorem dX0_copyRow_7 : decode cX0_copyRow 7 = .ok (.arraylength, 1) := by decide +kernel
theorem dX0_copyRow_8 : decode cX0_copyRow 8 = .ok (.invokestatic 103, 3) := by decide +kernel
theorem dX0_copyRow_11 : decode cX0_copyRow 11 = .ok (.invokestatic 109, 3) := by decide +kernel
theorem dX0_copyRow_14 : decode cX0_copyRow 14 = .ok (.return_, 1) := by decide +kernel
theorem dX1_init_0 : decode cX1_init 0 = .ok (.aload_n 0, 1) := by decide +kernel
theorem dX1_init_1 : decode cX1_init 1 = .ok (.invokespecial 3, 3) := by decide +kernel
theorem dX1_init_4 : decode cX1_init 4 = .ok (.aload_n 0, 1) := by decide +kernel
theorem dX1_init_5 : decode cX1_init 5 = .ok (.bipush 10, 2) := by decide +kernel
theorem dX1_init_7 : decode cX1_init 7 = .ok (.newarray .long, 2) := by decide +kernel
theorem dX1_init_9 : decode cX1_init 9 = .ok (.putfield 9, 3) := by decide +kernel
theorem dX1_init_12 : decode cX1_init 12 = .ok (.aload_n 0, 1) := by decide +kernel
theorem dX1_init_13 : decode cX1_init 13 = .ok (.bipush 10, 2) := by decide +kernel
theorem dX1_init_15 : decode cX1_init 15 = .ok (.newarray .int, 2) := by decide +kernel
theorem dX1_init_17 : decode cX1_init 17 = .ok (.putfield 15, 3) := by decide +kernel
theorem dX1_init_20 : decode cX1_init 20 = .ok (.aload_n 0, 1) := by decide +kernel
theorem dX1_init_21 : decode cX1_init 21 = .ok (.aload_n 1, 1) := by decide +kernel
theorem dX1_init_22 : decode cX1_init 22 = .ok (.putfield 19, 3) := by decide +kernel
theorem dX1_init_25 : decode cX1_init 25 = .ok (.return_, 1) := by decide +kernel
theorem dX1_outdate_0 : decode cX1_outdate 0 = .ok (.aload_n 0, 1) := by decide +kernel
theorem dX1_outdate_1 : decode cX1_outdate 1 = .ok (.iconst 0, 1) := by decide +kernel
theorem dX1_outdate_2 : decode cX1_outdate 2 = .ok (.putfield 23, 3) := by decide +kernel
theorem dX1_outdate_5 : decode cX1_outdate 5 = .ok (.return_, 1) := by decide +kernel
set_option maxRecDepth 20000 in
theorem ggX1_walk_J7_fill_d0a16 : GoodIn wsX1_walk wsJ7_fill_d0a16 := goodIn_r _ [10] (by decide +kernel) (by decide +kernel)
set_option maxRecDepth 20000 in
theorem gX1_walk_J7_fill_d0a16 : GoodIn wsX1_walk (va_wsS RX1 27 yJ7_fill_d0a16 wsJ7_fill_d0a16) := goodIn_app (goodIn_of _ (by decide +kernel)) ggX1_walk_J7_fill_d0a16
set_option maxRecDepth 20000 in
theorem ggX1_walk_X0_leaving : GoodIn wsX1_walk wsX0_leaving := goodIn_r _ [15, 16, 17, 18, 19, 20, 21, 14, 22, 33, 34, 35, 36, 37, 38, 39, 40, 41, 42, 43, 44, 45, 46] (by decide +kernel) (by decide +kernel)
set_option maxRecDepth 20000 in
theorem gX1_walk_X0_leaving : GoodIn wsX1_walk (wsV RX1 47 RX0 yX0_leaving wsX0_leaving) := goodIn_app (goodIn_of _ (by decide +kernel)) ggX1_walk_X0_leaving
set_option maxRecDepth 20000 in
theorem ggX1_walk_X0_brought : GoodIn wsX1_walk wsX0_brought := goodIn_r _ [26, 27, 28, 18, 33, 34, 35, 36, 37, 38, 39, 40, 41, 42, 43, 44, 45, 46] (by decide +kernel) (by decide +kernel)
set_option maxRecDepth 20000 in
theorem gX1_walk_X0_brought : GoodIn wsX1_walk (wsV RX1 51 RX0 yX0_brought wsX0_brought) := goodIn_app (goodIn_of _ (by decide +kernel)) ggX1_walk_X0_brought
theorem dX1_walk_0 : decode cX1_walk 0 = .ok (.aload_n 0, 1) := by decide +kernel
theorem dX1_walk_1 : decode cX1_walk 1 = .ok (.getfield 9, 3) := by decide +kernel
theorem dX1_walk_4 : decode cX1_walk 4 = .ok (.lconst 0, 1) := by decide +kernel
theorem dX1_walk_5 : decode cX1_walk 5 = .ok (.invokestatic 27, 3) := by decide +kernel
theorem dX1_walk_8 : decode cX1_walk 8 = .ok (.aload_n 0, 1) := by decide +kernel
theorem dX1_walk_9 : decode cX1_walk 9 = .ok (.getfield 9, 3) := by decide +kernel
theorem dX1_walk_12 : decode cX1_walk 12 = .ok (.iload_n 1, 1) := by decide +kernel
theorem dX1_walk_13 : decode cX1_walk 13 = .ok (.lconst 1, 1) := by decide +kernel
theorem dX1_walk_14 : decode cX1_walk 14 = .ok (.iload_n 2, 1) := by decide +kernel
theorem dX1_walk_15 : decode cX1_walk 15 = .ok (.lshl, 1) := by decide +kernel
theorem dX1_walk_16 : decode cX1_walk 16 = .ok (.lastore, 1) := by decide +kernel
theorem dX1_walk_17 : decode cX1_walk 17 = .ok (.iconst 0, 1) := by decide +kernel
theorem dX1_walk_18 : decode cX1_walk 18 = .ok (.istore_n 3, 1) := by decide +kernel
theorem dX1_walk_19 : decode cX1_walk 19 = .ok (.iload_n 3, 1) := by decide +kernel
theorem dX1_walk_20 : decode cX1_walk 20 = .ok (.aload_n 0, 1) := by decide +kernel
theorem dX1_walk_21 : decode cX1_walk 21 = .ok (.getfield 19, 3) := by decide +kernel
theorem dX1_walk_24 : decode cX1_walk 24 = .ok (.getfield 33, 3) := by decide +kernel
theorem dX1_walk_27 : decode cX1_walk 27 = .ok (.if_icmp .ge 87, 3) := by decide +kernel
theorem dX1_walk_30 : decode cX1_walk 30 = .ok (.aload_n 0, 1) := by decide +kernel
theorem dX1_walk_31 : decode cX1_walk 31 = .ok (.getfield 19, 3) := by decide +kernel
theorem dX1_walk_34 : decode cX1_walk 34 = .ok (.getfield 38, 3) := by decide +kernel
theorem dX1_walk_37 : decode cX1_walk 37 = .ok (.iload_n 3, 1) := by decide +kernel
theorem dX1_walk_38 : decode cX1_walk 38 = .ok (.iaload, 1) := by decide +kernel
theorem dX1_walk_39 : decode cX1_walk 39 = .ok (.istore 4, 2) := by decide +kernel
theorem dX1_walk_41 : decode cX1_walk 41 = .ok (.aload_n 0, 1) := by decide +kernel
theorem dX1_walk_42 : decode cX1_walk 42 = .ok (.getfield 19, 3) := by decide +kernel
theorem dX1_walk_45 : decode cX1_walk 45 = .ok (.getfield 41, 3) := by decide +kernel
theorem dX1_walk_48 : decode cX1_walk 48 = .ok (.iload 4, 2) := by decide +kernel
theorem dX1_walk_50 : decode cX1_walk 50 = .ok (.iaload, 1) := by decide +kernel
theorem dX1_walk_51 : decode cX1_walk 51 = .ok (.istore 5, 2) := by decide +kernel
theorem dX1_walk_53 : decode cX1_walk 53 = .ok (.aload_n 0, 1) := by decide +kernel
theorem dX1_walk_54 : decode cX1_walk 54 = .ok (.getfield 9, 3) := by decide +kernel
theorem dX1_walk_57 : decode cX1_walk 57 = .ok (.iload 5, 2) := by decide +kernel
theorem dX1_walk_59 : decode cX1_walk 59 = .ok (.laload, 1) := by decide +kernel
theorem dX1_walk_60 : decode cX1_walk 60 = .ok (.lconst 0, 1) := by decide +kernel
theorem dX1_walk_61 : decode cX1_walk 61 = .ok (.lcmp, 1) := by decide +kernel
theorem dX1_walk_62 : decode cX1_walk 62 = .ok (.ifCond .eq 46, 3) := by decide +kernel
theorem dX1_walk_65 : decode cX1_walk 65 = .ok (.aload_n 0, 1) := by decide +kernel
theorem dX1_walk_66 : decode cX1_walk 66 = .ok (.getfield 9, 3) := by decide +kernel
theorem dX1_walk_69 : decode cX1_walk 69 = .ok (.aload_n 0, 1) := by decide +kernel
theorem dX1_walk_70 : decode cX1_walk 70 = .ok (.getfield 19, 3) := by decide +kernel
theorem dX1_walk_73 : decode cX1_walk 73 = .ok (.getfield 44, 3) := by decide +kernel
theorem dX1_walk_76 : decode cX1_walk 76 = .ok (.iload 4, 2) := by decide +kernel
theorem dX1_walk_78 : decode cX1_walk 78 = .ok (.iaload, 1) := by decide +kernel
theorem dX1_walk_79 : decode cX1_walk 79 = .ok (.dup2, 1) := by decide +kernel
theorem dX1_walk_80 : decode cX1_walk 80 = .ok (.laload, 1) := by decide +kernel
theorem dX1_walk_81 : decode cX1_walk 81 = .ok (.aload_n 0, 1) := by decide +kernel
theorem dX1_walk_82 : decode cX1_walk 82 = .ok (.getfield 19, 3) := by decide +kernel
theorem dX1_walk_85 : decode cX1_walk 85 = .ok (.iload 4, 2) := by decide +kernel
theorem dX1_walk_87 : decode cX1_walk 87 = .ok (.aload_n 0, 1) := by decide +kernel
theorem dX1_walk_88 : decode cX1_walk 88 = .ok (.getfield 19, 3) := by decide +kernel
theorem dX1_walk_91 : decode cX1_walk 91 = .ok (.iload 5, 2) := by decide +kernel
theorem dX1_walk_93 : decode cX1_walk 93 = .ok (.aload_n 0, 1) := by decide +kernel
theorem dX1_walk_94 : decode cX1_walk 94 = .ok (.getfield 9, 3) := by decide +kernel
theorem dX1_walk_97 : decode cX1_walk 97 = .ok (.iload 5, 2) := by decide +kernel
theorem dX1_walk_99 : decode cX1_walk 99 = .ok (.laload, 1) := by decide +kernel
theorem dX1_walk_100 : decode cX1_walk 100 = .ok (.invokevirtual 47, 3) := by decide +kernel
theorem dX1_walk_103 : decode cX1_walk 103 = .ok (.invokevirtual 51, 3) := by decide +kernel
theorem dX1_walk_106 : decode cX1_walk 106 = .ok (.lor, 1) := by decide +kernel
theorem dX1_walk_107 : decode cX1_walk 107 = .ok (.lastore, 1) := by decide +kernel
theorem dX1_walk_108 : decode cX1_walk 108 = .ok (.iinc 3 1, 3) := by decide +kernel
theorem dX1_walk_111 : decode cX1_walk 111 = .ok (.goto (-92), 3) := by decide +kernel
theorem dX1_walk_114 : decode cX1_walk 114 = .ok (.return_, 1) := by decide +kernel
set_option maxRecDepth 20000 in
theorem ggX1_agrees_X1_agreesWith : GoodIn wsX1_agrees wsX1_agreesWith := goodIn_r _ [7, 8, 1, 9, 10, 11, 12, 13, 14, 15, 16, 17, 18, 19, 20, 21, 22, 23, 24, 25, 26, 27, 28, 29] (by decide +kernel) (by decide +kernel)
set_option maxRecDepth 20000 in
theorem gX1_agrees_X1_agreesWith : GoodIn wsX1_agrees (wsV RX1 57 RX1 yX1_agreesWith wsX1_agreesWith) := goodIn_app (goodIn_of _ (by decide +kernel)) ggX1_agrees_X1_agreesWith
theorem dX1_agrees_0 : decode cX1_agrees 0 = .ok (.iconst 0, 1) := by decide +kernel
theorem dX1_agrees_1 : decode cX1_agrees 1 = .ok (.istore_n 1, 1) := by decide +kernel
theorem dX1_agrees_2 : decode cX1_agrees 2 = .ok (.iload_n 1, 1) := by decide +kernel
theorem dX1_agrees_3 : decode cX1_agrees 3 = .ok (.aload_n 0, 1) := by decide +kernel
theorem dX1_agrees_4 : decode cX1_agrees 4 = .ok (.getfield 19, 3) := by decide +kernel
theorem dX1_agrees_7 : decode cX1_agrees 7 = .ok (.getfield 54, 3) := by decide +kernel
theorem dX1_agrees_10 : decode cX1_agrees 10 = .ok (.if_icmp .ge 19, 3) := by decide +kernel
theorem dX1_agrees_13 : decode cX1_agrees 13 = .ok (.aload_n 0, 1) := by decide +kernel
theorem dX1_agrees_14 : decode cX1_agrees 14 = .ok (.iload_n 1, 1) := by decide +kernel
theorem dX1_agrees_15 : decode cX1_agrees 15 = .ok (.invokevirtual 57, 3) := by decide +kernel
theorem dX1_agrees_18 : decode cX1_agrees 18 = .ok (.ifCond .ne 5, 3) := by decide +kernel
theorem dX1_agrees_21 : decode cX1_agrees 21 = .ok (.iconst 0, 1) := by decide +kernel
theorem dX1_agrees_22 : decode cX1_agrees 22 = .ok (.ireturn, 1) := by decide +kernel
theorem dX1_agrees_23 : decode cX1_agrees 23 = .ok (.iinc 1 1, 3) := by decide +kernel
theorem dX1_agrees_26 : decode cX1_agrees 26 = .ok (.goto (-24), 3) := by decide +kernel
theorem dX1_agrees_29 : decode cX1_agrees 29 = .ok (.iconst 1, 1) := by decide +kernel
theorem dX1_agrees_30 : decode cX1_agrees 30 = .ok (.ireturn, 1) := by decide +kernel
set_option maxRecDepth 20000 in
theorem ggX1_startsAt_X1_walk : GoodIn wsX1_startsAt wsX1_walk := goodIn_r _ [7, 8, 9, 10, 11, 12, 13, 14, 15, 16, 17, 18, 19, 20, 21, 22, 23, 24, 25, 26, 27, 28, 29, 30, 31, 32, 33, 34, 35, 48, 49, 50, 51, 52, 53, 54, 55, 56, 57, 58, 59, 60, 61, 62, 63, 64, 65] (by decide +kernel) (by decide +kernel)
set_option maxRecDepth 20000 in
theorem gX1_startsAt_X1_walk : GoodIn wsX1_startsAt (wsV RX1 61 RX1 yX1_walk wsX1_walk) := goodIn_app (goodIn_of _ (by decide +kernel)) ggX1_startsAt_X1_walk
set_option maxRecDepth 20000 in
theorem ggX1_startsAt_X1_agrees : GoodIn wsX1_startsAt wsX1_agrees := goodIn_r _ [39, 9, 40, 41, 42, 43, 6, 44, 8, 45, 46, 47, 48, 49, 50, 51, 52, 53, 54, 55, 56, 57, 58, 59, 60, 61, 62, 63, 64, 65] (by decide +kernel) (by decide +kernel)
set_option maxRecDepth 20000 in
theorem gX1_startsAt_X1_agrees : GoodIn wsX1_startsAt (wsV RX1 65 RX1 yX1_agrees wsX1_agrees) := goodIn_app (goodIn_of _ (by decide +kernel)) ggX1_startsAt_X1_agrees
theorem dX1_startsAt_0 : decode cX1_startsAt 0 = .ok (.aload_n 0, 1) := by decide +kernel
theorem dX1_startsAt_1 : decode cX1_startsAt 1 = .ok (.getfield 23, 3) := by decide +kernel
theorem dX1_startsAt_4 : decode cX1_startsAt 4 = .ok (.iload_n 1, 1) := by decide +kernel
theorem dX1_startsAt_5 : decode cX1_startsAt 5 = .ok (.ishr, 1) := by decide +kernel
theorem dX1_startsAt_6 : decode cX1_startsAt 6 = .ok (.iconst 1, 1) := by decide +kernel
theorem dX1_startsAt_7 : decode cX1_startsAt 7 = .ok (.iand, 1) := by decide +kernel
theorem dX1_startsAt_8 : decode cX1_startsAt 8 = .ok (.iconst 1, 1) := by decide +kernel
theorem dX1_startsAt_9 : decode cX1_startsAt 9 = .ok (.if_icmp .ne 10, 3) := by decide +kernel
theorem dX1_startsAt_12 : decode cX1_startsAt 12 = .ok (.aload_n 0, 1) := by decide +kernel
theorem dX1_startsAt_13 : decode cX1_startsAt 13 = .ok (.getfield 15, 3) := by decide +kernel
theorem dX1_startsAt_16 : decode cX1_startsAt 16 = .ok (.iload_n 1, 1) := by decide +kernel
theorem dX1_startsAt_17 : decode cX1_startsAt 17 = .ok (.iaload, 1) := by decide +kernel
theorem dX1_startsAt_18 : decode cX1_startsAt 18 = .ok (.ireturn, 1) := by decide +kernel
theorem dX1_startsAt_19 : decode cX1_startsAt 19 = .ok (.iconst 0, 1) := by decide +kernel
theorem dX1_startsAt_20 : decode cX1_startsAt 20 = .ok (.istore_n 2, 1) := by decide +kernel
theorem dX1_startsAt_21 : decode cX1_startsAt 21 = .ok (.iconst 0, 1) := by decide +kernel
theorem dX1_startsAt_22 : decode cX1_startsAt 22 = .ok (.istore_n 3, 1) := by decide +kernel
theorem dX1_startsAt_23 : decode cX1_startsAt 23 = .ok (.iload_n 3, 1) := by decide +kernel
theorem dX1_startsAt_24 : decode cX1_startsAt 24 = .ok (.bipush 30, 2) := by decide +kernel
theorem dX1_startsAt_26 : decode cX1_startsAt 26 = .ok (.if_icmp .gt 28, 3) := by decide +kernel
theorem dX1_startsAt_29 : decode cX1_startsAt 29 = .ok (.aload_n 0, 1) := by decide +kernel
theorem dX1_startsAt_30 : decode cX1_startsAt 30 = .ok (.iload_n 1, 1) := by decide +kernel
theorem dX1_startsAt_31 : decode cX1_startsAt 31 = .ok (.iload_n 3, 1) := by decide +kernel
theorem dX1_startsAt_32 : decode cX1_startsAt 32 = .ok (.invokevirtual 61, 3) := by decide +kernel
theorem dX1_startsAt_35 : decode cX1_startsAt 35 = .ok (.aload_n 0, 1) := by decide +kernel
theorem dX1_startsAt_36 : decode cX1_startsAt 36 = .ok (.invokevirtual 65, 3) := by decide +kernel
theorem dX1_startsAt_39 : decode cX1_startsAt 39 = .ok (.ifCond .eq 9, 3) := by decide +kernel
theorem dX1_startsAt_42 : decode cX1_startsAt 42 = .ok (.iload_n 2, 1) := by decide +kernel
theorem dX1_startsAt_43 : decode cX1_startsAt 43 = .ok (.iconst 1, 1) := by decide +kernel
theorem dX1_startsAt_44 : decode cX1_startsAt 44 = .ok (.iload_n 3, 1) := by decide +kernel
theorem dX1_startsAt_45 : decode cX1_startsAt 45 = .ok (.ishl, 1) := by decide +kernel
theorem dX1_startsAt_46 : decode cX1_startsAt 46 = .ok (.ior, 1) := by decide +kernel
theorem dX1_startsAt_47 : decode cX1_startsAt 47 = .ok (.istore_n 2, 1) := by decide +kernel
theorem dX1_startsAt_48 : decode cX1_startsAt 48 = .ok (.iinc 3 1, 3) := by decide +kernel
theorem dX1_startsAt_51 : decode cX1_startsAt 51 = .ok (.goto (-28), 3) := by decide +kernel
theorem dX1_startsAt_54 : decode cX1_startsAt 54 = .ok (.aload_n 0, 1) := by decide +kernel
theorem dX1_startsAt_55 : decode cX1_startsAt 55 = .ok (.getfield 15, 3) := by decide +kernel
theorem dX1_startsAt_58 : decode cX1_startsAt 58 = .ok (.iload_n 1, 1) := by decide +kernel
theorem dX1_startsAt_59 : decode cX1_startsAt 59 = .ok (.iload_n 2, 1) := by decide +kernel
theorem dX1_startsAt_60 : decode cX1_startsAt 60 = .ok (.iastore, 1) := by decide +kernel
theorem dX1_startsAt_61 : decode cX1_startsAt 61 = .ok (.aload_n 0, 1) := by decide +kernel
theorem dX1_startsAt_62 : decode cX1_startsAt 62 = .ok (.dup, 1) := by decide +kernel
theorem dX1_startsAt_63 : decode cX1_startsAt 63 = .ok (.getfield 23, 3) := by decide +kernel
theorem dX1_startsAt_66 : decode cX1_startsAt 66 = .ok (.iconst 1, 1) := by decide +kernel
theorem dX1_startsAt_67 : decode cX1_startsAt 67 = .ok (.iload_n 1, 1) := by decide +kernel
theorem dX1_startsAt_68 : decode cX1_startsAt 68 = .ok (.ishl, 1) := by decide +kernel
theorem dX1_startsAt_69 : decode cX1_startsAt 69 = .ok (.ior, 1) := by decide +kernel
theorem dX1_startsAt_70 : decode cX1_startsAt 70 = .ok (.putfield 23, 3) := by decide +kernel
theorem dX1_startsAt_73 : decode cX1_startsAt 73 = .ok (.iload_n 2, 1) := by decide +kernel
theorem dX1_startsAt_74 : decode cX1_startsAt 74 = .ok (.ireturn, 1) := by decide +kernel
set_option maxRecDepth 20000 in
theorem ggX1_suspicious_X1_startsAt : GoodIn wsX1_suspicious wsX1_startsAt := goodIn_r _ [7, 8, 9, 10, 11, 12, 6, 13, 14, 1, 15, 16, 17, 18, 19, 20, 21, 22, 23, 24, 25, 26, 27, 28, 29, 30, 31, 32, 33, 34, 35, 36, 37, 38, 39, 40, 41, 42, 43, 44, 45, 46, 47, 48, 49, 50, 51, 52, 53, 54, 55, 56, 57, 58, 59, 60, 61, 62, 63, 64, 65, 66, 67, 68, 69, 70] (by decide +kernel) (by decide +kernel)
set_option maxRecDepth 20000 in
theorem gX1_suspicious_X1_startsAt : GoodIn wsX1_suspicious (wsV RX1 72 RX1 yX1_startsAt wsX1_startsAt) := goodIn_app (goodIn_of _ (by decide +kernel)) ggX1_suspicious_X1_startsAt
theorem dX1_suspicious_0 : decode cX1_suspicious 0 = .ok (.iconst 0, 1) := by decide +kernel
theorem dX1_suspicious_1 : decode cX1_suspicious 1 = .ok (.istore_n 1, 1) := by decide +kernel
theorem dX1_suspicious_2 : decode cX1_suspicious 2 = .ok (.iconst 0, 1) := by decide +kernel
theorem dX1_suspicious_3 : decode cX1_suspicious 3 = .ok (.istore_n 2, 1) := by decide +kernel
theorem dX1_suspicious_4 : decode cX1_suspicious 4 = .ok (.iload_n 2, 1) := by decide +kernel
theorem dX1_suspicious_5 : decode cX1_suspicious 5 = .ok (.aload_n 0, 1) := by decide +kernel
theorem dX1_suspicious_6 : decode cX1_suspicious 6 = .ok (.getfield 19, 3) := by decide +kernel
theorem dX1_suspicious_9 : decode cX1_suspicious 9 = .ok (.getfield 69, 3) := by decide +kernel
theorem dX1_suspicious_12 : decode cX1_suspicious 12 = .ok (.if_icmp .ge 23, 3) := by decide +kernel
theorem dX1_suspicious_15 : decode cX1_suspicious 15 = .ok (.aload_n 0, 1) := by decide +kernel
theorem dX1_suspicious_16 : decode cX1_suspicious 16 = .ok (.iload_n 2, 1) := by decide +kernel
theorem dX1_suspicious_17 : decode cX1_suspicious 17 = .ok (.invokevirtual 72, 3) := by decide +kernel
theorem dX1_suspicious_20 : decode cX1_suspicious 20 = .ok (.ifCond .eq 9, 3) := by decide +kernel
theorem dX1_suspicious_23 : decode cX1_suspicious 23 = .ok (.iload_n 1, 1) := by decide +kernel
theorem dX1_suspicious_24 : decode cX1_suspicious 24 = .ok (.iconst 1, 1) := by decide +kernel
theorem dX1_suspicious_25 : decode cX1_suspicious 25 = .ok (.iload_n 2, 1) := by decide +kernel
theorem dX1_suspicious_26 : decode cX1_suspicious 26 = .ok (.ishl, 1) := by decide +kernel
theorem dX1_suspicious_27 : decode cX1_suspicious 27 = .ok (.ior, 1) := by decide +kernel
theorem dX1_suspicious_28 : decode cX1_suspicious 28 = .ok (.istore_n 1, 1) := by decide +kernel
theorem dX1_suspicious_29 : decode cX1_suspicious 29 = .ok (.iinc 2 1, 3) := by decide +kernel
theorem dX1_suspicious_32 : decode cX1_suspicious 32 = .ok (.goto (-28), 3) := by decide +kernel
theorem dX1_suspicious_35 : decode cX1_suspicious 35 = .ok (.iload_n 1, 1) := by decide +kernel
theorem dX1_suspicious_36 : decode cX1_suspicious 36 = .ok (.ireturn, 1) := by decide +kernel
theorem dX1_agreesWith_0 : decode cX1_agreesWith 0 = .ok (.aload_n 0, 1) := by decide +kernel
theorem dX1_agreesWith_1 : decode cX1_agreesWith 1 = .ok (.getfield 9, 3) := by decide +kernel
theorem dX1_agreesWith_4 : decode cX1_agreesWith 4 = .ok (.aload_n 0, 1) := by decide +kernel
theorem dX1_agreesWith_5 : decode cX1_agreesWith 5 = .ok (.getfield 19, 3) := by decide +kernel
theorem dX1_agreesWith_8 : decode cX1_agreesWith 8 = .ok (.getfield 76, 3) := by decide +kernel
theorem dX1_agreesWith_11 : decode cX1_agreesWith 11 = .ok (.iload_n 1, 1) := by decide +kernel
theorem dX1_agreesWith_12 : decode cX1_agreesWith 12 = .ok (.iaload, 1) := by decide +kernel
theorem dX1_agreesWith_13 : decode cX1_agreesWith 13 = .ok (.laload, 1) := by decide +kernel
theorem dX1_agreesWith_14 : decode cX1_agreesWith 14 = .ok (.lstore_n 2, 1) := by decide +kernel
theorem dX1_agreesWith_15 : decode cX1_agreesWith 15 = .ok (.aload_n 0, 1) := by decide +kernel
theorem dX1_agreesWith_16 : decode cX1_agreesWith 16 = .ok (.getfield 19, 3) := by decide +kernel
theorem dX1_agreesWith_19 : decode cX1_agreesWith 19 = .ok (.getfield 79, 3) := by decide +kernel
theorem dX1_agreesWith_22 : decode cX1_agreesWith 22 = .ok (.iload_n 1, 1) := by decide +kernel
theorem dX1_agreesWith_23 : decode cX1_agreesWith 23 = .ok (.iaload, 1) := by decide +kernel
theorem dX1_agreesWith_24 : decode cX1_agreesWith 24 = .ok (.istore 4, 2) := by decide +kernel
theorem dX1_agreesWith_26 : decode cX1_agreesWith 26 = .ok (.aload_n 0, 1) := by decide +kernel
theorem dX1_agreesWith_27 : decode cX1_agreesWith 27 = .ok (.getfield 19, 3) := by decide +kernel
theorem dX1_agreesWith_30 : decode cX1_agreesWith 30 = .ok (.getfield 82, 3) := by decide +kernel
theorem dX1_agreesWith_33 : decode cX1_agreesWith 33 = .ok (.iload_n 1, 1) := by decide +kernel
theorem dX1_agreesWith_34 : decode cX1_agreesWith 34 = .ok (.iaload, 1) := by decide +kernel
theorem dX1_agreesWith_35 : decode cX1_agreesWith 35 = .ok (.iconst 1, 1) := by decide +kernel
theorem dX1_agreesWith_36 : decode cX1_agreesWith 36 = .ok (.if_icmp .ne 20, 3) := by decide +kernel
theorem dX1_agreesWith_39 : decode cX1_agreesWith 39 = .ok (.lload_n 2, 1) := by decide +kernel
theorem dX1_agreesWith_40 : decode cX1_agreesWith 40 = .ok (.iload 4, 2) := by decide +kernel
theorem dX1_agreesWith_42 : decode cX1_agreesWith 42 = .ok (.lushr, 1) := by decide +kernel
theorem dX1_agreesWith_43 : decode cX1_agreesWith 43 = .ok (.lconst 1, 1) := by decide +kernel
theorem dX1_agreesWith_44 : decode cX1_agreesWith 44 = .ok (.land, 1) := by decide +kernel
theorem dX1_agreesWith_45 : decode cX1_agreesWith 45 = .ok (.lconst 1, 1) := by decide +kernel
theorem dX1_agreesWith_46 : decode cX1_agreesWith 46 = .ok (.lcmp, 1) := by decide +kernel
theorem dX1_agreesWith_47 : decode cX1_agreesWith 47 = .ok (.ifCond .ne 7, 3) := by decide +kernel
theorem dX1_agreesWith_50 : decode cX1_agreesWith 50 = .ok (.iconst 1, 1) := by decide +kernel
theorem dX1_agreesWith_51 : decode cX1_agreesWith 51 = .ok (.goto 4, 3) := by decide +kernel
theorem dX1_agreesWith_54 : decode cX1_agreesWith 54 = .ok (.iconst 0, 1) := by decide +kernel
theorem dX1_agreesWith_55 : decode cX1_agreesWith 55 = .ok (.ireturn, 1) := by decide +kernel
theorem dX1_agreesWith_56 : decode cX1_agreesWith 56 = .ok (.lload_n 2, 1) := by decide +kernel
theorem dX1_agreesWith_57 : decode cX1_agreesWith 57 = .ok (.lconst 0, 1) := by decide +kernel
theorem dX1_agreesWith_58 : decode cX1_agreesWith 58 = .ok (.lcmp, 1) := by decide +kernel
theorem dX1_agreesWith_59 : decode cX1_agreesWith 59 = .ok (.ifCond .eq 14, 3) := by decide +kernel
theorem dX1_agreesWith_62 : decode cX1_agreesWith 62 = .ok (.lload_n 2, 1) := by decide +kernel
theorem dX1_agreesWith_63 : decode cX1_agreesWith 63 = .ok (.iload 4, 2) := by decide +kernel
theorem dX1_agreesWith_65 : decode cX1_agreesWith 65 = .ok (.iconst 1, 1) := by decide +kernel
theorem dX1_agreesWith_66 : decode cX1_agreesWith 66 = .ok (.iadd, 1) := by decide +kernel
theorem dX1_agreesWith_67 : decode cX1_agreesWith 67 = .ok (.lushr, 1) := by decide +kernel
theorem dX1_agreesWith_68 : decode cX1_agreesWith 68 = .ok (.lconst 0, 1) := by decide +kernel
theorem dX1_agreesWith_69 : decode cX1_agreesWith 69 = .ok (.lcmp, 1) := by decide +kernel
theorem dX1_agreesWith_70 : decode cX1_agreesWith 70 = .ok (.ifCond .eq 7, 3) := by decide +kernel
theorem dX1_agreesWith_73 : decode cX1_agreesWith 73 = .ok (.iconst 1, 1) := by decide +kernel
theorem dX1_agreesWith_74 : decode cX1_agreesWith 74 = .ok (.goto 4, 3) := by decide +kernel
theorem dX1_agreesWith_77 : decode cX1_agreesWith 77 = .ok (.iconst 0, 1) := by decide +kernel
theorem dX1_agreesWith_78 : decode cX1_agreesWith 78 = .ok (.ireturn, 1) := by decide +kernel
theorem dX2_init_0 : decode cX2_init 0 = .ok (.aload_n 0, 1) := by decide +kernel
theorem dX2_init_1 : decode cX2_init 1 = .ok (.invokespecial 3, 3) := by decide +kernel
theorem dX2_init_4 : decode cX2_init 4 = .ok (.aload_n 0, 1) := by decide +kernel
theorem dX2_init_5 : decode cX2_init 5 = .ok (.bipush 40, 2) := by decide +kernel
theorem dX2_init_7 : decode cX2_init 7 = .ok (.newarray .int, 2) := by decide +kernel
theorem dX2_init_9 : decode cX2_init 9 = .ok (.putfield 9, 3) := by decide +kernel
theorem dX2_init_12 : decode cX2_init 12 = .ok (.aload_n 0, 1) := by decide +kernel
theorem dX2_init_13 : decode cX2_init 13 = .ok (.sipush 160, 3) := by decide +kernel
theorem dX2_init_16 : decode cX2_init 16 = .ok (.newarray .int, 2) := by decide +kernel
theorem dX2_init_18 : decode cX2_init 18 = .ok (.putfield 15, 3) := by decide +kernel
theorem dX2_init_21 : decode cX2_init 21 = .ok (.return_, 1) := by decide +kernel
set_option maxRecDepth 20000 in
theorem ggX2_parse_X2_takes : GoodIn wsX2_parse wsX2_takes := goodIn_r _ [7, 8, 2, 9, 10, 11, 6, 12, 1, 13, 14, 15, 16, 17, 18, 19, 20, 21, 22, 23, 24, 25, 26, 27, 28, 29, 30, 31, 32, 33, 34, 35] (by decide +kernel) (by decide +kernel)
set_option maxRecDepth 20000 in
theorem gX2_parse_X2_takes : GoodIn wsX2_parse (wsV RX2 26 RX2 yX2_takes wsX2_takes) := goodIn_app (goodIn_of _ (by decide +kernel)) ggX2_parse_X2_takes
theorem dX2_parse_0 : decode cX2_parse 0 = .ok (.aload_n 0, 1) := by decide +kernel
theorem dX2_parse_1 : decode cX2_parse 1 = .ok (.iconst 0, 1) := by decide +kernel
theorem dX2_parse_2 : decode cX2_parse 2 = .ok (.putfield 18, 3) := by decide +kernel
theorem dX2_parse_5 : decode cX2_parse 5 = .ok (.aload_n 0, 1) := by decide +kernel
theorem dX2_parse_6 : decode cX2_parse 6 = .ok (.iconst 0, 1) := by decide +kernel
theorem dX2_parse_7 : decode cX2_parse 7 = .ok (.putfield 22, 3) := by decide +kernel
theorem dX2_parse_10 : decode cX2_parse 10 = .ok (.iconst 0, 1) := by decide +kernel
theorem dX2_parse_11 : decode cX2_parse 11 = .ok (.istore_n 3, 1) := by decide +kernel
theorem dX2_parse_12 : decode cX2_parse 12 = .ok (.iload_n 3, 1) := by decide +kernel
theorem dX2_parse_13 : decode cX2_parse 13 = .ok (.iload_n 2, 1) := by decide +kernel
theorem dX2_parse_14 : decode cX2_parse 14 = .ok (.if_icmp .ge 21, 3) := by decide +kernel
theorem dX2_parse_17 : decode cX2_parse 17 = .ok (.aload_n 0, 1) := by decide +kernel
theorem dX2_parse_18 : decode cX2_parse 18 = .ok (.aload_n 1, 1) := by decide +kernel
theorem dX2_parse_19 : decode cX2_parse 19 = .ok (.iload_n 3, 1) := by decide +kernel
theorem dX2_parse_20 : decode cX2_parse 20 = .ok (.baload, 1) := by decide +kernel
theorem dX2_parse_21 : decode cX2_parse 21 = .ok (.invokevirtual 26, 3) := by decide +kernel
theorem dX2_parse_24 : decode cX2_parse 24 = .ok (.ifCond .ne 5, 3) := by decide +kernel
theorem dX2_parse_27 : decode cX2_parse 27 = .ok (.iload_n 3, 1) := by decide +kernel
theorem dX2_parse_28 : decode cX2_parse 28 = .ok (.ireturn, 1) := by decide +kernel
theorem dX2_parse_29 : decode cX2_parse 29 = .ok (.iinc 3 1, 3) := by decide +kernel
theorem dX2_parse_32 : decode cX2_parse 32 = .ok (.goto (-20), 3) := by decide +kernel
theorem dX2_parse_35 : decode cX2_parse 35 = .ok (.aload_n 0, 1) := by decide +kernel
theorem dX2_parse_36 : decode cX2_parse 36 = .ok (.getfield 22, 3) := by decide +kernel
theorem dX2_parse_39 : decode cX2_parse 39 = .ok (.ifCond .ne 10, 3) := by decide +kernel
theorem dX2_parse_42 : decode cX2_parse 42 = .ok (.aload_n 0, 1) := by decide +kernel
theorem dX2_parse_43 : decode cX2_parse 43 = .ok (.getfield 18, 3) := by decide +kernel
theorem dX2_parse_46 : decode cX2_parse 46 = .ok (.ifCond .ne 7, 3) := by decide +kernel
theorem dX2_parse_49 : decode cX2_parse 49 = .ok (.iload_n 2, 1) := by decide +kernel
theorem dX2_parse_50 : decode cX2_parse 50 = .ok (.goto 4, 3) := by decide +kernel
theorem dX2_parse_53 : decode cX2_parse 53 = .ok (.iconst (-1), 1) := by decide +kernel
theorem dX2_parse_54 : decode cX2_parse 54 = .ok (.ireturn, 1) := by decide +kernel
set_option maxRecDepth 20000 in
theorem ggX2_obey_X0_addShaft : GoodIn wsX2_obey wsX0_addShaft := goodIn_r _ [7, 8, 9, 10, 11, 12, 6, 13, 14, 15, 16, 17, 18, 19, 20, 21, 22, 23, 24, 25, 26, 27, 28, 29, 30, 31, 32, 33, 34, 35, 36, 37, 38, 39, 40, 41, 42, 43, 80, 81, 82, 83, 84, 85, 86, 87, 88, 89, 90, 91, 92, 93] (by decide +kernel) (by decide +kernel)
set_option maxRecDepth 20000 in
theorem gX2_obey_X0_addShaft : GoodIn wsX2_obey (wsV RX2 30 RX0 yX0_addShaft wsX0_addShaft) := goodIn_app (goodIn_of _ (by decide +kernel)) ggX2_obey_X0_addShaft
set_option maxRecDepth 20000 in
theorem ggX2_obey_X0_addPipe : GoodIn wsX2_obey wsX0_addPipe := goodIn_r _ [47, 29, 30, 31, 48, 49, 50, 51, 52, 6, 53, 8, 14, 15, 16, 54, 55, 56, 57, 28, 20, 21, 22, 23, 24, 25, 26, 27, 32, 33, 34, 35, 36, 37, 38, 39, 40, 41, 42, 43, 80, 81, 82, 83, 84, 85, 86, 87, 88, 89, 90, 91, 92, 93] (by decide +kernel) (by decide +kernel)
set_option maxRecDepth 20000 in
theorem gX2_obey_X0_addPipe : GoodIn wsX2_obey (wsV RX2 36 RX0 yX0_addPipe wsX0_addPipe) := goodIn_app (goodIn_of _ (by decide +kernel)) ggX2_obey_X0_addPipe
set_option maxRecDepth 20000 in
theorem ggX2_obey_X0_addSight : GoodIn wsX2_obey wsX0_addSight := goodIn_r _ [61, 62, 63, 64, 65, 14, 15, 16, 50, 51, 52, 6, 53, 8, 80, 81, 82, 83, 84, 85, 86, 87, 88, 89, 90, 91, 92, 93] (by decide +kernel) (by decide +kernel)
set_option maxRecDepth 20000 in
theorem gX2_obey_X0_addSight : GoodIn wsX2_obey (wsV RX2 40 RX0 yX0_addSight wsX0_addSight) := goodIn_app (goodIn_of _ (by decide +kernel)) ggX2_obey_X0_addSight
set_option maxRecDepth 20000 in
theorem ggX2_obey_X0_dropPipe : GoodIn wsX2_obey wsX0_dropPipe := goodIn_r _ [69, 29, 30, 31, 48, 49, 70, 71, 72, 6, 73, 14, 15, 16, 20, 21, 22, 23, 24, 25, 26, 27, 8, 28, 32, 33, 34, 35, 36, 37, 38, 39, 40, 41, 42, 43, 80, 81, 82, 83, 84, 85, 86, 87, 88, 89, 90, 91, 92, 93] (by decide +kernel) (by decide +kernel)
set_option maxRecDepth 20000 in
theorem gX2_obey_X0_dropPipe : GoodIn wsX2_obey (wsV RX2 44 RX0 yX0_dropPipe wsX0_dropPipe) := goodIn_app (goodIn_of _ (by decide +kernel)) ggX2_obey_X0_dropPipe
theorem dX2_obey_0 : decode cX2_obey 0 = .ok (.iload_n 1, 1) := by decide +kernel
theorem dX2_obey_1 : decode cX2_obey 1 = .ok (.iconst 4, 1) := by decide +kernel
theorem dX2_obey_2 : decode cX2_obey 2 = .ok (.imul, 1) := by decide +kernel
theorem dX2_obey_3 : decode cX2_obey 3 = .ok (.istore_n 3, 1) := by decide +kernel
theorem dX2_obey_4 : decode cX2_obey 4 = .ok (.aload_n 0, 1) := by decide +kernel
theorem dX2_obey_5 : decode cX2_obey 5 = .ok (.getfield 15, 3) := by decide +kernel
theorem dX2_obey_8 : decode cX2_obey 8 = .ok (.iload_n 3, 1) := by decide +kernel
theorem dX2_obey_9 : decode cX2_obey 9 = .ok (.iaload, 1) := by decide +kernel
theorem dX2_obey_10 : decode cX2_obey 10 = .ok (.istore 4, 2) := by decide +kernel
theorem dX2_obey_12 : decode cX2_obey 12 = .ok (.aload_n 0, 1) := by decide +kernel
theorem dX2_obey_13 : decode cX2_obey 13 = .ok (.getfield 15, 3) := by decide +kernel
theorem dX2_obey_16 : decode cX2_obey 16 = .ok (.iload_n 3, 1) := by decide +kernel
theorem dX2_obey_17 : decode cX2_obey 17 = .ok (.iconst 1, 1) := by decide +kernel
theorem dX2_obey_18 : decode cX2_obey 18 = .ok (.iadd, 1) := by decide +kernel
theorem dX2_obey_19 : decode cX2_obey 19 = .ok (.iaload, 1) := by decide +kernel
theorem dX2_obey_20 : decode cX2_obey 20 = .ok (.istore 5, 2) := by decide +kernel
theorem dX2_obey_22 : decode cX2_obey 22 = .ok (.aload_n 0, 1) := by decide +kernel
theorem dX2_obey_23 : decode cX2_obey 23 = .ok (.getfield 9, 3) := by decide +kernel
theorem dX2_obey_26 : decode cX2_obey 26 = .ok (.iload_n 1, 1) := by decide +kernel
theorem dX2_obey_27 : decode cX2_obey 27 = .ok (.iaload, 1) := by decide +kernel
theorem dX2_obey_28 : decode cX2_obey 28 = .ok (.lookupswitch 113 #[(99, 96), (101, 86), (112, 61), (115, 52), (120, 106)], 52) := by decide +kernel
theorem dX2_obey_80 : decode cX2_obey 80 = .ok (.aload_n 2, 1) := by decide +kernel
theorem dX2_obey_81 : decode cX2_obey 81 = .ok (.iload 4, 2) := by decide +kernel
theorem dX2_obey_83 : decode cX2_obey 83 = .ok (.iload 5, 2) := by decide +kernel
theorem dX2_obey_85 : decode cX2_obey 85 = .ok (.invokevirtual 30, 3) := by decide +kernel
theorem dX2_obey_88 : decode cX2_obey 88 = .ok (.ireturn, 1) := by decide +kernel
theorem dX2_obey_89 : decode cX2_obey 89 = .ok (.aload_n 2, 1) := by decide +kernel
theorem dX2_obey_90 : decode cX2_obey 90 = .ok (.iload 4, 2) := by decide +kernel
theorem dX2_obey_92 : decode cX2_obey 92 = .ok (.iload 5, 2) := by decide +kernel
theorem dX2_obey_94 : decode cX2_obey 94 = .ok (.aload_n 0, 1) := by decide +kernel
theorem dX2_obey_95 : decode cX2_obey 95 = .ok (.getfield 15, 3) := by decide +kernel
theorem dX2_obey_98 : decode cX2_obey 98 = .ok (.iload_n 3, 1) := by decide +kernel
theorem dX2_obey_99 : decode cX2_obey 99 = .ok (.iconst 2, 1) := by decide +kernel
theorem dX2_obey_100 : decode cX2_obey 100 = .ok (.iadd, 1) := by decide +kernel
theorem dX2_obey_101 : decode cX2_obey 101 = .ok (.iaload, 1) := by decide +kernel
theorem dX2_obey_102 : decode cX2_obey 102 = .ok (.aload_n 0, 1) := by decide +kernel
theorem dX2_obey_103 : decode cX2_obey 103 = .ok (.getfield 15, 3) := by decide +kernel
theorem dX2_obey_106 : decode cX2_obey 106 = .ok (.iload_n 3, 1) := by decide +kernel
theorem dX2_obey_107 : decode cX2_obey 107 = .ok (.iconst 3, 1) := by decide +kernel
theorem dX2_obey_108 : decode cX2_obey 108 = .ok (.iadd, 1) := by decide +kernel
theorem dX2_obey_109 : decode cX2_obey 109 = .ok (.iaload, 1) := by decide +kernel
theorem dX2_obey_110 : decode cX2_obey 110 = .ok (.invokevirtual 36, 3) := by decide +kernel
theorem dX2_obey_113 : decode cX2_obey 113 = .ok (.ireturn, 1) := by decide +kernel
theorem dX2_obey_114 : decode cX2_obey 114 = .ok (.aload_n 2, 1) := by decide +kernel
theorem dX2_obey_115 : decode cX2_obey 115 = .ok (.iconst 1, 1) := by decide +kernel
theorem dX2_obey_116 : decode cX2_obey 116 = .ok (.iload 4, 2) := by decide +kernel
theorem dX2_obey_118 : decode cX2_obey 118 = .ok (.iload 5, 2) := by decide +kernel
theorem dX2_obey_120 : decode cX2_obey 120 = .ok (.invokevirtual 40, 3) := by decide +kernel
theorem dX2_obey_123 : decode cX2_obey 123 = .ok (.ireturn, 1) := by decide +kernel
theorem dX2_obey_124 : decode cX2_obey 124 = .ok (.aload_n 2, 1) := by decide +kernel
theorem dX2_obey_125 : decode cX2_obey 125 = .ok (.iconst 0, 1) := by decide +kernel
theorem dX2_obey_126 : decode cX2_obey 126 = .ok (.iload 4, 2) := by decide +kernel
theorem dX2_obey_128 : decode cX2_obey 128 = .ok (.iload 5, 2) := by decide +kernel
theorem dX2_obey_130 : decode cX2_obey 130 = .ok (.invokevirtual 40, 3) := by decide +kernel
theorem dX2_obey_133 : decode cX2_obey 133 = .ok (.ireturn, 1) := by decide +kernel
theorem dX2_obey_134 : decode cX2_obey 134 = .ok (.aload_n 2, 1) := by decide +kernel
theorem dX2_obey_135 : decode cX2_obey 135 = .ok (.iload 4, 2) := by decide +kernel
theorem dX2_obey_137 : decode cX2_obey 137 = .ok (.invokevirtual 44, 3) := by decide +kernel
theorem dX2_obey_140 : decode cX2_obey 140 = .ok (.ireturn, 1) := by decide +kernel
theorem dX2_obey_141 : decode cX2_obey 141 = .ok (.bipush (-2), 2) := by decide +kernel
theorem dX2_obey_143 : decode cX2_obey 143 = .ok (.ireturn, 1) := by decide +kernel
set_option maxRecDepth 20000 in
theorem ggX2_takes_X2_opens : GoodIn wsX2_takes wsX2_opens := goodIn_r _ [7, 8, 9, 2, 10, 1, 11, 12, 6, 13, 26, 27, 28, 29, 30, 31] (by decide +kernel) (by decide +kernel)
set_option maxRecDepth 20000 in
theorem gX2_takes_X2_opens : GoodIn wsX2_takes (wsV RX2 51 RX2 yX2_opens wsX2_opens) := goodIn_app (goodIn_of _ (by decide +kernel)) ggX2_takes_X2_opens
set_option maxRecDepth 20000 in
theorem ggX2_takes_X2_closes : GoodIn wsX2_takes wsX2_closes := goodIn_r _ [17, 10, 9, 8, 2, 11, 12, 6, 13, 26, 27, 28, 29, 30, 31] (by decide +kernel) (by decide +kernel)
set_option maxRecDepth 20000 in
theorem gX2_takes_X2_closes : GoodIn wsX2_takes (wsV RX2 54 RX2 yX2_closes wsX2_closes) := goodIn_app (goodIn_of _ (by decide +kernel)) ggX2_takes_X2_closes
set_option maxRecDepth 20000 in
theorem ggX2_takes_X5_within : GoodIn wsX2_takes wsX5_within := goodIn_r _ [20] (by decide +kernel) (by decide +kernel)
set_option maxRecDepth 20000 in
theorem gX2_takes_X5_within_n58 : GoodIn wsX2_takes (wsX5_within) := ggX2_takes_X5_within
set_option maxRecDepth 20000 in
theorem ggX2_takes_X2_takesFigure : GoodIn wsX2_takes wsX2_takesFigure := goodIn_r _ [24, 1, 10, 9, 8, 25, 11, 12, 6, 13, 26, 27, 28, 29, 30, 31] (by decide +kernel) (by decide +kernel)
set_option maxRecDepth 20000 in
theorem gX2_takes_X2_takesFigure : GoodIn wsX2_takes (wsV RX2 62 RX2 yX2_takesFigure wsX2_takesFigure) := goodIn_app (goodIn_of _ (by decide +kernel)) ggX2_takes_X2_takesFigure
theorem dX2_takes_0 : decode cX2_takes 0 = .ok (.iload_n 1, 1) := by decide +kernel
theorem dX2_takes_1 : decode cX2_takes 1 = .ok (.bipush 32, 2) := by decide +kernel
theorem dX2_takes_3 : decode cX2_takes 3 = .ok (.if_icmp .ne 10, 3) := by decide +kernel
theorem dX2_takes_6 : decode cX2_takes 6 = .ok (.aload_n 0, 1) := by decide +kernel
theorem dX2_takes_7 : decode cX2_takes 7 = .ok (.iconst 0, 1) := by decide +kernel
theorem dX2_takes_8 : decode cX2_takes 8 = .ok (.putfield 48, 3) := by decide +kernel
theorem dX2_takes_11 : decode cX2_takes 11 = .ok (.iconst 1, 1) := by decide +kernel
theorem dX2_takes_12 : decode cX2_takes 12 = .ok (.ireturn, 1) := by decide +kernel
theorem dX2_takes_13 : decode cX2_takes 13 = .ok (.aload_n 0, 1) := by decide +kernel
theorem dX2_takes_14 : decode cX2_takes 14 = .ok (.getfield 22, 3) := by decide +kernel
theorem dX2_takes_17 : decode cX2_takes 17 = .ok (.ifCond .ne 9, 3) := by decide +kernel
theorem dX2_takes_20 : decode cX2_takes 20 = .ok (.aload_n 0, 1) := by decide +kernel
theorem dX2_takes_21 : decode cX2_takes 21 = .ok (.iload_n 1, 1) := by decide +kernel
theorem dX2_takes_22 : decode cX2_takes 22 = .ok (.invokevirtual 51, 3) := by decide +kernel
theorem dX2_takes_25 : decode cX2_takes 25 = .ok (.ireturn, 1) := by decide +kernel
theorem dX2_takes_26 : decode cX2_takes 26 = .ok (.iload_n 1, 1) := by decide +kernel
theorem dX2_takes_27 : decode cX2_takes 27 = .ok (.bipush 59, 2) := by decide +kernel
theorem dX2_takes_29 : decode cX2_takes 29 = .ok (.if_icmp .ne 8, 3) := by decide +kernel
theorem dX2_takes_32 : decode cX2_takes 32 = .ok (.aload_n 0, 1) := by decide +kernel
theorem dX2_takes_33 : decode cX2_takes 33 = .ok (.invokevirtual 54, 3) := by decide +kernel
theorem dX2_takes_36 : decode cX2_takes 36 = .ok (.ireturn, 1) := by decide +kernel
theorem dX2_takes_37 : decode cX2_takes 37 = .ok (.iload_n 1, 1) := by decide +kernel
theorem dX2_takes_38 : decode cX2_takes 38 = .ok (.bipush 48, 2) := by decide +kernel
theorem dX2_takes_40 : decode cX2_takes 40 = .ok (.bipush 57, 2) := by decide +kernel
theorem dX2_takes_42 : decode cX2_takes 42 = .ok (.invokestatic 58, 3) := by decide +kernel
theorem dX2_takes_45 : decode cX2_takes 45 = .ok (.ifCond .eq 18, 3) := by decide +kernel
theorem dX2_takes_48 : decode cX2_takes 48 = .ok (.aload_n 0, 1) := by decide +kernel
theorem dX2_takes_49 : decode cX2_takes 49 = .ok (.iload_n 1, 1) := by decide +kernel
theorem dX2_takes_50 : decode cX2_takes 50 = .ok (.bipush 48, 2) := by decide +kernel
theorem dX2_takes_52 : decode cX2_takes 52 = .ok (.isub, 1) := by decide +kernel
theorem dX2_takes_53 : decode cX2_takes 53 = .ok (.invokevirtual 62, 3) := by decide +kernel
theorem dX2_takes_56 : decode cX2_takes 56 = .ok (.ifCond .eq 7, 3) := by decide +kernel
theorem dX2_takes_59 : decode cX2_takes 59 = .ok (.iconst 1, 1) := by decide +kernel
theorem dX2_takes_60 : decode cX2_takes 60 = .ok (.goto 4, 3) := by decide +kernel
theorem dX2_takes_63 : decode cX2_takes 63 = .ok (.iconst 0, 1) := by decide +kernel
theorem dX2_takes_64 : decode cX2_takes 64 = .ok (.ireturn, 1) := by decide +kernel
set_option maxRecDepth 20000 in
theorem ggX2_opens_X2_numbersOf : GoodIn wsX2_opens wsX2_numbersOf := goodIn_r _ [9] (by decide +kernel) (by decide +kernel)
set_option maxRecDepth 20000 in
theorem gX2_opens_X2_numbersOf : GoodIn wsX2_opens (va_wsS RX2 65 yX2_numbersOf wsX2_numbersOf) := goodIn_app (goodIn_of _ (by decide +kernel)) ggX2_opens_X2_numbersOf
theorem dX2_opens_0 : decode cX2_opens 0 = .ok (.iload_n 1, 1) := by decide +kernel
theorem dX2_opens_1 : decode cX2_opens 1 = .ok (.invokestatic 65, 3) := by decide +kernel
theorem dX2_opens_4 : decode cX2_opens 4 = .ok (.ifCond .eq 12, 3) := by decide +kernel
theorem dX2_opens_7 : decode cX2_opens 7 = .ok (.aload_n 0, 1) := by decide +kernel
theorem dX2_opens_8 : decode cX2_opens 8 = .ok (.getfield 18, 3) := by decide +kernel
theorem dX2_opens_11 : decode cX2_opens 11 = .ok (.bipush 40, 2) := by decide +kernel
theorem dX2_opens_13 : decode cX2_opens 13 = .ok (.if_icmp .lt 5, 3) := by decide +kernel
theorem dX2_opens_16 : decode cX2_opens 16 = .ok (.iconst 0, 1) := by decide +kernel
theorem dX2_opens_17 : decode cX2_opens 17 = .ok (.ireturn, 1) := by decide +kernel
theorem dX2_opens_18 : decode cX2_opens 18 = .ok (.aload_n 0, 1) := by decide +kernel
theorem dX2_opens_19 : decode cX2_opens 19 = .ok (.getfield 9, 3) := by decide +kernel
theorem dX2_opens_22 : decode cX2_opens 22 = .ok (.aload_n 0, 1) := by decide +kernel
theorem dX2_opens_23 : decode cX2_opens 23 = .ok (.getfield 18, 3) := by decide +kernel
theorem dX2_opens_26 : decode cX2_opens 26 = .ok (.iload_n 1, 1) := by decide +kernel
theorem dX2_opens_27 : decode cX2_opens 27 = .ok (.iastore, 1) := by decide +kernel
theorem dX2_opens_28 : decode cX2_opens 28 = .ok (.aload_n 0, 1) := by decide +kernel
theorem dX2_opens_29 : decode cX2_opens 29 = .ok (.iconst 1, 1) := by decide +kernel
theorem dX2_opens_30 : decode cX2_opens 30 = .ok (.putfield 22, 3) := by decide +kernel
theorem dX2_opens_33 : decode cX2_opens 33 = .ok (.aload_n 0, 1) := by decide +kernel
theorem dX2_opens_34 : decode cX2_opens 34 = .ok (.iconst 0, 1) := by decide +kernel
theorem dX2_opens_35 : decode cX2_opens 35 = .ok (.putfield 68, 3) := by decide +kernel
theorem dX2_opens_38 : decode cX2_opens 38 = .ok (.aload_n 0, 1) := by decide +kernel
theorem dX2_opens_39 : decode cX2_opens 39 = .ok (.iconst 0, 1) := by decide +kernel
theorem dX2_opens_40 : decode cX2_opens 40 = .ok (.putfield 48, 3) := by decide +kernel
theorem dX2_opens_43 : decode cX2_opens 43 = .ok (.iconst 1, 1) := by decide +kernel
theorem dX2_opens_44 : decode cX2_opens 44 = .ok (.ireturn, 1) := by decide +kernel
set_option maxRecDepth 20000 in
theorem ggX2_closes_X2_numbersOf : GoodIn wsX2_closes wsX2_numbersOf := goodIn_r _ [8] (by decide +kernel) (by decide +kernel)
set_option maxRecDepth 20000 in
theorem gX2_closes_X2_numbersOf : GoodIn wsX2_closes (va_wsS RX2 65 yX2_numbersOf wsX2_numbersOf) := goodIn_app (goodIn_of _ (by decide +kernel)) ggX2_closes_X2_numbersOf
theorem dX2_closes_0 : decode cX2_closes 0 = .ok (.aload_n 0, 1) := by decide +kernel
theorem dX2_closes_1 : decode cX2_closes 1 = .ok (.getfield 68, 3) := by decide +kernel
theorem dX2_closes_4 : decode cX2_closes 4 = .ok (.aload_n 0, 1) := by decide +kernel
theorem dX2_closes_5 : decode cX2_closes 5 = .ok (.getfield 9, 3) := by decide +kernel
theorem dX2_closes_8 : decode cX2_closes 8 = .ok (.aload_n 0, 1) := by decide +kernel
theorem dX2_closes_9 : decode cX2_closes 9 = .ok (.getfield 18, 3) := by decide +kernel
theorem dX2_closes_12 : decode cX2_closes 12 = .ok (.iaload, 1) := by decide +kernel
theorem dX2_closes_13 : decode cX2_closes 13 = .ok (.invokestatic 65, 3) := by decide +kernel
theorem dX2_closes_16 : decode cX2_closes 16 = .ok (.if_icmp .ge 5, 3) := by decide +kernel
theorem dX2_closes_19 : decode cX2_closes 19 = .ok (.iconst 0, 1) := by decide +kernel
theorem dX2_closes_20 : decode cX2_closes 20 = .ok (.ireturn, 1) := by decide +kernel
theorem dX2_closes_21 : decode cX2_closes 21 = .ok (.aload_n 0, 1) := by decide +kernel
theorem dX2_closes_22 : decode cX2_closes 22 = .ok (.iconst 0, 1) := by decide +kernel
theorem dX2_closes_23 : decode cX2_closes 23 = .ok (.putfield 22, 3) := by decide +kernel
theorem dX2_closes_26 : decode cX2_closes 26 = .ok (.aload_n 0, 1) := by decide +kernel
theorem dX2_closes_27 : decode cX2_closes 27 = .ok (.dup, 1) := by decide +kernel
theorem dX2_closes_28 : decode cX2_closes 28 = .ok (.getfield 18, 3) := by decide +kernel
theorem dX2_closes_31 : decode cX2_closes 31 = .ok (.iconst 1, 1) := by decide +kernel
theorem dX2_closes_32 : decode cX2_closes 32 = .ok (.iadd, 1) := by decide +kernel
theorem dX2_closes_33 : decode cX2_closes 33 = .ok (.putfield 18, 3) := by decide +kernel
theorem dX2_closes_36 : decode cX2_closes 36 = .ok (.iconst 1, 1) := by decide +kernel
theorem dX2_closes_37 : decode cX2_closes 37 = .ok (.ireturn, 1) := by decide +kernel
set_option maxRecDepth 20000 in
theorem ggX2_takesFigure_X2_numbersOf : GoodIn wsX2_takesFigure wsX2_numbersOf := goodIn_r _ [9] (by decide +kernel) (by decide +kernel)
set_option maxRecDepth 20000 in
theorem gX2_takesFigure_X2_numbersOf : GoodIn wsX2_takesFigure (va_wsS RX2 65 yX2_numbersOf wsX2_numbersOf) := goodIn_app (goodIn_of _ (by decide +kernel)) ggX2_takesFigure_X2_numbersOf
theorem dX2_takesFigure_0 : decode cX2_takesFigure 0 = .ok (.aload_n 0, 1) := by decide +kernel
theorem dX2_takesFigure_1 : decode cX2_takesFigure 1 = .ok (.getfield 48, 3) := by decide +kernel
theorem dX2_takesFigure_4 : decode cX2_takesFigure 4 = .ok (.iconst 2, 1) := by decide +kernel
theorem dX2_takesFigure_5 : decode cX2_takesFigure 5 = .ok (.if_icmp .lt 5, 3) := by decide +kernel
theorem dX2_takesFigure_8 : decode cX2_takesFigure 8 = .ok (.iconst 0, 1) := by decide +kernel
theorem dX2_takesFigure_9 : decode cX2_takesFigure 9 = .ok (.ireturn, 1) := by decide +kernel
theorem dX2_takesFigure_10 : decode cX2_takesFigure 10 = .ok (.aload_n 0, 1) := by decide +kernel
theorem dX2_takesFigure_11 : decode cX2_takesFigure 11 = .ok (.getfield 48, 3) := by decide +kernel
theorem dX2_takesFigure_14 : decode cX2_takesFigure 14 = .ok (.ifCond .ne 51, 3) := by decide +kernel
theorem dX2_takesFigure_17 : decode cX2_takesFigure 17 = .ok (.aload_n 0, 1) := by decide +kernel
theorem dX2_takesFigure_18 : decode cX2_takesFigure 18 = .ok (.getfield 68, 3) := by decide +kernel
theorem dX2_takesFigure_21 : decode cX2_takesFigure 21 = .ok (.aload_n 0, 1) := by decide +kernel
theorem dX2_takesFigure_22 : decode cX2_takesFigure 22 = .ok (.getfield 9, 3) := by decide +kernel
theorem dX2_takesFigure_25 : decode cX2_takesFigure 25 = .ok (.aload_n 0, 1) := by decide +kernel
theorem dX2_takesFigure_26 : decode cX2_takesFigure 26 = .ok (.getfield 18, 3) := by decide +kernel
theorem dX2_takesFigure_29 : decode cX2_takesFigure 29 = .ok (.iaload, 1) := by decide +kernel
theorem dX2_takesFigure_30 : decode cX2_takesFigure 30 = .ok (.invokestatic 65, 3) := by decide +kernel
theorem dX2_takesFigure_33 : decode cX2_takesFigure 33 = .ok (.if_icmp .lt 5, 3) := by decide +kernel
theorem dX2_takesFigure_36 : decode cX2_takesFigure 36 = .ok (.iconst 0, 1) := by decide +kernel
theorem dX2_takesFigure_37 : decode cX2_takesFigure 37 = .ok (.ireturn, 1) := by decide +kernel
theorem dX2_takesFigure_38 : decode cX2_takesFigure 38 = .ok (.aload_n 0, 1) := by decide +kernel
theorem dX2_takesFigure_39 : decode cX2_takesFigure 39 = .ok (.getfield 15, 3) := by decide +kernel
theorem dX2_takesFigure_42 : decode cX2_takesFigure 42 = .ok (.aload_n 0, 1) := by decide +kernel
theorem dX2_takesFigure_43 : decode cX2_takesFigure 43 = .ok (.getfield 18, 3) := by decide +kernel
theorem dX2_takesFigure_46 : decode cX2_takesFigure 46 = .ok (.iconst 4, 1) := by decide +kernel
theorem dX2_takesFigure_47 : decode cX2_takesFigure 47 = .ok (.imul, 1) := by decide +kernel
theorem dX2_takesFigure_48 : decode cX2_takesFigure 48 = .ok (.aload_n 0, 1) := by decide +kernel
theorem dX2_takesFigure_49 : decode cX2_takesFigure 49 = .ok (.getfield 68, 3) := by decide +kernel
theorem dX2_takesFigure_52 : decode cX2_takesFigure 52 = .ok (.iadd, 1) := by decide +kernel
theorem dX2_takesFigure_53 : decode cX2_takesFigure 53 = .ok (.iconst 0, 1) := by decide +kernel
theorem dX2_takesFigure_54 : decode cX2_takesFigure 54 = .ok (.iastore, 1) := by decide +kernel
theorem dX2_takesFigure_55 : decode cX2_takesFigure 55 = .ok (.aload_n 0, 1) := by decide +kernel
theorem dX2_takesFigure_56 : decode cX2_takesFigure 56 = .ok (.dup, 1) := by decide +kernel
theorem dX2_takesFigure_57 : decode cX2_takesFigure 57 = .ok (.getfield 68, 3) := by decide +kernel
theorem dX2_takesFigure_60 : decode cX2_takesFigure 60 = .ok (.iconst 1, 1) := by decide +kernel
theorem dX2_takesFigure_61 : decode cX2_takesFigure 61 = .ok (.iadd, 1) := by decide +kernel
theorem dX2_takesFigure_62 : decode cX2_takesFigure 62 = .ok (.putfield 68, 3) := by decide +kernel
theorem dX2_takesFigure_65 : decode cX2_takesFigure 65 = .ok (.aload_n 0, 1) := by decide +kernel
theorem dX2_takesFigure_66 : decode cX2_takesFigure 66 = .ok (.getfield 18, 3) := by decide +kernel
theorem dX2_takesFigure_69 : decode cX2_takesFigure 69 = .ok (.iconst 4, 1) := by decide +kernel
theorem dX2_takesFigure_70 : decode cX2_takesFigure 70 = .ok (.imul, 1) := by decide +kernel
theorem dX2_takesFigure_71 : decode cX2_takesFigure 71 = .ok (.aload_n 0, 1) := by decide +kernel
theorem dX2_takesFigure_72 : decode cX2_takesFigure 72 = .ok (.getfield 68, 3) := by decide +kernel
theorem dX2_takesFigure_75 : decode cX2_takesFigure 75 = .ok (.iadd, 1) := by decide +kernel
theorem dX2_takesFigure_76 : decode cX2_takesFigure 76 = .ok (.iconst 1, 1) := by decide +kernel
theorem dX2_takesFigure_77 : decode cX2_takesFigure 77 = .ok (.isub, 1) := by decide +kernel
theorem dX2_takesFigure_78 : decode cX2_takesFigure 78 = .ok (.istore_n 2, 1) := by decide +kernel
theorem dX2_takesFigure_79 : decode cX2_takesFigure 79 = .ok (.aload_n 0, 1) := by decide +kernel
theorem dX2_takesFigure_80 : decode cX2_takesFigure 80 = .ok (.getfield 15, 3) := by decide +kernel
theorem dX2_takesFigure_83 : decode cX2_takesFigure 83 = .ok (.iload_n 2, 1) := by decide +kernel
theorem dX2_takesFigure_84 : decode cX2_takesFigure 84 = .ok (.bipush 10, 2) := by decide +kernel
theorem dX2_takesFigure_86 : decode cX2_takesFigure 86 = .ok (.aload_n 0, 1) := by decide +kernel
theorem dX2_takesFigure_87 : decode cX2_takesFigure 87 = .ok (.getfield 15, 3) := by decide +kernel
theorem dX2_takesFigure_90 : decode cX2_takesFigure 90 = .ok (.iload_n 2, 1) := by decide +kernel
theorem dX2_takesFigure_91 : decode cX2_takesFigure 91 = .ok (.iaload, 1) := by decide +kernel
theorem dX2_takesFigure_92 : decode cX2_takesFigure 92 = .ok (.imul, 1) := by decide +kernel
theorem dX2_takesFigure_93 : decode cX2_takesFigure 93 = .ok (.iload_n 1, 1) := by decide +kernel
theorem dX2_takesFigure_94 : decode cX2_takesFigure 94 = .ok (.iadd, 1) := by decide +kernel
theorem dX2_takesFigure_95 : decode cX2_takesFigure 95 = .ok (.iastore, 1) := by decide +kernel
theorem dX2_takesFigure_96 : decode cX2_takesFigure 96 = .ok (.aload_n 0, 1) := by decide +kernel
theorem dX2_takesFigure_97 : decode cX2_takesFigure 97 = .ok (.dup, 1) := by decide +kernel
theorem dX2_takesFigure_98 : decode cX2_takesFigure 98 = .ok (.getfield 48, 3) := by decide +kernel
theorem dX2_takesFigure_101 : decode cX2_takesFigure 101 = .ok (.iconst 1, 1) := by decide +kernel
theorem dX2_takesFigure_102 : decode cX2_takesFigure 102 = .ok (.iadd, 1) := by decide +kernel
theorem dX2_takesFigure_103 : decode cX2_takesFigure 103 = .ok (.putfield 48, 3) := by decide +kernel
theorem dX2_takesFigure_106 : decode cX2_takesFigure 106 = .ok (.iconst 1, 1) := by decide +kernel
theorem dX2_takesFigure_107 : decode cX2_takesFigure 107 = .ok (.ireturn, 1) := by decide +kernel
theorem dX2_numbersOf_0 : decode cX2_numbersOf 0 = .ok (.iload_n 0, 1) := by decide +kernel
theorem dX2_numbersOf_1 : decode cX2_numbersOf 1 = .ok (.lookupswitch 57 #[(99, 53), (101, 53), (112, 51), (115, 53), (120, 55)], 51) := by decide +kernel
theorem dX2_numbersOf_52 : decode cX2_numbersOf 52 = .ok (.iconst 4, 1) := by decide +kernel
theorem dX2_numbersOf_53 : decode cX2_numbersOf 53 = .ok (.ireturn, 1) := by decide +kernel
theorem dX2_numbersOf_54 : decode cX2_numbersOf 54 = .ok (.iconst 2, 1) := by decide +kernel
theorem dX2_numbersOf_55 : decode cX2_numbersOf 55 = .ok (.ireturn, 1) := by decide +kernel
theorem dX2_numbersOf_56 : decode cX2_numbersOf 56 = .ok (.iconst 1, 1) := by decide +kernel
theorem dX2_numbersOf_57 : decode cX2_numbersOf 57 = .ok (.ireturn, 1) := by decide +kernel
theorem dX2_numbersOf_58 : decode cX2_numbersOf 58 = .ok (.iconst 0, 1) := by decide +kernel
theorem dX2_numbersOf_59 : decode cX2_numbersOf 59 = .ok (.ireturn, 1) := by decide +kernel
set_option maxRecDepth 20000 in
theorem ggX3_init_X0_init : GoodIn wsX3_init wsX0_init := goodIn_r _ [9, 10, 2, 3, 11, 12, 13, 14, 15, 16, 17, 18, 19, 20, 21, 22, 25, 26, 27, 28, 29, 30, 31, 32, 33, 34, 35, 36, 37, 38] (by decide +kernel) (by decide +kernel)
set_option maxRecDepth 20000 in
theorem gX3_init_X0_init_n17 : GoodIn wsX3_init (wsX0_init) := ggX3_init_X0_init
theorem dX3_init_0 : decode cX3_init 0 = .ok (.aload_n 0, 1) := by decide +kernel
theorem dX3_init_1 : decode cX3_init 1 = .ok (.invokespecial 3, 3) := by decide +kernel
theorem dX3_init_4 : decode cX3_init 4 = .ok (.aload_n 0, 1) := by decide +kernel
theorem dX3_init_5 : decode cX3_init 5 = .ok (.bipush 6, 2) := by decide +kernel
theorem dX3_init_7 : decode cX3_init 7 = .ok (.anewarray 9, 3) := by decide +kernel
theorem dX3_init_10 : decode cX3_init 10 = .ok (.putfield 11, 3) := by decide +kernel
theorem dX3_init_13 : decode cX3_init 13 = .ok (.iconst 0, 1) := by decide +kernel
theorem dX3_init_14 : decode cX3_init 14 = .ok (.istore_n 1, 1) := by decide +kernel
theorem dX3_init_15 : decode cX3_init 15 = .ok (.iload_n 1, 1) := by decide +kernel
theorem dX3_init_16 : decode cX3_init 16 = .ok (.iconst 5, 1) := by decide +kernel
theorem dX3_init_17 : decode cX3_init 17 = .ok (.if_icmp .gt 22, 3) := by decide +kernel
theorem dX3_init_20 : decode cX3_init 20 = .ok (.aload_n 0, 1) := by decide +kernel
theorem dX3_init_21 : decode cX3_init 21 = .ok (.getfield 11, 3) := by decide +kernel
theorem dX3_init_24 : decode cX3_init 24 = .ok (.iload_n 1, 1) := by decide +kernel
theorem dX3_init_25 : decode cX3_init 25 = .ok (.new 9, 3) := by decide +kernel
theorem dX3_init_28 : decode cX3_init 28 = .ok (.dup, 1) := by decide +kernel
theorem dX3_init_29 : decode cX3_init 29 = .ok (.invokespecial 17, 3) := by decide +kernel
theorem dX3_init_32 : decode cX3_init 32 = .ok (.aastore, 1) := by decide +kernel
theorem dX3_init_33 : decode cX3_init 33 = .ok (.iinc 1 1, 3) := by decide +kernel
theorem dX3_init_36 : decode cX3_init 36 = .ok (.goto (-21), 3) := by decide +kernel
theorem dX3_init_39 : decode cX3_init 39 = .ok (.return_, 1) := by decide +kernel
set_option maxRecDepth 20000 in
theorem ggX3_mark_X0_copyFrom : GoodIn wsX3_mark wsX0_copyFrom := goodIn_r _ [7, 8, 9, 10, 11, 12, 13, 14, 15, 16, 17, 18, 19, 20, 21, 22, 23, 6, 24, 25, 26, 27, 28, 29, 30, 31, 32, 35, 36, 37, 38, 39, 40, 41, 42, 43, 44, 45, 46, 47, 48] (by decide +kernel) (by decide +kernel)
set_option maxRecDepth 20000 in
theorem gX3_mark_X0_copyFrom : GoodIn wsX3_mark (wsV RX3 22 RX0 yX0_copyFrom wsX0_copyFrom) := goodIn_app (goodIn_of _ (by decide +kernel)) ggX3_mark_X0_copyFrom
theorem dX3_mark_0 : decode cX3_mark 0 = .ok (.aload_n 0, 1) := by decide +kernel
theorem dX3_mark_1 : decode cX3_mark 1 = .ok (.getfield 11, 3) := by decide +kernel
theorem dX3_mark_4 : decode cX3_mark 4 = .ok (.aload_n 0, 1) := by decide +kernel
theorem dX3_mark_5 : decode cX3_mark 5 = .ok (.getfield 18, 3) := by decide +kernel
theorem dX3_mark_8 : decode cX3_mark 8 = .ok (.aaload, 1) := by decide +kernel
theorem dX3_mark_9 : decode cX3_mark 9 = .ok (.aload_n 1, 1) := by decide +kernel
theorem dX3_mark_10 : decode cX3_mark 10 = .ok (.invokevirtual 22, 3) := by decide +kernel
theorem dX3_mark_13 : decode cX3_mark 13 = .ok (.return_, 1) := by decide +kernel
set_option maxRecDepth 20000 in
theorem ggX3_toMark_X0_copyFrom : GoodIn wsX3_toMark wsX0_copyFrom := goodIn_r _ [7, 8, 9, 10, 11, 12, 13, 14, 15, 16, 17, 18, 19, 20, 21, 22, 23, 6, 24, 25, 26, 27, 28, 29, 30, 31, 32, 35, 36, 37, 38, 39, 40, 41, 42, 43, 44, 45, 46, 47, 48] (by decide +kernel) (by decide +kernel)
set_option maxRecDepth 20000 in
theorem gX3_toMark_X0_copyFrom : GoodIn wsX3_toMark (wsV RX3 22 RX0 yX0_copyFrom wsX0_copyFrom) := goodIn_app (goodIn_of _ (by decide +kernel)) ggX3_toMark_X0_copyFrom
theorem dX3_toMark_0 : decode cX3_toMark 0 = .ok (.aload_n 1, 1) := by decide +kernel
theorem dX3_toMark_1 : decode cX3_toMark 1 = .ok (.aload_n 0, 1) := by decide +kernel
theorem dX3_toMark_2 : decode cX3_toMark 2 = .ok (.getfield 11, 3) := by decide +kernel
theorem dX3_toMark_5 : decode cX3_toMark 5 = .ok (.aload_n 0, 1) := by decide +kernel
theorem dX3_toMark_6 : decode cX3_toMark 6 = .ok (.getfield 18, 3) := by decide +kernel
theorem dX3_toMark_9 : decode cX3_toMark 9 = .ok (.aaload, 1) := by decide +kernel
theorem dX3_toMark_10 : decode cX3_toMark 10 = .ok (.invokevirtual 22, 3) := by decide +kernel
theorem dX3_toMark_13 : decode cX3_toMark 13 = .ok (.return_, 1) := by decide +kernel
theorem dX3_keep_0 : decode cX3_keep 0 = .ok (.aload_n 0, 1) := by decide +kernel
theorem dX3_keep_1 : decode cX3_keep 1 = .ok (.getfield 18, 3) := by decide +kernel
theorem dX3_keep_4 : decode cX3_keep 4 = .ok (.iconst 5, 1) := by decide +kernel
theorem dX3_keep_5 : decode cX3_keep 5 = .ok (.if_icmp .ge 14, 3) := by decide +kernel
theorem dX3_keep_8 : decode cX3_keep 8 = .ok (.aload_n 0, 1) := by decide +kernel
theorem dX3_keep_9 : decode cX3_keep 9 = .ok (.dup, 1) := by decide +kernel
theorem dX3_keep_10 : decode cX3_keep 10 = .ok (.getfield 18, 3) := by decide +kernel
theorem dX3_keep_13 : decode cX3_keep 13 = .ok (.iconst 1, 1) := by decide +kernel
theorem dX3_keep_14 : decode cX3_keep 14 = .ok (.iadd, 1) := by decide +kernel
theorem dX3_keep_15 : decode cX3_keep 15 = .ok (.putfield 18, 3) := by decide +kernel
theorem dX3_keep_18 : decode cX3_keep 18 = .ok (.return_, 1) := by decide +kernel
theorem dX3_keep_19 : decode cX3_keep 19 = .ok (.aload_n 0, 1) := by decide +kernel
theorem dX3_keep_20 : decode cX3_keep 20 = .ok (.getfield 11, 3) := by decide +kernel
theorem dX3_keep_23 : decode cX3_keep 23 = .ok (.iconst 0, 1) := by decide +kernel
theorem dX3_keep_24 : decode cX3_keep 24 = .ok (.aaload, 1) := by decide +kernel
theorem dX3_keep_25 : decode cX3_keep 25 = .ok (.astore_n 1, 1) := by decide +kernel
theorem dX3_keep_26 : decode cX3_keep 26 = .ok (.iconst 0, 1) := by decide +kernel
theorem dX3_keep_27 : decode cX3_keep 27 = .ok (.istore_n 2, 1) := by decide +kernel
theorem dX3_keep_28 : decode cX3_keep 28 = .ok (.iload_n 2, 1) := by decide +kernel
theorem dX3_keep_29 : decode cX3_keep 29 = .ok (.iconst 5, 1) := by decide +kernel
theorem dX3_keep_30 : decode cX3_keep 30 = .ok (.if_icmp .ge 23, 3) := by decide +kernel
theorem dX3_keep_33 : decode cX3_keep 33 = .ok (.aload_n 0, 1) := by decide +kernel
theorem dX3_keep_34 : decode cX3_keep 34 = .ok (.getfield 11, 3) := by decide +kernel
theorem dX3_keep_37 : decode cX3_keep 37 = .ok (.iload_n 2, 1) := by decide +kernel
theorem dX3_keep_38 : decode cX3_keep 38 = .ok (.aload_n 0, 1) := by decide +kernel
theorem dX3_keep_39 : decode cX3_keep 39 = .ok (.getfield 11, 3) := by decide +kernel
theorem dX3_keep_42 : decode cX3_keep 42 = .ok (.iload_n 2, 1) := by decide +kernel
theorem dX3_keep_43 : decode cX3_keep 43 = .ok (.iconst 1, 1) := by decide +kernel
theorem dX3_keep_44 : decode cX3_keep 44 = .ok (.iadd, 1) := by decide +kernel
theorem dX3_keep_45 : decode cX3_keep 45 = .ok (.aaload, 1) := by decide +kernel
theorem dX3_keep_46 : decode cX3_keep 46 = .ok (.aastore, 1) := by decide +kernel
theorem dX3_keep_47 : decode cX3_keep 47 = .ok (.iinc 2 1, 3) := by decide +kernel
theorem dX3_keep_50 : decode cX3_keep 50 = .ok (.goto (-22), 3) := by decide +kernel
theorem dX3_keep_53 : decode cX3_keep 53 = .ok (.aload_n 0, 1) := by decide +kernel
theorem dX3_keep_54 : decode cX3_keep 54 = .ok (.getfield 11, 3) := by decide +kernel
theorem dX3_keep_57 : decode cX3_keep 57 = .ok (.iconst 5, 1) := by decide +kernel
theorem dX3_keep_58 : decode cX3_keep 58 = .ok (.aload_n 1, 1) := by decide +kernel
theorem dX3_keep_59 : decode cX3_keep 59 = .ok (.aastore, 1) := by decide +kernel
theorem dX3_keep_60 : decode cX3_keep 60 = .ok (.return_, 1) := by decide +kernel
set_option maxRecDepth 20000 in
theorem ggX3_undo_X0_copyFrom : GoodIn wsX3_undo wsX0_copyFrom := goodIn_r _ [7, 8, 9, 10, 11, 12, 13, 14, 15, 16, 17, 18, 19, 20, 21, 22, 23, 6, 24, 25, 26, 27, 28, 29, 30, 31, 32, 35, 36, 37, 38, 39, 40, 41, 42, 43, 44, 45, 46, 47, 48] (by decide +kernel) (by decide +kernel)
set_option maxRecDepth 20000 in
theorem gX3_undo_X0_copyFrom : GoodIn wsX3_undo (wsV RX3 22 RX0 yX0_copyFrom wsX0_copyFrom) := goodIn_app (goodIn_of _ (by decide +kernel)) ggX3_undo_X0_copyFrom
theorem dX3_undo_0 : decode cX3_undo 0 = .ok (.aload_n 0, 1) := by decide +kernel
theorem dX3_undo_1 : decode cX3_undo 1 = .ok (.getfield 18, 3) := by decide +kernel
theorem dX3_undo_4 : decode cX3_undo 4 = .ok (.ifCond .le 26, 3) := by decide +kernel
theorem dX3_undo_7 : decode cX3_undo 7 = .ok (.aload_n 0, 1) := by decide +kernel
theorem dX3_undo_8 : decode cX3_undo 8 = .ok (.dup, 1) := by decide +kernel
theorem dX3_undo_9 : decode cX3_undo 9 = .ok (.getfield 18, 3) := by decide +kernel
theorem dX3_undo_12 : decode cX3_undo 12 = .ok (.iconst 1, 1) := by decide +kernel
theorem dX3_undo_13 : decode cX3_undo 13 = .ok (.isub, 1) := by decide +kernel
theorem dX3_undo_14 : decode cX3_undo 14 = .ok (.putfield 18, 3) := by decide +kernel
theorem dX3_undo_17 : decode cX3_undo 17 = .ok (.aload_n 1, 1) := by decide +kernel
theorem dX3_undo_18 : decode cX3_undo 18 = .ok (.aload_n 0, 1) := by decide +kernel
theorem dX3_undo_19 : decode cX3_undo 19 = .ok (.getfield 11, 3) := by decide +kernel
theorem dX3_undo_22 : decode cX3_undo 22 = .ok (.aload_n 0, 1) := by decide +kernel
theorem dX3_undo_23 : decode cX3_undo 23 = .ok (.getfield 18, 3) := by decide +kernel
theorem dX3_undo_26 : decode cX3_undo 26 = .ok (.aaload, 1) := by decide +kernel
theorem dX3_undo_27 : decode cX3_undo 27 = .ok (.invokevirtual 22, 3) := by decide +kernel
theorem dX3_undo_30 : decode cX3_undo 30 = .ok (.return_, 1) := by decide +kernel
theorem dX4_init_0 : decode cX4_init 0 = .ok (.aload_n 0, 1) := by decide +kernel
theorem dX4_init_1 : decode cX4_init 1 = .ok (.invokespecial 3, 3) := by decide +kernel
theorem dX4_init_4 : decode cX4_init 4 = .ok (.aload_n 0, 1) := by decide +kernel
theorem dX4_init_5 : decode cX4_init 5 = .ok (.bipush 45, 2) := by decide +kernel
theorem dX4_init_7 : decode cX4_init 7 = .ok (.newarray .int, 2) := by decide +kernel
theorem dX4_init_9 : decode cX4_init 9 = .ok (.putfield 9, 3) := by decide +kernel
theorem dX4_init_12 : decode cX4_init 12 = .ok (.return_, 1) := by decide +kernel
theorem dX4_compare_0 : decode cX4_compare 0 = .ok (.aload_n 0, 1) := by decide +kernel
theorem dX4_compare_1 : decode cX4_compare 1 = .ok (.iconst 0, 1) := by decide +kernel
theorem dX4_compare_2 : decode cX4_compare 2 = .ok (.putfield 15, 3) := by decide +kernel
theorem dX4_compare_5 : decode cX4_compare 5 = .ok (.iconst 0, 1) := by decide +kernel
theorem dX4_compare_6 : decode cX4_compare 6 = .ok (.istore_n 2, 1) := by decide +kernel
theorem dX4_compare_7 : decode cX4_compare 7 = .ok (.iload_n 2, 1) := by decide +kernel
theorem dX4_compare_8 : decode cX4_compare 8 = .ok (.aload_n 1, 1) := by decide +kernel
theorem dX4_compare_9 : decode cX4_compare 9 = .ok (.getfield 19, 3) := by decide +kernel
theorem dX4_compare_12 : decode cX4_compare 12 = .ok (.if_icmp .ge 68, 3) := by decide +kernel
theorem dX4_compare_15 : decode cX4_compare 15 = .ok (.iload_n 2, 1) := by decide +kernel
theorem dX4_compare_16 : decode cX4_compare 16 = .ok (.iconst 1, 1) := by decide +kernel
theorem dX4_compare_17 : decode cX4_compare 17 = .ok (.iadd, 1) := by decide +kernel
theorem dX4_compare_18 : decode cX4_compare 18 = .ok (.istore_n 3, 1) := by decide +kernel
theorem dX4_compare_19 : decode cX4_compare 19 = .ok (.iload_n 3, 1) := by decide +kernel
theorem dX4_compare_20 : decode cX4_compare 20 = .ok (.aload_n 1, 1) := by decide +kernel
theorem dX4_compare_21 : decode cX4_compare 21 = .ok (.getfield 19, 3) := by decide +kernel
theorem dX4_compare_24 : decode cX4_compare 24 = .ok (.if_icmp .ge 50, 3) := by decide +kernel
theorem dX4_compare_27 : decode cX4_compare 27 = .ok (.aload_n 0, 1) := by decide +kernel
theorem dX4_compare_28 : decode cX4_compare 28 = .ok (.getfield 15, 3) := by decide +kernel
theorem dX4_compare_31 : decode cX4_compare 31 = .ok (.bipush 45, 2) := by decide +kernel
theorem dX4_compare_33 : decode cX4_compare 33 = .ok (.if_icmp .ge 41, 3) := by decide +kernel
theorem dX4_compare_36 : decode cX4_compare 36 = .ok (.aload_n 0, 1) := by decide +kernel
theorem dX4_compare_37 : decode cX4_compare 37 = .ok (.getfield 9, 3) := by decide +kernel
theorem dX4_compare_40 : decode cX4_compare 40 = .ok (.aload_n 0, 1) := by decide +kernel
theorem dX4_compare_41 : decode cX4_compare 41 = .ok (.getfield 15, 3) := by decide +kernel
theorem dX4_compare_44 : decode cX4_compare 44 = .ok (.aload_n 1, 1) := by decide +kernel
theorem dX4_compare_45 : decode cX4_compare 45 = .ok (.getfield 24, 3) := by decide +kernel
theorem dX4_compare_48 : decode cX4_compare 48 = .ok (.iload_n 2, 1) := by decide +kernel
theorem dX4_compare_49 : decode cX4_compare 49 = .ok (.iaload, 1) := by decide +kernel
theorem dX4_compare_50 : decode cX4_compare 50 = .ok (.aload_n 1, 1) := by decide +kernel
theorem dX4_compare_51 : decode cX4_compare 51 = .ok (.getfield 24, 3) := by decide +kernel
theorem dX4_compare_54 : decode cX4_compare 54 = .ok (.iload_n 3, 1) := by decide +kernel
theorem dX4_compare_55 : decode cX4_compare 55 = .ok (.iaload, 1) := by decide +kernel
theorem dX4_compare_56 : decode cX4_compare 56 = .ok (.ixor, 1) := by decide +kernel
theorem dX4_compare_57 : decode cX4_compare 57 = .ok (.iastore, 1) := by decide +kernel
theorem dX4_compare_58 : decode cX4_compare 58 = .ok (.aload_n 0, 1) := by decide +kernel
theorem dX4_compare_59 : decode cX4_compare 59 = .ok (.dup, 1) := by decide +kernel
theorem dX4_compare_60 : decode cX4_compare 60 = .ok (.getfield 15, 3) := by decide +kernel
theorem dX4_compare_63 : decode cX4_compare 63 = .ok (.iconst 1, 1) := by decide +kernel
theorem dX4_compare_64 : decode cX4_compare 64 = .ok (.iadd, 1) := by decide +kernel
theorem dX4_compare_65 : decode cX4_compare 65 = .ok (.putfield 15, 3) := by decide +kernel
theorem dX4_compare_68 : decode cX4_compare 68 = .ok (.iinc 3 1, 3) := by decide +kernel
theorem dX4_compare_71 : decode cX4_compare 71 = .ok (.goto (-52), 3) := by decide +kernel
theorem dX4_compare_74 : decode cX4_compare 74 = .ok (.iinc 2 1, 3) := by decide +kernel
theorem dX4_compare_77 : decode cX4_compare 77 = .ok (.goto (-70), 3) := by decide +kernel
theorem dX4_compare_80 : decode cX4_compare 80 = .ok (.return_, 1) := by decide +kernel
theorem dX4_untold_0 : decode cX4_untold 0 = .ok (.iconst 0, 1) := by decide +kernel
theorem dX4_untold_1 : decode cX4_untold 1 = .ok (.istore_n 2, 1) := by decide +kernel
theorem dX4_untold_2 : decode cX4_untold 2 = .ok (.iconst 0, 1) := by decide +kernel
theorem dX4_untold_3 : decode cX4_untold 3 = .ok (.istore_n 3, 1) := by decide +kernel
theorem dX4_untold_4 : decode cX4_untold 4 = .ok (.iload_n 3, 1) := by decide +kernel
theorem dX4_untold_5 : decode cX4_untold 5 = .ok (.aload_n 0, 1) := by decide +kernel
theorem dX4_untold_6 : decode cX4_untold 6 = .ok (.getfield 15, 3) := by decide +kernel
theorem dX4_untold_9 : decode cX4_untold 9 = .ok (.if_icmp .ge 23, 3) := by decide +kernel
theorem dX4_untold_12 : decode cX4_untold 12 = .ok (.aload_n 0, 1) := by decide +kernel
theorem dX4_untold_13 : decode cX4_untold 13 = .ok (.getfield 9, 3) := by decide +kernel
theorem dX4_untold_16 : decode cX4_untold 16 = .ok (.iload_n 3, 1) := by decide +kernel
theorem dX4_untold_17 : decode cX4_untold 17 = .ok (.iaload, 1) := by decide +kernel
theorem dX4_untold_18 : decode cX4_untold 18 = .ok (.iload_n 1, 1) := by decide +kernel
theorem dX4_untold_19 : decode cX4_untold 19 = .ok (.iand, 1) := by decide +kernel
theorem dX4_untold_20 : decode cX4_untold 20 = .ok (.ifCond .ne 6, 3) := by decide +kernel
theorem dX4_untold_23 : decode cX4_untold 23 = .ok (.iinc 2 1, 3) := by decide +kernel
theorem dX4_untold_26 : decode cX4_untold 26 = .ok (.iinc 3 1, 3) := by decide +kernel
theorem dX4_untold_29 : decode cX4_untold 29 = .ok (.goto (-25), 3) := by decide +kernel
theorem dX4_untold_32 : decode cX4_untold 32 = .ok (.iload_n 2, 1) := by decide +kernel
theorem dX4_untold_33 : decode cX4_untold 33 = .ok (.ireturn, 1) := by decide +kernel
set_option maxRecDepth 20000 in
theorem ggX4_fewest_J6_bitCount_0f7a4 : GoodIn wsX4_fewest wsJ6_bitCount_0f7a4 := goodIn_r _ [4, 5, 6, 7] (by decide +kernel) (by decide +kernel)
set_option maxRecDepth 20000 in
theorem gX4_fewest_J6_bitCount_0f7a4 : GoodIn wsX4_fewest (va_wsS RX4 27 yJ6_bitCount_0f7a4 wsJ6_bitCount_0f7a4) := goodIn_app (goodIn_of _ (by decide +kernel)) ggX4_fewest_J6_bitCount_0f7a4
set_option maxRecDepth 20000 in
theorem ggX4_fewest_X4_tellsAll : GoodIn wsX4_fewest wsX4_tellsAll := goodIn_r _ [12, 13, 14, 15, 16] (by decide +kernel) (by decide +kernel)
set_option maxRecDepth 20000 in
theorem gX4_fewest_X4_tellsAll : GoodIn wsX4_fewest (wsV RX4 33 RX4 yX4_tellsAll wsX4_tellsAll) := goodIn_app (goodIn_of _ (by decide +kernel)) ggX4_fewest_X4_tellsAll
theorem dX4_fewest_0 : decode cX4_fewest 0 = .ok (.iconst (-1), 1) := by decide +kernel
theorem dX4_fewest_1 : decode cX4_fewest 1 = .ok (.istore_n 2, 1) := by decide +kernel
theorem dX4_fewest_2 : decode cX4_fewest 2 = .ok (.iload_n 1, 1) := by decide +kernel
theorem dX4_fewest_3 : decode cX4_fewest 3 = .ok (.iconst 1, 1) := by decide +kernel
theorem dX4_fewest_4 : decode cX4_fewest 4 = .ok (.iadd, 1) := by decide +kernel
theorem dX4_fewest_5 : decode cX4_fewest 5 = .ok (.istore_n 3, 1) := by decide +kernel
theorem dX4_fewest_6 : decode cX4_fewest 6 = .ok (.iconst 0, 1) := by decide +kernel
theorem dX4_fewest_7 : decode cX4_fewest 7 = .ok (.istore 4, 2) := by decide +kernel
theorem dX4_fewest_9 : decode cX4_fewest 9 = .ok (.iload 4, 2) := by decide +kernel
theorem dX4_fewest_11 : decode cX4_fewest 11 = .ok (.iconst 1, 1) := by decide +kernel
theorem dX4_fewest_12 : decode cX4_fewest 12 = .ok (.iload_n 1, 1) := by decide +kernel
theorem dX4_fewest_13 : decode cX4_fewest 13 = .ok (.ishl, 1) := by decide +kernel
theorem dX4_fewest_14 : decode cX4_fewest 14 = .ok (.if_icmp .ge 37, 3) := by decide +kernel
theorem dX4_fewest_17 : decode cX4_fewest 17 = .ok (.iload 4, 2) := by decide +kernel
theorem dX4_fewest_19 : decode cX4_fewest 19 = .ok (.invokestatic 27, 3) := by decide +kernel
theorem dX4_fewest_22 : decode cX4_fewest 22 = .ok (.istore 5, 2) := by decide +kernel
theorem dX4_fewest_24 : decode cX4_fewest 24 = .ok (.iload 5, 2) := by decide +kernel
theorem dX4_fewest_26 : decode cX4_fewest 26 = .ok (.iload_n 3, 1) := by decide +kernel
theorem dX4_fewest_27 : decode cX4_fewest 27 = .ok (.if_icmp .ge 18, 3) := by decide +kernel
theorem dX4_fewest_30 : decode cX4_fewest 30 = .ok (.aload_n 0, 1) := by decide +kernel
theorem dX4_fewest_31 : decode cX4_fewest 31 = .ok (.iload 4, 2) := by decide +kernel
theorem dX4_fewest_33 : decode cX4_fewest 33 = .ok (.invokevirtual 33, 3) := by decide +kernel
theorem dX4_fewest_36 : decode cX4_fewest 36 = .ok (.ifCond .eq 9, 3) := by decide +kernel
theorem dX4_fewest_39 : decode cX4_fewest 39 = .ok (.iload 4, 2) := by decide +kernel
theorem dX4_fewest_41 : decode cX4_fewest 41 = .ok (.istore_n 2, 1) := by decide +kernel
theorem dX4_fewest_42 : decode cX4_fewest 42 = .ok (.iload 5, 2) := by decide +kernel
theorem dX4_fewest_44 : decode cX4_fewest 44 = .ok (.istore_n 3, 1) := by decide +kernel
theorem dX4_fewest_45 : decode cX4_fewest 45 = .ok (.iinc 4 1, 3) := by decide +kernel
theorem dX4_fewest_48 : decode cX4_fewest 48 = .ok (.goto (-39), 3) := by decide +kernel
theorem dX4_fewest_51 : decode cX4_fewest 51 = .ok (.iload_n 2, 1) := by decide +kernel
theorem dX4_fewest_52 : decode cX4_fewest 52 = .ok (.ireturn, 1) := by decide +kernel
theorem dX4_tellsAll_0 : decode cX4_tellsAll 0 = .ok (.iconst 0, 1) := by decide +kernel
theorem dX4_tellsAll_1 : decode cX4_tellsAll 1 = .ok (.istore_n 2, 1) := by decide +kernel
theorem dX4_tellsAll_2 : decode cX4_tellsAll 2 = .ok (.iload_n 2, 1) := by decide +kernel
theorem dX4_tellsAll_3 : decode cX4_tellsAll 3 = .ok (.aload_n 0, 1) := by decide +kernel
theorem dX4_tellsAll_4 : decode cX4_tellsAll 4 = .ok (.getfield 15, 3) := by decide +kernel
theorem dX4_tellsAll_7 : decode cX4_tellsAll 7 = .ok (.if_icmp .ge 22, 3) := by decide +kernel
theorem dX4_tellsAll_10 : decode cX4_tellsAll 10 = .ok (.aload_n 0, 1) := by decide +kernel
theorem dX4_tellsAll_11 : decode cX4_tellsAll 11 = .ok (.getfield 9, 3) := by decide +kernel
theorem dX4_tellsAll_14 : decode cX4_tellsAll 14 = .ok (.iload_n 2, 1) := by decide +kernel
theorem dX4_tellsAll_15 : decode cX4_tellsAll 15 = .ok (.iaload, 1) := by decide +kernel
theorem dX4_tellsAll_16 : decode cX4_tellsAll 16 = .ok (.iload_n 1, 1) := by decide +kernel
theorem dX4_tellsAll_17 : decode cX4_tellsAll 17 = .ok (.iand, 1) := by decide +kernel
theorem dX4_tellsAll_18 : decode cX4_tellsAll 18 = .ok (.ifCond .ne 5, 3) := by decide +kernel
theorem dX4_tellsAll_21 : decode cX4_tellsAll 21 = .ok (.iconst 0, 1) := by decide +kernel
theorem dX4_tellsAll_22 : decode cX4_tellsAll 22 = .ok (.ireturn, 1) := by decide +kernel
theorem dX4_tellsAll_23 : decode cX4_tellsAll 23 = .ok (.iinc 2 1, 3) := by decide +kernel
theorem dX4_tellsAll_26 : decode cX4_tellsAll 26 = .ok (.goto (-24), 3) := by decide +kernel
theorem dX4_tellsAll_29 : decode cX4_tellsAll 29 = .ok (.iconst 1, 1) := by decide +kernel
theorem dX4_tellsAll_30 : decode cX4_tellsAll 30 = .ok (.ireturn, 1) := by decide +kernel
set_option maxRecDepth 20000 in
theorem ggX5_init_X0_init : GoodIn wsX5_init wsX0_init := goodIn_r _ [27, 28, 2, 3, 29, 30, 31, 32, 33, 34, 35, 36, 37, 38, 39, 40, 64, 65, 66, 67, 68, 69, 70, 71, 72, 73, 74, 75, 76, 77] (by decide +kernel) (by decide +kernel)
set_option maxRecDepth 20000 in
theorem gX5_init_X0_init_n13 : GoodIn wsX5_init (wsX0_init) := ggX5_init_X0_init
set_option maxRecDepth 20000 in
theorem ggX5_init_X3_init : GoodIn wsX5_init wsX3_init := goodIn_r _ [43, 44, 2, 3, 45, 46, 5, 6, 26, 27, 28, 29, 30, 31, 32, 33, 34, 35, 36, 37, 38, 39, 40, 88, 89, 64, 65, 66, 67, 68, 69, 70, 71, 72, 73, 74, 75, 76, 77] (by decide +kernel) (by decide +kernel)
set_option maxRecDepth 20000 in
theorem gX5_init_X3_init : GoodIn wsX5_init (wsX3_init) := ggX5_init_X3_init
set_option maxRecDepth 20000 in
theorem ggX5_init_X1_init : GoodIn wsX5_init wsX1_init := goodIn_r _ [49, 50, 2, 3, 51, 52, 29, 53, 54, 90, 91, 92, 93] (by decide +kernel) (by decide +kernel)
set_option maxRecDepth 20000 in
theorem gX5_init_X1_init : GoodIn wsX5_init (wsX1_init) := ggX5_init_X1_init
set_option maxRecDepth 20000 in
theorem ggX5_init_X4_init : GoodIn wsX5_init wsX4_init := goodIn_r _ [56, 57, 2, 3, 29, 58, 94, 95] (by decide +kernel) (by decide +kernel)
set_option maxRecDepth 20000 in
theorem gX5_init_X4_init_n36 : GoodIn wsX5_init (wsX4_init) := ggX5_init_X4_init
set_option maxRecDepth 20000 in
theorem ggX5_init_X2_init : GoodIn wsX5_init wsX2_init := goodIn_r _ [60, 61, 2, 3, 29, 62, 63, 96, 97, 98, 99, 100, 101] (by decide +kernel) (by decide +kernel)
set_option maxRecDepth 20000 in
theorem gX5_init_X2_init_n43 : GoodIn wsX5_init (wsX2_init) := ggX5_init_X2_init
theorem dX5_init_0 : decode cX5_init 0 = .ok (.aload_n 0, 1) := by decide +kernel
theorem dX5_init_1 : decode cX5_init 1 = .ok (.invokespecial 5, 3) := by decide +kernel
theorem dX5_init_4 : decode cX5_init 4 = .ok (.aload_n 0, 1) := by decide +kernel
theorem dX5_init_5 : decode cX5_init 5 = .ok (.new 11, 3) := by decide +kernel
theorem dX5_init_8 : decode cX5_init 8 = .ok (.dup, 1) := by decide +kernel
theorem dX5_init_9 : decode cX5_init 9 = .ok (.invokespecial 13, 3) := by decide +kernel
theorem dX5_init_12 : decode cX5_init 12 = .ok (.putfield 14, 3) := by decide +kernel
theorem dX5_init_15 : decode cX5_init 15 = .ok (.aload_n 0, 1) := by decide +kernel
theorem dX5_init_16 : decode cX5_init 16 = .ok (.new 18, 3) := by decide +kernel
theorem dX5_init_19 : decode cX5_init 19 = .ok (.dup, 1) := by decide +kernel
theorem dX5_init_20 : decode cX5_init 20 = .ok (.invokespecial 20, 3) := by decide +kernel
theorem dX5_init_23 : decode cX5_init 23 = .ok (.putfield 21, 3) := by decide +kernel
theorem dX5_init_26 : decode cX5_init 26 = .ok (.aload_n 0, 1) := by decide +kernel
theorem dX5_init_27 : decode cX5_init 27 = .ok (.new 25, 3) := by decide +kernel
theorem dX5_init_30 : decode cX5_init 30 = .ok (.dup, 1) := by decide +kernel
theorem dX5_init_31 : decode cX5_init 31 = .ok (.aload_n 0, 1) := by decide +kernel
theorem dX5_init_32 : decode cX5_init 32 = .ok (.getfield 14, 3) := by decide +kernel
theorem dX5_init_35 : decode cX5_init 35 = .ok (.invokespecial 27, 3) := by decide +kernel
theorem dX5_init_38 : decode cX5_init 38 = .ok (.putfield 30, 3) := by decide +kernel
theorem dX5_init_41 : decode cX5_init 41 = .ok (.aload_n 0, 1) := by decide +kernel
theorem dX5_init_42 : decode cX5_init 42 = .ok (.new 34, 3) := by decide +kernel
theorem dX5_init_45 : decode cX5_init 45 = .ok (.dup, 1) := by decide +kernel
theorem dX5_init_46 : decode cX5_init 46 = .ok (.invokespecial 36, 3) := by decide +kernel
theorem dX5_init_49 : decode cX5_init 49 = .ok (.putfield 37, 3) := by decide +kernel
theorem dX5_init_52 : decode cX5_init 52 = .ok (.aload_n 0, 1) := by decide +kernel
theorem dX5_init_53 : decode cX5_init 53 = .ok (.new 41, 3) := by decide +kernel
theorem dX5_init_56 : decode cX5_init 56 = .ok (.dup, 1) := by decide +kernel
theorem dX5_init_57 : decode cX5_init 57 = .ok (.invokespecial 43, 3) := by decide +kernel
theorem dX5_init_60 : decode cX5_init 60 = .ok (.putfield 44, 3) := by decide +kernel
theorem dX5_init_63 : decode cX5_init 63 = .ok (.aload_n 0, 1) := by decide +kernel
theorem dX5_init_64 : decode cX5_init 64 = .ok (.bipush 120, 2) := by decide +kernel
theorem dX5_init_66 : decode cX5_init 66 = .ok (.newarray .byte, 2) := by decide +kernel
theorem dX5_init_68 : decode cX5_init 68 = .ok (.putfield 48, 3) := by decide +kernel
theorem dX5_init_71 : decode cX5_init 71 = .ok (.return_, 1) := by decide +kernel
set_option maxRecDepth 20000 in
theorem ggX5_shaft_X3_mark : GoodIn wsX5_shaft wsX3_mark := goodIn_r _ [7, 8, 9, 10, 11, 12, 13, 14, 15, 16, 17, 18, 19, 20, 21, 22, 23, 24, 25, 26, 27, 28, 29, 30, 31, 32, 33, 34, 35, 36, 37, 38, 39, 104, 105, 106, 107, 108, 109, 110, 111, 112, 113, 114, 115, 116, 117, 118, 119] (by decide +kernel) (by decide +kernel)
set_option maxRecDepth 20000 in
theorem gX5_shaft_X3_mark : GoodIn wsX5_shaft (wsV RX5 52 RX3 yX3_mark wsX3_mark) := goodIn_app (goodIn_of _ (by decide +kernel)) ggX5_shaft_X3_mark
set_option maxRecDepth 20000 in
theorem ggX5_shaft_X0_addShaft : GoodIn wsX5_shaft wsX0_addShaft := goodIn_r _ [43, 15, 16, 17, 44, 45, 13, 46, 47, 48, 49, 50, 51, 52, 53, 54, 55, 56, 57, 58, 59, 60, 18, 19, 20, 21, 61, 62, 63, 64, 24, 65, 66, 67, 68, 69, 70, 71, 106, 107, 108, 109, 110, 111, 112, 113, 114, 115, 116, 117, 118, 119] (by decide +kernel) (by decide +kernel)
set_option maxRecDepth 20000 in
theorem gX5_shaft_X0_addShaft : GoodIn wsX5_shaft (wsV RX5 55 RX0 yX0_addShaft wsX0_addShaft) := goodIn_app (goodIn_of _ (by decide +kernel)) ggX5_shaft_X0_addShaft
set_option maxRecDepth 20000 in
theorem ggX5_shaft_X5_settled : GoodIn wsX5_shaft wsX5_settled := goodIn_r _ [75, 1, 76, 77, 78, 79, 48, 80, 81, 82, 83, 84, 85, 86, 6, 87, 9, 8, 88, 89, 90, 91, 92, 93, 94, 95, 96, 97, 98, 99, 100, 101, 102, 103, 104, 105, 120, 121, 122, 123] (by decide +kernel) (by decide +kernel)
set_option maxRecDepth 20000 in
theorem gX5_shaft_X5_settled : GoodIn wsX5_shaft (wsV RX5 59 RX5 yX5_settled wsX5_settled) := goodIn_app (goodIn_of _ (by decide +kernel)) ggX5_shaft_X5_settled
theorem dX5_shaft_0 : decode cX5_shaft 0 = .ok (.aload_n 0, 1) := by decide +kernel
theorem dX5_shaft_1 : decode cX5_shaft 1 = .ok (.getfield 21, 3) := by decide +kernel
theorem dX5_shaft_4 : decode cX5_shaft 4 = .ok (.aload_n 0, 1) := by decide +kernel
theorem dX5_shaft_5 : decode cX5_shaft 5 = .ok (.getfield 14, 3) := by decide +kernel
theorem dX5_shaft_8 : decode cX5_shaft 8 = .ok (.invokevirtual 52, 3) := by decide +kernel
theorem dX5_shaft_11 : decode cX5_shaft 11 = .ok (.aload_n 0, 1) := by decide +kernel
theorem dX5_shaft_12 : decode cX5_shaft 12 = .ok (.aload_n 0, 1) := by decide +kernel
theorem dX5_shaft_13 : decode cX5_shaft 13 = .ok (.getfield 14, 3) := by decide +kernel
theorem dX5_shaft_16 : decode cX5_shaft 16 = .ok (.iload_n 1, 1) := by decide +kernel
theorem dX5_shaft_17 : decode cX5_shaft 17 = .ok (.iload_n 2, 1) := by decide +kernel
theorem dX5_shaft_18 : decode cX5_shaft 18 = .ok (.invokevirtual 55, 3) := by decide +kernel
theorem dX5_shaft_21 : decode cX5_shaft 21 = .ok (.invokevirtual 59, 3) := by decide +kernel
theorem dX5_shaft_24 : decode cX5_shaft 24 = .ok (.ireturn, 1) := by decide +kernel
set_option maxRecDepth 20000 in
theorem ggX5_sets_X3_mark : GoodIn wsX5_sets wsX3_mark := goodIn_r _ [7, 8, 9, 10, 11, 12, 13, 14, 15, 16, 17, 18, 19, 20, 21, 22, 23, 24, 25, 26, 27, 28, 29, 30, 31, 32, 33, 34, 35, 36, 37, 38, 39, 89, 90, 91, 92, 93, 94, 95, 96, 97, 98, 99, 100, 101, 102, 103, 104] (by decide +kernel) (by decide +kernel)
set_option maxRecDepth 20000 in
theorem gX5_sets_X3_mark : GoodIn wsX5_sets (wsV RX5 52 RX3 yX3_mark wsX3_mark) := goodIn_app (goodIn_of _ (by decide +kernel)) ggX5_sets_X3_mark
set_option maxRecDepth 20000 in
theorem ggX5_sets_X0_changeShaft : GoodIn wsX5_sets wsX0_changeShaft := goodIn_r _ [43, 16, 17, 44, 45, 46, 13, 47, 15, 48, 49, 50, 51, 52, 53, 54, 55, 56, 91, 92, 93, 94, 95, 96, 97, 98, 99, 100, 101, 102, 103, 104] (by decide +kernel) (by decide +kernel)
set_option maxRecDepth 20000 in
theorem gX5_sets_X0_changeShaft : GoodIn wsX5_sets (wsV RX5 63 RX0 yX0_changeShaft wsX0_changeShaft) := goodIn_app (goodIn_of _ (by decide +kernel)) ggX5_sets_X0_changeShaft
set_option maxRecDepth 20000 in
theorem ggX5_sets_X5_settled : GoodIn wsX5_sets wsX5_settled := goodIn_r _ [60, 1, 61, 62, 63, 64, 49, 65, 66, 67, 68, 69, 70, 71, 6, 72, 9, 8, 73, 74, 75, 76, 77, 78, 79, 80, 81, 82, 83, 84, 85, 86, 87, 88, 89, 90, 105, 106, 107, 108] (by decide +kernel) (by decide +kernel)
set_option maxRecDepth 20000 in
theorem gX5_sets_X5_settled : GoodIn wsX5_sets (wsV RX5 59 RX5 yX5_settled wsX5_settled) := goodIn_app (goodIn_of _ (by decide +kernel)) ggX5_sets_X5_settled
theorem dX5_sets_0 : decode cX5_sets 0 = .ok (.aload_n 0, 1) := by decide +kernel
theorem dX5_sets_1 : decode cX5_sets 1 = .ok (.getfield 21, 3) := by decide +kernel
theorem dX5_sets_4 : decode cX5_sets 4 = .ok (.aload_n 0, 1) := by decide +kernel
theorem dX5_sets_5 : decode cX5_sets 5 = .ok (.getfield 14, 3) := by decide +kernel
theorem dX5_sets_8 : decode cX5_sets 8 = .ok (.invokevirtual 52, 3) := by decide +kernel
theorem dX5_sets_11 : decode cX5_sets 11 = .ok (.aload_n 0, 1) := by decide +kernel
theorem dX5_sets_12 : decode cX5_sets 12 = .ok (.aload_n 0, 1) := by decide +kernel
theorem dX5_sets_13 : decode cX5_sets 13 = .ok (.getfield 14, 3) := by decide +kernel
theorem dX5_sets_16 : decode cX5_sets 16 = .ok (.iload_n 1, 1) := by decide +kernel
theorem dX5_sets_17 : decode cX5_sets 17 = .ok (.iload_n 2, 1) := by decide +kernel
theorem dX5_sets_18 : decode cX5_sets 18 = .ok (.iload_n 3, 1) := by decide +kernel
theorem dX5_sets_19 : decode cX5_sets 19 = .ok (.invokevirtual 63, 3) := by decide +kernel
theorem dX5_sets_22 : decode cX5_sets 22 = .ok (.invokevirtual 59, 3) := by decide +kernel
theorem dX5_sets_25 : decode cX5_sets 25 = .ok (.ireturn, 1) := by decide +kernel
set_option maxRecDepth 20000 in
theorem ggX5_pipe_X3_mark : GoodIn wsX5_pipe wsX3_mark := goodIn_r _ [7, 8, 9, 10, 11, 12, 13, 14, 15, 16, 17, 18, 19, 20, 21, 22, 23, 24, 25, 26, 27, 28, 29, 30, 31, 32, 33, 34, 35, 36, 37, 38, 39, 106, 107, 108, 109, 110, 111, 112, 113, 114, 115, 116, 117, 118, 119, 120, 121] (by decide +kernel) (by decide +kernel)
set_option maxRecDepth 20000 in
theorem gX5_pipe_X3_mark : GoodIn wsX5_pipe (wsV RX5 52 RX3 yX3_mark wsX3_mark) := goodIn_app (goodIn_of _ (by decide +kernel)) ggX5_pipe_X3_mark
set_option maxRecDepth 20000 in
theorem ggX5_pipe_X0_addPipe : GoodIn wsX5_pipe wsX0_addPipe := goodIn_r _ [43, 19, 20, 21, 22, 23, 44, 45, 46, 13, 47, 15, 48, 49, 50, 51, 52, 53, 54, 18, 55, 56, 57, 58, 59, 60, 61, 62, 63, 64, 65, 66, 24, 67, 68, 69, 70, 71, 72, 73, 108, 109, 110, 111, 112, 113, 114, 115, 116, 117, 118, 119, 120, 121] (by decide +kernel) (by decide +kernel)
set_option maxRecDepth 20000 in
theorem gX5_pipe_X0_addPipe : GoodIn wsX5_pipe (wsV RX5 67 RX0 yX0_addPipe wsX0_addPipe) := goodIn_app (goodIn_of _ (by decide +kernel)) ggX5_pipe_X0_addPipe
set_option maxRecDepth 20000 in
theorem ggX5_pipe_X5_settled : GoodIn wsX5_pipe wsX5_settled := goodIn_r _ [77, 1, 78, 79, 80, 81, 49, 82, 83, 84, 85, 86, 87, 88, 6, 89, 9, 8, 90, 91, 92, 93, 94, 95, 96, 97, 98, 99, 100, 101, 102, 103, 104, 105, 106, 107, 122, 123, 124, 125] (by decide +kernel) (by decide +kernel)
set_option maxRecDepth 20000 in
theorem gX5_pipe_X5_settled : GoodIn wsX5_pipe (wsV RX5 59 RX5 yX5_settled wsX5_settled) := goodIn_app (goodIn_of _ (by decide +kernel)) ggX5_pipe_X5_settled
theorem dX5_pipe_0 : decode cX5_pipe 0 = .ok (.aload_n 0, 1) := by decide +kernel
theorem dX5_pipe_1 : decode cX5_pipe 1 = .ok (.getfield 21, 3) := by decide +kernel
theorem dX5_pipe_4 : decode cX5_pipe 4 = .ok (.aload_n 0, 1) := by decide +kernel
theorem dX5_pipe_5 : decode cX5_pipe 5 = .ok (.getfield 14, 3) := by decide +kernel
theorem dX5_pipe_8 : decode cX5_pipe 8 = .ok (.invokevirtual 52, 3) := by decide +kernel
theorem dX5_pipe_11 : decode cX5_pipe 11 = .ok (.aload_n 0, 1) := by decide +kernel
theorem dX5_pipe_12 : decode cX5_pipe 12 = .ok (.aload_n 0, 1) := by decide +kernel
theorem dX5_pipe_13 : decode cX5_pipe 13 = .ok (.getfield 14, 3) := by decide +kernel
theorem dX5_pipe_16 : decode cX5_pipe 16 = .ok (.iload_n 1, 1) := by decide +kernel
theorem dX5_pipe_17 : decode cX5_pipe 17 = .ok (.iload_n 2, 1) := by decide +kernel
theorem dX5_pipe_18 : decode cX5_pipe 18 = .ok (.iload_n 3, 1) := by decide +kernel
theorem dX5_pipe_19 : decode cX5_pipe 19 = .ok (.iload 4, 2) := by decide +kernel
theorem dX5_pipe_21 : decode cX5_pipe 21 = .ok (.invokevirtual 67, 3) := by decide +kernel
theorem dX5_pipe_24 : decode cX5_pipe 24 = .ok (.invokevirtual 59, 3) := by decide +kernel
theorem dX5_pipe_27 : decode cX5_pipe 27 = .ok (.ireturn, 1) := by decide +kernel
set_option maxRecDepth 20000 in
theorem ggX5_drops_X3_mark : GoodIn wsX5_drops wsX3_mark := goodIn_r _ [7, 8, 9, 10, 11, 12, 13, 14, 15, 16, 17, 18, 19, 20, 21, 22, 23, 24, 25, 26, 27, 28, 29, 30, 31, 32, 33, 34, 35, 36, 37, 38, 39, 102, 103, 104, 105, 106, 107, 108, 109, 110, 111, 112, 113, 114, 115, 116, 117] (by decide +kernel) (by decide +kernel)
set_option maxRecDepth 20000 in
theorem gX5_drops_X3_mark : GoodIn wsX5_drops (wsV RX5 52 RX3 yX3_mark wsX3_mark) := goodIn_app (goodIn_of _ (by decide +kernel)) ggX5_drops_X3_mark
set_option maxRecDepth 20000 in
theorem ggX5_drops_X0_dropPipe : GoodIn wsX5_drops wsX0_dropPipe := goodIn_r _ [43, 19, 20, 21, 22, 23, 44, 45, 46, 13, 47, 48, 49, 50, 51, 52, 53, 54, 55, 56, 57, 58, 15, 18, 59, 60, 61, 62, 24, 63, 64, 65, 66, 67, 68, 69, 104, 105, 106, 107, 108, 109, 110, 111, 112, 113, 114, 115, 116, 117] (by decide +kernel) (by decide +kernel)
set_option maxRecDepth 20000 in
theorem gX5_drops_X0_dropPipe : GoodIn wsX5_drops (wsV RX5 71 RX0 yX0_dropPipe wsX0_dropPipe) := goodIn_app (goodIn_of _ (by decide +kernel)) ggX5_drops_X0_dropPipe
set_option maxRecDepth 20000 in
theorem ggX5_drops_X5_settled : GoodIn wsX5_drops wsX5_settled := goodIn_r _ [73, 1, 74, 75, 76, 77, 49, 78, 79, 80, 81, 82, 83, 84, 6, 85, 9, 8, 86, 87, 88, 89, 90, 91, 92, 93, 94, 95, 96, 97, 98, 99, 100, 101, 102, 103, 118, 119, 120, 121] (by decide +kernel) (by decide +kernel)
set_option maxRecDepth 20000 in
theorem gX5_drops_X5_settled : GoodIn wsX5_drops (wsV RX5 59 RX5 yX5_settled wsX5_settled) := goodIn_app (goodIn_of _ (by decide +kernel)) ggX5_drops_X5_settled
theorem dX5_drops_0 : decode cX5_drops 0 = .ok (.aload_n 0, 1) := by decide +kernel
theorem dX5_drops_1 : decode cX5_drops 1 = .ok (.getfield 21, 3) := by decide +kernel
theorem dX5_drops_4 : decode cX5_drops 4 = .ok (.aload_n 0, 1) := by decide +kernel
theorem dX5_drops_5 : decode cX5_drops 5 = .ok (.getfield 14, 3) := by decide +kernel
theorem dX5_drops_8 : decode cX5_drops 8 = .ok (.invokevirtual 52, 3) := by decide +kernel
theorem dX5_drops_11 : decode cX5_drops 11 = .ok (.aload_n 0, 1) := by decide +kernel
theorem dX5_drops_12 : decode cX5_drops 12 = .ok (.aload_n 0, 1) := by decide +kernel
theorem dX5_drops_13 : decode cX5_drops 13 = .ok (.getfield 14, 3) := by decide +kernel
theorem dX5_drops_16 : decode cX5_drops 16 = .ok (.iload_n 1, 1) := by decide +kernel
theorem dX5_drops_17 : decode cX5_drops 17 = .ok (.invokevirtual 71, 3) := by decide +kernel
theorem dX5_drops_20 : decode cX5_drops 20 = .ok (.invokevirtual 59, 3) := by decide +kernel
theorem dX5_drops_23 : decode cX5_drops 23 = .ok (.ireturn, 1) := by decide +kernel
set_option maxRecDepth 20000 in
theorem ggX5_of_X0_hasShaft : GoodIn wsX5_of wsX0_hasShaft := goodIn_r _ [11, 12, 13, 14, 15, 47, 48, 49, 50, 51, 52, 53, 54, 55, 56, 57, 58, 59, 60] (by decide +kernel) (by decide +kernel)
set_option maxRecDepth 20000 in
theorem gX5_of_X0_hasShaft : GoodIn wsX5_of (wsV RX5 74 RX0 yX0_hasShaft wsX0_hasShaft) := goodIn_app (goodIn_of _ (by decide +kernel)) ggX5_of_X0_hasShaft
set_option maxRecDepth 20000 in
theorem ggX5_of_X5_refused : GoodIn wsX5_of wsX5_refused := goodIn_r _ [19, 20, 21, 22, 37, 38, 39, 40, 41, 42, 43, 44, 45, 46] (by decide +kernel) (by decide +kernel)
set_option maxRecDepth 20000 in
theorem gX5_of_X5_refused : GoodIn wsX5_of (wsV RX5 78 RX5 yX5_refused wsX5_refused) := goodIn_app (goodIn_of _ (by decide +kernel)) ggX5_of_X5_refused
set_option maxRecDepth 20000 in
theorem ggX5_of_X0_pipesAt : GoodIn wsX5_of wsX0_pipesAt := goodIn_r _ [26, 27, 47, 48, 49, 50, 51, 52, 53, 54, 55, 56, 57, 58, 59, 60] (by decide +kernel) (by decide +kernel)
set_option maxRecDepth 20000 in
theorem gX5_of_X0_pipesAt : GoodIn wsX5_of (wsV RX5 91 RX0 yX0_pipesAt wsX0_pipesAt) := goodIn_app (goodIn_of _ (by decide +kernel)) ggX5_of_X0_pipesAt
set_option maxRecDepth 20000 in
theorem ggX5_of_X0_above : GoodIn wsX5_of wsX0_above := goodIn_r _ [31, 12, 32, 33, 34, 10, 35, 36, 47, 48, 49, 50, 51, 52, 53, 54, 55, 56, 57, 58, 59, 60] (by decide +kernel) (by decide +kernel)
set_option maxRecDepth 20000 in
theorem gX5_of_X0_above : GoodIn wsX5_of (wsV RX5 101 RX0 yX0_above wsX0_above) := goodIn_app (goodIn_of _ (by decide +kernel)) ggX5_of_X0_above
theorem dX5_of_0 : decode cX5_of 0 = .ok (.aload_n 0, 1) := by decide +kernel
theorem dX5_of_1 : decode cX5_of 1 = .ok (.getfield 14, 3) := by decide +kernel
theorem dX5_of_4 : decode cX5_of 4 = .ok (.iload_n 1, 1) := by decide +kernel
theorem dX5_of_5 : decode cX5_of 5 = .ok (.invokevirtual 74, 3) := by decide +kernel
theorem dX5_of_8 : decode cX5_of 8 = .ok (.ifCond .ne 10, 3) := by decide +kernel
theorem dX5_of_11 : decode cX5_of 11 = .ok (.aload_n 0, 1) := by decide +kernel
theorem dX5_of_12 : decode cX5_of 12 = .ok (.bipush (-2), 2) := by decide +kernel
theorem dX5_of_14 : decode cX5_of 14 = .ok (.invokevirtual 78, 3) := by decide +kernel
theorem dX5_of_17 : decode cX5_of 17 = .ok (.ireturn, 1) := by decide +kernel
theorem dX5_of_18 : decode cX5_of 18 = .ok (.iload_n 2, 1) := by decide +kernel
theorem dX5_of_19 : decode cX5_of 19 = .ok (.tableswitch 108 0 5 #[37, 47, 57, 73, 89, 99], 37) := by decide +kernel
theorem dX5_of_56 : decode cX5_of 56 = .ok (.aload_n 0, 1) := by decide +kernel
theorem dX5_of_57 : decode cX5_of 57 = .ok (.getfield 14, 3) := by decide +kernel
theorem dX5_of_60 : decode cX5_of 60 = .ok (.getfield 81, 3) := by decide +kernel
theorem dX5_of_63 : decode cX5_of 63 = .ok (.iload_n 1, 1) := by decide +kernel
theorem dX5_of_64 : decode cX5_of 64 = .ok (.iaload, 1) := by decide +kernel
theorem dX5_of_65 : decode cX5_of 65 = .ok (.ireturn, 1) := by decide +kernel
theorem dX5_of_66 : decode cX5_of 66 = .ok (.aload_n 0, 1) := by decide +kernel
theorem dX5_of_67 : decode cX5_of 67 = .ok (.getfield 14, 3) := by decide +kernel
theorem dX5_of_70 : decode cX5_of 70 = .ok (.getfield 85, 3) := by decide +kernel
theorem dX5_of_73 : decode cX5_of 73 = .ok (.iload_n 1, 1) := by decide +kernel
theorem dX5_of_74 : decode cX5_of 74 = .ok (.iaload, 1) := by decide +kernel
theorem dX5_of_75 : decode cX5_of 75 = .ok (.ireturn, 1) := by decide +kernel
theorem dX5_of_76 : decode cX5_of 76 = .ok (.aload_n 0, 1) := by decide +kernel
theorem dX5_of_77 : decode cX5_of 77 = .ok (.getfield 14, 3) := by decide +kernel
theorem dX5_of_80 : decode cX5_of 80 = .ok (.aload_n 0, 1) := by decide +kernel
theorem dX5_of_81 : decode cX5_of 81 = .ok (.getfield 14, 3) := by decide +kernel
theorem dX5_of_84 : decode cX5_of 84 = .ok (.getfield 88, 3) := by decide +kernel
theorem dX5_of_87 : decode cX5_of 87 = .ok (.iload_n 1, 1) := by decide +kernel
theorem dX5_of_88 : decode cX5_of 88 = .ok (.invokevirtual 91, 3) := by decide +kernel
theorem dX5_of_91 : decode cX5_of 91 = .ok (.ireturn, 1) := by decide +kernel
theorem dX5_of_92 : decode cX5_of 92 = .ok (.aload_n 0, 1) := by decide +kernel
theorem dX5_of_93 : decode cX5_of 93 = .ok (.getfield 14, 3) := by decide +kernel
theorem dX5_of_96 : decode cX5_of 96 = .ok (.aload_n 0, 1) := by decide +kernel
theorem dX5_of_97 : decode cX5_of 97 = .ok (.getfield 14, 3) := by decide +kernel
theorem dX5_of_100 : decode cX5_of 100 = .ok (.getfield 95, 3) := by decide +kernel
theorem dX5_of_103 : decode cX5_of 103 = .ok (.iload_n 1, 1) := by decide +kernel
theorem dX5_of_104 : decode cX5_of 104 = .ok (.invokevirtual 91, 3) := by decide +kernel
theorem dX5_of_107 : decode cX5_of 107 = .ok (.ireturn, 1) := by decide +kernel
theorem dX5_of_108 : decode cX5_of 108 = .ok (.aload_n 0, 1) := by decide +kernel
theorem dX5_of_109 : decode cX5_of 109 = .ok (.getfield 14, 3) := by decide +kernel
theorem dX5_of_112 : decode cX5_of 112 = .ok (.getfield 98, 3) := by decide +kernel
theorem dX5_of_115 : decode cX5_of 115 = .ok (.iload_n 1, 1) := by decide +kernel
theorem dX5_of_116 : decode cX5_of 116 = .ok (.iaload, 1) := by decide +kernel
theorem dX5_of_117 : decode cX5_of 117 = .ok (.ireturn, 1) := by decide +kernel
theorem dX5_of_118 : decode cX5_of 118 = .ok (.aload_n 0, 1) := by decide +kernel
theorem dX5_of_119 : decode cX5_of 119 = .ok (.getfield 14, 3) := by decide +kernel
theorem dX5_of_122 : decode cX5_of 122 = .ok (.iload_n 1, 1) := by decide +kernel
theorem dX5_of_123 : decode cX5_of 123 = .ok (.invokevirtual 101, 3) := by decide +kernel
theorem dX5_of_126 : decode cX5_of 126 = .ok (.ireturn, 1) := by decide +kernel
theorem dX5_of_127 : decode cX5_of 127 = .ok (.aload_n 0, 1) := by decide +kernel
theorem dX5_of_128 : decode cX5_of 128 = .ok (.bipush (-2), 2) := by decide +kernel
theorem dX5_of_130 : decode cX5_of 130 = .ok (.invokevirtual 78, 3) := by decide +kernel
theorem dX5_of_133 : decode cX5_of 133 = .ok (.ireturn, 1) := by decide +kernel
set_option maxRecDepth 20000 in
theorem ggX5_about_X0_hasPipe : GoodIn wsX5_about wsX0_hasPipe := goodIn_r _ [10, 11, 12, 13, 14, 32, 33, 34, 35, 36, 37, 38, 39, 40, 41, 42, 43, 44, 45] (by decide +kernel) (by decide +kernel)
set_option maxRecDepth 20000 in
theorem gX5_about_X0_hasPipe : GoodIn wsX5_about (wsV RX5 104 RX0 yX0_hasPipe wsX0_hasPipe) := goodIn_app (goodIn_of _ (by decide +kernel)) ggX5_about_X0_hasPipe
set_option maxRecDepth 20000 in
theorem ggX5_about_X5_refused : GoodIn wsX5_about wsX5_refused := goodIn_r _ [18, 19, 20, 21, 22, 23, 24, 25, 26, 27, 28, 29, 30, 31] (by decide +kernel) (by decide +kernel)
set_option maxRecDepth 20000 in
theorem gX5_about_X5_refused : GoodIn wsX5_about (wsV RX5 78 RX5 yX5_refused wsX5_refused) := goodIn_app (goodIn_of _ (by decide +kernel)) ggX5_about_X5_refused
theorem dX5_about_0 : decode cX5_about 0 = .ok (.aload_n 0, 1) := by decide +kernel
theorem dX5_about_1 : decode cX5_about 1 = .ok (.getfield 14, 3) := by decide +kernel
theorem dX5_about_4 : decode cX5_about 4 = .ok (.iload_n 1, 1) := by decide +kernel
theorem dX5_about_5 : decode cX5_about 5 = .ok (.invokevirtual 104, 3) := by decide +kernel
theorem dX5_about_8 : decode cX5_about 8 = .ok (.ifCond .ne 10, 3) := by decide +kernel
theorem dX5_about_11 : decode cX5_about 11 = .ok (.aload_n 0, 1) := by decide +kernel
theorem dX5_about_12 : decode cX5_about 12 = .ok (.bipush (-2), 2) := by decide +kernel
theorem dX5_about_14 : decode cX5_about 14 = .ok (.invokevirtual 78, 3) := by decide +kernel
theorem dX5_about_17 : decode cX5_about 17 = .ok (.ireturn, 1) := by decide +kernel
theorem dX5_about_18 : decode cX5_about 18 = .ok (.iload_n 2, 1) := by decide +kernel
theorem dX5_about_19 : decode cX5_about 19 = .ok (.tableswitch 69 0 3 #[29, 39, 49, 59], 29) := by decide +kernel
theorem dX5_about_48 : decode cX5_about 48 = .ok (.aload_n 0, 1) := by decide +kernel
theorem dX5_about_49 : decode cX5_about 49 = .ok (.getfield 14, 3) := by decide +kernel
theorem dX5_about_52 : decode cX5_about 52 = .ok (.getfield 88, 3) := by decide +kernel
theorem dX5_about_55 : decode cX5_about 55 = .ok (.iload_n 1, 1) := by decide +kernel
theorem dX5_about_56 : decode cX5_about 56 = .ok (.iaload, 1) := by decide +kernel
theorem dX5_about_57 : decode cX5_about 57 = .ok (.ireturn, 1) := by decide +kernel
theorem dX5_about_58 : decode cX5_about 58 = .ok (.aload_n 0, 1) := by decide +kernel
theorem dX5_about_59 : decode cX5_about 59 = .ok (.getfield 14, 3) := by decide +kernel
theorem dX5_about_62 : decode cX5_about 62 = .ok (.getfield 95, 3) := by decide +kernel
theorem dX5_about_65 : decode cX5_about 65 = .ok (.iload_n 1, 1) := by decide +kernel
theorem dX5_about_66 : decode cX5_about 66 = .ok (.iaload, 1) := by decide +kernel
theorem dX5_about_67 : decode cX5_about 67 = .ok (.ireturn, 1) := by decide +kernel
theorem dX5_about_68 : decode cX5_about 68 = .ok (.aload_n 0, 1) := by decide +kernel
theorem dX5_about_69 : decode cX5_about 69 = .ok (.getfield 14, 3) := by decide +kernel
theorem dX5_about_72 : decode cX5_about 72 = .ok (.getfield 107, 3) := by decide +kernel
theorem dX5_about_75 : decode cX5_about 75 = .ok (.iload_n 1, 1) := by decide +kernel
theorem dX5_about_76 : decode cX5_about 76 = .ok (.iaload, 1) := by decide +kernel
theorem dX5_about_77 : decode cX5_about 77 = .ok (.ireturn, 1) := by decide +kernel
theorem dX5_about_78 : decode cX5_about 78 = .ok (.aload_n 0, 1) := by decide +kernel
theorem dX5_about_79 : decode cX5_about 79 = .ok (.getfield 14, 3) := by decide +kernel
theorem dX5_about_82 : decode cX5_about 82 = .ok (.getfield 110, 3) := by decide +kernel
theorem dX5_about_85 : decode cX5_about 85 = .ok (.iload_n 1, 1) := by decide +kernel
theorem dX5_about_86 : decode cX5_about 86 = .ok (.iaload, 1) := by decide +kernel
theorem dX5_about_87 : decode cX5_about 87 = .ok (.ireturn, 1) := by decide +kernel
theorem dX5_about_88 : decode cX5_about 88 = .ok (.aload_n 0, 1) := by decide +kernel
theorem dX5_about_89 : decode cX5_about 89 = .ok (.bipush (-2), 2) := by decide +kernel
theorem dX5_about_91 : decode cX5_about 91 = .ok (.invokevirtual 78, 3) := by decide +kernel
theorem dX5_about_94 : decode cX5_about 94 = .ok (.ireturn, 1) := by decide +kernel
set_option maxRecDepth 20000 in
theorem ggX5_comes_X5_isStart : GoodIn wsX5_comes wsX5_isStart := goodIn_r _ [8, 1, 9, 10, 11, 12, 13, 14, 15, 7, 16, 17, 57, 58, 59, 60, 61, 62, 63, 64, 65, 66, 71, 72, 73, 74, 75, 76, 77, 78, 79, 80, 81, 82, 83, 84] (by decide +kernel) (by decide +kernel)
set_option maxRecDepth 20000 in
theorem gX5_comes_X5_isStart : GoodIn wsX5_comes (wsV RX5 113 RX5 yX5_isStart wsX5_isStart) := goodIn_app (goodIn_of _ (by decide +kernel)) ggX5_comes_X5_isStart
set_option maxRecDepth 20000 in
theorem ggX5_comes_X0_hasShaft : GoodIn wsX5_comes wsX0_hasShaft := goodIn_r _ [13, 14, 15, 7, 16, 71, 72, 73, 74, 75, 76, 77, 78, 79, 80, 81, 82, 83, 84] (by decide +kernel) (by decide +kernel)
set_option maxRecDepth 20000 in
theorem gX5_comes_X0_hasShaft : GoodIn wsX5_comes (wsV RX5 74 RX0 yX0_hasShaft wsX0_hasShaft) := goodIn_app (goodIn_of _ (by decide +kernel)) ggX5_comes_X0_hasShaft
set_option maxRecDepth 20000 in
theorem ggX5_comes_X5_refused : GoodIn wsX5_comes wsX5_refused := goodIn_r _ [21, 22, 23, 24, 57, 58, 59, 60, 61, 62, 63, 64, 65, 66] (by decide +kernel) (by decide +kernel)
set_option maxRecDepth 20000 in
theorem gX5_comes_X5_refused : GoodIn wsX5_comes (wsV RX5 78 RX5 yX5_refused wsX5_refused) := goodIn_app (goodIn_of _ (by decide +kernel)) ggX5_comes_X5_refused
set_option maxRecDepth 20000 in
theorem ggX5_comes_X1_walk : GoodIn wsX5_comes wsX1_walk := goodIn_r _ [29, 30, 31, 32, 33, 34, 35, 36, 37, 38, 39, 40, 41, 42, 12, 43, 44, 45, 46, 47, 48, 49, 50, 51, 52, 53, 54, 55, 56, 67, 68, 69, 70, 71, 72, 73, 74, 75, 76, 77, 78, 79, 80, 81, 82, 83, 84] (by decide +kernel) (by decide +kernel)
set_option maxRecDepth 20000 in
theorem gX5_comes_X1_walk : GoodIn wsX5_comes (wsV RX5 117 RX1 yX1_walk wsX1_walk) := goodIn_app (goodIn_of _ (by decide +kernel)) ggX5_comes_X1_walk
theorem dX5_comes_0 : decode cX5_comes 0 = .ok (.aload_n 0, 1) := by decide +kernel
theorem dX5_comes_1 : decode cX5_comes 1 = .ok (.iload_n 1, 1) := by decide +kernel
theorem dX5_comes_2 : decode cX5_comes 2 = .ok (.iload_n 2, 1) := by decide +kernel
theorem dX5_comes_3 : decode cX5_comes 3 = .ok (.invokevirtual 113, 3) := by decide +kernel
theorem dX5_comes_6 : decode cX5_comes 6 = .ok (.ifCond .eq 14, 3) := by decide +kernel
theorem dX5_comes_9 : decode cX5_comes 9 = .ok (.aload_n 0, 1) := by decide +kernel
theorem dX5_comes_10 : decode cX5_comes 10 = .ok (.getfield 14, 3) := by decide +kernel
theorem dX5_comes_13 : decode cX5_comes 13 = .ok (.iload_n 3, 1) := by decide +kernel
theorem dX5_comes_14 : decode cX5_comes 14 = .ok (.invokevirtual 74, 3) := by decide +kernel
theorem dX5_comes_17 : decode cX5_comes 17 = .ok (.ifCond .ne 11, 3) := by decide +kernel
theorem dX5_comes_20 : decode cX5_comes 20 = .ok (.aload_n 0, 1) := by decide +kernel
theorem dX5_comes_21 : decode cX5_comes 21 = .ok (.bipush (-2), 2) := by decide +kernel
theorem dX5_comes_23 : decode cX5_comes 23 = .ok (.invokevirtual 78, 3) := by decide +kernel
theorem dX5_comes_26 : decode cX5_comes 26 = .ok (.i2l, 1) := by decide +kernel
theorem dX5_comes_27 : decode cX5_comes 27 = .ok (.lreturn, 1) := by decide +kernel
theorem dX5_comes_28 : decode cX5_comes 28 = .ok (.aload_n 0, 1) := by decide +kernel
theorem dX5_comes_29 : decode cX5_comes 29 = .ok (.getfield 30, 3) := by decide +kernel
theorem dX5_comes_32 : decode cX5_comes 32 = .ok (.iload_n 1, 1) := by decide +kernel
theorem dX5_comes_33 : decode cX5_comes 33 = .ok (.iload_n 2, 1) := by decide +kernel
theorem dX5_comes_34 : decode cX5_comes 34 = .ok (.invokevirtual 117, 3) := by decide +kernel
theorem dX5_comes_37 : decode cX5_comes 37 = .ok (.aload_n 0, 1) := by decide +kernel
theorem dX5_comes_38 : decode cX5_comes 38 = .ok (.getfield 30, 3) := by decide +kernel
theorem dX5_comes_41 : decode cX5_comes 41 = .ok (.getfield 121, 3) := by decide +kernel
theorem dX5_comes_44 : decode cX5_comes 44 = .ok (.iload_n 3, 1) := by decide +kernel
theorem dX5_comes_45 : decode cX5_comes 45 = .ok (.laload, 1) := by decide +kernel
theorem dX5_comes_46 : decode cX5_comes 46 = .ok (.lreturn, 1) := by decide +kernel
set_option maxRecDepth 20000 in
theorem ggX5_times_X5_isStart : GoodIn wsX5_times wsX5_isStart := goodIn_r _ [8, 1, 9, 10, 11, 12, 13, 14, 15, 7, 16, 17, 78, 79, 80, 81, 82, 83, 84, 85, 86, 87, 92, 93, 94, 95, 96, 97, 98, 99, 100, 101, 102, 103, 104, 105] (by decide +kernel) (by decide +kernel)
set_option maxRecDepth 20000 in
theorem gX5_times_X5_isStart : GoodIn wsX5_times (wsV RX5 113 RX5 yX5_isStart wsX5_isStart) := goodIn_app (goodIn_of _ (by decide +kernel)) ggX5_times_X5_isStart
set_option maxRecDepth 20000 in
theorem ggX5_times_X0_hasShaft : GoodIn wsX5_times wsX0_hasShaft := goodIn_r _ [13, 14, 15, 7, 16, 92, 93, 94, 95, 96, 97, 98, 99, 100, 101, 102, 103, 104, 105] (by decide +kernel) (by decide +kernel)
set_option maxRecDepth 20000 in
theorem gX5_times_X0_hasShaft : GoodIn wsX5_times (wsV RX5 74 RX0 yX0_hasShaft wsX0_hasShaft) := goodIn_app (goodIn_of _ (by decide +kernel)) ggX5_times_X0_hasShaft
set_option maxRecDepth 20000 in
theorem ggX5_times_X5_within : GoodIn wsX5_times wsX5_within := goodIn_r _ [16] (by decide +kernel) (by decide +kernel)
set_option maxRecDepth 20000 in
theorem gX5_times_X5_within : GoodIn wsX5_times (va_wsS RX5 125 yX5_within wsX5_within) := goodIn_app (goodIn_of _ (by decide +kernel)) ggX5_times_X5_within
set_option maxRecDepth 20000 in
theorem ggX5_times_X5_refused : GoodIn wsX5_times wsX5_refused := goodIn_r _ [21, 22, 23, 24, 78, 79, 80, 81, 82, 83, 84, 85, 86, 87] (by decide +kernel) (by decide +kernel)
set_option maxRecDepth 20000 in
theorem gX5_times_X5_refused : GoodIn wsX5_times (wsV RX5 78 RX5 yX5_refused wsX5_refused) := goodIn_app (goodIn_of _ (by decide +kernel)) ggX5_times_X5_refused
set_option maxRecDepth 20000 in
theorem ggX5_times_X1_walk : GoodIn wsX5_times wsX1_walk := goodIn_r _ [29, 30, 31, 32, 33, 34, 35, 36, 37, 38, 39, 40, 41, 42, 12, 43, 44, 45, 46, 47, 48, 49, 50, 51, 52, 53, 54, 55, 56, 88, 89, 90, 91, 92, 93, 94, 95, 96, 97, 98, 99, 100, 101, 102, 103, 104, 105] (by decide +kernel) (by decide +kernel)
set_option maxRecDepth 20000 in
theorem gX5_times_X1_walk : GoodIn wsX5_times (wsV RX5 117 RX1 yX1_walk wsX1_walk) := goodIn_app (goodIn_of _ (by decide +kernel)) ggX5_times_X1_walk
set_option maxRecDepth 20000 in
theorem ggX5_times_J13_bitCount_95d88 : GoodIn wsX5_times wsJ13_bitCount_95d88 := goodIn_r _ [60, 61, 62, 63] (by decide +kernel) (by decide +kernel)
set_option maxRecDepth 20000 in
theorem gX5_times_J13_bitCount_95d88 : GoodIn wsX5_times (va_wsS RX5 129 yJ13_bitCount_95d88 wsJ13_bitCount_95d88) := goodIn_app (goodIn_of _ (by decide +kernel)) ggX5_times_J13_bitCount_95d88
set_option maxRecDepth 20000 in
theorem ggX5_times_J13_numberOfTrailingZeros_95d88 : GoodIn wsX5_times wsJ13_numberOfTrailingZeros_95d88 := goodIn_r _ [66, 67, 68, 69, 70, 71] (by decide +kernel) (by decide +kernel)
set_option maxRecDepth 20000 in
theorem gX5_times_J13_numberOfTrailingZeros_95d88 : GoodIn wsX5_times (va_wsS RX5 133 yJ13_numberOfTrailingZeros_95d88 wsJ13_numberOfTrailingZeros_95d88) := goodIn_app (goodIn_of _ (by decide +kernel)) ggX5_times_J13_numberOfTrailingZeros_95d88
set_option maxRecDepth 20000 in
theorem ggX5_times_J13_numberOfLeadingZeros_95d88 : GoodIn wsX5_times wsJ13_numberOfLeadingZeros_95d88 := goodIn_r _ [74, 75, 76, 69, 77, 71] (by decide +kernel) (by decide +kernel)
set_option maxRecDepth 20000 in
theorem gX5_times_J13_numberOfLeadingZeros_95d88 : GoodIn wsX5_times (va_wsS RX5 136 yJ13_numberOfLeadingZeros_95d88 wsJ13_numberOfLeadingZeros_95d88) := goodIn_app (goodIn_of _ (by decide +kernel)) ggX5_times_J13_numberOfLeadingZeros_95d88
theorem dX5_times_0 : decode cX5_times 0 = .ok (.aload_n 0, 1) := by decide +kernel
theorem dX5_times_1 : decode cX5_times 1 = .ok (.iload_n 1, 1) := by decide +kernel
theorem dX5_times_2 : decode cX5_times 2 = .ok (.iload_n 2, 1) := by decide +kernel
theorem dX5_times_3 : decode cX5_times 3 = .ok (.invokevirtual 113, 3) := by decide +kernel
theorem dX5_times_6 : decode cX5_times 6 = .ok (.ifCond .eq 24, 3) := by decide +kernel
theorem dX5_times_9 : decode cX5_times 9 = .ok (.aload_n 0, 1) := by decide +kernel
theorem dX5_times_10 : decode cX5_times 10 = .ok (.getfield 14, 3) := by decide +kernel
theorem dX5_times_13 : decode cX5_times 13 = .ok (.iload_n 3, 1) := by decide +kernel
theorem dX5_times_14 : decode cX5_times 14 = .ok (.invokevirtual 74, 3) := by decide +kernel
theorem dX5_times_17 : decode cX5_times 17 = .ok (.ifCond .eq 13, 3) := by decide +kernel
theorem dX5_times_20 : decode cX5_times 20 = .ok (.iload 4, 2) := by decide +kernel
theorem dX5_times_22 : decode cX5_times 22 = .ok (.iconst 0, 1) := by decide +kernel
theorem dX5_times_23 : decode cX5_times 23 = .ok (.iconst 2, 1) := by decide +kernel
theorem dX5_times_24 : decode cX5_times 24 = .ok (.invokestatic 125, 3) := by decide +kernel
theorem dX5_times_27 : decode cX5_times 27 = .ok (.ifCond .ne 10, 3) := by decide +kernel
theorem dX5_times_30 : decode cX5_times 30 = .ok (.aload_n 0, 1) := by decide +kernel
theorem dX5_times_31 : decode cX5_times 31 = .ok (.bipush (-2), 2) := by decide +kernel
theorem dX5_times_33 : decode cX5_times 33 = .ok (.invokevirtual 78, 3) := by decide +kernel
theorem dX5_times_36 : decode cX5_times 36 = .ok (.ireturn, 1) := by decide +kernel
theorem dX5_times_37 : decode cX5_times 37 = .ok (.aload_n 0, 1) := by decide +kernel
theorem dX5_times_38 : decode cX5_times 38 = .ok (.getfield 30, 3) := by decide +kernel
theorem dX5_times_41 : decode cX5_times 41 = .ok (.iload_n 1, 1) := by decide +kernel
theorem dX5_times_42 : decode cX5_times 42 = .ok (.iload_n 2, 1) := by decide +kernel
theorem dX5_times_43 : decode cX5_times 43 = .ok (.invokevirtual 117, 3) := by decide +kernel
theorem dX5_times_46 : decode cX5_times 46 = .ok (.aload_n 0, 1) := by decide +kernel
theorem dX5_times_47 : decode cX5_times 47 = .ok (.getfield 30, 3) := by decide +kernel
theorem dX5_times_50 : decode cX5_times 50 = .ok (.getfield 121, 3) := by decide +kernel
theorem dX5_times_53 : decode cX5_times 53 = .ok (.iload_n 3, 1) := by decide +kernel
theorem dX5_times_54 : decode cX5_times 54 = .ok (.laload, 1) := by decide +kernel
theorem dX5_times_55 : decode cX5_times 55 = .ok (.lstore 5, 2) := by decide +kernel
theorem dX5_times_57 : decode cX5_times 57 = .ok (.iload 4, 2) := by decide +kernel
theorem dX5_times_59 : decode cX5_times 59 = .ok (.iconst 2, 1) := by decide +kernel
theorem dX5_times_60 : decode cX5_times 60 = .ok (.if_icmp .ne 9, 3) := by decide +kernel
theorem dX5_times_63 : decode cX5_times 63 = .ok (.lload 5, 2) := by decide +kernel
theorem dX5_times_65 : decode cX5_times 65 = .ok (.invokestatic 129, 3) := by decide +kernel
theorem dX5_times_68 : decode cX5_times 68 = .ok (.ireturn, 1) := by decide +kernel
theorem dX5_times_69 : decode cX5_times 69 = .ok (.lload 5, 2) := by decide +kernel
theorem dX5_times_71 : decode cX5_times 71 = .ok (.lconst 0, 1) := by decide +kernel
theorem dX5_times_72 : decode cX5_times 72 = .ok (.lcmp, 1) := by decide +kernel
theorem dX5_times_73 : decode cX5_times 73 = .ok (.ifCond .ne 5, 3) := by decide +kernel
theorem dX5_times_76 : decode cX5_times 76 = .ok (.iconst (-1), 1) := by decide +kernel
theorem dX5_times_77 : decode cX5_times 77 = .ok (.ireturn, 1) := by decide +kernel
theorem dX5_times_78 : decode cX5_times 78 = .ok (.iload 4, 2) := by decide +kernel
theorem dX5_times_80 : decode cX5_times 80 = .ok (.ifCond .ne 11, 3) := by decide +kernel
theorem dX5_times_83 : decode cX5_times 83 = .ok (.lload 5, 2) := by decide +kernel
theorem dX5_times_85 : decode cX5_times 85 = .ok (.invokestatic 133, 3) := by decide +kernel
theorem dX5_times_88 : decode cX5_times 88 = .ok (.goto 11, 3) := by decide +kernel
theorem dX5_times_91 : decode cX5_times 91 = .ok (.bipush 63, 2) := by decide +kernel
theorem dX5_times_93 : decode cX5_times 93 = .ok (.lload 5, 2) := by decide +kernel
theorem dX5_times_95 : decode cX5_times 95 = .ok (.invokestatic 136, 3) := by decide +kernel
theorem dX5_times_98 : decode cX5_times 98 = .ok (.isub, 1) := by decide +kernel
theorem dX5_times_99 : decode cX5_times 99 = .ok (.ireturn, 1) := by decide +kernel
set_option maxRecDepth 20000 in
theorem ggX5_leaves_X0_hasShaft : GoodIn wsX5_leaves wsX0_hasShaft := goodIn_r _ [6, 7, 8, 9, 10, 49, 50, 51, 52, 53, 54, 55, 56, 57, 58, 59, 60, 61, 62] (by decide +kernel) (by decide +kernel)
set_option maxRecDepth 20000 in
theorem gX5_leaves_X0_hasShaft : GoodIn wsX5_leaves (wsV RX5 74 RX0 yX0_hasShaft wsX0_hasShaft) := goodIn_app (goodIn_of _ (by decide +kernel)) ggX5_leaves_X0_hasShaft
set_option maxRecDepth 20000 in
theorem ggX5_leaves_X5_within : GoodIn wsX5_leaves wsX5_within := goodIn_r _ [10] (by decide +kernel) (by decide +kernel)
set_option maxRecDepth 20000 in
theorem gX5_leaves_X5_within : GoodIn wsX5_leaves (va_wsS RX5 125 yX5_within wsX5_within) := goodIn_app (goodIn_of _ (by decide +kernel)) ggX5_leaves_X5_within
set_option maxRecDepth 20000 in
theorem ggX5_leaves_X5_refused : GoodIn wsX5_leaves wsX5_refused := goodIn_r _ [15, 16, 17, 18, 39, 40, 41, 42, 43, 44, 45, 46, 47, 48] (by decide +kernel) (by decide +kernel)
set_option maxRecDepth 20000 in
theorem gX5_leaves_X5_refused : GoodIn wsX5_leaves (wsV RX5 78 RX5 yX5_refused wsX5_refused) := goodIn_app (goodIn_of _ (by decide +kernel)) ggX5_leaves_X5_refused
set_option maxRecDepth 20000 in
theorem ggX5_leaves_X0_leaving : GoodIn wsX5_leaves wsX0_leaving := goodIn_r _ [22, 23, 24, 25, 26, 27, 28, 5, 29, 49, 50, 51, 52, 53, 54, 55, 56, 57, 58, 59, 60, 61, 62] (by decide +kernel) (by decide +kernel)
set_option maxRecDepth 20000 in
theorem gX5_leaves_X0_leaving : GoodIn wsX5_leaves (wsV RX5 139 RX0 yX0_leaving wsX0_leaving) := goodIn_app (goodIn_of _ (by decide +kernel)) ggX5_leaves_X0_leaving
set_option maxRecDepth 20000 in
theorem ggX5_leaves_J13_numberOfTrailingZeros_95d88 : GoodIn wsX5_leaves wsJ13_numberOfTrailingZeros_95d88 := goodIn_r _ [33, 34, 35, 36, 37, 38] (by decide +kernel) (by decide +kernel)
set_option maxRecDepth 20000 in
theorem gX5_leaves_J13_numberOfTrailingZeros_95d88 : GoodIn wsX5_leaves (va_wsS RX5 133 yJ13_numberOfTrailingZeros_95d88 wsJ13_numberOfTrailingZeros_95d88) := goodIn_app (goodIn_of _ (by decide +kernel)) ggX5_leaves_J13_numberOfTrailingZeros_95d88
theorem dX5_leaves_0 : decode cX5_leaves 0 = .ok (.aload_n 0, 1) := by decide +kernel
theorem dX5_leaves_1 : decode cX5_leaves 1 = .ok (.getfield 14, 3) := by decide +kernel
theorem dX5_leaves_4 : decode cX5_leaves 4 = .ok (.iload_n 1, 1) := by decide +kernel
theorem dX5_leaves_5 : decode cX5_leaves 5 = .ok (.invokevirtual 74, 3) := by decide +kernel
theorem dX5_leaves_8 : decode cX5_leaves 8 = .ok (.ifCond .eq 13, 3) := by decide +kernel
theorem dX5_leaves_11 : decode cX5_leaves 11 = .ok (.iload_n 2, 1) := by decide +kernel
theorem dX5_leaves_12 : decode cX5_leaves 12 = .ok (.iconst 0, 1) := by decide +kernel
theorem dX5_leaves_13 : decode cX5_leaves 13 = .ok (.bipush 62, 2) := by decide +kernel
theorem dX5_leaves_15 : decode cX5_leaves 15 = .ok (.invokestatic 125, 3) := by decide +kernel
theorem dX5_leaves_18 : decode cX5_leaves 18 = .ok (.ifCond .ne 10, 3) := by decide +kernel
theorem dX5_leaves_21 : decode cX5_leaves 21 = .ok (.aload_n 0, 1) := by decide +kernel
theorem dX5_leaves_22 : decode cX5_leaves 22 = .ok (.bipush (-2), 2) := by decide +kernel
theorem dX5_leaves_24 : decode cX5_leaves 24 = .ok (.invokevirtual 78, 3) := by decide +kernel
theorem dX5_leaves_27 : decode cX5_leaves 27 = .ok (.ireturn, 1) := by decide +kernel
theorem dX5_leaves_28 : decode cX5_leaves 28 = .ok (.aload_n 0, 1) := by decide +kernel
theorem dX5_leaves_29 : decode cX5_leaves 29 = .ok (.getfield 14, 3) := by decide +kernel
theorem dX5_leaves_32 : decode cX5_leaves 32 = .ok (.iload_n 1, 1) := by decide +kernel
theorem dX5_leaves_33 : decode cX5_leaves 33 = .ok (.lconst 1, 1) := by decide +kernel
theorem dX5_leaves_34 : decode cX5_leaves 34 = .ok (.iload_n 2, 1) := by decide +kernel
theorem dX5_leaves_35 : decode cX5_leaves 35 = .ok (.lshl, 1) := by decide +kernel
theorem dX5_leaves_36 : decode cX5_leaves 36 = .ok (.invokevirtual 139, 3) := by decide +kernel
theorem dX5_leaves_39 : decode cX5_leaves 39 = .ok (.lstore_n 3, 1) := by decide +kernel
theorem dX5_leaves_40 : decode cX5_leaves 40 = .ok (.lload_n 3, 1) := by decide +kernel
theorem dX5_leaves_41 : decode cX5_leaves 41 = .ok (.lconst 0, 1) := by decide +kernel
theorem dX5_leaves_42 : decode cX5_leaves 42 = .ok (.lcmp, 1) := by decide +kernel
theorem dX5_leaves_43 : decode cX5_leaves 43 = .ok (.ifCond .ne 7, 3) := by decide +kernel
theorem dX5_leaves_46 : decode cX5_leaves 46 = .ok (.iconst (-1), 1) := by decide +kernel
theorem dX5_leaves_47 : decode cX5_leaves 47 = .ok (.goto 7, 3) := by decide +kernel
theorem dX5_leaves_50 : decode cX5_leaves 50 = .ok (.lload_n 3, 1) := by decide +kernel
theorem dX5_leaves_51 : decode cX5_leaves 51 = .ok (.invokestatic 133, 3) := by decide +kernel
theorem dX5_leaves_54 : decode cX5_leaves 54 = .ok (.ireturn, 1) := by decide +kernel
set_option maxRecDepth 20000 in
theorem ggX5_sight_X3_mark : GoodIn wsX5_sight wsX3_mark := goodIn_r _ [7, 8, 9, 10, 11, 12, 13, 14, 15, 16, 17, 18, 19, 20, 21, 22, 23, 24, 25, 26, 27, 28, 29, 30, 31, 32, 33, 34, 35, 36, 37, 38, 39, 83, 84, 85, 86, 87, 88, 89, 90, 91, 92, 93, 94, 95, 96, 97, 98] (by decide +kernel) (by decide +kernel)
set_option maxRecDepth 20000 in
theorem gX5_sight_X3_mark : GoodIn wsX5_sight (wsV RX5 52 RX3 yX3_mark wsX3_mark) := goodIn_app (goodIn_of _ (by decide +kernel)) ggX5_sight_X3_mark
set_option maxRecDepth 20000 in
theorem ggX5_sight_X0_addSight : GoodIn wsX5_sight wsX0_addSight := goodIn_r _ [43, 25, 26, 27, 28, 44, 45, 46, 47, 48, 49, 13, 50, 15, 85, 86, 87, 88, 89, 90, 91, 92, 93, 94, 95, 96, 97, 98] (by decide +kernel) (by decide +kernel)
set_option maxRecDepth 20000 in
theorem gX5_sight_X0_addSight : GoodIn wsX5_sight (wsV RX5 143 RX0 yX0_addSight wsX0_addSight) := goodIn_app (goodIn_of _ (by decide +kernel)) ggX5_sight_X0_addSight
set_option maxRecDepth 20000 in
theorem ggX5_sight_X5_settled : GoodIn wsX5_sight wsX5_settled := goodIn_r _ [54, 1, 55, 56, 57, 58, 45, 59, 60, 61, 62, 63, 64, 65, 6, 66, 9, 8, 67, 68, 69, 70, 71, 72, 73, 74, 75, 76, 77, 78, 79, 80, 81, 82, 83, 84, 99, 100, 101, 102] (by decide +kernel) (by decide +kernel)
set_option maxRecDepth 20000 in
theorem gX5_sight_X5_settled : GoodIn wsX5_sight (wsV RX5 59 RX5 yX5_settled wsX5_settled) := goodIn_app (goodIn_of _ (by decide +kernel)) ggX5_sight_X5_settled
theorem dX5_sight_0 : decode cX5_sight 0 = .ok (.aload_n 0, 1) := by decide +kernel
theorem dX5_sight_1 : decode cX5_sight 1 = .ok (.getfield 21, 3) := by decide +kernel
theorem dX5_sight_4 : decode cX5_sight 4 = .ok (.aload_n 0, 1) := by decide +kernel
theorem dX5_sight_5 : decode cX5_sight 5 = .ok (.getfield 14, 3) := by decide +kernel
theorem dX5_sight_8 : decode cX5_sight 8 = .ok (.invokevirtual 52, 3) := by decide +kernel
theorem dX5_sight_11 : decode cX5_sight 11 = .ok (.aload_n 0, 1) := by decide +kernel
theorem dX5_sight_12 : decode cX5_sight 12 = .ok (.aload_n 0, 1) := by decide +kernel
theorem dX5_sight_13 : decode cX5_sight 13 = .ok (.getfield 14, 3) := by decide +kernel
theorem dX5_sight_16 : decode cX5_sight 16 = .ok (.iload_n 1, 1) := by decide +kernel
theorem dX5_sight_17 : decode cX5_sight 17 = .ok (.iload_n 2, 1) := by decide +kernel
theorem dX5_sight_18 : decode cX5_sight 18 = .ok (.iload_n 3, 1) := by decide +kernel
theorem dX5_sight_19 : decode cX5_sight 19 = .ok (.invokevirtual 143, 3) := by decide +kernel
theorem dX5_sight_22 : decode cX5_sight 22 = .ok (.invokevirtual 59, 3) := by decide +kernel
theorem dX5_sight_25 : decode cX5_sight 25 = .ok (.ireturn, 1) := by decide +kernel
set_option maxRecDepth 20000 in
theorem ggX5_forget_X3_mark : GoodIn wsX5_forget wsX3_mark := goodIn_r _ [7, 8, 9, 10, 11, 12, 13, 14, 15, 16, 17, 18, 19, 20, 21, 22, 23, 24, 25, 26, 27, 28, 29, 30, 31, 32, 33, 34, 35, 36, 37, 38, 39, 77, 78, 79, 80, 81, 82, 83, 84, 85, 86, 87, 88, 89, 90, 91, 92] (by decide +kernel) (by decide +kernel)
set_option maxRecDepth 20000 in
theorem gX5_forget_X3_mark : GoodIn wsX5_forget (wsV RX5 52 RX3 yX3_mark wsX3_mark) := goodIn_app (goodIn_of _ (by decide +kernel)) ggX5_forget_X3_mark
set_option maxRecDepth 20000 in
theorem ggX5_forget_X0_dropSights : GoodIn wsX5_forget wsX0_dropSights := goodIn_r _ [43, 25, 79, 80, 81, 82, 83, 84, 85, 86, 87, 88, 89, 90, 91, 92] (by decide +kernel) (by decide +kernel)
set_option maxRecDepth 20000 in
theorem gX5_forget_X0_dropSights : GoodIn wsX5_forget (wsV RX5 146 RX0 yX0_dropSights wsX0_dropSights) := goodIn_app (goodIn_of _ (by decide +kernel)) ggX5_forget_X0_dropSights
set_option maxRecDepth 20000 in
theorem ggX5_forget_X5_settled : GoodIn wsX5_forget wsX5_settled := goodIn_r _ [48, 1, 49, 50, 51, 52, 47, 53, 54, 55, 56, 57, 58, 59, 6, 60, 9, 8, 61, 62, 63, 64, 65, 66, 67, 68, 69, 70, 71, 72, 73, 74, 75, 76, 77, 78, 93, 94, 95, 96] (by decide +kernel) (by decide +kernel)
set_option maxRecDepth 20000 in
theorem gX5_forget_X5_settled : GoodIn wsX5_forget (wsV RX5 59 RX5 yX5_settled wsX5_settled) := goodIn_app (goodIn_of _ (by decide +kernel)) ggX5_forget_X5_settled
theorem dX5_forget_0 : decode cX5_forget 0 = .ok (.aload_n 0, 1) := by decide +kernel
theorem dX5_forget_1 : decode cX5_forget 1 = .ok (.getfield 21, 3) := by decide +kernel
theorem dX5_forget_4 : decode cX5_forget 4 = .ok (.aload_n 0, 1) := by decide +kernel
theorem dX5_forget_5 : decode cX5_forget 5 = .ok (.getfield 14, 3) := by decide +kernel
theorem dX5_forget_8 : decode cX5_forget 8 = .ok (.invokevirtual 52, 3) := by decide +kernel
theorem dX5_forget_11 : decode cX5_forget 11 = .ok (.aload_n 0, 1) := by decide +kernel
theorem dX5_forget_12 : decode cX5_forget 12 = .ok (.aload_n 0, 1) := by decide +kernel
theorem dX5_forget_13 : decode cX5_forget 13 = .ok (.getfield 14, 3) := by decide +kernel
theorem dX5_forget_16 : decode cX5_forget 16 = .ok (.invokevirtual 146, 3) := by decide +kernel
theorem dX5_forget_19 : decode cX5_forget 19 = .ok (.invokevirtual 59, 3) := by decide +kernel
theorem dX5_forget_22 : decode cX5_forget 22 = .ok (.ireturn, 1) := by decide +kernel
set_option maxRecDepth 20000 in
theorem ggX5_fits_X5_isStart : GoodIn wsX5_fits wsX5_isStart := goodIn_r _ [6, 7, 8, 9, 10, 11, 12, 13, 14, 5, 15, 16, 68, 69, 70, 71, 72, 73, 74, 75, 76, 77, 78, 79, 80, 81, 82, 83, 84, 85, 86, 87, 88, 89, 90, 91] (by decide +kernel) (by decide +kernel)
set_option maxRecDepth 20000 in
theorem gX5_fits_X5_isStart : GoodIn wsX5_fits (wsV RX5 113 RX5 yX5_isStart wsX5_isStart) := goodIn_app (goodIn_of _ (by decide +kernel)) ggX5_fits_X5_isStart
set_option maxRecDepth 20000 in
theorem ggX5_fits_X5_refused : GoodIn wsX5_fits wsX5_refused := goodIn_r _ [20, 21, 22, 23, 68, 69, 70, 71, 72, 73, 74, 75, 76, 77] (by decide +kernel) (by decide +kernel)
set_option maxRecDepth 20000 in
theorem gX5_fits_X5_refused : GoodIn wsX5_fits (wsV RX5 78 RX5 yX5_refused wsX5_refused) := goodIn_app (goodIn_of _ (by decide +kernel)) ggX5_fits_X5_refused
set_option maxRecDepth 20000 in
theorem ggX5_fits_X1_walk : GoodIn wsX5_fits wsX1_walk := goodIn_r _ [28, 29, 30, 31, 32, 33, 34, 35, 36, 37, 38, 39, 40, 41, 11, 42, 43, 44, 45, 46, 47, 48, 49, 50, 51, 52, 53, 54, 55, 92, 93, 94, 95, 78, 79, 80, 81, 82, 83, 84, 85, 86, 87, 88, 89, 90, 91] (by decide +kernel) (by decide +kernel)
set_option maxRecDepth 20000 in
theorem gX5_fits_X1_walk : GoodIn wsX5_fits (wsV RX5 117 RX1 yX1_walk wsX1_walk) := goodIn_app (goodIn_of _ (by decide +kernel)) ggX5_fits_X1_walk
set_option maxRecDepth 20000 in
theorem ggX5_fits_X1_agrees : GoodIn wsX5_fits wsX1_agrees := goodIn_r _ [59, 30, 60, 61, 62, 63, 27, 64, 29, 65, 66, 67, 92, 93, 94, 95, 78, 79, 80, 81, 82, 83, 84, 85, 86, 87, 88, 89, 90, 91] (by decide +kernel) (by decide +kernel)
set_option maxRecDepth 20000 in
theorem gX5_fits_X1_agrees : GoodIn wsX5_fits (wsV RX5 150 RX1 yX1_agrees wsX1_agrees) := goodIn_app (goodIn_of _ (by decide +kernel)) ggX5_fits_X1_agrees
theorem dX5_fits_0 : decode cX5_fits 0 = .ok (.aload_n 0, 1) := by decide +kernel
theorem dX5_fits_1 : decode cX5_fits 1 = .ok (.iload_n 1, 1) := by decide +kernel
theorem dX5_fits_2 : decode cX5_fits 2 = .ok (.iload_n 2, 1) := by decide +kernel
theorem dX5_fits_3 : decode cX5_fits 3 = .ok (.invokevirtual 113, 3) := by decide +kernel
theorem dX5_fits_6 : decode cX5_fits 6 = .ok (.ifCond .ne 10, 3) := by decide +kernel
theorem dX5_fits_9 : decode cX5_fits 9 = .ok (.aload_n 0, 1) := by decide +kernel
theorem dX5_fits_10 : decode cX5_fits 10 = .ok (.bipush (-2), 2) := by decide +kernel
theorem dX5_fits_12 : decode cX5_fits 12 = .ok (.invokevirtual 78, 3) := by decide +kernel
theorem dX5_fits_15 : decode cX5_fits 15 = .ok (.ireturn, 1) := by decide +kernel
theorem dX5_fits_16 : decode cX5_fits 16 = .ok (.aload_n 0, 1) := by decide +kernel
theorem dX5_fits_17 : decode cX5_fits 17 = .ok (.getfield 30, 3) := by decide +kernel
theorem dX5_fits_20 : decode cX5_fits 20 = .ok (.iload_n 1, 1) := by decide +kernel
theorem dX5_fits_21 : decode cX5_fits 21 = .ok (.iload_n 2, 1) := by decide +kernel
theorem dX5_fits_22 : decode cX5_fits 22 = .ok (.invokevirtual 117, 3) := by decide +kernel
theorem dX5_fits_25 : decode cX5_fits 25 = .ok (.aload_n 0, 1) := by decide +kernel
theorem dX5_fits_26 : decode cX5_fits 26 = .ok (.getfield 30, 3) := by decide +kernel
theorem dX5_fits_29 : decode cX5_fits 29 = .ok (.invokevirtual 150, 3) := by decide +kernel
theorem dX5_fits_32 : decode cX5_fits 32 = .ok (.ifCond .eq 7, 3) := by decide +kernel
theorem dX5_fits_35 : decode cX5_fits 35 = .ok (.iconst 1, 1) := by decide +kernel
theorem dX5_fits_36 : decode cX5_fits 36 = .ok (.goto 4, 3) := by decide +kernel
theorem dX5_fits_39 : decode cX5_fits 39 = .ok (.iconst 0, 1) := by decide +kernel
theorem dX5_fits_40 : decode cX5_fits 40 = .ok (.ireturn, 1) := by decide +kernel
set_option maxRecDepth 20000 in
theorem ggX5_when_X0_hasShaft : GoodIn wsX5_when wsX0_hasShaft := goodIn_r _ [7, 8, 9, 10, 11, 79, 80, 81, 82, 83, 84, 85, 86, 87, 88, 89, 90, 91, 92] (by decide +kernel) (by decide +kernel)
set_option maxRecDepth 20000 in
theorem gX5_when_X0_hasShaft : GoodIn wsX5_when (wsV RX5 74 RX0 yX0_hasShaft wsX0_hasShaft) := goodIn_app (goodIn_of _ (by decide +kernel)) ggX5_when_X0_hasShaft
set_option maxRecDepth 20000 in
theorem ggX5_when_X5_refused : GoodIn wsX5_when wsX5_refused := goodIn_r _ [15, 16, 17, 18, 69, 70, 71, 72, 73, 74, 75, 76, 77, 78] (by decide +kernel) (by decide +kernel)
set_option maxRecDepth 20000 in
theorem gX5_when_X5_refused : GoodIn wsX5_when (wsV RX5 78 RX5 yX5_refused wsX5_refused) := goodIn_app (goodIn_of _ (by decide +kernel)) ggX5_when_X5_refused
set_option maxRecDepth 20000 in
theorem ggX5_when_X1_startsAt : GoodIn wsX5_when wsX1_startsAt := goodIn_r _ [23, 24, 25, 26, 27, 28, 22, 29, 30, 31, 32, 33, 34, 35, 36, 37, 38, 39, 40, 41, 42, 6, 43, 44, 45, 46, 47, 48, 49, 50, 51, 52, 53, 54, 55, 56, 57, 58, 59, 60, 61, 62, 63, 64, 65, 66, 67, 68, 93, 94, 95, 96, 79, 80, 81, 82, 83, 84, 85, 86, 87, 88, 89, 90, 91, 92] (by decide +kernel) (by decide +kernel)
set_option maxRecDepth 20000 in
theorem gX5_when_X1_startsAt : GoodIn wsX5_when (wsV RX5 154 RX1 yX1_startsAt wsX1_startsAt) := goodIn_app (goodIn_of _ (by decide +kernel)) ggX5_when_X1_startsAt
theorem dX5_when_0 : decode cX5_when 0 = .ok (.aload_n 0, 1) := by decide +kernel
theorem dX5_when_1 : decode cX5_when 1 = .ok (.getfield 14, 3) := by decide +kernel
theorem dX5_when_4 : decode cX5_when 4 = .ok (.iload_n 1, 1) := by decide +kernel
theorem dX5_when_5 : decode cX5_when 5 = .ok (.invokevirtual 74, 3) := by decide +kernel
theorem dX5_when_8 : decode cX5_when 8 = .ok (.ifCond .ne 10, 3) := by decide +kernel
theorem dX5_when_11 : decode cX5_when 11 = .ok (.aload_n 0, 1) := by decide +kernel
theorem dX5_when_12 : decode cX5_when 12 = .ok (.bipush (-2), 2) := by decide +kernel
theorem dX5_when_14 : decode cX5_when 14 = .ok (.invokevirtual 78, 3) := by decide +kernel
theorem dX5_when_17 : decode cX5_when 17 = .ok (.ireturn, 1) := by decide +kernel
theorem dX5_when_18 : decode cX5_when 18 = .ok (.aload_n 0, 1) := by decide +kernel
theorem dX5_when_19 : decode cX5_when 19 = .ok (.getfield 30, 3) := by decide +kernel
theorem dX5_when_22 : decode cX5_when 22 = .ok (.iload_n 1, 1) := by decide +kernel
theorem dX5_when_23 : decode cX5_when 23 = .ok (.invokevirtual 154, 3) := by decide +kernel
theorem dX5_when_26 : decode cX5_when 26 = .ok (.ireturn, 1) := by decide +kernel
set_option maxRecDepth 20000 in
theorem ggX5_suspects_X1_suspicious : GoodIn wsX5_suspects wsX1_suspicious := goodIn_r _ [6, 7, 8, 9, 10, 11, 5, 12, 13, 14, 15, 16, 17, 18, 19, 20, 21, 22, 23, 24, 25, 26, 27, 28, 29, 30, 31, 32, 33, 34, 35, 36, 37, 38, 39, 40, 41, 42, 43, 44, 45, 46, 47, 48, 49, 50, 51, 52, 53, 54, 55, 56, 57, 68, 69, 70, 71, 72, 73, 74, 75, 76, 77, 78, 79, 80, 81, 82, 83, 84, 85] (by decide +kernel) (by decide +kernel)
set_option maxRecDepth 20000 in
theorem gX5_suspects_X1_suspicious : GoodIn wsX5_suspects (wsV RX5 157 RX1 yX1_suspicious wsX1_suspicious) := goodIn_app (goodIn_of _ (by decide +kernel)) ggX5_suspects_X1_suspicious
theorem dX5_suspects_0 : decode cX5_suspects 0 = .ok (.aload_n 0, 1) := by decide +kernel
theorem dX5_suspects_1 : decode cX5_suspects 1 = .ok (.getfield 30, 3) := by decide +kernel
theorem dX5_suspects_4 : decode cX5_suspects 4 = .ok (.invokevirtual 157, 3) := by decide +kernel
theorem dX5_suspects_7 : decode cX5_suspects 7 = .ok (.ireturn, 1) := by decide +kernel
set_option maxRecDepth 20000 in
theorem ggX5_next_X5_within : GoodIn wsX5_next wsX5_within := goodIn_r _ [7] (by decide +kernel) (by decide +kernel)
set_option maxRecDepth 20000 in
theorem gX5_next_X5_within : GoodIn wsX5_next (va_wsS RX5 125 yX5_within wsX5_within) := goodIn_app (goodIn_of _ (by decide +kernel)) ggX5_next_X5_within
set_option maxRecDepth 20000 in
theorem ggX5_next_X5_refused : GoodIn wsX5_next wsX5_refused := goodIn_r _ [11, 12, 13, 14, 95, 96, 97, 98, 99, 100, 101, 102, 103, 104] (by decide +kernel) (by decide +kernel)
set_option maxRecDepth 20000 in
theorem gX5_next_X5_refused : GoodIn wsX5_next (wsV RX5 78 RX5 yX5_refused wsX5_refused) := goodIn_app (goodIn_of _ (by decide +kernel)) ggX5_next_X5_refused
set_option maxRecDepth 20000 in
theorem ggX5_next_X1_suspicious : GoodIn wsX5_next wsX1_suspicious := goodIn_r _ [19, 20, 21, 22, 23, 24, 18, 25, 26, 27, 28, 29, 30, 31, 32, 33, 34, 35, 36, 37, 38, 39, 40, 41, 42, 43, 44, 45, 46, 47, 48, 49, 50, 51, 52, 53, 54, 55, 56, 57, 58, 59, 60, 61, 62, 63, 64, 65, 66, 67, 68, 69, 70, 119, 120, 121, 122, 105, 106, 107, 108, 109, 110, 111, 112, 113, 114, 115, 116, 117, 118] (by decide +kernel) (by decide +kernel)
set_option maxRecDepth 20000 in
theorem gX5_next_X1_suspicious : GoodIn wsX5_next (wsV RX5 157 RX1 yX1_suspicious wsX1_suspicious) := goodIn_app (goodIn_of _ (by decide +kernel)) ggX5_next_X1_suspicious
set_option maxRecDepth 20000 in
theorem ggX5_next_X0_above : GoodIn wsX5_next wsX0_above := goodIn_r _ [74, 75, 76, 77, 78, 44, 79, 80, 105, 106, 107, 108, 109, 110, 111, 112, 113, 114, 115, 116, 117, 118] (by decide +kernel) (by decide +kernel)
set_option maxRecDepth 20000 in
theorem gX5_next_X0_above : GoodIn wsX5_next (wsV RX5 101 RX0 yX0_above wsX0_above) := goodIn_app (goodIn_of _ (by decide +kernel)) ggX5_next_X0_above
set_option maxRecDepth 20000 in
theorem ggX5_next_X5_largerPart : GoodIn wsX5_next wsX5_largerPart := goodIn_r _ [83, 84, 85, 86, 87, 88, 89, 90, 91, 92, 93, 94] (by decide +kernel) (by decide +kernel)
set_option maxRecDepth 20000 in
theorem gX5_next_X5_largerPart : GoodIn wsX5_next (va_wsS RX5 164 yX5_largerPart wsX5_largerPart) := goodIn_app (goodIn_of _ (by decide +kernel)) ggX5_next_X5_largerPart
theorem dX5_next_0 : decode cX5_next 0 = .ok (.iload_n 1, 1) := by decide +kernel
theorem dX5_next_1 : decode cX5_next 1 = .ok (.iconst 0, 1) := by decide +kernel
theorem dX5_next_2 : decode cX5_next 2 = .ok (.iconst 1, 1) := by decide +kernel
theorem dX5_next_3 : decode cX5_next 3 = .ok (.invokestatic 125, 3) := by decide +kernel
theorem dX5_next_6 : decode cX5_next 6 = .ok (.ifCond .ne 10, 3) := by decide +kernel
theorem dX5_next_9 : decode cX5_next 9 = .ok (.aload_n 0, 1) := by decide +kernel
theorem dX5_next_10 : decode cX5_next 10 = .ok (.bipush (-2), 2) := by decide +kernel
theorem dX5_next_12 : decode cX5_next 12 = .ok (.invokevirtual 78, 3) := by decide +kernel
theorem dX5_next_15 : decode cX5_next 15 = .ok (.ireturn, 1) := by decide +kernel
theorem dX5_next_16 : decode cX5_next 16 = .ok (.aload_n 0, 1) := by decide +kernel
theorem dX5_next_17 : decode cX5_next 17 = .ok (.getfield 30, 3) := by decide +kernel
theorem dX5_next_20 : decode cX5_next 20 = .ok (.invokevirtual 157, 3) := by decide +kernel
theorem dX5_next_23 : decode cX5_next 23 = .ok (.istore_n 2, 1) := by decide +kernel
theorem dX5_next_24 : decode cX5_next 24 = .ok (.iconst (-1), 1) := by decide +kernel
theorem dX5_next_25 : decode cX5_next 25 = .ok (.istore_n 3, 1) := by decide +kernel
theorem dX5_next_26 : decode cX5_next 26 = .ok (.iconst (-1), 1) := by decide +kernel
theorem dX5_next_27 : decode cX5_next 27 = .ok (.istore 4, 2) := by decide +kernel
theorem dX5_next_29 : decode cX5_next 29 = .ok (.iconst 0, 1) := by decide +kernel
theorem dX5_next_30 : decode cX5_next 30 = .ok (.istore 5, 2) := by decide +kernel
theorem dX5_next_32 : decode cX5_next 32 = .ok (.iload 5, 2) := by decide +kernel
theorem dX5_next_34 : decode cX5_next 34 = .ok (.aload_n 0, 1) := by decide +kernel
theorem dX5_next_35 : decode cX5_next 35 = .ok (.getfield 14, 3) := by decide +kernel
theorem dX5_next_38 : decode cX5_next 38 = .ok (.getfield 160, 3) := by decide +kernel
theorem dX5_next_41 : decode cX5_next 41 = .ok (.if_icmp .ge 43, 3) := by decide +kernel
theorem dX5_next_44 : decode cX5_next 44 = .ok (.iload_n 2, 1) := by decide +kernel
theorem dX5_next_45 : decode cX5_next 45 = .ok (.aload_n 0, 1) := by decide +kernel
theorem dX5_next_46 : decode cX5_next 46 = .ok (.getfield 14, 3) := by decide +kernel
theorem dX5_next_49 : decode cX5_next 49 = .ok (.iload 5, 2) := by decide +kernel
theorem dX5_next_51 : decode cX5_next 51 = .ok (.invokevirtual 101, 3) := by decide +kernel
theorem dX5_next_54 : decode cX5_next 54 = .ok (.invokestatic 164, 3) := by decide +kernel
theorem dX5_next_57 : decode cX5_next 57 = .ok (.istore 6, 2) := by decide +kernel
theorem dX5_next_59 : decode cX5_next 59 = .ok (.iload_n 3, 1) := by decide +kernel
theorem dX5_next_60 : decode cX5_next 60 = .ok (.iconst (-1), 1) := by decide +kernel
theorem dX5_next_61 : decode cX5_next 61 = .ok (.if_icmp .eq 10, 3) := by decide +kernel
theorem dX5_next_64 : decode cX5_next 64 = .ok (.iload 6, 2) := by decide +kernel
theorem dX5_next_66 : decode cX5_next 66 = .ok (.iload 4, 2) := by decide +kernel
theorem dX5_next_68 : decode cX5_next 68 = .ok (.if_icmp .ge 10, 3) := by decide +kernel
theorem dX5_next_71 : decode cX5_next 71 = .ok (.iload 5, 2) := by decide +kernel
theorem dX5_next_73 : decode cX5_next 73 = .ok (.istore_n 3, 1) := by decide +kernel
theorem dX5_next_74 : decode cX5_next 74 = .ok (.iload 6, 2) := by decide +kernel
theorem dX5_next_76 : decode cX5_next 76 = .ok (.istore 4, 2) := by decide +kernel
theorem dX5_next_78 : decode cX5_next 78 = .ok (.iinc 5 1, 3) := by decide +kernel
theorem dX5_next_81 : decode cX5_next 81 = .ok (.goto (-49), 3) := by decide +kernel
theorem dX5_next_84 : decode cX5_next 84 = .ok (.iload_n 1, 1) := by decide +kernel
theorem dX5_next_85 : decode cX5_next 85 = .ok (.ifCond .ne 7, 3) := by decide +kernel
theorem dX5_next_88 : decode cX5_next 88 = .ok (.iload_n 3, 1) := by decide +kernel
theorem dX5_next_89 : decode cX5_next 89 = .ok (.goto 5, 3) := by decide +kernel
theorem dX5_next_92 : decode cX5_next 92 = .ok (.iload 4, 2) := by decide +kernel
theorem dX5_next_94 : decode cX5_next 94 = .ok (.ireturn, 1) := by decide +kernel
set_option maxRecDepth 20000 in
theorem ggX5_alike_X5_within : GoodIn wsX5_alike wsX5_within := goodIn_r _ [7] (by decide +kernel) (by decide +kernel)
set_option maxRecDepth 20000 in
theorem gX5_alike_X5_within : GoodIn wsX5_alike (va_wsS RX5 125 yX5_within wsX5_within) := goodIn_app (goodIn_of _ (by decide +kernel)) ggX5_alike_X5_within
set_option maxRecDepth 20000 in
theorem ggX5_alike_X5_refused : GoodIn wsX5_alike wsX5_refused := goodIn_r _ [11, 12, 13, 14, 28, 29, 30, 31, 32, 33, 34, 35, 36, 37] (by decide +kernel) (by decide +kernel)
set_option maxRecDepth 20000 in
theorem gX5_alike_X5_refused : GoodIn wsX5_alike (wsV RX5 78 RX5 yX5_refused wsX5_refused) := goodIn_app (goodIn_of _ (by decide +kernel)) ggX5_alike_X5_refused
set_option maxRecDepth 20000 in
theorem ggX5_alike_X4_compare : GoodIn wsX5_alike wsX4_compare := goodIn_r _ [19, 20, 21, 22, 23, 52, 53, 38, 39, 40, 41, 42, 43, 44, 45, 46, 47, 48, 49, 50, 51] (by decide +kernel) (by decide +kernel)
set_option maxRecDepth 20000 in
theorem gX5_alike_X4_compare : GoodIn wsX5_alike (wsV RX5 167 RX4 yX4_compare wsX4_compare) := goodIn_app (goodIn_of _ (by decide +kernel)) ggX5_alike_X4_compare
set_option maxRecDepth 20000 in
theorem ggX5_alike_X4_untold : GoodIn wsX5_alike wsX4_untold := goodIn_r _ [27, 20, 22, 52, 53] (by decide +kernel) (by decide +kernel)
set_option maxRecDepth 20000 in
theorem gX5_alike_X4_untold : GoodIn wsX5_alike (wsV RX5 170 RX4 yX4_untold wsX4_untold) := goodIn_app (goodIn_of _ (by decide +kernel)) ggX5_alike_X4_untold
theorem dX5_alike_0 : decode cX5_alike 0 = .ok (.iload_n 1, 1) := by decide +kernel
theorem dX5_alike_1 : decode cX5_alike 1 = .ok (.iconst 0, 1) := by decide +kernel
theorem dX5_alike_2 : decode cX5_alike 2 = .ok (.iconst 1, 1) := by decide +kernel
theorem dX5_alike_3 : decode cX5_alike 3 = .ok (.aload_n 0, 1) := by decide +kernel
theorem dX5_alike_4 : decode cX5_alike 4 = .ok (.getfield 14, 3) := by decide +kernel
theorem dX5_alike_7 : decode cX5_alike 7 = .ok (.getfield 160, 3) := by decide +kernel
theorem dX5_alike_10 : decode cX5_alike 10 = .ok (.ishl, 1) := by decide +kernel
theorem dX5_alike_11 : decode cX5_alike 11 = .ok (.iconst 1, 1) := by decide +kernel
theorem dX5_alike_12 : decode cX5_alike 12 = .ok (.isub, 1) := by decide +kernel
theorem dX5_alike_13 : decode cX5_alike 13 = .ok (.invokestatic 125, 3) := by decide +kernel
theorem dX5_alike_16 : decode cX5_alike 16 = .ok (.ifCond .ne 10, 3) := by decide +kernel
theorem dX5_alike_19 : decode cX5_alike 19 = .ok (.aload_n 0, 1) := by decide +kernel
theorem dX5_alike_20 : decode cX5_alike 20 = .ok (.bipush (-2), 2) := by decide +kernel
theorem dX5_alike_22 : decode cX5_alike 22 = .ok (.invokevirtual 78, 3) := by decide +kernel
theorem dX5_alike_25 : decode cX5_alike 25 = .ok (.ireturn, 1) := by decide +kernel
theorem dX5_alike_26 : decode cX5_alike 26 = .ok (.aload_n 0, 1) := by decide +kernel
theorem dX5_alike_27 : decode cX5_alike 27 = .ok (.getfield 37, 3) := by decide +kernel
theorem dX5_alike_30 : decode cX5_alike 30 = .ok (.aload_n 0, 1) := by decide +kernel
theorem dX5_alike_31 : decode cX5_alike 31 = .ok (.getfield 14, 3) := by decide +kernel
theorem dX5_alike_34 : decode cX5_alike 34 = .ok (.invokevirtual 167, 3) := by decide +kernel
theorem dX5_alike_37 : decode cX5_alike 37 = .ok (.aload_n 0, 1) := by decide +kernel
theorem dX5_alike_38 : decode cX5_alike 38 = .ok (.getfield 37, 3) := by decide +kernel
theorem dX5_alike_41 : decode cX5_alike 41 = .ok (.iload_n 1, 1) := by decide +kernel
theorem dX5_alike_42 : decode cX5_alike 42 = .ok (.invokevirtual 170, 3) := by decide +kernel
theorem dX5_alike_45 : decode cX5_alike 45 = .ok (.ireturn, 1) := by decide +kernel
set_option maxRecDepth 20000 in
theorem ggX5_sensors_X5_within : GoodIn wsX5_sensors wsX5_within := goodIn_r _ [7] (by decide +kernel) (by decide +kernel)
set_option maxRecDepth 20000 in
theorem gX5_sensors_X5_within : GoodIn wsX5_sensors (va_wsS RX5 125 yX5_within wsX5_within) := goodIn_app (goodIn_of _ (by decide +kernel)) ggX5_sensors_X5_within
set_option maxRecDepth 20000 in
theorem ggX5_sensors_X5_refused : GoodIn wsX5_sensors wsX5_refused := goodIn_r _ [11, 12, 13, 14, 40, 41, 42, 43, 44, 45, 46, 47, 48, 49] (by decide +kernel) (by decide +kernel)
set_option maxRecDepth 20000 in
theorem gX5_sensors_X5_refused : GoodIn wsX5_sensors (wsV RX5 78 RX5 yX5_refused wsX5_refused) := goodIn_app (goodIn_of _ (by decide +kernel)) ggX5_sensors_X5_refused
set_option maxRecDepth 20000 in
theorem ggX5_sensors_X4_compare : GoodIn wsX5_sensors wsX4_compare := goodIn_r _ [19, 20, 21, 22, 23, 64, 65, 50, 51, 52, 53, 54, 55, 56, 57, 58, 59, 60, 61, 62, 63] (by decide +kernel) (by decide +kernel)
set_option maxRecDepth 20000 in
theorem gX5_sensors_X4_compare : GoodIn wsX5_sensors (wsV RX5 167 RX4 yX4_compare wsX4_compare) := goodIn_app (goodIn_of _ (by decide +kernel)) ggX5_sensors_X4_compare
set_option maxRecDepth 20000 in
theorem ggX5_sensors_X4_fewest : GoodIn wsX5_sensors wsX4_fewest := goodIn_r _ [27, 28, 29, 30, 31, 32, 33, 34, 35, 36, 37, 18, 38, 20, 22, 64, 65] (by decide +kernel) (by decide +kernel)
set_option maxRecDepth 20000 in
theorem gX5_sensors_X4_fewest : GoodIn wsX5_sensors (wsV RX5 173 RX4 yX4_fewest wsX4_fewest) := goodIn_app (goodIn_of _ (by decide +kernel)) ggX5_sensors_X4_fewest
set_option maxRecDepth 20000 in
theorem ggX5_sensors_J6_bitCount_0f7a4 : GoodIn wsX5_sensors wsJ6_bitCount_0f7a4 := goodIn_r _ [31, 32, 33, 34] (by decide +kernel) (by decide +kernel)
set_option maxRecDepth 20000 in
theorem gX5_sensors_J6_bitCount_0f7a4 : GoodIn wsX5_sensors (va_wsS RX5 176 yJ6_bitCount_0f7a4 wsJ6_bitCount_0f7a4) := goodIn_app (goodIn_of _ (by decide +kernel)) ggX5_sensors_J6_bitCount_0f7a4
theorem dX5_sensors_0 : decode cX5_sensors 0 = .ok (.iload_n 1, 1) := by decide +kernel
theorem dX5_sensors_1 : decode cX5_sensors 1 = .ok (.iconst 0, 1) := by decide +kernel
theorem dX5_sensors_2 : decode cX5_sensors 2 = .ok (.iconst 1, 1) := by decide +kernel
theorem dX5_sensors_3 : decode cX5_sensors 3 = .ok (.invokestatic 125, 3) := by decide +kernel
theorem dX5_sensors_6 : decode cX5_sensors 6 = .ok (.ifCond .ne 10, 3) := by decide +kernel
theorem dX5_sensors_9 : decode cX5_sensors 9 = .ok (.aload_n 0, 1) := by decide +kernel
theorem dX5_sensors_10 : decode cX5_sensors 10 = .ok (.bipush (-2), 2) := by decide +kernel
theorem dX5_sensors_12 : decode cX5_sensors 12 = .ok (.invokevirtual 78, 3) := by decide +kernel
theorem dX5_sensors_15 : decode cX5_sensors 15 = .ok (.ireturn, 1) := by decide +kernel
theorem dX5_sensors_16 : decode cX5_sensors 16 = .ok (.aload_n 0, 1) := by decide +kernel
theorem dX5_sensors_17 : decode cX5_sensors 17 = .ok (.getfield 37, 3) := by decide +kernel
theorem dX5_sensors_20 : decode cX5_sensors 20 = .ok (.aload_n 0, 1) := by decide +kernel
theorem dX5_sensors_21 : decode cX5_sensors 21 = .ok (.getfield 14, 3) := by decide +kernel
theorem dX5_sensors_24 : decode cX5_sensors 24 = .ok (.invokevirtual 167, 3) := by decide +kernel
theorem dX5_sensors_27 : decode cX5_sensors 27 = .ok (.aload_n 0, 1) := by decide +kernel
theorem dX5_sensors_28 : decode cX5_sensors 28 = .ok (.getfield 37, 3) := by decide +kernel
theorem dX5_sensors_31 : decode cX5_sensors 31 = .ok (.aload_n 0, 1) := by decide +kernel
theorem dX5_sensors_32 : decode cX5_sensors 32 = .ok (.getfield 14, 3) := by decide +kernel
theorem dX5_sensors_35 : decode cX5_sensors 35 = .ok (.getfield 160, 3) := by decide +kernel
theorem dX5_sensors_38 : decode cX5_sensors 38 = .ok (.invokevirtual 173, 3) := by decide +kernel
theorem dX5_sensors_41 : decode cX5_sensors 41 = .ok (.istore_n 2, 1) := by decide +kernel
theorem dX5_sensors_42 : decode cX5_sensors 42 = .ok (.iload_n 1, 1) := by decide +kernel
theorem dX5_sensors_43 : decode cX5_sensors 43 = .ok (.ifCond .eq 8, 3) := by decide +kernel
theorem dX5_sensors_46 : decode cX5_sensors 46 = .ok (.iload_n 2, 1) := by decide +kernel
theorem dX5_sensors_47 : decode cX5_sensors 47 = .ok (.iconst (-1), 1) := by decide +kernel
theorem dX5_sensors_48 : decode cX5_sensors 48 = .ok (.if_icmp .ne 7, 3) := by decide +kernel
theorem dX5_sensors_51 : decode cX5_sensors 51 = .ok (.iload_n 2, 1) := by decide +kernel
theorem dX5_sensors_52 : decode cX5_sensors 52 = .ok (.goto 7, 3) := by decide +kernel
theorem dX5_sensors_55 : decode cX5_sensors 55 = .ok (.iload_n 2, 1) := by decide +kernel
theorem dX5_sensors_56 : decode cX5_sensors 56 = .ok (.invokestatic 176, 3) := by decide +kernel
theorem dX5_sensors_59 : decode cX5_sensors 59 = .ok (.ireturn, 1) := by decide +kernel
set_option maxRecDepth 20000 in
theorem ggX5_type_X5_within : GoodIn wsX5_type wsX5_within := goodIn_r _ [6] (by decide +kernel) (by decide +kernel)
set_option maxRecDepth 20000 in
theorem gX5_type_X5_within : GoodIn wsX5_type (va_wsS RX5 125 yX5_within wsX5_within) := goodIn_app (goodIn_of _ (by decide +kernel)) ggX5_type_X5_within
set_option maxRecDepth 20000 in
theorem ggX5_type_X5_refused : GoodIn wsX5_type wsX5_refused := goodIn_r _ [10, 11, 12, 13, 14, 15, 16, 17, 18, 19, 20, 21, 22, 23] (by decide +kernel) (by decide +kernel)
set_option maxRecDepth 20000 in
theorem gX5_type_X5_refused : GoodIn wsX5_type (wsV RX5 78 RX5 yX5_refused wsX5_refused) := goodIn_app (goodIn_of _ (by decide +kernel)) ggX5_type_X5_refused
theorem dX5_type_0 : decode cX5_type 0 = .ok (.iload_n 1, 1) := by decide +kernel
theorem dX5_type_1 : decode cX5_type 1 = .ok (.iconst 0, 1) := by decide +kernel
theorem dX5_type_2 : decode cX5_type 2 = .ok (.bipush 127, 2) := by decide +kernel
theorem dX5_type_4 : decode cX5_type 4 = .ok (.invokestatic 125, 3) := by decide +kernel
theorem dX5_type_7 : decode cX5_type 7 = .ok (.ifCond .ne 10, 3) := by decide +kernel
theorem dX5_type_10 : decode cX5_type 10 = .ok (.aload_n 0, 1) := by decide +kernel
theorem dX5_type_11 : decode cX5_type 11 = .ok (.bipush (-2), 2) := by decide +kernel
theorem dX5_type_13 : decode cX5_type 13 = .ok (.invokevirtual 78, 3) := by decide +kernel
theorem dX5_type_16 : decode cX5_type 16 = .ok (.ireturn, 1) := by decide +kernel
theorem dX5_type_17 : decode cX5_type 17 = .ok (.aload_n 0, 1) := by decide +kernel
theorem dX5_type_18 : decode cX5_type 18 = .ok (.getfield 180, 3) := by decide +kernel
theorem dX5_type_21 : decode cX5_type 21 = .ok (.bipush 120, 2) := by decide +kernel
theorem dX5_type_23 : decode cX5_type 23 = .ok (.if_icmp .lt 10, 3) := by decide +kernel
theorem dX5_type_26 : decode cX5_type 26 = .ok (.aload_n 0, 1) := by decide +kernel
theorem dX5_type_27 : decode cX5_type 27 = .ok (.bipush (-4), 2) := by decide +kernel
theorem dX5_type_29 : decode cX5_type 29 = .ok (.invokevirtual 78, 3) := by decide +kernel
theorem dX5_type_32 : decode cX5_type 32 = .ok (.ireturn, 1) := by decide +kernel
theorem dX5_type_33 : decode cX5_type 33 = .ok (.aload_n 0, 1) := by decide +kernel
theorem dX5_type_34 : decode cX5_type 34 = .ok (.getfield 48, 3) := by decide +kernel
theorem dX5_type_37 : decode cX5_type 37 = .ok (.aload_n 0, 1) := by decide +kernel
theorem dX5_type_38 : decode cX5_type 38 = .ok (.getfield 180, 3) := by decide +kernel
theorem dX5_type_41 : decode cX5_type 41 = .ok (.iload_n 1, 1) := by decide +kernel
theorem dX5_type_42 : decode cX5_type 42 = .ok (.i2b, 1) := by decide +kernel
theorem dX5_type_43 : decode cX5_type 43 = .ok (.bastore, 1) := by decide +kernel
theorem dX5_type_44 : decode cX5_type 44 = .ok (.aload_n 0, 1) := by decide +kernel
theorem dX5_type_45 : decode cX5_type 45 = .ok (.dup, 1) := by decide +kernel
theorem dX5_type_46 : decode cX5_type 46 = .ok (.getfield 180, 3) := by decide +kernel
theorem dX5_type_49 : decode cX5_type 49 = .ok (.iconst 1, 1) := by decide +kernel
theorem dX5_type_50 : decode cX5_type 50 = .ok (.iadd, 1) := by decide +kernel
theorem dX5_type_51 : decode cX5_type 51 = .ok (.putfield 180, 3) := by decide +kernel
theorem dX5_type_54 : decode cX5_type 54 = .ok (.aload_n 0, 1) := by decide +kernel
theorem dX5_type_55 : decode cX5_type 55 = .ok (.getfield 180, 3) := by decide +kernel
theorem dX5_type_58 : decode cX5_type 58 = .ok (.ireturn, 1) := by decide +kernel
theorem dX5_clear_0 : decode cX5_clear 0 = .ok (.aload_n 0, 1) := by decide +kernel
theorem dX5_clear_1 : decode cX5_clear 1 = .ok (.getfield 180, 3) := by decide +kernel
theorem dX5_clear_4 : decode cX5_clear 4 = .ok (.istore_n 1, 1) := by decide +kernel
theorem dX5_clear_5 : decode cX5_clear 5 = .ok (.aload_n 0, 1) := by decide +kernel
theorem dX5_clear_6 : decode cX5_clear 6 = .ok (.iconst 0, 1) := by decide +kernel
theorem dX5_clear_7 : decode cX5_clear 7 = .ok (.putfield 180, 3) := by decide +kernel
theorem dX5_clear_10 : decode cX5_clear 10 = .ok (.iload_n 1, 1) := by decide +kernel
theorem dX5_clear_11 : decode cX5_clear 11 = .ok (.ireturn, 1) := by decide +kernel
set_option maxRecDepth 20000 in
theorem ggX5_reads_X2_parse : GoodIn wsX5_reads wsX2_parse := goodIn_r _ [11, 12, 13, 14, 15, 16, 10, 17, 18, 19, 20, 21, 22, 23, 24, 25, 26, 27, 28, 29, 30, 31, 32, 33, 34, 35, 36, 37, 38, 39, 170, 171, 172, 173, 174, 175] (by decide +kernel) (by decide +kernel)
set_option maxRecDepth 20000 in
theorem gX5_reads_X2_parse : GoodIn wsX5_reads (wsV RX5 183 RX2 yX2_parse wsX2_parse) := goodIn_app (goodIn_of _ (by decide +kernel)) ggX5_reads_X2_parse
set_option maxRecDepth 20000 in
theorem ggX5_reads_X3_mark : GoodIn wsX5_reads wsX3_mark := goodIn_r _ [44, 45, 46, 47, 48, 49, 50, 51, 52, 53, 54, 55, 56, 57, 58, 59, 60, 61, 62, 63, 64, 65, 66, 67, 68, 69, 70, 71, 72, 73, 74, 75, 76, 176, 177, 178, 179, 180, 181, 182, 183, 184, 185, 186, 187, 188, 189, 190, 191] (by decide +kernel) (by decide +kernel)
set_option maxRecDepth 20000 in
theorem gX5_reads_X3_mark : GoodIn wsX5_reads (wsV RX5 52 RX3 yX3_mark wsX3_mark) := goodIn_app (goodIn_of _ (by decide +kernel)) ggX5_reads_X3_mark
set_option maxRecDepth 20000 in
theorem ggX5_reads_X2_obey : GoodIn wsX5_reads wsX2_obey := goodIn_r _ [80, 39, 23, 81, 82, 83, 50, 84, 52, 53, 54, 85, 86, 87, 32, 33, 34, 88, 89, 90, 91, 92, 93, 94, 95, 96, 97, 98, 55, 56, 57, 58, 99, 100, 101, 102, 61, 103, 104, 105, 106, 107, 108, 109, 110, 111, 112, 113, 59, 60, 114, 115, 116, 117, 118, 119, 120, 121, 122, 123, 124, 125, 62, 63, 64, 65, 126, 127, 128, 129, 130, 131, 132, 133, 170, 171, 172, 173, 174, 175, 178, 179, 180, 181, 182, 183, 184, 185, 186, 187, 188, 189, 190, 191] (by decide +kernel) (by decide +kernel)
set_option maxRecDepth 20000 in
theorem gX5_reads_X2_obey : GoodIn wsX5_reads (wsV RX5 190 RX2 yX2_obey wsX2_obey) := goodIn_app (goodIn_of _ (by decide +kernel)) ggX5_reads_X2_obey
set_option maxRecDepth 20000 in
theorem ggX5_reads_X3_toMark : GoodIn wsX5_reads wsX3_toMark := goodIn_r _ [137, 45, 46, 47, 48, 49, 50, 51, 52, 53, 54, 55, 56, 57, 58, 59, 60, 61, 62, 63, 64, 65, 66, 67, 68, 69, 70, 71, 72, 73, 74, 75, 76, 176, 177, 178, 179, 180, 181, 182, 183, 184, 185, 186, 187, 188, 189, 190, 191] (by decide +kernel) (by decide +kernel)
set_option maxRecDepth 20000 in
theorem gX5_reads_X3_toMark : GoodIn wsX5_reads (wsV RX5 194 RX3 yX3_toMark wsX3_toMark) := goodIn_app (goodIn_of _ (by decide +kernel)) ggX5_reads_X3_toMark
set_option maxRecDepth 20000 in
theorem ggX5_reads_X5_settled : GoodIn wsX5_reads wsX5_settled := goodIn_r _ [141, 4, 142, 143, 144, 145, 33, 146, 147, 148, 149, 150, 151, 152, 43, 153, 46, 45, 154, 155, 156, 157, 158, 159, 160, 161, 162, 163, 164, 165, 166, 167, 168, 169, 176, 177, 192, 193, 194, 195] (by decide +kernel) (by decide +kernel)
set_option maxRecDepth 20000 in
theorem gX5_reads_X5_settled : GoodIn wsX5_reads (wsV RX5 59 RX5 yX5_settled wsX5_settled) := goodIn_app (goodIn_of _ (by decide +kernel)) ggX5_reads_X5_settled
theorem dX5_reads_0 : decode cX5_reads 0 = .ok (.aload_n 0, 1) := by decide +kernel
theorem dX5_reads_1 : decode cX5_reads 1 = .ok (.getfield 44, 3) := by decide +kernel
theorem dX5_reads_4 : decode cX5_reads 4 = .ok (.aload_n 0, 1) := by decide +kernel
theorem dX5_reads_5 : decode cX5_reads 5 = .ok (.getfield 48, 3) := by decide +kernel
theorem dX5_reads_8 : decode cX5_reads 8 = .ok (.aload_n 0, 1) := by decide +kernel
theorem dX5_reads_9 : decode cX5_reads 9 = .ok (.getfield 180, 3) := by decide +kernel
theorem dX5_reads_12 : decode cX5_reads 12 = .ok (.invokevirtual 183, 3) := by decide +kernel
theorem dX5_reads_15 : decode cX5_reads 15 = .ok (.istore_n 1, 1) := by decide +kernel
theorem dX5_reads_16 : decode cX5_reads 16 = .ok (.iload_n 1, 1) := by decide +kernel
theorem dX5_reads_17 : decode cX5_reads 17 = .ok (.iconst (-1), 1) := by decide +kernel
theorem dX5_reads_18 : decode cX5_reads 18 = .ok (.if_icmp .eq 8, 3) := by decide +kernel
theorem dX5_reads_21 : decode cX5_reads 21 = .ok (.bipush (-10), 2) := by decide +kernel
theorem dX5_reads_23 : decode cX5_reads 23 = .ok (.iload_n 1, 1) := by decide +kernel
theorem dX5_reads_24 : decode cX5_reads 24 = .ok (.isub, 1) := by decide +kernel
theorem dX5_reads_25 : decode cX5_reads 25 = .ok (.ireturn, 1) := by decide +kernel
theorem dX5_reads_26 : decode cX5_reads 26 = .ok (.aload_n 0, 1) := by decide +kernel
theorem dX5_reads_27 : decode cX5_reads 27 = .ok (.getfield 21, 3) := by decide +kernel
theorem dX5_reads_30 : decode cX5_reads 30 = .ok (.aload_n 0, 1) := by decide +kernel
theorem dX5_reads_31 : decode cX5_reads 31 = .ok (.getfield 14, 3) := by decide +kernel
theorem dX5_reads_34 : decode cX5_reads 34 = .ok (.invokevirtual 52, 3) := by decide +kernel
theorem dX5_reads_37 : decode cX5_reads 37 = .ok (.iconst 0, 1) := by decide +kernel
theorem dX5_reads_38 : decode cX5_reads 38 = .ok (.istore_n 2, 1) := by decide +kernel
theorem dX5_reads_39 : decode cX5_reads 39 = .ok (.iload_n 2, 1) := by decide +kernel
theorem dX5_reads_40 : decode cX5_reads 40 = .ok (.aload_n 0, 1) := by decide +kernel
theorem dX5_reads_41 : decode cX5_reads 41 = .ok (.getfield 44, 3) := by decide +kernel
theorem dX5_reads_44 : decode cX5_reads 44 = .ok (.getfield 187, 3) := by decide +kernel
theorem dX5_reads_47 : decode cX5_reads 47 = .ok (.if_icmp .ge 41, 3) := by decide +kernel
theorem dX5_reads_50 : decode cX5_reads 50 = .ok (.aload_n 0, 1) := by decide +kernel
theorem dX5_reads_51 : decode cX5_reads 51 = .ok (.getfield 44, 3) := by decide +kernel
theorem dX5_reads_54 : decode cX5_reads 54 = .ok (.iload_n 2, 1) := by decide +kernel
theorem dX5_reads_55 : decode cX5_reads 55 = .ok (.aload_n 0, 1) := by decide +kernel
theorem dX5_reads_56 : decode cX5_reads 56 = .ok (.getfield 14, 3) := by decide +kernel
theorem dX5_reads_59 : decode cX5_reads 59 = .ok (.invokevirtual 190, 3) := by decide +kernel
theorem dX5_reads_62 : decode cX5_reads 62 = .ok (.ifCond .ge 20, 3) := by decide +kernel
theorem dX5_reads_65 : decode cX5_reads 65 = .ok (.aload_n 0, 1) := by decide +kernel
theorem dX5_reads_66 : decode cX5_reads 66 = .ok (.getfield 21, 3) := by decide +kernel
theorem dX5_reads_69 : decode cX5_reads 69 = .ok (.aload_n 0, 1) := by decide +kernel
theorem dX5_reads_70 : decode cX5_reads 70 = .ok (.getfield 14, 3) := by decide +kernel
theorem dX5_reads_73 : decode cX5_reads 73 = .ok (.invokevirtual 194, 3) := by decide +kernel
theorem dX5_reads_76 : decode cX5_reads 76 = .ok (.sipush (-1000), 3) := by decide +kernel
theorem dX5_reads_79 : decode cX5_reads 79 = .ok (.iload_n 2, 1) := by decide +kernel
theorem dX5_reads_80 : decode cX5_reads 80 = .ok (.isub, 1) := by decide +kernel
theorem dX5_reads_81 : decode cX5_reads 81 = .ok (.ireturn, 1) := by decide +kernel
theorem dX5_reads_82 : decode cX5_reads 82 = .ok (.iinc 2 1, 3) := by decide +kernel
theorem dX5_reads_85 : decode cX5_reads 85 = .ok (.goto (-46), 3) := by decide +kernel
theorem dX5_reads_88 : decode cX5_reads 88 = .ok (.aload_n 0, 1) := by decide +kernel
theorem dX5_reads_89 : decode cX5_reads 89 = .ok (.aload_n 0, 1) := by decide +kernel
theorem dX5_reads_90 : decode cX5_reads 90 = .ok (.getfield 44, 3) := by decide +kernel
theorem dX5_reads_93 : decode cX5_reads 93 = .ok (.getfield 187, 3) := by decide +kernel
theorem dX5_reads_96 : decode cX5_reads 96 = .ok (.invokevirtual 59, 3) := by decide +kernel
theorem dX5_reads_99 : decode cX5_reads 99 = .ok (.ireturn, 1) := by decide +kernel
set_option maxRecDepth 20000 in
theorem ggX5_back_X5_refused : GoodIn wsX5_back wsX5_refused := goodIn_r _ [9, 10, 11, 12, 56, 57, 58, 59, 60, 61, 62, 63, 64, 65] (by decide +kernel) (by decide +kernel)
set_option maxRecDepth 20000 in
theorem gX5_back_X5_refused : GoodIn wsX5_back (wsV RX5 78 RX5 yX5_refused wsX5_refused) := goodIn_app (goodIn_of _ (by decide +kernel)) ggX5_back_X5_refused
set_option maxRecDepth 20000 in
theorem ggX5_back_X3_undo : GoodIn wsX5_back wsX3_undo := goodIn_r _ [17, 18, 19, 20, 21, 22, 23, 24, 25, 26, 27, 28, 29, 30, 31, 32, 33, 34, 35, 36, 37, 38, 39, 40, 41, 42, 43, 44, 45, 46, 47, 48, 49, 66, 67, 68, 69, 70, 71, 72, 73, 74, 75, 76, 77, 78, 79, 80, 81] (by decide +kernel) (by decide +kernel)
set_option maxRecDepth 20000 in
theorem gX5_back_X3_undo : GoodIn wsX5_back (wsV RX5 198 RX3 yX3_undo wsX3_undo) := goodIn_app (goodIn_of _ (by decide +kernel)) ggX5_back_X3_undo
set_option maxRecDepth 20000 in
theorem ggX5_back_X1_outdate : GoodIn wsX5_back wsX1_outdate := goodIn_r _ [54, 55, 82, 83, 84, 85] (by decide +kernel) (by decide +kernel)
set_option maxRecDepth 20000 in
theorem gX5_back_X1_outdate : GoodIn wsX5_back (wsV RX5 201 RX1 yX1_outdate wsX1_outdate) := goodIn_app (goodIn_of _ (by decide +kernel)) ggX5_back_X1_outdate
theorem dX5_back_0 : decode cX5_back 0 = .ok (.aload_n 0, 1) := by decide +kernel
theorem dX5_back_1 : decode cX5_back 1 = .ok (.getfield 21, 3) := by decide +kernel
theorem dX5_back_4 : decode cX5_back 4 = .ok (.getfield 197, 3) := by decide +kernel
theorem dX5_back_7 : decode cX5_back 7 = .ok (.ifCond .ne 10, 3) := by decide +kernel
theorem dX5_back_10 : decode cX5_back 10 = .ok (.aload_n 0, 1) := by decide +kernel
theorem dX5_back_11 : decode cX5_back 11 = .ok (.bipush (-3), 2) := by decide +kernel
theorem dX5_back_13 : decode cX5_back 13 = .ok (.invokevirtual 78, 3) := by decide +kernel
theorem dX5_back_16 : decode cX5_back 16 = .ok (.ireturn, 1) := by decide +kernel
theorem dX5_back_17 : decode cX5_back 17 = .ok (.aload_n 0, 1) := by decide +kernel
theorem dX5_back_18 : decode cX5_back 18 = .ok (.getfield 21, 3) := by decide +kernel
theorem dX5_back_21 : decode cX5_back 21 = .ok (.aload_n 0, 1) := by decide +kernel
theorem dX5_back_22 : decode cX5_back 22 = .ok (.getfield 14, 3) := by decide +kernel
theorem dX5_back_25 : decode cX5_back 25 = .ok (.invokevirtual 198, 3) := by decide +kernel
theorem dX5_back_28 : decode cX5_back 28 = .ok (.aload_n 0, 1) := by decide +kernel
theorem dX5_back_29 : decode cX5_back 29 = .ok (.getfield 30, 3) := by decide +kernel
theorem dX5_back_32 : decode cX5_back 32 = .ok (.invokevirtual 201, 3) := by decide +kernel
theorem dX5_back_35 : decode cX5_back 35 = .ok (.aload_n 0, 1) := by decide +kernel
theorem dX5_back_36 : decode cX5_back 36 = .ok (.getfield 21, 3) := by decide +kernel
theorem dX5_back_39 : decode cX5_back 39 = .ok (.getfield 197, 3) := by decide +kernel
theorem dX5_back_42 : decode cX5_back 42 = .ok (.ireturn, 1) := by decide +kernel
set_option maxRecDepth 20000 in
theorem ggX5_told_X5_refused : GoodIn wsX5_told wsX5_refused := goodIn_r _ [15, 1, 2, 3, 16, 17, 18, 19, 20, 21, 22, 23, 24, 25] (by decide +kernel) (by decide +kernel)
set_option maxRecDepth 20000 in
theorem gX5_told_X5_refused : GoodIn wsX5_told (wsV RX5 78 RX5 yX5_refused wsX5_refused) := goodIn_app (goodIn_of _ (by decide +kernel)) ggX5_told_X5_refused
theorem dX5_told_0 : decode cX5_told 0 = .ok (.iload_n 1, 1) := by decide +kernel
theorem dX5_told_1 : decode cX5_told 1 = .ok (.tableswitch 99 0 7 #[47, 52, 57, 62, 67, 75, 83, 91], 47) := by decide +kernel
theorem dX5_told_48 : decode cX5_told 48 = .ok (.aload_n 0, 1) := by decide +kernel
theorem dX5_told_49 : decode cX5_told 49 = .ok (.getfield 204, 3) := by decide +kernel
theorem dX5_told_52 : decode cX5_told 52 = .ok (.ireturn, 1) := by decide +kernel
theorem dX5_told_53 : decode cX5_told 53 = .ok (.aload_n 0, 1) := by decide +kernel
theorem dX5_told_54 : decode cX5_told 54 = .ok (.getfield 207, 3) := by decide +kernel
theorem dX5_told_57 : decode cX5_told 57 = .ok (.ireturn, 1) := by decide +kernel
theorem dX5_told_58 : decode cX5_told 58 = .ok (.aload_n 0, 1) := by decide +kernel
theorem dX5_told_59 : decode cX5_told 59 = .ok (.getfield 210, 3) := by decide +kernel
theorem dX5_told_62 : decode cX5_told 62 = .ok (.ireturn, 1) := by decide +kernel
theorem dX5_told_63 : decode cX5_told 63 = .ok (.aload_n 0, 1) := by decide +kernel
theorem dX5_told_64 : decode cX5_told 64 = .ok (.getfield 180, 3) := by decide +kernel
theorem dX5_told_67 : decode cX5_told 67 = .ok (.ireturn, 1) := by decide +kernel
theorem dX5_told_68 : decode cX5_told 68 = .ok (.aload_n 0, 1) := by decide +kernel
theorem dX5_told_69 : decode cX5_told 69 = .ok (.getfield 14, 3) := by decide +kernel
theorem dX5_told_72 : decode cX5_told 72 = .ok (.getfield 160, 3) := by decide +kernel
theorem dX5_told_75 : decode cX5_told 75 = .ok (.ireturn, 1) := by decide +kernel
theorem dX5_told_76 : decode cX5_told 76 = .ok (.aload_n 0, 1) := by decide +kernel
theorem dX5_told_77 : decode cX5_told 77 = .ok (.getfield 14, 3) := by decide +kernel
theorem dX5_told_80 : decode cX5_told 80 = .ok (.getfield 213, 3) := by decide +kernel
theorem dX5_told_83 : decode cX5_told 83 = .ok (.ireturn, 1) := by decide +kernel
theorem dX5_told_84 : decode cX5_told 84 = .ok (.aload_n 0, 1) := by decide +kernel
theorem dX5_told_85 : decode cX5_told 85 = .ok (.getfield 14, 3) := by decide +kernel
theorem dX5_told_88 : decode cX5_told 88 = .ok (.getfield 216, 3) := by decide +kernel
theorem dX5_told_91 : decode cX5_told 91 = .ok (.ireturn, 1) := by decide +kernel
theorem dX5_told_92 : decode cX5_told 92 = .ok (.aload_n 0, 1) := by decide +kernel
theorem dX5_told_93 : decode cX5_told 93 = .ok (.getfield 21, 3) := by decide +kernel
theorem dX5_told_96 : decode cX5_told 96 = .ok (.getfield 197, 3) := by decide +kernel
theorem dX5_told_99 : decode cX5_told 99 = .ok (.ireturn, 1) := by decide +kernel
theorem dX5_told_100 : decode cX5_told 100 = .ok (.aload_n 0, 1) := by decide +kernel
theorem dX5_told_101 : decode cX5_told 101 = .ok (.bipush (-2), 2) := by decide +kernel
theorem dX5_told_103 : decode cX5_told 103 = .ok (.invokevirtual 78, 3) := by decide +kernel
theorem dX5_told_106 : decode cX5_told 106 = .ok (.ireturn, 1) := by decide +kernel
set_option maxRecDepth 20000 in
theorem ggX5_digest_X5_told : GoodIn wsX5_digest wsX5_told := goodIn_r _ [9, 10, 11, 12, 13, 3, 4, 14, 15, 16, 17, 18, 19, 20, 8, 21, 184, 185, 186, 187, 188, 189, 190, 191, 192, 193, 194, 195, 196, 197, 198, 199, 200, 201, 202, 203, 204, 205, 206, 207, 208, 209] (by decide +kernel) (by decide +kernel)
set_option maxRecDepth 20000 in
theorem gX5_digest_X5_told : GoodIn wsX5_digest (wsV RX5 223 RX5 yX5_told wsX5_told) := goodIn_app (goodIn_of _ (by decide +kernel)) ggX5_digest_X5_told
set_option maxRecDepth 20000 in
theorem ggX5_digest_X5_digestShafts : GoodIn wsX5_digest wsX5_digestShafts := goodIn_r _ [25, 3, 4, 2, 26, 27, 28, 8, 29, 30, 31, 32, 33, 34, 35, 36, 37, 38, 39, 40, 41, 42, 18, 19, 20, 21, 10, 11, 12, 43, 44, 45, 46, 47, 48, 49, 50, 51, 52, 53, 54, 55, 56, 57, 58, 59, 60, 61, 62, 63, 64, 65, 66, 67, 68, 69, 70, 71, 72, 73, 74, 75, 76, 77, 78, 79, 80, 81, 82, 83, 84, 85, 86, 87, 88, 89, 90, 91, 92, 93, 94, 95, 96, 97, 98, 99, 100, 101, 102, 103, 104, 105, 106, 107, 108, 109, 110, 111, 184, 185, 186, 187, 188, 189, 190, 191, 192, 193, 194, 195, 196, 197, 198, 199, 200, 201, 202, 203, 204, 205, 206, 207, 210, 211, 212, 213] (by decide +kernel) (by decide +kernel)
set_option maxRecDepth 20000 in
theorem gX5_digest_X5_digestShafts : GoodIn wsX5_digest (wsV RX5 226 RX5 yX5_digestShafts wsX5_digestShafts) := goodIn_app (goodIn_of _ (by decide +kernel)) ggX5_digest_X5_digestShafts
set_option maxRecDepth 20000 in
theorem ggX5_digest_X5_digestPipes : GoodIn wsX5_digest wsX5_digestPipes := goodIn_r _ [115, 3, 14, 2, 116, 117, 118, 8, 119, 32, 33, 120, 121, 122, 123, 124, 38, 125, 47, 41, 42, 18, 19, 20, 21, 10, 11, 12, 184, 185, 186, 187, 188, 189, 190, 191, 192, 193, 194, 195, 196, 197, 198, 199, 200, 201, 202, 203, 204, 205, 206, 207] (by decide +kernel) (by decide +kernel)
set_option maxRecDepth 20000 in
theorem gX5_digest_X5_digestPipes : GoodIn wsX5_digest (wsV RX5 230 RX5 yX5_digestPipes wsX5_digestPipes) := goodIn_app (goodIn_of _ (by decide +kernel)) ggX5_digest_X5_digestPipes
set_option maxRecDepth 20000 in
theorem ggX5_digest_X5_comes : GoodIn wsX5_digest wsX5_comes := goodIn_r _ [129, 3, 61, 130, 131, 132, 133, 8, 134, 35, 36, 37, 38, 39, 40, 41, 42, 135, 18, 19, 20, 21, 10, 11, 12, 136, 70, 71, 65, 72, 73, 74, 75, 76, 77, 78, 79, 80, 81, 82, 83, 84, 85, 86, 87, 88, 89, 90, 91, 92, 93, 94, 95, 96, 97, 98, 99, 184, 185, 186, 187, 188, 189, 190, 191, 192, 193, 210, 211, 212, 213, 194, 195, 196, 197, 198, 199, 200, 201, 202, 203, 204, 205, 206, 207] (by decide +kernel) (by decide +kernel)
set_option maxRecDepth 20000 in
theorem gX5_digest_X5_comes : GoodIn wsX5_digest (wsV RX5 233 RX5 yX5_comes wsX5_comes) := goodIn_app (goodIn_of _ (by decide +kernel)) ggX5_digest_X5_comes
set_option maxRecDepth 20000 in
theorem ggX5_digest_X5_next : GoodIn wsX5_digest wsX5_next := goodIn_r _ [140, 61, 3, 4, 135, 41, 8, 42, 18, 19, 20, 21, 10, 11, 12, 141, 142, 143, 65, 144, 74, 145, 146, 63, 64, 66, 67, 68, 69, 70, 71, 72, 73, 75, 76, 77, 78, 79, 80, 81, 82, 83, 84, 85, 38, 86, 87, 88, 89, 90, 91, 92, 93, 94, 95, 96, 97, 98, 99, 100, 101, 102, 103, 104, 105, 106, 107, 108, 109, 110, 111, 48, 49, 50, 51, 40, 52, 53, 54, 55, 56, 147, 148, 149, 150, 151, 152, 153, 154, 155, 156, 157, 158, 159, 160, 184, 185, 186, 187, 188, 189, 190, 191, 192, 193, 194, 195, 196, 197, 198, 199, 200, 201, 202, 203, 204, 205, 206, 207, 210, 211, 212, 213] (by decide +kernel) (by decide +kernel)
set_option maxRecDepth 20000 in
theorem gX5_digest_X5_next : GoodIn wsX5_digest (wsV RX5 237 RX5 yX5_next wsX5_next) := goodIn_app (goodIn_of _ (by decide +kernel)) ggX5_digest_X5_next
set_option maxRecDepth 20000 in
theorem ggX5_digest_X5_sensors : GoodIn wsX5_digest wsX5_sensors := goodIn_r _ [164, 165, 3, 4, 135, 41, 8, 42, 18, 19, 20, 21, 10, 11, 12, 166, 167, 168, 169, 170, 171, 172, 173, 174, 175, 176, 177, 178, 179, 155, 156, 157, 158, 159, 160, 180, 181, 182, 183, 154, 184, 185, 186, 187, 188, 189, 190, 191, 192, 193, 194, 195, 196, 197, 198, 199, 200, 201, 202, 203, 204, 205, 206, 207, 214, 215] (by decide +kernel) (by decide +kernel)
set_option maxRecDepth 20000 in
theorem gX5_digest_X5_sensors : GoodIn wsX5_digest (wsV RX5 240 RX5 yX5_sensors wsX5_sensors) := goodIn_app (goodIn_of _ (by decide +kernel)) ggX5_digest_X5_sensors
theorem dX5_digest_0 : decode cX5_digest 0 = .ok (.ldc2_w 219, 3) := by decide +kernel
theorem dX5_digest_3 : decode cX5_digest 3 = .ok (.lstore_n 1, 1) := by decide +kernel
theorem dX5_digest_4 : decode cX5_digest 4 = .ok (.iconst 0, 1) := by decide +kernel
theorem dX5_digest_5 : decode cX5_digest 5 = .ok (.istore_n 3, 1) := by decide +kernel
theorem dX5_digest_6 : decode cX5_digest 6 = .ok (.iload_n 3, 1) := by decide +kernel
theorem dX5_digest_7 : decode cX5_digest 7 = .ok (.bipush 7, 2) := by decide +kernel
theorem dX5_digest_9 : decode cX5_digest 9 = .ok (.if_icmp .gt 22, 3) := by decide +kernel
theorem dX5_digest_12 : decode cX5_digest 12 = .ok (.ldc2_w 221, 3) := by decide +kernel
theorem dX5_digest_15 : decode cX5_digest 15 = .ok (.lload_n 1, 1) := by decide +kernel
theorem dX5_digest_16 : decode cX5_digest 16 = .ok (.lmul, 1) := by decide +kernel
theorem dX5_digest_17 : decode cX5_digest 17 = .ok (.aload_n 0, 1) := by decide +kernel
theorem dX5_digest_18 : decode cX5_digest 18 = .ok (.iload_n 3, 1) := by decide +kernel
theorem dX5_digest_19 : decode cX5_digest 19 = .ok (.invokevirtual 223, 3) := by decide +kernel
theorem dX5_digest_22 : decode cX5_digest 22 = .ok (.i2l, 1) := by decide +kernel
theorem dX5_digest_23 : decode cX5_digest 23 = .ok (.ladd, 1) := by decide +kernel
theorem dX5_digest_24 : decode cX5_digest 24 = .ok (.lstore_n 1, 1) := by decide +kernel
theorem dX5_digest_25 : decode cX5_digest 25 = .ok (.iinc 3 1, 3) := by decide +kernel
theorem dX5_digest_28 : decode cX5_digest 28 = .ok (.goto (-22), 3) := by decide +kernel
theorem dX5_digest_31 : decode cX5_digest 31 = .ok (.aload_n 0, 1) := by decide +kernel
theorem dX5_digest_32 : decode cX5_digest 32 = .ok (.lload_n 1, 1) := by decide +kernel
theorem dX5_digest_33 : decode cX5_digest 33 = .ok (.invokevirtual 226, 3) := by decide +kernel
theorem dX5_digest_36 : decode cX5_digest 36 = .ok (.lstore_n 1, 1) := by decide +kernel
theorem dX5_digest_37 : decode cX5_digest 37 = .ok (.aload_n 0, 1) := by decide +kernel
theorem dX5_digest_38 : decode cX5_digest 38 = .ok (.lload_n 1, 1) := by decide +kernel
theorem dX5_digest_39 : decode cX5_digest 39 = .ok (.invokevirtual 230, 3) := by decide +kernel
theorem dX5_digest_42 : decode cX5_digest 42 = .ok (.lstore_n 1, 1) := by decide +kernel
theorem dX5_digest_43 : decode cX5_digest 43 = .ok (.iconst 0, 1) := by decide +kernel
theorem dX5_digest_44 : decode cX5_digest 44 = .ok (.istore_n 3, 1) := by decide +kernel
theorem dX5_digest_45 : decode cX5_digest 45 = .ok (.iload_n 3, 1) := by decide +kernel
theorem dX5_digest_46 : decode cX5_digest 46 = .ok (.aload_n 0, 1) := by decide +kernel
theorem dX5_digest_47 : decode cX5_digest 47 = .ok (.getfield 14, 3) := by decide +kernel
theorem dX5_digest_50 : decode cX5_digest 50 = .ok (.getfield 160, 3) := by decide +kernel
theorem dX5_digest_53 : decode cX5_digest 53 = .ok (.if_icmp .ge 45, 3) := by decide +kernel
theorem dX5_digest_56 : decode cX5_digest 56 = .ok (.iconst 0, 1) := by decide +kernel
theorem dX5_digest_57 : decode cX5_digest 57 = .ok (.istore 4, 2) := by decide +kernel
theorem dX5_digest_59 : decode cX5_digest 59 = .ok (.iload 4, 2) := by decide +kernel
theorem dX5_digest_61 : decode cX5_digest 61 = .ok (.aload_n 0, 1) := by decide +kernel
theorem dX5_digest_62 : decode cX5_digest 62 = .ok (.getfield 14, 3) := by decide +kernel
theorem dX5_digest_65 : decode cX5_digest 65 = .ok (.getfield 160, 3) := by decide +kernel
theorem dX5_digest_68 : decode cX5_digest 68 = .ok (.if_icmp .ge 24, 3) := by decide +kernel
theorem dX5_digest_71 : decode cX5_digest 71 = .ok (.ldc2_w 221, 3) := by decide +kernel
theorem dX5_digest_74 : decode cX5_digest 74 = .ok (.lload_n 1, 1) := by decide +kernel
theorem dX5_digest_75 : decode cX5_digest 75 = .ok (.lmul, 1) := by decide +kernel
theorem dX5_digest_76 : decode cX5_digest 76 = .ok (.aload_n 0, 1) := by decide +kernel
theorem dX5_digest_77 : decode cX5_digest 77 = .ok (.iload 4, 2) := by decide +kernel
theorem dX5_digest_79 : decode cX5_digest 79 = .ok (.iconst 5, 1) := by decide +kernel
theorem dX5_digest_80 : decode cX5_digest 80 = .ok (.iload_n 3, 1) := by decide +kernel
theorem dX5_digest_81 : decode cX5_digest 81 = .ok (.invokevirtual 233, 3) := by decide +kernel
theorem dX5_digest_84 : decode cX5_digest 84 = .ok (.ladd, 1) := by decide +kernel
theorem dX5_digest_85 : decode cX5_digest 85 = .ok (.lstore_n 1, 1) := by decide +kernel
theorem dX5_digest_86 : decode cX5_digest 86 = .ok (.iinc 4 1, 3) := by decide +kernel
theorem dX5_digest_89 : decode cX5_digest 89 = .ok (.goto (-30), 3) := by decide +kernel
theorem dX5_digest_92 : decode cX5_digest 92 = .ok (.iinc 3 1, 3) := by decide +kernel
theorem dX5_digest_95 : decode cX5_digest 95 = .ok (.goto (-50), 3) := by decide +kernel
theorem dX5_digest_98 : decode cX5_digest 98 = .ok (.ldc2_w 221, 3) := by decide +kernel
theorem dX5_digest_101 : decode cX5_digest 101 = .ok (.lload_n 1, 1) := by decide +kernel
theorem dX5_digest_102 : decode cX5_digest 102 = .ok (.lmul, 1) := by decide +kernel
theorem dX5_digest_103 : decode cX5_digest 103 = .ok (.aload_n 0, 1) := by decide +kernel
theorem dX5_digest_104 : decode cX5_digest 104 = .ok (.iconst 0, 1) := by decide +kernel
theorem dX5_digest_105 : decode cX5_digest 105 = .ok (.invokevirtual 237, 3) := by decide +kernel
theorem dX5_digest_108 : decode cX5_digest 108 = .ok (.i2l, 1) := by decide +kernel
theorem dX5_digest_109 : decode cX5_digest 109 = .ok (.ladd, 1) := by decide +kernel
theorem dX5_digest_110 : decode cX5_digest 110 = .ok (.lstore_n 1, 1) := by decide +kernel
theorem dX5_digest_111 : decode cX5_digest 111 = .ok (.ldc2_w 221, 3) := by decide +kernel
theorem dX5_digest_114 : decode cX5_digest 114 = .ok (.lload_n 1, 1) := by decide +kernel
theorem dX5_digest_115 : decode cX5_digest 115 = .ok (.lmul, 1) := by decide +kernel
theorem dX5_digest_116 : decode cX5_digest 116 = .ok (.aload_n 0, 1) := by decide +kernel
theorem dX5_digest_117 : decode cX5_digest 117 = .ok (.iconst 1, 1) := by decide +kernel
theorem dX5_digest_118 : decode cX5_digest 118 = .ok (.invokevirtual 237, 3) := by decide +kernel
theorem dX5_digest_121 : decode cX5_digest 121 = .ok (.i2l, 1) := by decide +kernel
theorem dX5_digest_122 : decode cX5_digest 122 = .ok (.ladd, 1) := by decide +kernel
theorem dX5_digest_123 : decode cX5_digest 123 = .ok (.lstore_n 1, 1) := by decide +kernel
theorem dX5_digest_124 : decode cX5_digest 124 = .ok (.ldc2_w 221, 3) := by decide +kernel
theorem dX5_digest_127 : decode cX5_digest 127 = .ok (.lload_n 1, 1) := by decide +kernel
theorem dX5_digest_128 : decode cX5_digest 128 = .ok (.lmul, 1) := by decide +kernel
theorem dX5_digest_129 : decode cX5_digest 129 = .ok (.aload_n 0, 1) := by decide +kernel
theorem dX5_digest_130 : decode cX5_digest 130 = .ok (.iconst 0, 1) := by decide +kernel
theorem dX5_digest_131 : decode cX5_digest 131 = .ok (.invokevirtual 240, 3) := by decide +kernel
theorem dX5_digest_134 : decode cX5_digest 134 = .ok (.i2l, 1) := by decide +kernel
theorem dX5_digest_135 : decode cX5_digest 135 = .ok (.ladd, 1) := by decide +kernel
theorem dX5_digest_136 : decode cX5_digest 136 = .ok (.lreturn, 1) := by decide +kernel
set_option maxRecDepth 20000 in
theorem ggX5_digestShafts_X5_of : GoodIn wsX5_digestShafts wsX5_of := goodIn_r _ [8, 1, 9, 10, 11, 12, 13, 14, 15, 16, 17, 18, 19, 20, 7, 21, 22, 23, 24, 25, 26, 27, 28, 29, 30, 31, 32, 33, 34, 35, 36, 37, 38, 39, 40, 41, 42, 98, 99, 100, 101, 102, 103, 104, 105, 106, 107, 108, 109, 110, 111, 112, 113, 114, 115, 116, 117, 118, 119, 120, 121] (by decide +kernel) (by decide +kernel)
set_option maxRecDepth 20000 in
theorem gX5_digestShafts_X5_of : GoodIn wsX5_digestShafts (wsV RX5 243 RX5 yX5_of wsX5_of) := goodIn_app (goodIn_of _ (by decide +kernel)) ggX5_digestShafts_X5_of
set_option maxRecDepth 20000 in
theorem ggX5_digestShafts_X5_when : GoodIn wsX5_digestShafts wsX5_when := goodIn_r _ [46, 1, 47, 14, 15, 16, 17, 18, 19, 20, 7, 21, 22, 23, 24, 25, 26, 27, 28, 48, 49, 50, 51, 52, 53, 54, 55, 56, 57, 58, 59, 60, 61, 62, 63, 64, 65, 66, 67, 68, 69, 70, 71, 72, 73, 74, 75, 76, 77, 78, 79, 80, 81, 82, 83, 84, 85, 86, 87, 88, 89, 90, 91, 92, 93, 94, 95, 96, 97, 98, 99, 100, 101, 102, 103, 104, 105, 106, 107, 108, 109, 110, 111, 112, 113, 114, 115, 116, 117, 118, 119, 120, 121, 122, 123, 124, 125] (by decide +kernel) (by decide +kernel)
set_option maxRecDepth 20000 in
theorem gX5_digestShafts_X5_when : GoodIn wsX5_digestShafts (wsV RX5 246 RX5 yX5_when wsX5_when) := goodIn_app (goodIn_of _ (by decide +kernel)) ggX5_digestShafts_X5_when
theorem dX5_digestShafts_0 : decode cX5_digestShafts 0 = .ok (.lload_n 1, 1) := by decide +kernel
theorem dX5_digestShafts_1 : decode cX5_digestShafts 1 = .ok (.lstore_n 3, 1) := by decide +kernel
theorem dX5_digestShafts_2 : decode cX5_digestShafts 2 = .ok (.iconst 0, 1) := by decide +kernel
theorem dX5_digestShafts_3 : decode cX5_digestShafts 3 = .ok (.istore 5, 2) := by decide +kernel
theorem dX5_digestShafts_5 : decode cX5_digestShafts 5 = .ok (.iload 5, 2) := by decide +kernel
theorem dX5_digestShafts_7 : decode cX5_digestShafts 7 = .ok (.aload_n 0, 1) := by decide +kernel
theorem dX5_digestShafts_8 : decode cX5_digestShafts 8 = .ok (.getfield 14, 3) := by decide +kernel
theorem dX5_digestShafts_11 : decode cX5_digestShafts 11 = .ok (.getfield 160, 3) := by decide +kernel
theorem dX5_digestShafts_14 : decode cX5_digestShafts 14 = .ok (.if_icmp .ge 54, 3) := by decide +kernel
theorem dX5_digestShafts_17 : decode cX5_digestShafts 17 = .ok (.iconst 0, 1) := by decide +kernel
theorem dX5_digestShafts_18 : decode cX5_digestShafts 18 = .ok (.istore 6, 2) := by decide +kernel
theorem dX5_digestShafts_20 : decode cX5_digestShafts 20 = .ok (.iload 6, 2) := by decide +kernel
theorem dX5_digestShafts_22 : decode cX5_digestShafts 22 = .ok (.iconst 5, 1) := by decide +kernel
theorem dX5_digestShafts_23 : decode cX5_digestShafts 23 = .ok (.if_icmp .gt 25, 3) := by decide +kernel
theorem dX5_digestShafts_26 : decode cX5_digestShafts 26 = .ok (.ldc2_w 221, 3) := by decide +kernel
theorem dX5_digestShafts_29 : decode cX5_digestShafts 29 = .ok (.lload_n 3, 1) := by decide +kernel
theorem dX5_digestShafts_30 : decode cX5_digestShafts 30 = .ok (.lmul, 1) := by decide +kernel
theorem dX5_digestShafts_31 : decode cX5_digestShafts 31 = .ok (.aload_n 0, 1) := by decide +kernel
theorem dX5_digestShafts_32 : decode cX5_digestShafts 32 = .ok (.iload 5, 2) := by decide +kernel
theorem dX5_digestShafts_34 : decode cX5_digestShafts 34 = .ok (.iload 6, 2) := by decide +kernel
theorem dX5_digestShafts_36 : decode cX5_digestShafts 36 = .ok (.invokevirtual 243, 3) := by decide +kernel
theorem dX5_digestShafts_39 : decode cX5_digestShafts 39 = .ok (.i2l, 1) := by decide +kernel
theorem dX5_digestShafts_40 : decode cX5_digestShafts 40 = .ok (.ladd, 1) := by decide +kernel
theorem dX5_digestShafts_41 : decode cX5_digestShafts 41 = .ok (.lstore_n 3, 1) := by decide +kernel
theorem dX5_digestShafts_42 : decode cX5_digestShafts 42 = .ok (.iinc 6 1, 3) := by decide +kernel
theorem dX5_digestShafts_45 : decode cX5_digestShafts 45 = .ok (.goto (-25), 3) := by decide +kernel
theorem dX5_digestShafts_48 : decode cX5_digestShafts 48 = .ok (.ldc2_w 221, 3) := by decide +kernel
theorem dX5_digestShafts_51 : decode cX5_digestShafts 51 = .ok (.lload_n 3, 1) := by decide +kernel
theorem dX5_digestShafts_52 : decode cX5_digestShafts 52 = .ok (.lmul, 1) := by decide +kernel
theorem dX5_digestShafts_53 : decode cX5_digestShafts 53 = .ok (.aload_n 0, 1) := by decide +kernel
theorem dX5_digestShafts_54 : decode cX5_digestShafts 54 = .ok (.iload 5, 2) := by decide +kernel
theorem dX5_digestShafts_56 : decode cX5_digestShafts 56 = .ok (.invokevirtual 246, 3) := by decide +kernel
theorem dX5_digestShafts_59 : decode cX5_digestShafts 59 = .ok (.i2l, 1) := by decide +kernel
theorem dX5_digestShafts_60 : decode cX5_digestShafts 60 = .ok (.ladd, 1) := by decide +kernel
theorem dX5_digestShafts_61 : decode cX5_digestShafts 61 = .ok (.lstore_n 3, 1) := by decide +kernel
theorem dX5_digestShafts_62 : decode cX5_digestShafts 62 = .ok (.iinc 5 1, 3) := by decide +kernel
theorem dX5_digestShafts_65 : decode cX5_digestShafts 65 = .ok (.goto (-60), 3) := by decide +kernel
theorem dX5_digestShafts_68 : decode cX5_digestShafts 68 = .ok (.lload_n 3, 1) := by decide +kernel
theorem dX5_digestShafts_69 : decode cX5_digestShafts 69 = .ok (.lreturn, 1) := by decide +kernel
set_option maxRecDepth 20000 in
theorem ggX5_digestPipes_X5_about : GoodIn wsX5_digestPipes wsX5_about := goodIn_r _ [8, 1, 9, 10, 11, 12, 13, 14, 15, 16, 17, 18, 19, 7, 20, 21, 22, 23, 24, 25, 26, 27, 28, 29, 30, 31, 32, 33, 34, 35, 36, 37, 38, 39, 40, 41, 42, 43, 44, 45, 46, 47, 48, 49, 50, 51] (by decide +kernel) (by decide +kernel)
set_option maxRecDepth 20000 in
theorem gX5_digestPipes_X5_about : GoodIn wsX5_digestPipes (wsV RX5 249 RX5 yX5_about wsX5_about) := goodIn_app (goodIn_of _ (by decide +kernel)) ggX5_digestPipes_X5_about
theorem dX5_digestPipes_0 : decode cX5_digestPipes 0 = .ok (.lload_n 1, 1) := by decide +kernel
theorem dX5_digestPipes_1 : decode cX5_digestPipes 1 = .ok (.lstore_n 3, 1) := by decide +kernel
theorem dX5_digestPipes_2 : decode cX5_digestPipes 2 = .ok (.iconst 0, 1) := by decide +kernel
theorem dX5_digestPipes_3 : decode cX5_digestPipes 3 = .ok (.istore 5, 2) := by decide +kernel
theorem dX5_digestPipes_5 : decode cX5_digestPipes 5 = .ok (.iload 5, 2) := by decide +kernel
theorem dX5_digestPipes_7 : decode cX5_digestPipes 7 = .ok (.aload_n 0, 1) := by decide +kernel
theorem dX5_digestPipes_8 : decode cX5_digestPipes 8 = .ok (.getfield 14, 3) := by decide +kernel
theorem dX5_digestPipes_11 : decode cX5_digestPipes 11 = .ok (.getfield 213, 3) := by decide +kernel
theorem dX5_digestPipes_14 : decode cX5_digestPipes 14 = .ok (.if_icmp .ge 40, 3) := by decide +kernel
theorem dX5_digestPipes_17 : decode cX5_digestPipes 17 = .ok (.iconst 0, 1) := by decide +kernel
theorem dX5_digestPipes_18 : decode cX5_digestPipes 18 = .ok (.istore 6, 2) := by decide +kernel
theorem dX5_digestPipes_20 : decode cX5_digestPipes 20 = .ok (.iload 6, 2) := by decide +kernel
theorem dX5_digestPipes_22 : decode cX5_digestPipes 22 = .ok (.iconst 3, 1) := by decide +kernel
theorem dX5_digestPipes_23 : decode cX5_digestPipes 23 = .ok (.if_icmp .gt 25, 3) := by decide +kernel
theorem dX5_digestPipes_26 : decode cX5_digestPipes 26 = .ok (.ldc2_w 221, 3) := by decide +kernel
theorem dX5_digestPipes_29 : decode cX5_digestPipes 29 = .ok (.lload_n 3, 1) := by decide +kernel
theorem dX5_digestPipes_30 : decode cX5_digestPipes 30 = .ok (.lmul, 1) := by decide +kernel
theorem dX5_digestPipes_31 : decode cX5_digestPipes 31 = .ok (.aload_n 0, 1) := by decide +kernel
theorem dX5_digestPipes_32 : decode cX5_digestPipes 32 = .ok (.iload 5, 2) := by decide +kernel
theorem dX5_digestPipes_34 : decode cX5_digestPipes 34 = .ok (.iload 6, 2) := by decide +kernel
theorem dX5_digestPipes_36 : decode cX5_digestPipes 36 = .ok (.invokevirtual 249, 3) := by decide +kernel
theorem dX5_digestPipes_39 : decode cX5_digestPipes 39 = .ok (.i2l, 1) := by decide +kernel
theorem dX5_digestPipes_40 : decode cX5_digestPipes 40 = .ok (.ladd, 1) := by decide +kernel
theorem dX5_digestPipes_41 : decode cX5_digestPipes 41 = .ok (.lstore_n 3, 1) := by decide +kernel
theorem dX5_digestPipes_42 : decode cX5_digestPipes 42 = .ok (.iinc 6 1, 3) := by decide +kernel
theorem dX5_digestPipes_45 : decode cX5_digestPipes 45 = .ok (.goto (-25), 3) := by decide +kernel
theorem dX5_digestPipes_48 : decode cX5_digestPipes 48 = .ok (.iinc 5 1, 3) := by decide +kernel
theorem dX5_digestPipes_51 : decode cX5_digestPipes 51 = .ok (.goto (-46), 3) := by decide +kernel
theorem dX5_digestPipes_54 : decode cX5_digestPipes 54 = .ok (.lload_n 3, 1) := by decide +kernel
theorem dX5_digestPipes_55 : decode cX5_digestPipes 55 = .ok (.lreturn, 1) := by decide +kernel
set_option maxRecDepth 20000 in
theorem ggX5_isStart_X0_hasShaft : GoodIn wsX5_isStart wsX0_hasShaft := goodIn_r _ [6, 7, 8, 9, 10, 22, 23, 24, 25, 26, 27, 28, 29, 30, 31, 32, 33, 34, 35] (by decide +kernel) (by decide +kernel)
set_option maxRecDepth 20000 in
theorem gX5_isStart_X0_hasShaft : GoodIn wsX5_isStart (wsV RX5 74 RX0 yX0_hasShaft wsX0_hasShaft) := goodIn_app (goodIn_of _ (by decide +kernel)) ggX5_isStart_X0_hasShaft
set_option maxRecDepth 20000 in
theorem ggX5_isStart_X5_within : GoodIn wsX5_isStart wsX5_within := goodIn_r _ [10] (by decide +kernel) (by decide +kernel)
set_option maxRecDepth 20000 in
theorem gX5_isStart_X5_within : GoodIn wsX5_isStart (va_wsS RX5 125 yX5_within wsX5_within) := goodIn_app (goodIn_of _ (by decide +kernel)) ggX5_isStart_X5_within
theorem dX5_isStart_0 : decode cX5_isStart 0 = .ok (.aload_n 0, 1) := by decide +kernel
theorem dX5_isStart_1 : decode cX5_isStart 1 = .ok (.getfield 14, 3) := by decide +kernel
theorem dX5_isStart_4 : decode cX5_isStart 4 = .ok (.iload_n 1, 1) := by decide +kernel
theorem dX5_isStart_5 : decode cX5_isStart 5 = .ok (.invokevirtual 74, 3) := by decide +kernel
theorem dX5_isStart_8 : decode cX5_isStart 8 = .ok (.ifCond .eq 17, 3) := by decide +kernel
theorem dX5_isStart_11 : decode cX5_isStart 11 = .ok (.iload_n 2, 1) := by decide +kernel
theorem dX5_isStart_12 : decode cX5_isStart 12 = .ok (.iconst 0, 1) := by decide +kernel
theorem dX5_isStart_13 : decode cX5_isStart 13 = .ok (.bipush 30, 2) := by decide +kernel
theorem dX5_isStart_15 : decode cX5_isStart 15 = .ok (.invokestatic 125, 3) := by decide +kernel
theorem dX5_isStart_18 : decode cX5_isStart 18 = .ok (.ifCond .eq 7, 3) := by decide +kernel
theorem dX5_isStart_21 : decode cX5_isStart 21 = .ok (.iconst 1, 1) := by decide +kernel
theorem dX5_isStart_22 : decode cX5_isStart 22 = .ok (.goto 4, 3) := by decide +kernel
theorem dX5_isStart_25 : decode cX5_isStart 25 = .ok (.iconst 0, 1) := by decide +kernel
theorem dX5_isStart_26 : decode cX5_isStart 26 = .ok (.ireturn, 1) := by decide +kernel
set_option maxRecDepth 20000 in
theorem ggX5_settled_X5_refused : GoodIn wsX5_settled wsX5_refused := goodIn_r _ [7, 8, 9, 10, 24, 25, 26, 27, 28, 29, 30, 31, 32, 33] (by decide +kernel) (by decide +kernel)
set_option maxRecDepth 20000 in
theorem gX5_settled_X5_refused : GoodIn wsX5_settled (wsV RX5 78 RX5 yX5_refused wsX5_refused) := goodIn_app (goodIn_of _ (by decide +kernel)) ggX5_settled_X5_refused
set_option maxRecDepth 20000 in
theorem ggX5_settled_X3_keep : GoodIn wsX5_settled wsX3_keep := goodIn_r _ [15, 16, 17, 34, 35] (by decide +kernel) (by decide +kernel)
set_option maxRecDepth 20000 in
theorem gX5_settled_X3_keep : GoodIn wsX5_settled (wsV RX5 252 RX3 yX3_keep wsX3_keep) := goodIn_app (goodIn_of _ (by decide +kernel)) ggX5_settled_X3_keep
set_option maxRecDepth 20000 in
theorem ggX5_settled_X1_outdate : GoodIn wsX5_settled wsX1_outdate := goodIn_r _ [22, 23, 36, 37, 38, 39] (by decide +kernel) (by decide +kernel)
set_option maxRecDepth 20000 in
theorem gX5_settled_X1_outdate : GoodIn wsX5_settled (wsV RX5 201 RX1 yX1_outdate wsX1_outdate) := goodIn_app (goodIn_of _ (by decide +kernel)) ggX5_settled_X1_outdate
theorem dX5_settled_0 : decode cX5_settled 0 = .ok (.iload_n 1, 1) := by decide +kernel
theorem dX5_settled_1 : decode cX5_settled 1 = .ok (.ifCond .ge 9, 3) := by decide +kernel
theorem dX5_settled_4 : decode cX5_settled 4 = .ok (.aload_n 0, 1) := by decide +kernel
theorem dX5_settled_5 : decode cX5_settled 5 = .ok (.iload_n 1, 1) := by decide +kernel
theorem dX5_settled_6 : decode cX5_settled 6 = .ok (.invokevirtual 78, 3) := by decide +kernel
theorem dX5_settled_9 : decode cX5_settled 9 = .ok (.ireturn, 1) := by decide +kernel
theorem dX5_settled_10 : decode cX5_settled 10 = .ok (.aload_n 0, 1) := by decide +kernel
theorem dX5_settled_11 : decode cX5_settled 11 = .ok (.getfield 21, 3) := by decide +kernel
theorem dX5_settled_14 : decode cX5_settled 14 = .ok (.invokevirtual 252, 3) := by decide +kernel
theorem dX5_settled_17 : decode cX5_settled 17 = .ok (.aload_n 0, 1) := by decide +kernel
theorem dX5_settled_18 : decode cX5_settled 18 = .ok (.getfield 30, 3) := by decide +kernel
theorem dX5_settled_21 : decode cX5_settled 21 = .ok (.invokevirtual 201, 3) := by decide +kernel
theorem dX5_settled_24 : decode cX5_settled 24 = .ok (.iload_n 1, 1) := by decide +kernel
theorem dX5_settled_25 : decode cX5_settled 25 = .ok (.ireturn, 1) := by decide +kernel
theorem dX5_refused_0 : decode cX5_refused 0 = .ok (.iload_n 1, 1) := by decide +kernel
theorem dX5_refused_1 : decode cX5_refused 1 = .ok (.lookupswitch 53 #[(-3, 40), (-2, 27)], 27) := by decide +kernel
theorem dX5_refused_28 : decode cX5_refused 28 = .ok (.aload_n 0, 1) := by decide +kernel
theorem dX5_refused_29 : decode cX5_refused 29 = .ok (.dup, 1) := by decide +kernel
theorem dX5_refused_30 : decode cX5_refused 30 = .ok (.getfield 204, 3) := by decide +kernel
theorem dX5_refused_33 : decode cX5_refused 33 = .ok (.iconst 1, 1) := by decide +kernel
theorem dX5_refused_34 : decode cX5_refused 34 = .ok (.iadd, 1) := by decide +kernel
theorem dX5_refused_35 : decode cX5_refused 35 = .ok (.putfield 204, 3) := by decide +kernel
theorem dX5_refused_38 : decode cX5_refused 38 = .ok (.goto 26, 3) := by decide +kernel
theorem dX5_refused_41 : decode cX5_refused 41 = .ok (.aload_n 0, 1) := by decide +kernel
theorem dX5_refused_42 : decode cX5_refused 42 = .ok (.dup, 1) := by decide +kernel
theorem dX5_refused_43 : decode cX5_refused 43 = .ok (.getfield 207, 3) := by decide +kernel
theorem dX5_refused_46 : decode cX5_refused 46 = .ok (.iconst 1, 1) := by decide +kernel
theorem dX5_refused_47 : decode cX5_refused 47 = .ok (.iadd, 1) := by decide +kernel
theorem dX5_refused_48 : decode cX5_refused 48 = .ok (.putfield 207, 3) := by decide +kernel
theorem dX5_refused_51 : decode cX5_refused 51 = .ok (.goto 13, 3) := by decide +kernel
theorem dX5_refused_54 : decode cX5_refused 54 = .ok (.aload_n 0, 1) := by decide +kernel
theorem dX5_refused_55 : decode cX5_refused 55 = .ok (.dup, 1) := by decide +kernel
theorem dX5_refused_56 : decode cX5_refused 56 = .ok (.getfield 210, 3) := by decide +kernel
theorem dX5_refused_59 : decode cX5_refused 59 = .ok (.iconst 1, 1) := by decide +kernel
theorem dX5_refused_60 : decode cX5_refused 60 = .ok (.iadd, 1) := by decide +kernel
theorem dX5_refused_61 : decode cX5_refused 61 = .ok (.putfield 210, 3) := by decide +kernel
theorem dX5_refused_64 : decode cX5_refused 64 = .ok (.iload_n 1, 1) := by decide +kernel
theorem dX5_refused_65 : decode cX5_refused 65 = .ok (.ireturn, 1) := by decide +kernel
set_option maxRecDepth 20000 in
theorem ggX5_largerPart_J6_bitCount_0f7a4 : GoodIn wsX5_largerPart wsJ6_bitCount_0f7a4 := goodIn_r _ [8, 9, 10, 11] (by decide +kernel) (by decide +kernel)
set_option maxRecDepth 20000 in
theorem gX5_largerPart_J6_bitCount_0f7a4 : GoodIn wsX5_largerPart (va_wsS RX5 176 yJ6_bitCount_0f7a4 wsJ6_bitCount_0f7a4) := goodIn_app (goodIn_of _ (by decide +kernel)) ggX5_largerPart_J6_bitCount_0f7a4
theorem dX5_largerPart_0 : decode cX5_largerPart 0 = .ok (.iload_n 0, 1) := by decide +kernel
theorem dX5_largerPart_1 : decode cX5_largerPart 1 = .ok (.iload_n 1, 1) := by decide +kernel
theorem dX5_largerPart_2 : decode cX5_largerPart 2 = .ok (.iand, 1) := by decide +kernel
theorem dX5_largerPart_3 : decode cX5_largerPart 3 = .ok (.invokestatic 176, 3) := by decide +kernel
theorem dX5_largerPart_6 : decode cX5_largerPart 6 = .ok (.istore_n 2, 1) := by decide +kernel
theorem dX5_largerPart_7 : decode cX5_largerPart 7 = .ok (.iload_n 2, 1) := by decide +kernel
theorem dX5_largerPart_8 : decode cX5_largerPart 8 = .ok (.iload_n 0, 1) := by decide +kernel
theorem dX5_largerPart_9 : decode cX5_largerPart 9 = .ok (.invokestatic 176, 3) := by decide +kernel
theorem dX5_largerPart_12 : decode cX5_largerPart 12 = .ok (.iload_n 2, 1) := by decide +kernel
theorem dX5_largerPart_13 : decode cX5_largerPart 13 = .ok (.isub, 1) := by decide +kernel
theorem dX5_largerPart_14 : decode cX5_largerPart 14 = .ok (.invokestatic 255, 3) := by decide +kernel
theorem dX5_largerPart_17 : decode cX5_largerPart 17 = .ok (.ireturn, 1) := by decide +kernel
theorem dX5_within_0 : decode cX5_within 0 = .ok (.iload_n 0, 1) := by decide +kernel
theorem dX5_within_1 : decode cX5_within 1 = .ok (.iload_n 1, 1) := by decide +kernel
theorem dX5_within_2 : decode cX5_within 2 = .ok (.if_icmp .lt 12, 3) := by decide +kernel
theorem dX5_within_5 : decode cX5_within 5 = .ok (.iload_n 0, 1) := by decide +kernel
theorem dX5_within_6 : decode cX5_within 6 = .ok (.iload_n 2, 1) := by decide +kernel
theorem dX5_within_7 : decode cX5_within 7 = .ok (.if_icmp .gt 7, 3) := by decide +kernel
theorem dX5_within_10 : decode cX5_within 10 = .ok (.iconst 1, 1) := by decide +kernel
theorem dX5_within_11 : decode cX5_within 11 = .ok (.goto 4, 3) := by decide +kernel
theorem dX5_within_14 : decode cX5_within 14 = .ok (.iconst 0, 1) := by decide +kernel
theorem dX5_within_15 : decode cX5_within 15 = .ok (.ireturn, 1) := by decide +kernel
end
section
theorem dX6_init_0 : decode cX6_init 0 = .ok (.aload_n 0, 1) := by decide +kernel
theorem dX6_init_1 : decode cX6_init 1 = .ok (.invokespecial 1, 3) := by decide +kernel
theorem dX6_init_4 : decode cX6_init 4 = .ok (.aload_n 0, 1) := by decide +kernel
theorem dX6_init_5 : decode cX6_init 5 = .ok (.bipush 123, 2) := by decide +kernel
theorem dX6_init_7 : decode cX6_init 7 = .ok (.newarray .int, 2) := by decide +kernel
theorem dX6_init_9 : decode cX6_init 9 = .ok (.putfield 7, 3) := by decide +kernel
theorem dX6_init_12 : decode cX6_init 12 = .ok (.aload_n 0, 1) := by decide +kernel
theorem dX6_init_13 : decode cX6_init 13 = .ok (.bipush 123, 2) := by decide +kernel
theorem dX6_init_15 : decode cX6_init 15 = .ok (.newarray .int, 2) := by decide +kernel
theorem dX6_init_17 : decode cX6_init 17 = .ok (.putfield 13, 3) := by decide +kernel
theorem dX6_init_20 : decode cX6_init 20 = .ok (.aload_n 0, 1) := by decide +kernel
theorem dX6_init_21 : decode cX6_init 21 = .ok (.sipush 615, 3) := by decide +kernel
theorem dX6_init_24 : decode cX6_init 24 = .ok (.newarray .int, 2) := by decide +kernel
theorem dX6_init_26 : decode cX6_init 26 = .ok (.putfield 16, 3) := by decide +kernel
theorem dX6_init_29 : decode cX6_init 29 = .ok (.aload_n 0, 1) := by decide +kernel
theorem dX6_init_30 : decode cX6_init 30 = .ok (.iconst 3, 1) := by decide +kernel
theorem dX6_init_31 : decode cX6_init 31 = .ok (.newarray .int, 2) := by decide +kernel
theorem dX6_init_33 : decode cX6_init 33 = .ok (.putfield 19, 3) := by decide +kernel
theorem dX6_init_36 : decode cX6_init 36 = .ok (.aload_n 0, 1) := by decide +kernel
theorem dX6_init_37 : decode cX6_init 37 = .ok (.bipush 10, 2) := by decide +kernel
theorem dX6_init_39 : decode cX6_init 39 = .ok (.newarray .long, 2) := by decide +kernel
theorem dX6_init_41 : decode cX6_init 41 = .ok (.putfield 22, 3) := by decide +kernel
theorem dX6_init_44 : decode cX6_init 44 = .ok (.aload_n 0, 1) := by decide +kernel
theorem dX6_init_45 : decode cX6_init 45 = .ok (.bipush 10, 2) := by decide +kernel
theorem dX6_init_47 : decode cX6_init 47 = .ok (.newarray .int, 2) := by decide +kernel
theorem dX6_init_49 : decode cX6_init 49 = .ok (.putfield 26, 3) := by decide +kernel
theorem dX6_init_52 : decode cX6_init 52 = .ok (.aload_n 0, 1) := by decide +kernel
theorem dX6_init_53 : decode cX6_init 53 = .ok (.bipush 120, 2) := by decide +kernel
theorem dX6_init_55 : decode cX6_init 55 = .ok (.newarray .int, 2) := by decide +kernel
theorem dX6_init_57 : decode cX6_init 57 = .ok (.putfield 29, 3) := by decide +kernel
theorem dX6_init_60 : decode cX6_init 60 = .ok (.aload_n 0, 1) := by decide +kernel
theorem dX6_init_61 : decode cX6_init 61 = .ok (.bipush 40, 2) := by decide +kernel
theorem dX6_init_63 : decode cX6_init 63 = .ok (.newarray .int, 2) := by decide +kernel
theorem dX6_init_65 : decode cX6_init 65 = .ok (.putfield 32, 3) := by decide +kernel
theorem dX6_init_68 : decode cX6_init 68 = .ok (.aload_n 0, 1) := by decide +kernel
theorem dX6_init_69 : decode cX6_init 69 = .ok (.sipush 160, 3) := by decide +kernel
theorem dX6_init_72 : decode cX6_init 72 = .ok (.newarray .int, 2) := by decide +kernel
theorem dX6_init_74 : decode cX6_init 74 = .ok (.putfield 35, 3) := by decide +kernel
theorem dX6_init_77 : decode cX6_init 77 = .ok (.aload_n 0, 1) := by decide +kernel
theorem dX6_init_78 : decode cX6_init 78 = .ok (.iconst 0, 1) := by decide +kernel
theorem dX6_init_79 : decode cX6_init 79 = .ok (.putfield 38, 3) := by decide +kernel
theorem dX6_init_82 : decode cX6_init 82 = .ok (.return_, 1) := by decide +kernel
theorem dX6_in_0 : decode cX6_in 0 = .ok (.iload_n 0, 1) := by decide +kernel
theorem dX6_in_1 : decode cX6_in 1 = .ok (.iload_n 1, 1) := by decide +kernel
theorem dX6_in_2 : decode cX6_in 2 = .ok (.if_icmp .lt 12, 3) := by decide +kernel
theorem dX6_in_5 : decode cX6_in 5 = .ok (.iload_n 0, 1) := by decide +kernel
theorem dX6_in_6 : decode cX6_in 6 = .ok (.iload_n 2, 1) := by decide +kernel
theorem dX6_in_7 : decode cX6_in 7 = .ok (.if_icmp .gt 7, 3) := by decide +kernel
theorem dX6_in_10 : decode cX6_in 10 = .ok (.iconst 1, 1) := by decide +kernel
theorem dX6_in_11 : decode cX6_in 11 = .ok (.goto 4, 3) := by decide +kernel
theorem dX6_in_14 : decode cX6_in 14 = .ok (.iconst 0, 1) := by decide +kernel
theorem dX6_in_15 : decode cX6_in 15 = .ok (.ireturn, 1) := by decide +kernel
theorem dX6_has_0 : decode cX6_has 0 = .ok (.iload_n 0, 1) := by decide +kernel
theorem dX6_has_1 : decode cX6_has 1 = .ok (.iload_n 1, 1) := by decide +kernel
theorem dX6_has_2 : decode cX6_has 2 = .ok (.ishr, 1) := by decide +kernel
theorem dX6_has_3 : decode cX6_has 3 = .ok (.iconst 1, 1) := by decide +kernel
theorem dX6_has_4 : decode cX6_has 4 = .ok (.iand, 1) := by decide +kernel
theorem dX6_has_5 : decode cX6_has 5 = .ok (.iconst 1, 1) := by decide +kernel
theorem dX6_has_6 : decode cX6_has 6 = .ok (.if_icmp .ne 7, 3) := by decide +kernel
theorem dX6_has_9 : decode cX6_has 9 = .ok (.iconst 1, 1) := by decide +kernel
theorem dX6_has_10 : decode cX6_has 10 = .ok (.goto 4, 3) := by decide +kernel
theorem dX6_has_13 : decode cX6_has 13 = .ok (.iconst 0, 1) := by decide +kernel
theorem dX6_has_14 : decode cX6_has 14 = .ok (.ireturn, 1) := by decide +kernel
set_option maxRecDepth 20000 in
theorem ggX6_ones_X6_has : GoodIn wsX6_ones wsX6_has := goodIn_r _ [4] (by decide +kernel) (by decide +kernel)
set_option maxRecDepth 20000 in
theorem gX6_ones_X6_has : GoodIn wsX6_ones (va_wsS RX6 42 yX6_has wsX6_has) := goodIn_app (goodIn_of _ (by decide +kernel)) ggX6_ones_X6_has
theorem dX6_ones_0 : decode cX6_ones 0 = .ok (.iconst 0, 1) := by decide +kernel
theorem dX6_ones_1 : decode cX6_ones 1 = .ok (.istore_n 1, 1) := by decide +kernel
theorem dX6_ones_2 : decode cX6_ones 2 = .ok (.iconst 0, 1) := by decide +kernel
theorem dX6_ones_3 : decode cX6_ones 3 = .ok (.istore_n 2, 1) := by decide +kernel
theorem dX6_ones_4 : decode cX6_ones 4 = .ok (.iload_n 2, 1) := by decide +kernel
theorem dX6_ones_5 : decode cX6_ones 5 = .ok (.bipush 10, 2) := by decide +kernel
theorem dX6_ones_7 : decode cX6_ones 7 = .ok (.if_icmp .ge 25, 3) := by decide +kernel
theorem dX6_ones_10 : decode cX6_ones 10 = .ok (.iload_n 1, 1) := by decide +kernel
theorem dX6_ones_11 : decode cX6_ones 11 = .ok (.iload_n 0, 1) := by decide +kernel
theorem dX6_ones_12 : decode cX6_ones 12 = .ok (.iload_n 2, 1) := by decide +kernel
theorem dX6_ones_13 : decode cX6_ones 13 = .ok (.invokestatic 42, 3) := by decide +kernel
theorem dX6_ones_16 : decode cX6_ones 16 = .ok (.ifCond .eq 7, 3) := by decide +kernel
theorem dX6_ones_19 : decode cX6_ones 19 = .ok (.iconst 1, 1) := by decide +kernel
theorem dX6_ones_20 : decode cX6_ones 20 = .ok (.goto 4, 3) := by decide +kernel
theorem dX6_ones_23 : decode cX6_ones 23 = .ok (.iconst 0, 1) := by decide +kernel
theorem dX6_ones_24 : decode cX6_ones 24 = .ok (.iadd, 1) := by decide +kernel
theorem dX6_ones_25 : decode cX6_ones 25 = .ok (.istore_n 1, 1) := by decide +kernel
theorem dX6_ones_26 : decode cX6_ones 26 = .ok (.iinc 2 1, 3) := by decide +kernel
theorem dX6_ones_29 : decode cX6_ones 29 = .ok (.goto (-25), 3) := by decide +kernel
theorem dX6_ones_32 : decode cX6_ones 32 = .ok (.iload_n 1, 1) := by decide +kernel
theorem dX6_ones_33 : decode cX6_ones 33 = .ok (.ireturn, 1) := by decide +kernel
theorem dX6_refuses_0 : decode cX6_refuses 0 = .ok (.aload_n 0, 1) := by decide +kernel
theorem dX6_refuses_1 : decode cX6_refuses 1 = .ok (.getfield 19, 3) := by decide +kernel
theorem dX6_refuses_4 : decode cX6_refuses 4 = .ok (.bipush (-2), 2) := by decide +kernel
theorem dX6_refuses_6 : decode cX6_refuses 6 = .ok (.iload_n 1, 1) := by decide +kernel
theorem dX6_refuses_7 : decode cX6_refuses 7 = .ok (.isub, 1) := by decide +kernel
theorem dX6_refuses_8 : decode cX6_refuses 8 = .ok (.dup2, 1) := by decide +kernel
theorem dX6_refuses_9 : decode cX6_refuses 9 = .ok (.iaload, 1) := by decide +kernel
theorem dX6_refuses_10 : decode cX6_refuses 10 = .ok (.iconst 1, 1) := by decide +kernel
theorem dX6_refuses_11 : decode cX6_refuses 11 = .ok (.iadd, 1) := by decide +kernel
theorem dX6_refuses_12 : decode cX6_refuses 12 = .ok (.iastore, 1) := by decide +kernel
theorem dX6_refuses_13 : decode cX6_refuses 13 = .ok (.iload_n 1, 1) := by decide +kernel
theorem dX6_refuses_14 : decode cX6_refuses 14 = .ok (.ireturn, 1) := by decide +kernel
theorem dX6_hold_0 : decode cX6_hold 0 = .ok (.iconst 0, 1) := by decide +kernel
theorem dX6_hold_1 : decode cX6_hold 1 = .ok (.istore_n 1, 1) := by decide +kernel
theorem dX6_hold_2 : decode cX6_hold 2 = .ok (.iload_n 1, 1) := by decide +kernel
theorem dX6_hold_3 : decode cX6_hold 3 = .ok (.bipush 123, 2) := by decide +kernel
theorem dX6_hold_5 : decode cX6_hold 5 = .ok (.if_icmp .ge 21, 3) := by decide +kernel
theorem dX6_hold_8 : decode cX6_hold 8 = .ok (.aload_n 0, 1) := by decide +kernel
theorem dX6_hold_9 : decode cX6_hold 9 = .ok (.getfield 13, 3) := by decide +kernel
theorem dX6_hold_12 : decode cX6_hold 12 = .ok (.iload_n 1, 1) := by decide +kernel
theorem dX6_hold_13 : decode cX6_hold 13 = .ok (.aload_n 0, 1) := by decide +kernel
theorem dX6_hold_14 : decode cX6_hold 14 = .ok (.getfield 7, 3) := by decide +kernel
theorem dX6_hold_17 : decode cX6_hold 17 = .ok (.iload_n 1, 1) := by decide +kernel
theorem dX6_hold_18 : decode cX6_hold 18 = .ok (.iaload, 1) := by decide +kernel
theorem dX6_hold_19 : decode cX6_hold 19 = .ok (.iastore, 1) := by decide +kernel
theorem dX6_hold_20 : decode cX6_hold 20 = .ok (.iinc 1 1, 3) := by decide +kernel
theorem dX6_hold_23 : decode cX6_hold 23 = .ok (.goto (-21), 3) := by decide +kernel
theorem dX6_hold_26 : decode cX6_hold 26 = .ok (.return_, 1) := by decide +kernel
theorem dX6_push_0 : decode cX6_push 0 = .ok (.aload_n 0, 1) := by decide +kernel
theorem dX6_push_1 : decode cX6_push 1 = .ok (.getfield 38, 3) := by decide +kernel
theorem dX6_push_4 : decode cX6_push 4 = .ok (.iconst 5, 1) := by decide +kernel
theorem dX6_push_5 : decode cX6_push 5 = .ok (.if_icmp .ne 43, 3) := by decide +kernel
theorem dX6_push_8 : decode cX6_push 8 = .ok (.iconst 0, 1) := by decide +kernel
theorem dX6_push_9 : decode cX6_push 9 = .ok (.istore_n 1, 1) := by decide +kernel
theorem dX6_push_10 : decode cX6_push 10 = .ok (.iload_n 1, 1) := by decide +kernel
theorem dX6_push_11 : decode cX6_push 11 = .ok (.sipush 492, 3) := by decide +kernel
theorem dX6_push_14 : decode cX6_push 14 = .ok (.if_icmp .ge 24, 3) := by decide +kernel
theorem dX6_push_17 : decode cX6_push 17 = .ok (.aload_n 0, 1) := by decide +kernel
theorem dX6_push_18 : decode cX6_push 18 = .ok (.getfield 16, 3) := by decide +kernel
theorem dX6_push_21 : decode cX6_push 21 = .ok (.iload_n 1, 1) := by decide +kernel
theorem dX6_push_22 : decode cX6_push 22 = .ok (.aload_n 0, 1) := by decide +kernel
theorem dX6_push_23 : decode cX6_push 23 = .ok (.getfield 16, 3) := by decide +kernel
theorem dX6_push_26 : decode cX6_push 26 = .ok (.iload_n 1, 1) := by decide +kernel
theorem dX6_push_27 : decode cX6_push 27 = .ok (.bipush 123, 2) := by decide +kernel
theorem dX6_push_29 : decode cX6_push 29 = .ok (.iadd, 1) := by decide +kernel
theorem dX6_push_30 : decode cX6_push 30 = .ok (.iaload, 1) := by decide +kernel
theorem dX6_push_31 : decode cX6_push 31 = .ok (.iastore, 1) := by decide +kernel
theorem dX6_push_32 : decode cX6_push 32 = .ok (.iinc 1 1, 3) := by decide +kernel
theorem dX6_push_35 : decode cX6_push 35 = .ok (.goto (-25), 3) := by decide +kernel
theorem dX6_push_38 : decode cX6_push 38 = .ok (.aload_n 0, 1) := by decide +kernel
theorem dX6_push_39 : decode cX6_push 39 = .ok (.dup, 1) := by decide +kernel
theorem dX6_push_40 : decode cX6_push 40 = .ok (.getfield 38, 3) := by decide +kernel
theorem dX6_push_43 : decode cX6_push 43 = .ok (.iconst 1, 1) := by decide +kernel
theorem dX6_push_44 : decode cX6_push 44 = .ok (.isub, 1) := by decide +kernel
theorem dX6_push_45 : decode cX6_push 45 = .ok (.putfield 38, 3) := by decide +kernel
theorem dX6_push_48 : decode cX6_push 48 = .ok (.iconst 0, 1) := by decide +kernel
theorem dX6_push_49 : decode cX6_push 49 = .ok (.istore_n 1, 1) := by decide +kernel
theorem dX6_push_50 : decode cX6_push 50 = .ok (.iload_n 1, 1) := by decide +kernel
theorem dX6_push_51 : decode cX6_push 51 = .ok (.bipush 123, 2) := by decide +kernel
theorem dX6_push_53 : decode cX6_push 53 = .ok (.if_icmp .ge 29, 3) := by decide +kernel
theorem dX6_push_56 : decode cX6_push 56 = .ok (.aload_n 0, 1) := by decide +kernel
theorem dX6_push_57 : decode cX6_push 57 = .ok (.getfield 16, 3) := by decide +kernel
theorem dX6_push_60 : decode cX6_push 60 = .ok (.bipush 123, 2) := by decide +kernel
theorem dX6_push_62 : decode cX6_push 62 = .ok (.aload_n 0, 1) := by decide +kernel
theorem dX6_push_63 : decode cX6_push 63 = .ok (.getfield 38, 3) := by decide +kernel
theorem dX6_push_66 : decode cX6_push 66 = .ok (.imul, 1) := by decide +kernel
theorem dX6_push_67 : decode cX6_push 67 = .ok (.iload_n 1, 1) := by decide +kernel
theorem dX6_push_68 : decode cX6_push 68 = .ok (.iadd, 1) := by decide +kernel
theorem dX6_push_69 : decode cX6_push 69 = .ok (.aload_n 0, 1) := by decide +kernel
theorem dX6_push_70 : decode cX6_push 70 = .ok (.getfield 13, 3) := by decide +kernel
theorem dX6_push_73 : decode cX6_push 73 = .ok (.iload_n 1, 1) := by decide +kernel
theorem dX6_push_74 : decode cX6_push 74 = .ok (.iaload, 1) := by decide +kernel
theorem dX6_push_75 : decode cX6_push 75 = .ok (.iastore, 1) := by decide +kernel
theorem dX6_push_76 : decode cX6_push 76 = .ok (.iinc 1 1, 3) := by decide +kernel
theorem dX6_push_79 : decode cX6_push 79 = .ok (.goto (-29), 3) := by decide +kernel
theorem dX6_push_82 : decode cX6_push 82 = .ok (.aload_n 0, 1) := by decide +kernel
theorem dX6_push_83 : decode cX6_push 83 = .ok (.dup, 1) := by decide +kernel
theorem dX6_push_84 : decode cX6_push 84 = .ok (.getfield 38, 3) := by decide +kernel
theorem dX6_push_87 : decode cX6_push 87 = .ok (.iconst 1, 1) := by decide +kernel
theorem dX6_push_88 : decode cX6_push 88 = .ok (.iadd, 1) := by decide +kernel
theorem dX6_push_89 : decode cX6_push 89 = .ok (.putfield 38, 3) := by decide +kernel
theorem dX6_push_92 : decode cX6_push 92 = .ok (.return_, 1) := by decide +kernel
set_option maxRecDepth 20000 in
theorem ggX6_ends_X6_refuses : GoodIn wsX6_ends wsX6_refuses := goodIn_r _ [5, 6, 14, 15, 16, 17, 18, 19, 20, 21, 22, 23, 24, 25, 26, 27, 28] (by decide +kernel) (by decide +kernel)
set_option maxRecDepth 20000 in
theorem gX6_ends_X6_refuses : GoodIn wsX6_ends (wsV RX6 46 RX6 yX6_refuses wsX6_refuses) := goodIn_app (goodIn_of _ (by decide +kernel)) ggX6_ends_X6_refuses
set_option maxRecDepth 20000 in
theorem ggX6_ends_X6_push : GoodIn wsX6_ends wsX6_push := goodIn_r _ [10, 11, 12, 13, 14, 15, 16, 17, 18, 19, 20, 21, 22, 23, 24, 25, 26, 27, 28] (by decide +kernel) (by decide +kernel)
set_option maxRecDepth 20000 in
theorem gX6_ends_X6_push : GoodIn wsX6_ends (wsV RX6 50 RX6 yX6_push wsX6_push) := goodIn_app (goodIn_of _ (by decide +kernel)) ggX6_ends_X6_push
theorem dX6_ends_0 : decode cX6_ends 0 = .ok (.iload_n 1, 1) := by decide +kernel
theorem dX6_ends_1 : decode cX6_ends 1 = .ok (.ifCond .ge 9, 3) := by decide +kernel
theorem dX6_ends_4 : decode cX6_ends 4 = .ok (.aload_n 0, 1) := by decide +kernel
theorem dX6_ends_5 : decode cX6_ends 5 = .ok (.iload_n 1, 1) := by decide +kernel
theorem dX6_ends_6 : decode cX6_ends 6 = .ok (.invokevirtual 46, 3) := by decide +kernel
theorem dX6_ends_9 : decode cX6_ends 9 = .ok (.ireturn, 1) := by decide +kernel
theorem dX6_ends_10 : decode cX6_ends 10 = .ok (.aload_n 0, 1) := by decide +kernel
theorem dX6_ends_11 : decode cX6_ends 11 = .ok (.invokevirtual 50, 3) := by decide +kernel
theorem dX6_ends_14 : decode cX6_ends 14 = .ok (.iload_n 1, 1) := by decide +kernel
theorem dX6_ends_15 : decode cX6_ends 15 = .ok (.ireturn, 1) := by decide +kernel
set_option maxRecDepth 20000 in
theorem ggX6_back_X6_refuses : GoodIn wsX6_back wsX6_refuses := goodIn_r _ [8, 9, 10, 11, 12, 13, 14, 15, 16, 17, 18, 19, 20, 21, 22, 23, 24] (by decide +kernel) (by decide +kernel)
set_option maxRecDepth 20000 in
theorem gX6_back_X6_refuses : GoodIn wsX6_back (wsV RX6 46 RX6 yX6_refuses wsX6_refuses) := goodIn_app (goodIn_of _ (by decide +kernel)) ggX6_back_X6_refuses
theorem dX6_back_0 : decode cX6_back 0 = .ok (.aload_n 0, 1) := by decide +kernel
theorem dX6_back_1 : decode cX6_back 1 = .ok (.getfield 38, 3) := by decide +kernel
theorem dX6_back_4 : decode cX6_back 4 = .ok (.ifCond .ne 10, 3) := by decide +kernel
theorem dX6_back_7 : decode cX6_back 7 = .ok (.aload_n 0, 1) := by decide +kernel
theorem dX6_back_8 : decode cX6_back 8 = .ok (.bipush (-3), 2) := by decide +kernel
theorem dX6_back_10 : decode cX6_back 10 = .ok (.invokevirtual 46, 3) := by decide +kernel
theorem dX6_back_13 : decode cX6_back 13 = .ok (.ireturn, 1) := by decide +kernel
theorem dX6_back_14 : decode cX6_back 14 = .ok (.aload_n 0, 1) := by decide +kernel
theorem dX6_back_15 : decode cX6_back 15 = .ok (.dup, 1) := by decide +kernel
theorem dX6_back_16 : decode cX6_back 16 = .ok (.getfield 38, 3) := by decide +kernel
theorem dX6_back_19 : decode cX6_back 19 = .ok (.iconst 1, 1) := by decide +kernel
theorem dX6_back_20 : decode cX6_back 20 = .ok (.isub, 1) := by decide +kernel
theorem dX6_back_21 : decode cX6_back 21 = .ok (.putfield 38, 3) := by decide +kernel
theorem dX6_back_24 : decode cX6_back 24 = .ok (.iconst 0, 1) := by decide +kernel
theorem dX6_back_25 : decode cX6_back 25 = .ok (.istore_n 1, 1) := by decide +kernel
theorem dX6_back_26 : decode cX6_back 26 = .ok (.iload_n 1, 1) := by decide +kernel
theorem dX6_back_27 : decode cX6_back 27 = .ok (.bipush 123, 2) := by decide +kernel
theorem dX6_back_29 : decode cX6_back 29 = .ok (.if_icmp .ge 29, 3) := by decide +kernel
theorem dX6_back_32 : decode cX6_back 32 = .ok (.aload_n 0, 1) := by decide +kernel
theorem dX6_back_33 : decode cX6_back 33 = .ok (.getfield 7, 3) := by decide +kernel
theorem dX6_back_36 : decode cX6_back 36 = .ok (.iload_n 1, 1) := by decide +kernel
theorem dX6_back_37 : decode cX6_back 37 = .ok (.aload_n 0, 1) := by decide +kernel
theorem dX6_back_38 : decode cX6_back 38 = .ok (.getfield 16, 3) := by decide +kernel
theorem dX6_back_41 : decode cX6_back 41 = .ok (.bipush 123, 2) := by decide +kernel
theorem dX6_back_43 : decode cX6_back 43 = .ok (.aload_n 0, 1) := by decide +kernel
theorem dX6_back_44 : decode cX6_back 44 = .ok (.getfield 38, 3) := by decide +kernel
theorem dX6_back_47 : decode cX6_back 47 = .ok (.imul, 1) := by decide +kernel
theorem dX6_back_48 : decode cX6_back 48 = .ok (.iload_n 1, 1) := by decide +kernel
theorem dX6_back_49 : decode cX6_back 49 = .ok (.iadd, 1) := by decide +kernel
theorem dX6_back_50 : decode cX6_back 50 = .ok (.iaload, 1) := by decide +kernel
theorem dX6_back_51 : decode cX6_back 51 = .ok (.iastore, 1) := by decide +kernel
theorem dX6_back_52 : decode cX6_back 52 = .ok (.iinc 1 1, 3) := by decide +kernel
theorem dX6_back_55 : decode cX6_back 55 = .ok (.goto (-29), 3) := by decide +kernel
theorem dX6_back_58 : decode cX6_back 58 = .ok (.aload_n 0, 1) := by decide +kernel
theorem dX6_back_59 : decode cX6_back 59 = .ok (.getfield 38, 3) := by decide +kernel
theorem dX6_back_62 : decode cX6_back 62 = .ok (.ireturn, 1) := by decide +kernel
set_option maxRecDepth 20000 in
theorem ggX6_isShaft_X6_in : GoodIn wsX6_isShaft wsX6_in := goodIn_r _ [5] (by decide +kernel) (by decide +kernel)
set_option maxRecDepth 20000 in
theorem gX6_isShaft_X6_in : GoodIn wsX6_isShaft (va_wsS RX6 53 yX6_in wsX6_in) := goodIn_app (goodIn_of _ (by decide +kernel)) ggX6_isShaft_X6_in
theorem dX6_isShaft_0 : decode cX6_isShaft 0 = .ok (.iload_n 1, 1) := by decide +kernel
theorem dX6_isShaft_1 : decode cX6_isShaft 1 = .ok (.iconst 0, 1) := by decide +kernel
theorem dX6_isShaft_2 : decode cX6_isShaft 2 = .ok (.aload_n 0, 1) := by decide +kernel
theorem dX6_isShaft_3 : decode cX6_isShaft 3 = .ok (.getfield 7, 3) := by decide +kernel
theorem dX6_isShaft_6 : decode cX6_isShaft 6 = .ok (.iconst 0, 1) := by decide +kernel
theorem dX6_isShaft_7 : decode cX6_isShaft 7 = .ok (.iaload, 1) := by decide +kernel
theorem dX6_isShaft_8 : decode cX6_isShaft 8 = .ok (.iconst 1, 1) := by decide +kernel
theorem dX6_isShaft_9 : decode cX6_isShaft 9 = .ok (.isub, 1) := by decide +kernel
theorem dX6_isShaft_10 : decode cX6_isShaft 10 = .ok (.invokestatic 53, 3) := by decide +kernel
theorem dX6_isShaft_13 : decode cX6_isShaft 13 = .ok (.ireturn, 1) := by decide +kernel
set_option maxRecDepth 20000 in
theorem ggX6_isPipe_X6_in : GoodIn wsX6_isPipe wsX6_in := goodIn_r _ [5] (by decide +kernel) (by decide +kernel)
set_option maxRecDepth 20000 in
theorem gX6_isPipe_X6_in : GoodIn wsX6_isPipe (va_wsS RX6 53 yX6_in wsX6_in) := goodIn_app (goodIn_of _ (by decide +kernel)) ggX6_isPipe_X6_in
theorem dX6_isPipe_0 : decode cX6_isPipe 0 = .ok (.iload_n 1, 1) := by decide +kernel
theorem dX6_isPipe_1 : decode cX6_isPipe 1 = .ok (.iconst 0, 1) := by decide +kernel
theorem dX6_isPipe_2 : decode cX6_isPipe 2 = .ok (.aload_n 0, 1) := by decide +kernel
theorem dX6_isPipe_3 : decode cX6_isPipe 3 = .ok (.getfield 7, 3) := by decide +kernel
theorem dX6_isPipe_6 : decode cX6_isPipe 6 = .ok (.iconst 1, 1) := by decide +kernel
theorem dX6_isPipe_7 : decode cX6_isPipe 7 = .ok (.iaload, 1) := by decide +kernel
theorem dX6_isPipe_8 : decode cX6_isPipe 8 = .ok (.iconst 1, 1) := by decide +kernel
theorem dX6_isPipe_9 : decode cX6_isPipe 9 = .ok (.isub, 1) := by decide +kernel
theorem dX6_isPipe_10 : decode cX6_isPipe 10 = .ok (.invokestatic 53, 3) := by decide +kernel
theorem dX6_isPipe_13 : decode cX6_isPipe 13 = .ok (.ireturn, 1) := by decide +kernel
theorem dX6_kindOf_0 : decode cX6_kindOf 0 = .ok (.aload_n 0, 1) := by decide +kernel
theorem dX6_kindOf_1 : decode cX6_kindOf 1 = .ok (.getfield 7, 3) := by decide +kernel
theorem dX6_kindOf_4 : decode cX6_kindOf 4 = .ok (.iconst 3, 1) := by decide +kernel
theorem dX6_kindOf_5 : decode cX6_kindOf 5 = .ok (.iconst 2, 1) := by decide +kernel
theorem dX6_kindOf_6 : decode cX6_kindOf 6 = .ok (.iload_n 1, 1) := by decide +kernel
theorem dX6_kindOf_7 : decode cX6_kindOf 7 = .ok (.imul, 1) := by decide +kernel
theorem dX6_kindOf_8 : decode cX6_kindOf 8 = .ok (.iadd, 1) := by decide +kernel
theorem dX6_kindOf_9 : decode cX6_kindOf 9 = .ok (.iaload, 1) := by decide +kernel
theorem dX6_kindOf_10 : decode cX6_kindOf 10 = .ok (.ireturn, 1) := by decide +kernel
theorem dX6_numberOf_0 : decode cX6_numberOf 0 = .ok (.aload_n 0, 1) := by decide +kernel
theorem dX6_numberOf_1 : decode cX6_numberOf 1 = .ok (.getfield 7, 3) := by decide +kernel
theorem dX6_numberOf_4 : decode cX6_numberOf 4 = .ok (.iconst 3, 1) := by decide +kernel
theorem dX6_numberOf_5 : decode cX6_numberOf 5 = .ok (.iconst 2, 1) := by decide +kernel
theorem dX6_numberOf_6 : decode cX6_numberOf 6 = .ok (.iload_n 1, 1) := by decide +kernel
theorem dX6_numberOf_7 : decode cX6_numberOf 7 = .ok (.imul, 1) := by decide +kernel
theorem dX6_numberOf_8 : decode cX6_numberOf 8 = .ok (.iadd, 1) := by decide +kernel
theorem dX6_numberOf_9 : decode cX6_numberOf 9 = .ok (.iconst 1, 1) := by decide +kernel
theorem dX6_numberOf_10 : decode cX6_numberOf 10 = .ok (.iadd, 1) := by decide +kernel
theorem dX6_numberOf_11 : decode cX6_numberOf 11 = .ok (.iaload, 1) := by decide +kernel
theorem dX6_numberOf_12 : decode cX6_numberOf 12 = .ok (.ireturn, 1) := by decide +kernel
theorem dX6_pipeOf_0 : decode cX6_pipeOf 0 = .ok (.aload_n 0, 1) := by decide +kernel
theorem dX6_pipeOf_1 : decode cX6_pipeOf 1 = .ok (.getfield 7, 3) := by decide +kernel
theorem dX6_pipeOf_4 : decode cX6_pipeOf 4 = .ok (.bipush 23, 2) := by decide +kernel
theorem dX6_pipeOf_6 : decode cX6_pipeOf 6 = .ok (.iconst 4, 1) := by decide +kernel
theorem dX6_pipeOf_7 : decode cX6_pipeOf 7 = .ok (.iload_n 1, 1) := by decide +kernel
theorem dX6_pipeOf_8 : decode cX6_pipeOf 8 = .ok (.imul, 1) := by decide +kernel
theorem dX6_pipeOf_9 : decode cX6_pipeOf 9 = .ok (.iadd, 1) := by decide +kernel
theorem dX6_pipeOf_10 : decode cX6_pipeOf 10 = .ok (.iload_n 2, 1) := by decide +kernel
theorem dX6_pipeOf_11 : decode cX6_pipeOf 11 = .ok (.iadd, 1) := by decide +kernel
theorem dX6_pipeOf_12 : decode cX6_pipeOf 12 = .ok (.iaload, 1) := by decide +kernel
theorem dX6_pipeOf_13 : decode cX6_pipeOf 13 = .ok (.ireturn, 1) := by decide +kernel
set_option maxRecDepth 20000 in
theorem ggX6_below_X6_pipeOf : GoodIn wsX6_below wsX6_pipeOf := goodIn_r _ [6, 1, 10, 11, 12, 13, 14, 15, 16, 17, 18, 19, 20, 21, 22, 23, 24] (by decide +kernel) (by decide +kernel)
set_option maxRecDepth 20000 in
theorem gX6_below_X6_pipeOf : GoodIn wsX6_below (wsV RX6 57 RX6 yX6_pipeOf wsX6_pipeOf) := goodIn_app (goodIn_of _ (by decide +kernel)) ggX6_below_X6_pipeOf
set_option maxRecDepth 20000 in
theorem ggX6_below_X6_has : GoodIn wsX6_below wsX6_has := goodIn_r _ [9] (by decide +kernel) (by decide +kernel)
set_option maxRecDepth 20000 in
theorem gX6_below_X6_has : GoodIn wsX6_below (va_wsS RX6 42 yX6_has wsX6_has) := goodIn_app (goodIn_of _ (by decide +kernel)) ggX6_below_X6_has
theorem dX6_below_0 : decode cX6_below 0 = .ok (.iconst 1, 1) := by decide +kernel
theorem dX6_below_1 : decode cX6_below 1 = .ok (.iload_n 1, 1) := by decide +kernel
theorem dX6_below_2 : decode cX6_below 2 = .ok (.ishl, 1) := by decide +kernel
theorem dX6_below_3 : decode cX6_below 3 = .ok (.istore_n 2, 1) := by decide +kernel
theorem dX6_below_4 : decode cX6_below 4 = .ok (.iconst 0, 1) := by decide +kernel
theorem dX6_below_5 : decode cX6_below 5 = .ok (.istore_n 3, 1) := by decide +kernel
theorem dX6_below_6 : decode cX6_below 6 = .ok (.iload_n 3, 1) := by decide +kernel
theorem dX6_below_7 : decode cX6_below 7 = .ok (.iload_n 2, 1) := by decide +kernel
theorem dX6_below_8 : decode cX6_below 8 = .ok (.if_icmp .eq 58, 3) := by decide +kernel
theorem dX6_below_11 : decode cX6_below 11 = .ok (.iload_n 2, 1) := by decide +kernel
theorem dX6_below_12 : decode cX6_below 12 = .ok (.istore_n 3, 1) := by decide +kernel
theorem dX6_below_13 : decode cX6_below 13 = .ok (.iconst 0, 1) := by decide +kernel
theorem dX6_below_14 : decode cX6_below 14 = .ok (.istore 4, 2) := by decide +kernel
theorem dX6_below_16 : decode cX6_below 16 = .ok (.iload 4, 2) := by decide +kernel
theorem dX6_below_18 : decode cX6_below 18 = .ok (.aload_n 0, 1) := by decide +kernel
theorem dX6_below_19 : decode cX6_below 19 = .ok (.getfield 7, 3) := by decide +kernel
theorem dX6_below_22 : decode cX6_below 22 = .ok (.iconst 1, 1) := by decide +kernel
theorem dX6_below_23 : decode cX6_below 23 = .ok (.iaload, 1) := by decide +kernel
theorem dX6_below_24 : decode cX6_below 24 = .ok (.if_icmp .ge 39, 3) := by decide +kernel
theorem dX6_below_27 : decode cX6_below 27 = .ok (.iload_n 2, 1) := by decide +kernel
theorem dX6_below_28 : decode cX6_below 28 = .ok (.iload_n 2, 1) := by decide +kernel
theorem dX6_below_29 : decode cX6_below 29 = .ok (.aload_n 0, 1) := by decide +kernel
theorem dX6_below_30 : decode cX6_below 30 = .ok (.iload 4, 2) := by decide +kernel
theorem dX6_below_32 : decode cX6_below 32 = .ok (.iconst 0, 1) := by decide +kernel
theorem dX6_below_33 : decode cX6_below 33 = .ok (.invokevirtual 57, 3) := by decide +kernel
theorem dX6_below_36 : decode cX6_below 36 = .ok (.invokestatic 42, 3) := by decide +kernel
theorem dX6_below_39 : decode cX6_below 39 = .ok (.ifCond .eq 15, 3) := by decide +kernel
theorem dX6_below_42 : decode cX6_below 42 = .ok (.iconst 1, 1) := by decide +kernel
theorem dX6_below_43 : decode cX6_below 43 = .ok (.aload_n 0, 1) := by decide +kernel
theorem dX6_below_44 : decode cX6_below 44 = .ok (.iload 4, 2) := by decide +kernel
theorem dX6_below_46 : decode cX6_below 46 = .ok (.iconst 1, 1) := by decide +kernel
theorem dX6_below_47 : decode cX6_below 47 = .ok (.invokevirtual 57, 3) := by decide +kernel
theorem dX6_below_50 : decode cX6_below 50 = .ok (.ishl, 1) := by decide +kernel
theorem dX6_below_51 : decode cX6_below 51 = .ok (.goto 4, 3) := by decide +kernel
theorem dX6_below_54 : decode cX6_below 54 = .ok (.iconst 0, 1) := by decide +kernel
theorem dX6_below_55 : decode cX6_below 55 = .ok (.ior, 1) := by decide +kernel
theorem dX6_below_56 : decode cX6_below 56 = .ok (.istore_n 2, 1) := by decide +kernel
theorem dX6_below_57 : decode cX6_below 57 = .ok (.iinc 4 1, 3) := by decide +kernel
theorem dX6_below_60 : decode cX6_below 60 = .ok (.goto (-44), 3) := by decide +kernel
theorem dX6_below_63 : decode cX6_below 63 = .ok (.goto (-57), 3) := by decide +kernel
theorem dX6_below_66 : decode cX6_below 66 = .ok (.iload_n 2, 1) := by decide +kernel
theorem dX6_below_67 : decode cX6_below 67 = .ok (.ireturn, 1) := by decide +kernel
set_option maxRecDepth 20000 in
theorem ggX6_isKind_X6_in : GoodIn wsX6_isKind wsX6_in := goodIn_r _ [4] (by decide +kernel) (by decide +kernel)
set_option maxRecDepth 20000 in
theorem gX6_isKind_X6_in : GoodIn wsX6_isKind (va_wsS RX6 53 yX6_in wsX6_in) := goodIn_app (goodIn_of _ (by decide +kernel)) ggX6_isKind_X6_in
theorem dX6_isKind_0 : decode cX6_isKind 0 = .ok (.iload_n 0, 1) := by decide +kernel
theorem dX6_isKind_1 : decode cX6_isKind 1 = .ok (.iconst 0, 1) := by decide +kernel
theorem dX6_isKind_2 : decode cX6_isKind 2 = .ok (.iconst 4, 1) := by decide +kernel
theorem dX6_isKind_3 : decode cX6_isKind 3 = .ok (.invokestatic 53, 3) := by decide +kernel
theorem dX6_isKind_6 : decode cX6_isKind 6 = .ok (.ireturn, 1) := by decide +kernel
set_option maxRecDepth 20000 in
theorem ggX6_doShaft_X6_isKind : GoodIn wsX6_doShaft wsX6_isKind := goodIn_r _ [5, 6, 7, 4, 8] (by decide +kernel) (by decide +kernel)
set_option maxRecDepth 20000 in
theorem gX6_doShaft_X6_isKind : GoodIn wsX6_doShaft (va_wsS RX6 61 yX6_isKind wsX6_isKind) := goodIn_app (goodIn_of _ (by decide +kernel)) ggX6_doShaft_X6_isKind
set_option maxRecDepth 20000 in
theorem ggX6_doShaft_X6_in : GoodIn wsX6_doShaft wsX6_in := goodIn_r _ [8] (by decide +kernel) (by decide +kernel)
set_option maxRecDepth 20000 in
theorem gX6_doShaft_X6_in : GoodIn wsX6_doShaft (va_wsS RX6 53 yX6_in wsX6_in) := goodIn_app (goodIn_of _ (by decide +kernel)) ggX6_doShaft_X6_in
theorem dX6_doShaft_0 : decode cX6_doShaft 0 = .ok (.iload_n 1, 1) := by decide +kernel
theorem dX6_doShaft_1 : decode cX6_doShaft 1 = .ok (.invokestatic 61, 3) := by decide +kernel
theorem dX6_doShaft_4 : decode cX6_doShaft 4 = .ok (.ifCond .eq 13, 3) := by decide +kernel
theorem dX6_doShaft_7 : decode cX6_doShaft 7 = .ok (.iload_n 2, 1) := by decide +kernel
theorem dX6_doShaft_8 : decode cX6_doShaft 8 = .ok (.iconst 1, 1) := by decide +kernel
theorem dX6_doShaft_9 : decode cX6_doShaft 9 = .ok (.bipush 15, 2) := by decide +kernel
theorem dX6_doShaft_11 : decode cX6_doShaft 11 = .ok (.invokestatic 53, 3) := by decide +kernel
theorem dX6_doShaft_14 : decode cX6_doShaft 14 = .ok (.ifCond .ne 6, 3) := by decide +kernel
theorem dX6_doShaft_17 : decode cX6_doShaft 17 = .ok (.bipush (-2), 2) := by decide +kernel
theorem dX6_doShaft_19 : decode cX6_doShaft 19 = .ok (.ireturn, 1) := by decide +kernel
theorem dX6_doShaft_20 : decode cX6_doShaft 20 = .ok (.aload_n 0, 1) := by decide +kernel
theorem dX6_doShaft_21 : decode cX6_doShaft 21 = .ok (.getfield 7, 3) := by decide +kernel
theorem dX6_doShaft_24 : decode cX6_doShaft 24 = .ok (.iconst 0, 1) := by decide +kernel
theorem dX6_doShaft_25 : decode cX6_doShaft 25 = .ok (.iaload, 1) := by decide +kernel
theorem dX6_doShaft_26 : decode cX6_doShaft 26 = .ok (.bipush 10, 2) := by decide +kernel
theorem dX6_doShaft_28 : decode cX6_doShaft 28 = .ok (.if_icmp .ne 6, 3) := by decide +kernel
theorem dX6_doShaft_31 : decode cX6_doShaft 31 = .ok (.bipush (-4), 2) := by decide +kernel
theorem dX6_doShaft_33 : decode cX6_doShaft 33 = .ok (.ireturn, 1) := by decide +kernel
theorem dX6_doShaft_34 : decode cX6_doShaft 34 = .ok (.aload_n 0, 1) := by decide +kernel
theorem dX6_doShaft_35 : decode cX6_doShaft 35 = .ok (.getfield 7, 3) := by decide +kernel
theorem dX6_doShaft_38 : decode cX6_doShaft 38 = .ok (.iconst 0, 1) := by decide +kernel
theorem dX6_doShaft_39 : decode cX6_doShaft 39 = .ok (.iaload, 1) := by decide +kernel
theorem dX6_doShaft_40 : decode cX6_doShaft 40 = .ok (.istore_n 3, 1) := by decide +kernel
theorem dX6_doShaft_41 : decode cX6_doShaft 41 = .ok (.aload_n 0, 1) := by decide +kernel
theorem dX6_doShaft_42 : decode cX6_doShaft 42 = .ok (.getfield 7, 3) := by decide +kernel
theorem dX6_doShaft_45 : decode cX6_doShaft 45 = .ok (.iconst 3, 1) := by decide +kernel
theorem dX6_doShaft_46 : decode cX6_doShaft 46 = .ok (.iconst 2, 1) := by decide +kernel
theorem dX6_doShaft_47 : decode cX6_doShaft 47 = .ok (.iload_n 3, 1) := by decide +kernel
theorem dX6_doShaft_48 : decode cX6_doShaft 48 = .ok (.imul, 1) := by decide +kernel
theorem dX6_doShaft_49 : decode cX6_doShaft 49 = .ok (.iadd, 1) := by decide +kernel
theorem dX6_doShaft_50 : decode cX6_doShaft 50 = .ok (.iload_n 1, 1) := by decide +kernel
theorem dX6_doShaft_51 : decode cX6_doShaft 51 = .ok (.iastore, 1) := by decide +kernel
theorem dX6_doShaft_52 : decode cX6_doShaft 52 = .ok (.aload_n 0, 1) := by decide +kernel
theorem dX6_doShaft_53 : decode cX6_doShaft 53 = .ok (.getfield 7, 3) := by decide +kernel
theorem dX6_doShaft_56 : decode cX6_doShaft 56 = .ok (.iconst 3, 1) := by decide +kernel
theorem dX6_doShaft_57 : decode cX6_doShaft 57 = .ok (.iconst 2, 1) := by decide +kernel
theorem dX6_doShaft_58 : decode cX6_doShaft 58 = .ok (.iload_n 3, 1) := by decide +kernel
theorem dX6_doShaft_59 : decode cX6_doShaft 59 = .ok (.imul, 1) := by decide +kernel
theorem dX6_doShaft_60 : decode cX6_doShaft 60 = .ok (.iadd, 1) := by decide +kernel
theorem dX6_doShaft_61 : decode cX6_doShaft 61 = .ok (.iconst 1, 1) := by decide +kernel
theorem dX6_doShaft_62 : decode cX6_doShaft 62 = .ok (.iadd, 1) := by decide +kernel
theorem dX6_doShaft_63 : decode cX6_doShaft 63 = .ok (.iload_n 2, 1) := by decide +kernel
theorem dX6_doShaft_64 : decode cX6_doShaft 64 = .ok (.iastore, 1) := by decide +kernel
theorem dX6_doShaft_65 : decode cX6_doShaft 65 = .ok (.aload_n 0, 1) := by decide +kernel
theorem dX6_doShaft_66 : decode cX6_doShaft 66 = .ok (.getfield 7, 3) := by decide +kernel
theorem dX6_doShaft_69 : decode cX6_doShaft 69 = .ok (.iconst 0, 1) := by decide +kernel
theorem dX6_doShaft_70 : decode cX6_doShaft 70 = .ok (.dup2, 1) := by decide +kernel
theorem dX6_doShaft_71 : decode cX6_doShaft 71 = .ok (.iaload, 1) := by decide +kernel
theorem dX6_doShaft_72 : decode cX6_doShaft 72 = .ok (.iconst 1, 1) := by decide +kernel
theorem dX6_doShaft_73 : decode cX6_doShaft 73 = .ok (.iadd, 1) := by decide +kernel
theorem dX6_doShaft_74 : decode cX6_doShaft 74 = .ok (.iastore, 1) := by decide +kernel
theorem dX6_doShaft_75 : decode cX6_doShaft 75 = .ok (.iload_n 3, 1) := by decide +kernel
theorem dX6_doShaft_76 : decode cX6_doShaft 76 = .ok (.ireturn, 1) := by decide +kernel
set_option maxRecDepth 20000 in
theorem ggX6_doSets_X6_isKind : GoodIn wsX6_doSets wsX6_isKind := goodIn_r _ [5, 6, 7, 4, 8] (by decide +kernel) (by decide +kernel)
set_option maxRecDepth 20000 in
theorem gX6_doSets_X6_isKind : GoodIn wsX6_doSets (va_wsS RX6 61 yX6_isKind wsX6_isKind) := goodIn_app (goodIn_of _ (by decide +kernel)) ggX6_doSets_X6_isKind
set_option maxRecDepth 20000 in
theorem ggX6_doSets_X6_in : GoodIn wsX6_doSets wsX6_in := goodIn_r _ [8] (by decide +kernel) (by decide +kernel)
set_option maxRecDepth 20000 in
theorem gX6_doSets_X6_in : GoodIn wsX6_doSets (va_wsS RX6 53 yX6_in wsX6_in) := goodIn_app (goodIn_of _ (by decide +kernel)) ggX6_doSets_X6_in
set_option maxRecDepth 20000 in
theorem ggX6_doSets_X6_isShaft : GoodIn wsX6_doSets wsX6_isShaft := goodIn_r _ [12, 1, 6, 7, 4, 8, 13, 14, 15, 16, 17, 18, 19, 20, 21, 22, 23, 24, 25, 26, 27] (by decide +kernel) (by decide +kernel)
set_option maxRecDepth 20000 in
theorem gX6_doSets_X6_isShaft : GoodIn wsX6_doSets (wsV RX6 65 RX6 yX6_isShaft wsX6_isShaft) := goodIn_app (goodIn_of _ (by decide +kernel)) ggX6_doSets_X6_isShaft
theorem dX6_doSets_0 : decode cX6_doSets 0 = .ok (.iload_n 2, 1) := by decide +kernel
theorem dX6_doSets_1 : decode cX6_doSets 1 = .ok (.ifCond .ne 10, 3) := by decide +kernel
theorem dX6_doSets_4 : decode cX6_doSets 4 = .ok (.iload_n 3, 1) := by decide +kernel
theorem dX6_doSets_5 : decode cX6_doSets 5 = .ok (.invokestatic 61, 3) := by decide +kernel
theorem dX6_doSets_8 : decode cX6_doSets 8 = .ok (.goto 23, 3) := by decide +kernel
theorem dX6_doSets_11 : decode cX6_doSets 11 = .ok (.iload_n 2, 1) := by decide +kernel
theorem dX6_doSets_12 : decode cX6_doSets 12 = .ok (.iconst 1, 1) := by decide +kernel
theorem dX6_doSets_13 : decode cX6_doSets 13 = .ok (.if_icmp .ne 17, 3) := by decide +kernel
theorem dX6_doSets_16 : decode cX6_doSets 16 = .ok (.iload_n 3, 1) := by decide +kernel
theorem dX6_doSets_17 : decode cX6_doSets 17 = .ok (.iconst 1, 1) := by decide +kernel
theorem dX6_doSets_18 : decode cX6_doSets 18 = .ok (.bipush 15, 2) := by decide +kernel
theorem dX6_doSets_20 : decode cX6_doSets 20 = .ok (.invokestatic 53, 3) := by decide +kernel
theorem dX6_doSets_23 : decode cX6_doSets 23 = .ok (.ifCond .eq 7, 3) := by decide +kernel
theorem dX6_doSets_26 : decode cX6_doSets 26 = .ok (.iconst 1, 1) := by decide +kernel
theorem dX6_doSets_27 : decode cX6_doSets 27 = .ok (.goto 4, 3) := by decide +kernel
theorem dX6_doSets_30 : decode cX6_doSets 30 = .ok (.iconst 0, 1) := by decide +kernel
theorem dX6_doSets_31 : decode cX6_doSets 31 = .ok (.istore 4, 2) := by decide +kernel
theorem dX6_doSets_33 : decode cX6_doSets 33 = .ok (.aload_n 0, 1) := by decide +kernel
theorem dX6_doSets_34 : decode cX6_doSets 34 = .ok (.iload_n 1, 1) := by decide +kernel
theorem dX6_doSets_35 : decode cX6_doSets 35 = .ok (.invokevirtual 65, 3) := by decide +kernel
theorem dX6_doSets_38 : decode cX6_doSets 38 = .ok (.ifCond .eq 8, 3) := by decide +kernel
theorem dX6_doSets_41 : decode cX6_doSets 41 = .ok (.iload 4, 2) := by decide +kernel
theorem dX6_doSets_43 : decode cX6_doSets 43 = .ok (.ifCond .ne 6, 3) := by decide +kernel
theorem dX6_doSets_46 : decode cX6_doSets 46 = .ok (.bipush (-2), 2) := by decide +kernel
theorem dX6_doSets_48 : decode cX6_doSets 48 = .ok (.ireturn, 1) := by decide +kernel
theorem dX6_doSets_49 : decode cX6_doSets 49 = .ok (.aload_n 0, 1) := by decide +kernel
theorem dX6_doSets_50 : decode cX6_doSets 50 = .ok (.getfield 7, 3) := by decide +kernel
theorem dX6_doSets_53 : decode cX6_doSets 53 = .ok (.iconst 3, 1) := by decide +kernel
theorem dX6_doSets_54 : decode cX6_doSets 54 = .ok (.iconst 2, 1) := by decide +kernel
theorem dX6_doSets_55 : decode cX6_doSets 55 = .ok (.iload_n 1, 1) := by decide +kernel
theorem dX6_doSets_56 : decode cX6_doSets 56 = .ok (.imul, 1) := by decide +kernel
theorem dX6_doSets_57 : decode cX6_doSets 57 = .ok (.iadd, 1) := by decide +kernel
theorem dX6_doSets_58 : decode cX6_doSets 58 = .ok (.iload_n 2, 1) := by decide +kernel
theorem dX6_doSets_59 : decode cX6_doSets 59 = .ok (.iadd, 1) := by decide +kernel
theorem dX6_doSets_60 : decode cX6_doSets 60 = .ok (.iaload, 1) := by decide +kernel
theorem dX6_doSets_61 : decode cX6_doSets 61 = .ok (.istore 5, 2) := by decide +kernel
theorem dX6_doSets_63 : decode cX6_doSets 63 = .ok (.aload_n 0, 1) := by decide +kernel
theorem dX6_doSets_64 : decode cX6_doSets 64 = .ok (.getfield 7, 3) := by decide +kernel
theorem dX6_doSets_67 : decode cX6_doSets 67 = .ok (.iconst 3, 1) := by decide +kernel
theorem dX6_doSets_68 : decode cX6_doSets 68 = .ok (.iconst 2, 1) := by decide +kernel
theorem dX6_doSets_69 : decode cX6_doSets 69 = .ok (.iload_n 1, 1) := by decide +kernel
theorem dX6_doSets_70 : decode cX6_doSets 70 = .ok (.imul, 1) := by decide +kernel
theorem dX6_doSets_71 : decode cX6_doSets 71 = .ok (.iadd, 1) := by decide +kernel
theorem dX6_doSets_72 : decode cX6_doSets 72 = .ok (.iload_n 2, 1) := by decide +kernel
theorem dX6_doSets_73 : decode cX6_doSets 73 = .ok (.iadd, 1) := by decide +kernel
theorem dX6_doSets_74 : decode cX6_doSets 74 = .ok (.iload_n 3, 1) := by decide +kernel
theorem dX6_doSets_75 : decode cX6_doSets 75 = .ok (.iastore, 1) := by decide +kernel
theorem dX6_doSets_76 : decode cX6_doSets 76 = .ok (.iload 5, 2) := by decide +kernel
theorem dX6_doSets_78 : decode cX6_doSets 78 = .ok (.ireturn, 1) := by decide +kernel
set_option maxRecDepth 20000 in
theorem ggX6_doPipe_X6_isShaft : GoodIn wsX6_doPipe wsX6_isShaft := goodIn_r _ [6, 1, 7, 8, 5, 9, 21, 22, 23, 24, 25, 26, 27, 28, 29, 30, 31, 32, 33, 34, 35] (by decide +kernel) (by decide +kernel)
set_option maxRecDepth 20000 in
theorem gX6_doPipe_X6_isShaft : GoodIn wsX6_doPipe (wsV RX6 65 RX6 yX6_isShaft wsX6_isShaft) := goodIn_app (goodIn_of _ (by decide +kernel)) ggX6_doPipe_X6_isShaft
set_option maxRecDepth 20000 in
theorem ggX6_doPipe_X6_in : GoodIn wsX6_doPipe wsX6_in := goodIn_r _ [9] (by decide +kernel) (by decide +kernel)
set_option maxRecDepth 20000 in
theorem gX6_doPipe_X6_in : GoodIn wsX6_doPipe (va_wsS RX6 53 yX6_in wsX6_in) := goodIn_app (goodIn_of _ (by decide +kernel)) ggX6_doPipe_X6_in
set_option maxRecDepth 20000 in
theorem ggX6_doPipe_X6_below : GoodIn wsX6_doPipe wsX6_below := goodIn_r _ [13, 1, 14, 15, 16, 5, 17, 18, 19, 20, 21, 22, 23, 24, 25, 26, 27, 28, 29, 30, 31, 32, 33, 34, 35] (by decide +kernel) (by decide +kernel)
set_option maxRecDepth 20000 in
theorem gX6_doPipe_X6_below : GoodIn wsX6_doPipe (wsV RX6 68 RX6 yX6_below wsX6_below) := goodIn_app (goodIn_of _ (by decide +kernel)) ggX6_doPipe_X6_below
set_option maxRecDepth 20000 in
theorem ggX6_doPipe_X6_has : GoodIn wsX6_doPipe wsX6_has := goodIn_r _ [20] (by decide +kernel) (by decide +kernel)
set_option maxRecDepth 20000 in
theorem gX6_doPipe_X6_has : GoodIn wsX6_doPipe (va_wsS RX6 42 yX6_has wsX6_has) := goodIn_app (goodIn_of _ (by decide +kernel)) ggX6_doPipe_X6_has
theorem dX6_doPipe_0 : decode cX6_doPipe 0 = .ok (.aload_n 0, 1) := by decide +kernel
theorem dX6_doPipe_1 : decode cX6_doPipe 1 = .ok (.iload_n 1, 1) := by decide +kernel
theorem dX6_doPipe_2 : decode cX6_doPipe 2 = .ok (.invokevirtual 65, 3) := by decide +kernel
theorem dX6_doPipe_5 : decode cX6_doPipe 5 = .ok (.ifCond .eq 37, 3) := by decide +kernel
theorem dX6_doPipe_8 : decode cX6_doPipe 8 = .ok (.aload_n 0, 1) := by decide +kernel
theorem dX6_doPipe_9 : decode cX6_doPipe 9 = .ok (.iload_n 2, 1) := by decide +kernel
theorem dX6_doPipe_10 : decode cX6_doPipe 10 = .ok (.invokevirtual 65, 3) := by decide +kernel
theorem dX6_doPipe_13 : decode cX6_doPipe 13 = .ok (.ifCond .eq 29, 3) := by decide +kernel
theorem dX6_doPipe_16 : decode cX6_doPipe 16 = .ok (.iload_n 1, 1) := by decide +kernel
theorem dX6_doPipe_17 : decode cX6_doPipe 17 = .ok (.iload_n 2, 1) := by decide +kernel
theorem dX6_doPipe_18 : decode cX6_doPipe 18 = .ok (.if_icmp .eq 24, 3) := by decide +kernel
theorem dX6_doPipe_21 : decode cX6_doPipe 21 = .ok (.iload_n 3, 1) := by decide +kernel
theorem dX6_doPipe_22 : decode cX6_doPipe 22 = .ok (.iconst 0, 1) := by decide +kernel
theorem dX6_doPipe_23 : decode cX6_doPipe 23 = .ok (.bipush 9, 2) := by decide +kernel
theorem dX6_doPipe_25 : decode cX6_doPipe 25 = .ok (.invokestatic 53, 3) := by decide +kernel
theorem dX6_doPipe_28 : decode cX6_doPipe 28 = .ok (.ifCond .eq 14, 3) := by decide +kernel
theorem dX6_doPipe_31 : decode cX6_doPipe 31 = .ok (.iload 4, 2) := by decide +kernel
theorem dX6_doPipe_33 : decode cX6_doPipe 33 = .ok (.iload_n 3, 1) := by decide +kernel
theorem dX6_doPipe_34 : decode cX6_doPipe 34 = .ok (.bipush 9, 2) := by decide +kernel
theorem dX6_doPipe_36 : decode cX6_doPipe 36 = .ok (.invokestatic 53, 3) := by decide +kernel
theorem dX6_doPipe_39 : decode cX6_doPipe 39 = .ok (.ifCond .ne 6, 3) := by decide +kernel
theorem dX6_doPipe_42 : decode cX6_doPipe 42 = .ok (.bipush (-2), 2) := by decide +kernel
theorem dX6_doPipe_44 : decode cX6_doPipe 44 = .ok (.ireturn, 1) := by decide +kernel
theorem dX6_doPipe_45 : decode cX6_doPipe 45 = .ok (.aload_n 0, 1) := by decide +kernel
theorem dX6_doPipe_46 : decode cX6_doPipe 46 = .ok (.iload_n 2, 1) := by decide +kernel
theorem dX6_doPipe_47 : decode cX6_doPipe 47 = .ok (.invokevirtual 68, 3) := by decide +kernel
theorem dX6_doPipe_50 : decode cX6_doPipe 50 = .ok (.iload_n 1, 1) := by decide +kernel
theorem dX6_doPipe_51 : decode cX6_doPipe 51 = .ok (.invokestatic 42, 3) := by decide +kernel
theorem dX6_doPipe_54 : decode cX6_doPipe 54 = .ok (.ifCond .eq 6, 3) := by decide +kernel
theorem dX6_doPipe_57 : decode cX6_doPipe 57 = .ok (.bipush (-3), 2) := by decide +kernel
theorem dX6_doPipe_59 : decode cX6_doPipe 59 = .ok (.ireturn, 1) := by decide +kernel
theorem dX6_doPipe_60 : decode cX6_doPipe 60 = .ok (.aload_n 0, 1) := by decide +kernel
theorem dX6_doPipe_61 : decode cX6_doPipe 61 = .ok (.getfield 7, 3) := by decide +kernel
theorem dX6_doPipe_64 : decode cX6_doPipe 64 = .ok (.iconst 1, 1) := by decide +kernel
theorem dX6_doPipe_65 : decode cX6_doPipe 65 = .ok (.iaload, 1) := by decide +kernel
theorem dX6_doPipe_66 : decode cX6_doPipe 66 = .ok (.bipush 16, 2) := by decide +kernel
theorem dX6_doPipe_68 : decode cX6_doPipe 68 = .ok (.if_icmp .ne 6, 3) := by decide +kernel
theorem dX6_doPipe_71 : decode cX6_doPipe 71 = .ok (.bipush (-4), 2) := by decide +kernel
theorem dX6_doPipe_73 : decode cX6_doPipe 73 = .ok (.ireturn, 1) := by decide +kernel
theorem dX6_doPipe_74 : decode cX6_doPipe 74 = .ok (.bipush 23, 2) := by decide +kernel
theorem dX6_doPipe_76 : decode cX6_doPipe 76 = .ok (.iconst 4, 1) := by decide +kernel
theorem dX6_doPipe_77 : decode cX6_doPipe 77 = .ok (.aload_n 0, 1) := by decide +kernel
theorem dX6_doPipe_78 : decode cX6_doPipe 78 = .ok (.getfield 7, 3) := by decide +kernel
theorem dX6_doPipe_81 : decode cX6_doPipe 81 = .ok (.iconst 1, 1) := by decide +kernel
theorem dX6_doPipe_82 : decode cX6_doPipe 82 = .ok (.iaload, 1) := by decide +kernel
theorem dX6_doPipe_83 : decode cX6_doPipe 83 = .ok (.imul, 1) := by decide +kernel
theorem dX6_doPipe_84 : decode cX6_doPipe 84 = .ok (.iadd, 1) := by decide +kernel
theorem dX6_doPipe_85 : decode cX6_doPipe 85 = .ok (.istore 5, 2) := by decide +kernel
theorem dX6_doPipe_87 : decode cX6_doPipe 87 = .ok (.aload_n 0, 1) := by decide +kernel
theorem dX6_doPipe_88 : decode cX6_doPipe 88 = .ok (.getfield 7, 3) := by decide +kernel
theorem dX6_doPipe_91 : decode cX6_doPipe 91 = .ok (.iload 5, 2) := by decide +kernel
theorem dX6_doPipe_93 : decode cX6_doPipe 93 = .ok (.iload_n 1, 1) := by decide +kernel
theorem dX6_doPipe_94 : decode cX6_doPipe 94 = .ok (.iastore, 1) := by decide +kernel
theorem dX6_doPipe_95 : decode cX6_doPipe 95 = .ok (.aload_n 0, 1) := by decide +kernel
theorem dX6_doPipe_96 : decode cX6_doPipe 96 = .ok (.getfield 7, 3) := by decide +kernel
theorem dX6_doPipe_99 : decode cX6_doPipe 99 = .ok (.iload 5, 2) := by decide +kernel
theorem dX6_doPipe_101 : decode cX6_doPipe 101 = .ok (.iconst 1, 1) := by decide +kernel
theorem dX6_doPipe_102 : decode cX6_doPipe 102 = .ok (.iadd, 1) := by decide +kernel
theorem dX6_doPipe_103 : decode cX6_doPipe 103 = .ok (.iload_n 2, 1) := by decide +kernel
theorem dX6_doPipe_104 : decode cX6_doPipe 104 = .ok (.iastore, 1) := by decide +kernel
theorem dX6_doPipe_105 : decode cX6_doPipe 105 = .ok (.aload_n 0, 1) := by decide +kernel
theorem dX6_doPipe_106 : decode cX6_doPipe 106 = .ok (.getfield 7, 3) := by decide +kernel
theorem dX6_doPipe_109 : decode cX6_doPipe 109 = .ok (.iload 5, 2) := by decide +kernel
theorem dX6_doPipe_111 : decode cX6_doPipe 111 = .ok (.iconst 2, 1) := by decide +kernel
theorem dX6_doPipe_112 : decode cX6_doPipe 112 = .ok (.iadd, 1) := by decide +kernel
theorem dX6_doPipe_113 : decode cX6_doPipe 113 = .ok (.iload_n 3, 1) := by decide +kernel
theorem dX6_doPipe_114 : decode cX6_doPipe 114 = .ok (.iastore, 1) := by decide +kernel
theorem dX6_doPipe_115 : decode cX6_doPipe 115 = .ok (.aload_n 0, 1) := by decide +kernel
theorem dX6_doPipe_116 : decode cX6_doPipe 116 = .ok (.getfield 7, 3) := by decide +kernel
theorem dX6_doPipe_119 : decode cX6_doPipe 119 = .ok (.iload 5, 2) := by decide +kernel
theorem dX6_doPipe_121 : decode cX6_doPipe 121 = .ok (.iconst 3, 1) := by decide +kernel
theorem dX6_doPipe_122 : decode cX6_doPipe 122 = .ok (.iadd, 1) := by decide +kernel
theorem dX6_doPipe_123 : decode cX6_doPipe 123 = .ok (.iload 4, 2) := by decide +kernel
theorem dX6_doPipe_125 : decode cX6_doPipe 125 = .ok (.iastore, 1) := by decide +kernel
theorem dX6_doPipe_126 : decode cX6_doPipe 126 = .ok (.aload_n 0, 1) := by decide +kernel
theorem dX6_doPipe_127 : decode cX6_doPipe 127 = .ok (.getfield 7, 3) := by decide +kernel
theorem dX6_doPipe_130 : decode cX6_doPipe 130 = .ok (.iconst 1, 1) := by decide +kernel
theorem dX6_doPipe_131 : decode cX6_doPipe 131 = .ok (.dup2, 1) := by decide +kernel
theorem dX6_doPipe_132 : decode cX6_doPipe 132 = .ok (.iaload, 1) := by decide +kernel
theorem dX6_doPipe_133 : decode cX6_doPipe 133 = .ok (.iconst 1, 1) := by decide +kernel
theorem dX6_doPipe_134 : decode cX6_doPipe 134 = .ok (.iadd, 1) := by decide +kernel
theorem dX6_doPipe_135 : decode cX6_doPipe 135 = .ok (.iastore, 1) := by decide +kernel
theorem dX6_doPipe_136 : decode cX6_doPipe 136 = .ok (.aload_n 0, 1) := by decide +kernel
theorem dX6_doPipe_137 : decode cX6_doPipe 137 = .ok (.getfield 7, 3) := by decide +kernel
theorem dX6_doPipe_140 : decode cX6_doPipe 140 = .ok (.iconst 1, 1) := by decide +kernel
theorem dX6_doPipe_141 : decode cX6_doPipe 141 = .ok (.iaload, 1) := by decide +kernel
theorem dX6_doPipe_142 : decode cX6_doPipe 142 = .ok (.iconst 1, 1) := by decide +kernel
theorem dX6_doPipe_143 : decode cX6_doPipe 143 = .ok (.isub, 1) := by decide +kernel
theorem dX6_doPipe_144 : decode cX6_doPipe 144 = .ok (.ireturn, 1) := by decide +kernel
set_option maxRecDepth 20000 in
theorem ggX6_doDrops_X6_isPipe : GoodIn wsX6_doDrops wsX6_isPipe := goodIn_r _ [6, 1, 7, 8, 5, 9, 10, 11, 12, 13, 14, 15, 16, 17, 18, 19, 20, 21, 22, 23, 24] (by decide +kernel) (by decide +kernel)
set_option maxRecDepth 20000 in
theorem gX6_doDrops_X6_isPipe : GoodIn wsX6_doDrops (wsV RX6 71 RX6 yX6_isPipe wsX6_isPipe) := goodIn_app (goodIn_of _ (by decide +kernel)) ggX6_doDrops_X6_isPipe
theorem dX6_doDrops_0 : decode cX6_doDrops 0 = .ok (.aload_n 0, 1) := by decide +kernel
theorem dX6_doDrops_1 : decode cX6_doDrops 1 = .ok (.iload_n 1, 1) := by decide +kernel
theorem dX6_doDrops_2 : decode cX6_doDrops 2 = .ok (.invokevirtual 71, 3) := by decide +kernel
theorem dX6_doDrops_5 : decode cX6_doDrops 5 = .ok (.ifCond .ne 6, 3) := by decide +kernel
theorem dX6_doDrops_8 : decode cX6_doDrops 8 = .ok (.bipush (-2), 2) := by decide +kernel
theorem dX6_doDrops_10 : decode cX6_doDrops 10 = .ok (.ireturn, 1) := by decide +kernel
theorem dX6_doDrops_11 : decode cX6_doDrops 11 = .ok (.aload_n 0, 1) := by decide +kernel
theorem dX6_doDrops_12 : decode cX6_doDrops 12 = .ok (.getfield 7, 3) := by decide +kernel
theorem dX6_doDrops_15 : decode cX6_doDrops 15 = .ok (.iconst 1, 1) := by decide +kernel
theorem dX6_doDrops_16 : decode cX6_doDrops 16 = .ok (.dup2, 1) := by decide +kernel
theorem dX6_doDrops_17 : decode cX6_doDrops 17 = .ok (.iaload, 1) := by decide +kernel
theorem dX6_doDrops_18 : decode cX6_doDrops 18 = .ok (.iconst 1, 1) := by decide +kernel
theorem dX6_doDrops_19 : decode cX6_doDrops 19 = .ok (.isub, 1) := by decide +kernel
theorem dX6_doDrops_20 : decode cX6_doDrops 20 = .ok (.iastore, 1) := by decide +kernel
theorem dX6_doDrops_21 : decode cX6_doDrops 21 = .ok (.bipush 23, 2) := by decide +kernel
theorem dX6_doDrops_23 : decode cX6_doDrops 23 = .ok (.iconst 4, 1) := by decide +kernel
theorem dX6_doDrops_24 : decode cX6_doDrops 24 = .ok (.iload_n 1, 1) := by decide +kernel
theorem dX6_doDrops_25 : decode cX6_doDrops 25 = .ok (.imul, 1) := by decide +kernel
theorem dX6_doDrops_26 : decode cX6_doDrops 26 = .ok (.iadd, 1) := by decide +kernel
theorem dX6_doDrops_27 : decode cX6_doDrops 27 = .ok (.istore_n 2, 1) := by decide +kernel
theorem dX6_doDrops_28 : decode cX6_doDrops 28 = .ok (.iload_n 2, 1) := by decide +kernel
theorem dX6_doDrops_29 : decode cX6_doDrops 29 = .ok (.bipush 23, 2) := by decide +kernel
theorem dX6_doDrops_31 : decode cX6_doDrops 31 = .ok (.iconst 4, 1) := by decide +kernel
theorem dX6_doDrops_32 : decode cX6_doDrops 32 = .ok (.aload_n 0, 1) := by decide +kernel
theorem dX6_doDrops_33 : decode cX6_doDrops 33 = .ok (.getfield 7, 3) := by decide +kernel
theorem dX6_doDrops_36 : decode cX6_doDrops 36 = .ok (.iconst 1, 1) := by decide +kernel
theorem dX6_doDrops_37 : decode cX6_doDrops 37 = .ok (.iaload, 1) := by decide +kernel
theorem dX6_doDrops_38 : decode cX6_doDrops 38 = .ok (.imul, 1) := by decide +kernel
theorem dX6_doDrops_39 : decode cX6_doDrops 39 = .ok (.iadd, 1) := by decide +kernel
theorem dX6_doDrops_40 : decode cX6_doDrops 40 = .ok (.if_icmp .ge 23, 3) := by decide +kernel
theorem dX6_doDrops_43 : decode cX6_doDrops 43 = .ok (.aload_n 0, 1) := by decide +kernel
theorem dX6_doDrops_44 : decode cX6_doDrops 44 = .ok (.getfield 7, 3) := by decide +kernel
theorem dX6_doDrops_47 : decode cX6_doDrops 47 = .ok (.iload_n 2, 1) := by decide +kernel
theorem dX6_doDrops_48 : decode cX6_doDrops 48 = .ok (.aload_n 0, 1) := by decide +kernel
theorem dX6_doDrops_49 : decode cX6_doDrops 49 = .ok (.getfield 7, 3) := by decide +kernel
theorem dX6_doDrops_52 : decode cX6_doDrops 52 = .ok (.iload_n 2, 1) := by decide +kernel
theorem dX6_doDrops_53 : decode cX6_doDrops 53 = .ok (.iconst 4, 1) := by decide +kernel
theorem dX6_doDrops_54 : decode cX6_doDrops 54 = .ok (.iadd, 1) := by decide +kernel
theorem dX6_doDrops_55 : decode cX6_doDrops 55 = .ok (.iaload, 1) := by decide +kernel
theorem dX6_doDrops_56 : decode cX6_doDrops 56 = .ok (.iastore, 1) := by decide +kernel
theorem dX6_doDrops_57 : decode cX6_doDrops 57 = .ok (.iinc 2 1, 3) := by decide +kernel
theorem dX6_doDrops_60 : decode cX6_doDrops 60 = .ok (.goto (-32), 3) := by decide +kernel
theorem dX6_doDrops_63 : decode cX6_doDrops 63 = .ok (.aload_n 0, 1) := by decide +kernel
theorem dX6_doDrops_64 : decode cX6_doDrops 64 = .ok (.getfield 7, 3) := by decide +kernel
theorem dX6_doDrops_67 : decode cX6_doDrops 67 = .ok (.iconst 1, 1) := by decide +kernel
theorem dX6_doDrops_68 : decode cX6_doDrops 68 = .ok (.iaload, 1) := by decide +kernel
theorem dX6_doDrops_69 : decode cX6_doDrops 69 = .ok (.ireturn, 1) := by decide +kernel
set_option maxRecDepth 20000 in
theorem ggX6_doSight_X6_in : GoodIn wsX6_doSight wsX6_in := goodIn_r _ [5] (by decide +kernel) (by decide +kernel)
set_option maxRecDepth 20000 in
theorem gX6_doSight_X6_in : GoodIn wsX6_doSight (va_wsS RX6 53 yX6_in wsX6_in) := goodIn_app (goodIn_of _ (by decide +kernel)) ggX6_doSight_X6_in
set_option maxRecDepth 20000 in
theorem ggX6_doSight_X6_isShaft : GoodIn wsX6_doSight wsX6_isShaft := goodIn_r _ [9, 1, 2, 3, 4, 5, 10, 11, 12, 13, 14, 15, 16, 17, 18, 19, 20, 21, 22, 23, 24] (by decide +kernel) (by decide +kernel)
set_option maxRecDepth 20000 in
theorem gX6_doSight_X6_isShaft : GoodIn wsX6_doSight (wsV RX6 65 RX6 yX6_isShaft wsX6_isShaft) := goodIn_app (goodIn_of _ (by decide +kernel)) ggX6_doSight_X6_isShaft
theorem dX6_doSight_0 : decode cX6_doSight 0 = .ok (.iload_n 1, 1) := by decide +kernel
theorem dX6_doSight_1 : decode cX6_doSight 1 = .ok (.iconst 0, 1) := by decide +kernel
theorem dX6_doSight_2 : decode cX6_doSight 2 = .ok (.iconst 1, 1) := by decide +kernel
theorem dX6_doSight_3 : decode cX6_doSight 3 = .ok (.invokestatic 53, 3) := by decide +kernel
theorem dX6_doSight_6 : decode cX6_doSight 6 = .ok (.ifCond .eq 21, 3) := by decide +kernel
theorem dX6_doSight_9 : decode cX6_doSight 9 = .ok (.aload_n 0, 1) := by decide +kernel
theorem dX6_doSight_10 : decode cX6_doSight 10 = .ok (.iload_n 2, 1) := by decide +kernel
theorem dX6_doSight_11 : decode cX6_doSight 11 = .ok (.invokevirtual 65, 3) := by decide +kernel
theorem dX6_doSight_14 : decode cX6_doSight 14 = .ok (.ifCond .eq 13, 3) := by decide +kernel
theorem dX6_doSight_17 : decode cX6_doSight 17 = .ok (.iload_n 3, 1) := by decide +kernel
theorem dX6_doSight_18 : decode cX6_doSight 18 = .ok (.iconst 0, 1) := by decide +kernel
theorem dX6_doSight_19 : decode cX6_doSight 19 = .ok (.bipush 62, 2) := by decide +kernel
theorem dX6_doSight_21 : decode cX6_doSight 21 = .ok (.invokestatic 53, 3) := by decide +kernel
theorem dX6_doSight_24 : decode cX6_doSight 24 = .ok (.ifCond .ne 6, 3) := by decide +kernel
theorem dX6_doSight_27 : decode cX6_doSight 27 = .ok (.bipush (-2), 2) := by decide +kernel
theorem dX6_doSight_29 : decode cX6_doSight 29 = .ok (.ireturn, 1) := by decide +kernel
theorem dX6_doSight_30 : decode cX6_doSight 30 = .ok (.aload_n 0, 1) := by decide +kernel
theorem dX6_doSight_31 : decode cX6_doSight 31 = .ok (.getfield 7, 3) := by decide +kernel
theorem dX6_doSight_34 : decode cX6_doSight 34 = .ok (.iconst 2, 1) := by decide +kernel
theorem dX6_doSight_35 : decode cX6_doSight 35 = .ok (.iaload, 1) := by decide +kernel
theorem dX6_doSight_36 : decode cX6_doSight 36 = .ok (.bipush 12, 2) := by decide +kernel
theorem dX6_doSight_38 : decode cX6_doSight 38 = .ok (.if_icmp .ne 6, 3) := by decide +kernel
theorem dX6_doSight_41 : decode cX6_doSight 41 = .ok (.bipush (-4), 2) := by decide +kernel
theorem dX6_doSight_43 : decode cX6_doSight 43 = .ok (.ireturn, 1) := by decide +kernel
theorem dX6_doSight_44 : decode cX6_doSight 44 = .ok (.bipush 87, 2) := by decide +kernel
theorem dX6_doSight_46 : decode cX6_doSight 46 = .ok (.iconst 3, 1) := by decide +kernel
theorem dX6_doSight_47 : decode cX6_doSight 47 = .ok (.aload_n 0, 1) := by decide +kernel
theorem dX6_doSight_48 : decode cX6_doSight 48 = .ok (.getfield 7, 3) := by decide +kernel
theorem dX6_doSight_51 : decode cX6_doSight 51 = .ok (.iconst 2, 1) := by decide +kernel
theorem dX6_doSight_52 : decode cX6_doSight 52 = .ok (.iaload, 1) := by decide +kernel
theorem dX6_doSight_53 : decode cX6_doSight 53 = .ok (.imul, 1) := by decide +kernel
theorem dX6_doSight_54 : decode cX6_doSight 54 = .ok (.iadd, 1) := by decide +kernel
theorem dX6_doSight_55 : decode cX6_doSight 55 = .ok (.istore 4, 2) := by decide +kernel
theorem dX6_doSight_57 : decode cX6_doSight 57 = .ok (.aload_n 0, 1) := by decide +kernel
theorem dX6_doSight_58 : decode cX6_doSight 58 = .ok (.getfield 7, 3) := by decide +kernel
theorem dX6_doSight_61 : decode cX6_doSight 61 = .ok (.iload 4, 2) := by decide +kernel
theorem dX6_doSight_63 : decode cX6_doSight 63 = .ok (.iload_n 1, 1) := by decide +kernel
theorem dX6_doSight_64 : decode cX6_doSight 64 = .ok (.iastore, 1) := by decide +kernel
theorem dX6_doSight_65 : decode cX6_doSight 65 = .ok (.aload_n 0, 1) := by decide +kernel
theorem dX6_doSight_66 : decode cX6_doSight 66 = .ok (.getfield 7, 3) := by decide +kernel
theorem dX6_doSight_69 : decode cX6_doSight 69 = .ok (.iload 4, 2) := by decide +kernel
theorem dX6_doSight_71 : decode cX6_doSight 71 = .ok (.iconst 1, 1) := by decide +kernel
theorem dX6_doSight_72 : decode cX6_doSight 72 = .ok (.iadd, 1) := by decide +kernel
theorem dX6_doSight_73 : decode cX6_doSight 73 = .ok (.iload_n 2, 1) := by decide +kernel
theorem dX6_doSight_74 : decode cX6_doSight 74 = .ok (.iastore, 1) := by decide +kernel
theorem dX6_doSight_75 : decode cX6_doSight 75 = .ok (.aload_n 0, 1) := by decide +kernel
theorem dX6_doSight_76 : decode cX6_doSight 76 = .ok (.getfield 7, 3) := by decide +kernel
theorem dX6_doSight_79 : decode cX6_doSight 79 = .ok (.iload 4, 2) := by decide +kernel
theorem dX6_doSight_81 : decode cX6_doSight 81 = .ok (.iconst 2, 1) := by decide +kernel
theorem dX6_doSight_82 : decode cX6_doSight 82 = .ok (.iadd, 1) := by decide +kernel
theorem dX6_doSight_83 : decode cX6_doSight 83 = .ok (.iload_n 3, 1) := by decide +kernel
theorem dX6_doSight_84 : decode cX6_doSight 84 = .ok (.iastore, 1) := by decide +kernel
theorem dX6_doSight_85 : decode cX6_doSight 85 = .ok (.aload_n 0, 1) := by decide +kernel
theorem dX6_doSight_86 : decode cX6_doSight 86 = .ok (.getfield 7, 3) := by decide +kernel
theorem dX6_doSight_89 : decode cX6_doSight 89 = .ok (.iconst 2, 1) := by decide +kernel
theorem dX6_doSight_90 : decode cX6_doSight 90 = .ok (.dup2, 1) := by decide +kernel
theorem dX6_doSight_91 : decode cX6_doSight 91 = .ok (.iaload, 1) := by decide +kernel
theorem dX6_doSight_92 : decode cX6_doSight 92 = .ok (.iconst 1, 1) := by decide +kernel
theorem dX6_doSight_93 : decode cX6_doSight 93 = .ok (.iadd, 1) := by decide +kernel
theorem dX6_doSight_94 : decode cX6_doSight 94 = .ok (.iastore, 1) := by decide +kernel
theorem dX6_doSight_95 : decode cX6_doSight 95 = .ok (.aload_n 0, 1) := by decide +kernel
theorem dX6_doSight_96 : decode cX6_doSight 96 = .ok (.getfield 7, 3) := by decide +kernel
theorem dX6_doSight_99 : decode cX6_doSight 99 = .ok (.iconst 2, 1) := by decide +kernel
theorem dX6_doSight_100 : decode cX6_doSight 100 = .ok (.iaload, 1) := by decide +kernel
theorem dX6_doSight_101 : decode cX6_doSight 101 = .ok (.ireturn, 1) := by decide +kernel
theorem dX6_doForget_0 : decode cX6_doForget 0 = .ok (.aload_n 0, 1) := by decide +kernel
theorem dX6_doForget_1 : decode cX6_doForget 1 = .ok (.getfield 7, 3) := by decide +kernel
theorem dX6_doForget_4 : decode cX6_doForget 4 = .ok (.iconst 2, 1) := by decide +kernel
theorem dX6_doForget_5 : decode cX6_doForget 5 = .ok (.iaload, 1) := by decide +kernel
theorem dX6_doForget_6 : decode cX6_doForget 6 = .ok (.istore_n 1, 1) := by decide +kernel
theorem dX6_doForget_7 : decode cX6_doForget 7 = .ok (.aload_n 0, 1) := by decide +kernel
theorem dX6_doForget_8 : decode cX6_doForget 8 = .ok (.getfield 7, 3) := by decide +kernel
theorem dX6_doForget_11 : decode cX6_doForget 11 = .ok (.iconst 2, 1) := by decide +kernel
theorem dX6_doForget_12 : decode cX6_doForget 12 = .ok (.iconst 0, 1) := by decide +kernel
theorem dX6_doForget_13 : decode cX6_doForget 13 = .ok (.iastore, 1) := by decide +kernel
theorem dX6_doForget_14 : decode cX6_doForget 14 = .ok (.iload_n 1, 1) := by decide +kernel
theorem dX6_doForget_15 : decode cX6_doForget 15 = .ok (.ireturn, 1) := by decide +kernel
set_option maxRecDepth 20000 in
theorem ggX6_shaft_X6_hold : GoodIn wsX6_shaft wsX6_hold := goodIn_r _ [5, 6, 7, 33, 34, 35, 36, 37, 38, 39, 40, 41, 42, 43, 44, 45, 46, 47] (by decide +kernel) (by decide +kernel)
set_option maxRecDepth 20000 in
theorem gX6_shaft_X6_hold : GoodIn wsX6_shaft (wsV RX6 74 RX6 yX6_hold wsX6_hold) := goodIn_app (goodIn_of _ (by decide +kernel)) ggX6_shaft_X6_hold
set_option maxRecDepth 20000 in
theorem ggX6_shaft_X6_doShaft : GoodIn wsX6_shaft wsX6_doShaft := goodIn_r _ [11, 7, 12, 13, 4, 14, 15, 16, 17, 33, 34, 35, 36, 37, 38, 39, 40, 41, 42, 43, 44, 45, 46, 47] (by decide +kernel) (by decide +kernel)
set_option maxRecDepth 20000 in
theorem gX6_shaft_X6_doShaft : GoodIn wsX6_shaft (wsV RX6 77 RX6 yX6_doShaft wsX6_doShaft) := goodIn_app (goodIn_of _ (by decide +kernel)) ggX6_shaft_X6_doShaft
set_option maxRecDepth 20000 in
theorem ggX6_shaft_X6_ends : GoodIn wsX6_shaft wsX6_ends := goodIn_r _ [21, 22, 23, 24, 4, 25, 26, 27, 28, 29, 30, 31, 32, 6, 33, 34, 35, 36, 37, 38, 39, 40, 41, 42, 43, 44, 45, 46, 47] (by decide +kernel) (by decide +kernel)
set_option maxRecDepth 20000 in
theorem gX6_shaft_X6_ends : GoodIn wsX6_shaft (wsV RX6 80 RX6 yX6_ends wsX6_ends) := goodIn_app (goodIn_of _ (by decide +kernel)) ggX6_shaft_X6_ends
theorem dX6_shaft_0 : decode cX6_shaft 0 = .ok (.aload_n 0, 1) := by decide +kernel
theorem dX6_shaft_1 : decode cX6_shaft 1 = .ok (.invokevirtual 74, 3) := by decide +kernel
theorem dX6_shaft_4 : decode cX6_shaft 4 = .ok (.aload_n 0, 1) := by decide +kernel
theorem dX6_shaft_5 : decode cX6_shaft 5 = .ok (.aload_n 0, 1) := by decide +kernel
theorem dX6_shaft_6 : decode cX6_shaft 6 = .ok (.iload_n 1, 1) := by decide +kernel
theorem dX6_shaft_7 : decode cX6_shaft 7 = .ok (.iload_n 2, 1) := by decide +kernel
theorem dX6_shaft_8 : decode cX6_shaft 8 = .ok (.invokevirtual 77, 3) := by decide +kernel
theorem dX6_shaft_11 : decode cX6_shaft 11 = .ok (.invokevirtual 80, 3) := by decide +kernel
theorem dX6_shaft_14 : decode cX6_shaft 14 = .ok (.ireturn, 1) := by decide +kernel
set_option maxRecDepth 20000 in
theorem ggX6_sets_X6_hold : GoodIn wsX6_sets wsX6_hold := goodIn_r _ [5, 6, 7, 37, 38, 39, 40, 41, 42, 43, 44, 45, 46, 47, 48, 49, 50, 51] (by decide +kernel) (by decide +kernel)
set_option maxRecDepth 20000 in
theorem gX6_sets_X6_hold : GoodIn wsX6_sets (wsV RX6 74 RX6 yX6_hold wsX6_hold) := goodIn_app (goodIn_of _ (by decide +kernel)) ggX6_sets_X6_hold
set_option maxRecDepth 20000 in
theorem ggX6_sets_X6_doSets : GoodIn wsX6_sets wsX6_doSets := goodIn_r _ [11, 7, 12, 13, 4, 14, 15, 16, 17, 18, 19, 20, 21, 37, 38, 39, 40, 41, 42, 43, 44, 45, 46, 47, 48, 49, 50, 51] (by decide +kernel) (by decide +kernel)
set_option maxRecDepth 20000 in
theorem gX6_sets_X6_doSets : GoodIn wsX6_sets (wsV RX6 83 RX6 yX6_doSets wsX6_doSets) := goodIn_app (goodIn_of _ (by decide +kernel)) ggX6_sets_X6_doSets
set_option maxRecDepth 20000 in
theorem ggX6_sets_X6_ends : GoodIn wsX6_sets wsX6_ends := goodIn_r _ [25, 26, 27, 28, 4, 29, 30, 31, 32, 33, 34, 35, 36, 6, 37, 38, 39, 40, 41, 42, 43, 44, 45, 46, 47, 48, 49, 50, 51] (by decide +kernel) (by decide +kernel)
set_option maxRecDepth 20000 in
theorem gX6_sets_X6_ends : GoodIn wsX6_sets (wsV RX6 80 RX6 yX6_ends wsX6_ends) := goodIn_app (goodIn_of _ (by decide +kernel)) ggX6_sets_X6_ends
theorem dX6_sets_0 : decode cX6_sets 0 = .ok (.aload_n 0, 1) := by decide +kernel
theorem dX6_sets_1 : decode cX6_sets 1 = .ok (.invokevirtual 74, 3) := by decide +kernel
theorem dX6_sets_4 : decode cX6_sets 4 = .ok (.aload_n 0, 1) := by decide +kernel
theorem dX6_sets_5 : decode cX6_sets 5 = .ok (.aload_n 0, 1) := by decide +kernel
theorem dX6_sets_6 : decode cX6_sets 6 = .ok (.iload_n 1, 1) := by decide +kernel
theorem dX6_sets_7 : decode cX6_sets 7 = .ok (.iload_n 2, 1) := by decide +kernel
theorem dX6_sets_8 : decode cX6_sets 8 = .ok (.iload_n 3, 1) := by decide +kernel
theorem dX6_sets_9 : decode cX6_sets 9 = .ok (.invokevirtual 83, 3) := by decide +kernel
theorem dX6_sets_12 : decode cX6_sets 12 = .ok (.invokevirtual 80, 3) := by decide +kernel
theorem dX6_sets_15 : decode cX6_sets 15 = .ok (.ireturn, 1) := by decide +kernel
set_option maxRecDepth 20000 in
theorem ggX6_pipe_X6_hold : GoodIn wsX6_pipe wsX6_hold := goodIn_r _ [5, 6, 7, 45, 46, 47, 48, 49, 50, 51, 52, 53, 54, 55, 56, 57, 58, 59] (by decide +kernel) (by decide +kernel)
set_option maxRecDepth 20000 in
theorem gX6_pipe_X6_hold : GoodIn wsX6_pipe (wsV RX6 74 RX6 yX6_hold wsX6_hold) := goodIn_app (goodIn_of _ (by decide +kernel)) ggX6_pipe_X6_hold
set_option maxRecDepth 20000 in
theorem ggX6_pipe_X6_doPipe : GoodIn wsX6_pipe wsX6_doPipe := goodIn_r _ [11, 7, 12, 13, 14, 4, 15, 16, 17, 18, 19, 20, 21, 22, 23, 24, 25, 26, 27, 28, 29, 45, 46, 47, 48, 49, 50, 51, 52, 53, 54, 55, 56, 57, 58, 59] (by decide +kernel) (by decide +kernel)
set_option maxRecDepth 20000 in
theorem gX6_pipe_X6_doPipe : GoodIn wsX6_pipe (wsV RX6 87 RX6 yX6_doPipe wsX6_doPipe) := goodIn_app (goodIn_of _ (by decide +kernel)) ggX6_pipe_X6_doPipe
set_option maxRecDepth 20000 in
theorem ggX6_pipe_X6_ends : GoodIn wsX6_pipe wsX6_ends := goodIn_r _ [33, 34, 35, 36, 4, 37, 38, 39, 40, 41, 42, 43, 44, 6, 45, 46, 47, 48, 49, 50, 51, 52, 53, 54, 55, 56, 57, 58, 59] (by decide +kernel) (by decide +kernel)
set_option maxRecDepth 20000 in
theorem gX6_pipe_X6_ends : GoodIn wsX6_pipe (wsV RX6 80 RX6 yX6_ends wsX6_ends) := goodIn_app (goodIn_of _ (by decide +kernel)) ggX6_pipe_X6_ends
theorem dX6_pipe_0 : decode cX6_pipe 0 = .ok (.aload_n 0, 1) := by decide +kernel
theorem dX6_pipe_1 : decode cX6_pipe 1 = .ok (.invokevirtual 74, 3) := by decide +kernel
theorem dX6_pipe_4 : decode cX6_pipe 4 = .ok (.aload_n 0, 1) := by decide +kernel
theorem dX6_pipe_5 : decode cX6_pipe 5 = .ok (.aload_n 0, 1) := by decide +kernel
theorem dX6_pipe_6 : decode cX6_pipe 6 = .ok (.iload_n 1, 1) := by decide +kernel
theorem dX6_pipe_7 : decode cX6_pipe 7 = .ok (.iload_n 2, 1) := by decide +kernel
theorem dX6_pipe_8 : decode cX6_pipe 8 = .ok (.iload_n 3, 1) := by decide +kernel
theorem dX6_pipe_9 : decode cX6_pipe 9 = .ok (.iload 4, 2) := by decide +kernel
theorem dX6_pipe_11 : decode cX6_pipe 11 = .ok (.invokevirtual 87, 3) := by decide +kernel
theorem dX6_pipe_14 : decode cX6_pipe 14 = .ok (.invokevirtual 80, 3) := by decide +kernel
theorem dX6_pipe_17 : decode cX6_pipe 17 = .ok (.ireturn, 1) := by decide +kernel
set_option maxRecDepth 20000 in
theorem ggX6_drops_X6_hold : GoodIn wsX6_drops wsX6_hold := goodIn_r _ [5, 6, 7, 34, 35, 36, 37, 38, 39, 40, 41, 42, 43, 44, 45, 46, 47, 48] (by decide +kernel) (by decide +kernel)
set_option maxRecDepth 20000 in
theorem gX6_drops_X6_hold : GoodIn wsX6_drops (wsV RX6 74 RX6 yX6_hold wsX6_hold) := goodIn_app (goodIn_of _ (by decide +kernel)) ggX6_drops_X6_hold
set_option maxRecDepth 20000 in
theorem ggX6_drops_X6_doDrops : GoodIn wsX6_drops wsX6_doDrops := goodIn_r _ [11, 7, 12, 13, 14, 4, 15, 16, 17, 18, 34, 35, 36, 37, 38, 39, 40, 41, 42, 43, 44, 45, 46, 47, 48] (by decide +kernel) (by decide +kernel)
set_option maxRecDepth 20000 in
theorem gX6_drops_X6_doDrops : GoodIn wsX6_drops (wsV RX6 91 RX6 yX6_doDrops wsX6_doDrops) := goodIn_app (goodIn_of _ (by decide +kernel)) ggX6_drops_X6_doDrops
set_option maxRecDepth 20000 in
theorem ggX6_drops_X6_ends : GoodIn wsX6_drops wsX6_ends := goodIn_r _ [22, 23, 24, 25, 4, 26, 27, 28, 29, 30, 31, 32, 33, 6, 34, 35, 36, 37, 38, 39, 40, 41, 42, 43, 44, 45, 46, 47, 48] (by decide +kernel) (by decide +kernel)
set_option maxRecDepth 20000 in
theorem gX6_drops_X6_ends : GoodIn wsX6_drops (wsV RX6 80 RX6 yX6_ends wsX6_ends) := goodIn_app (goodIn_of _ (by decide +kernel)) ggX6_drops_X6_ends
theorem dX6_drops_0 : decode cX6_drops 0 = .ok (.aload_n 0, 1) := by decide +kernel
theorem dX6_drops_1 : decode cX6_drops 1 = .ok (.invokevirtual 74, 3) := by decide +kernel
theorem dX6_drops_4 : decode cX6_drops 4 = .ok (.aload_n 0, 1) := by decide +kernel
theorem dX6_drops_5 : decode cX6_drops 5 = .ok (.aload_n 0, 1) := by decide +kernel
theorem dX6_drops_6 : decode cX6_drops 6 = .ok (.iload_n 1, 1) := by decide +kernel
theorem dX6_drops_7 : decode cX6_drops 7 = .ok (.invokevirtual 91, 3) := by decide +kernel
theorem dX6_drops_10 : decode cX6_drops 10 = .ok (.invokevirtual 80, 3) := by decide +kernel
theorem dX6_drops_13 : decode cX6_drops 13 = .ok (.ireturn, 1) := by decide +kernel
set_option maxRecDepth 20000 in
theorem ggX6_sight_X6_hold : GoodIn wsX6_sight wsX6_hold := goodIn_r _ [5, 6, 7, 34, 35, 36, 37, 38, 39, 40, 41, 42, 43, 44, 45, 46, 47, 48] (by decide +kernel) (by decide +kernel)
set_option maxRecDepth 20000 in
theorem gX6_sight_X6_hold : GoodIn wsX6_sight (wsV RX6 74 RX6 yX6_hold wsX6_hold) := goodIn_app (goodIn_of _ (by decide +kernel)) ggX6_sight_X6_hold
set_option maxRecDepth 20000 in
theorem ggX6_sight_X6_doSight : GoodIn wsX6_sight wsX6_doSight := goodIn_r _ [11, 7, 12, 13, 4, 14, 15, 16, 17, 18, 34, 35, 36, 37, 38, 39, 40, 41, 42, 43, 44, 45, 46, 47, 48] (by decide +kernel) (by decide +kernel)
set_option maxRecDepth 20000 in
theorem gX6_sight_X6_doSight : GoodIn wsX6_sight (wsV RX6 94 RX6 yX6_doSight wsX6_doSight) := goodIn_app (goodIn_of _ (by decide +kernel)) ggX6_sight_X6_doSight
set_option maxRecDepth 20000 in
theorem ggX6_sight_X6_ends : GoodIn wsX6_sight wsX6_ends := goodIn_r _ [22, 23, 24, 25, 4, 26, 27, 28, 29, 30, 31, 32, 33, 6, 34, 35, 36, 37, 38, 39, 40, 41, 42, 43, 44, 45, 46, 47, 48] (by decide +kernel) (by decide +kernel)
set_option maxRecDepth 20000 in
theorem gX6_sight_X6_ends : GoodIn wsX6_sight (wsV RX6 80 RX6 yX6_ends wsX6_ends) := goodIn_app (goodIn_of _ (by decide +kernel)) ggX6_sight_X6_ends
theorem dX6_sight_0 : decode cX6_sight 0 = .ok (.aload_n 0, 1) := by decide +kernel
theorem dX6_sight_1 : decode cX6_sight 1 = .ok (.invokevirtual 74, 3) := by decide +kernel
theorem dX6_sight_4 : decode cX6_sight 4 = .ok (.aload_n 0, 1) := by decide +kernel
theorem dX6_sight_5 : decode cX6_sight 5 = .ok (.aload_n 0, 1) := by decide +kernel
theorem dX6_sight_6 : decode cX6_sight 6 = .ok (.iload_n 1, 1) := by decide +kernel
theorem dX6_sight_7 : decode cX6_sight 7 = .ok (.iload_n 2, 1) := by decide +kernel
theorem dX6_sight_8 : decode cX6_sight 8 = .ok (.iload_n 3, 1) := by decide +kernel
theorem dX6_sight_9 : decode cX6_sight 9 = .ok (.invokevirtual 94, 3) := by decide +kernel
theorem dX6_sight_12 : decode cX6_sight 12 = .ok (.invokevirtual 80, 3) := by decide +kernel
theorem dX6_sight_15 : decode cX6_sight 15 = .ok (.ireturn, 1) := by decide +kernel
set_option maxRecDepth 20000 in
theorem ggX6_forget_X6_hold : GoodIn wsX6_forget wsX6_hold := goodIn_r _ [5, 6, 7, 27, 28, 29, 30, 31, 32, 33, 34, 35, 36, 37, 38, 39, 40, 41] (by decide +kernel) (by decide +kernel)
set_option maxRecDepth 20000 in
theorem gX6_forget_X6_hold : GoodIn wsX6_forget (wsV RX6 74 RX6 yX6_hold wsX6_hold) := goodIn_app (goodIn_of _ (by decide +kernel)) ggX6_forget_X6_hold
set_option maxRecDepth 20000 in
theorem ggX6_forget_X6_doForget : GoodIn wsX6_forget wsX6_doForget := goodIn_r _ [11, 7, 27, 28, 29, 30, 31, 32, 33, 34, 35, 36, 37, 38, 39, 40, 41] (by decide +kernel) (by decide +kernel)
set_option maxRecDepth 20000 in
theorem gX6_forget_X6_doForget : GoodIn wsX6_forget (wsV RX6 97 RX6 yX6_doForget wsX6_doForget) := goodIn_app (goodIn_of _ (by decide +kernel)) ggX6_forget_X6_doForget
set_option maxRecDepth 20000 in
theorem ggX6_forget_X6_ends : GoodIn wsX6_forget wsX6_ends := goodIn_r _ [15, 16, 17, 18, 4, 19, 20, 21, 22, 23, 24, 25, 26, 6, 27, 28, 29, 30, 31, 32, 33, 34, 35, 36, 37, 38, 39, 40, 41] (by decide +kernel) (by decide +kernel)
set_option maxRecDepth 20000 in
theorem gX6_forget_X6_ends : GoodIn wsX6_forget (wsV RX6 80 RX6 yX6_ends wsX6_ends) := goodIn_app (goodIn_of _ (by decide +kernel)) ggX6_forget_X6_ends
theorem dX6_forget_0 : decode cX6_forget 0 = .ok (.aload_n 0, 1) := by decide +kernel
theorem dX6_forget_1 : decode cX6_forget 1 = .ok (.invokevirtual 74, 3) := by decide +kernel
theorem dX6_forget_4 : decode cX6_forget 4 = .ok (.aload_n 0, 1) := by decide +kernel
theorem dX6_forget_5 : decode cX6_forget 5 = .ok (.aload_n 0, 1) := by decide +kernel
theorem dX6_forget_6 : decode cX6_forget 6 = .ok (.invokevirtual 97, 3) := by decide +kernel
theorem dX6_forget_9 : decode cX6_forget 9 = .ok (.invokevirtual 80, 3) := by decide +kernel
theorem dX6_forget_12 : decode cX6_forget 12 = .ok (.ireturn, 1) := by decide +kernel
set_option maxRecDepth 20000 in
theorem ggX6_ofShaft_X6_pipeOf : GoodIn wsX6_ofShaft wsX6_pipeOf := goodIn_r _ [6, 1, 22, 23, 24, 25, 26, 27, 28, 29, 30, 31, 32, 33, 34, 35, 36] (by decide +kernel) (by decide +kernel)
set_option maxRecDepth 20000 in
theorem gX6_ofShaft_X6_pipeOf : GoodIn wsX6_ofShaft (wsV RX6 57 RX6 yX6_pipeOf wsX6_pipeOf) := goodIn_app (goodIn_of _ (by decide +kernel)) ggX6_ofShaft_X6_pipeOf
set_option maxRecDepth 20000 in
theorem ggX6_ofShaft_X6_below : GoodIn wsX6_ofShaft wsX6_below := goodIn_r _ [10, 1, 2, 3, 4, 5, 6, 11, 12, 13, 22, 23, 24, 25, 26, 27, 28, 29, 30, 31, 32, 33, 34, 35, 36] (by decide +kernel) (by decide +kernel)
set_option maxRecDepth 20000 in
theorem gX6_ofShaft_X6_below : GoodIn wsX6_ofShaft (wsV RX6 68 RX6 yX6_below wsX6_below) := goodIn_app (goodIn_of _ (by decide +kernel)) ggX6_ofShaft_X6_below
set_option maxRecDepth 20000 in
theorem ggX6_ofShaft_X6_has : GoodIn wsX6_ofShaft wsX6_has := goodIn_r _ [13] (by decide +kernel) (by decide +kernel)
set_option maxRecDepth 20000 in
theorem gX6_ofShaft_X6_has : GoodIn wsX6_ofShaft (va_wsS RX6 42 yX6_has wsX6_has) := goodIn_app (goodIn_of _ (by decide +kernel)) ggX6_ofShaft_X6_has
set_option maxRecDepth 20000 in
theorem ggX6_ofShaft_X6_kindOf : GoodIn wsX6_ofShaft wsX6_kindOf := goodIn_r _ [17, 1, 22, 23, 24, 25, 26, 27, 28, 29, 30, 31, 32, 33, 34, 35, 36] (by decide +kernel) (by decide +kernel)
set_option maxRecDepth 20000 in
theorem gX6_ofShaft_X6_kindOf : GoodIn wsX6_ofShaft (wsV RX6 101 RX6 yX6_kindOf wsX6_kindOf) := goodIn_app (goodIn_of _ (by decide +kernel)) ggX6_ofShaft_X6_kindOf
set_option maxRecDepth 20000 in
theorem ggX6_ofShaft_X6_numberOf : GoodIn wsX6_ofShaft wsX6_numberOf := goodIn_r _ [21, 1, 22, 23, 24, 25, 26, 27, 28, 29, 30, 31, 32, 33, 34, 35, 36] (by decide +kernel) (by decide +kernel)
set_option maxRecDepth 20000 in
theorem gX6_ofShaft_X6_numberOf : GoodIn wsX6_ofShaft (wsV RX6 104 RX6 yX6_numberOf wsX6_numberOf) := goodIn_app (goodIn_of _ (by decide +kernel)) ggX6_ofShaft_X6_numberOf
theorem dX6_ofShaft_0 : decode cX6_ofShaft 0 = .ok (.iconst 0, 1) := by decide +kernel
theorem dX6_ofShaft_1 : decode cX6_ofShaft 1 = .ok (.istore_n 3, 1) := by decide +kernel
theorem dX6_ofShaft_2 : decode cX6_ofShaft 2 = .ok (.iconst 0, 1) := by decide +kernel
theorem dX6_ofShaft_3 : decode cX6_ofShaft 3 = .ok (.istore 4, 2) := by decide +kernel
theorem dX6_ofShaft_5 : decode cX6_ofShaft 5 = .ok (.iconst 0, 1) := by decide +kernel
theorem dX6_ofShaft_6 : decode cX6_ofShaft 6 = .ok (.istore 5, 2) := by decide +kernel
theorem dX6_ofShaft_8 : decode cX6_ofShaft 8 = .ok (.iconst 0, 1) := by decide +kernel
theorem dX6_ofShaft_9 : decode cX6_ofShaft 9 = .ok (.istore 6, 2) := by decide +kernel
theorem dX6_ofShaft_11 : decode cX6_ofShaft 11 = .ok (.iload 6, 2) := by decide +kernel
theorem dX6_ofShaft_13 : decode cX6_ofShaft 13 = .ok (.aload_n 0, 1) := by decide +kernel
theorem dX6_ofShaft_14 : decode cX6_ofShaft 14 = .ok (.getfield 7, 3) := by decide +kernel
theorem dX6_ofShaft_17 : decode cX6_ofShaft 17 = .ok (.iconst 1, 1) := by decide +kernel
theorem dX6_ofShaft_18 : decode cX6_ofShaft 18 = .ok (.iaload, 1) := by decide +kernel
theorem dX6_ofShaft_19 : decode cX6_ofShaft 19 = .ok (.if_icmp .ge 49, 3) := by decide +kernel
theorem dX6_ofShaft_22 : decode cX6_ofShaft 22 = .ok (.iload_n 3, 1) := by decide +kernel
theorem dX6_ofShaft_23 : decode cX6_ofShaft 23 = .ok (.aload_n 0, 1) := by decide +kernel
theorem dX6_ofShaft_24 : decode cX6_ofShaft 24 = .ok (.iload 6, 2) := by decide +kernel
theorem dX6_ofShaft_26 : decode cX6_ofShaft 26 = .ok (.iconst 0, 1) := by decide +kernel
theorem dX6_ofShaft_27 : decode cX6_ofShaft 27 = .ok (.invokevirtual 57, 3) := by decide +kernel
theorem dX6_ofShaft_30 : decode cX6_ofShaft 30 = .ok (.iload_n 1, 1) := by decide +kernel
theorem dX6_ofShaft_31 : decode cX6_ofShaft 31 = .ok (.if_icmp .ne 7, 3) := by decide +kernel
theorem dX6_ofShaft_34 : decode cX6_ofShaft 34 = .ok (.iconst 1, 1) := by decide +kernel
theorem dX6_ofShaft_35 : decode cX6_ofShaft 35 = .ok (.goto 4, 3) := by decide +kernel
theorem dX6_ofShaft_38 : decode cX6_ofShaft 38 = .ok (.iconst 0, 1) := by decide +kernel
theorem dX6_ofShaft_39 : decode cX6_ofShaft 39 = .ok (.iadd, 1) := by decide +kernel
theorem dX6_ofShaft_40 : decode cX6_ofShaft 40 = .ok (.istore_n 3, 1) := by decide +kernel
theorem dX6_ofShaft_41 : decode cX6_ofShaft 41 = .ok (.iload 4, 2) := by decide +kernel
theorem dX6_ofShaft_43 : decode cX6_ofShaft 43 = .ok (.aload_n 0, 1) := by decide +kernel
theorem dX6_ofShaft_44 : decode cX6_ofShaft 44 = .ok (.iload 6, 2) := by decide +kernel
theorem dX6_ofShaft_46 : decode cX6_ofShaft 46 = .ok (.iconst 1, 1) := by decide +kernel
theorem dX6_ofShaft_47 : decode cX6_ofShaft 47 = .ok (.invokevirtual 57, 3) := by decide +kernel
theorem dX6_ofShaft_50 : decode cX6_ofShaft 50 = .ok (.iload_n 1, 1) := by decide +kernel
theorem dX6_ofShaft_51 : decode cX6_ofShaft 51 = .ok (.if_icmp .ne 7, 3) := by decide +kernel
theorem dX6_ofShaft_54 : decode cX6_ofShaft 54 = .ok (.iconst 1, 1) := by decide +kernel
theorem dX6_ofShaft_55 : decode cX6_ofShaft 55 = .ok (.goto 4, 3) := by decide +kernel
theorem dX6_ofShaft_58 : decode cX6_ofShaft 58 = .ok (.iconst 0, 1) := by decide +kernel
theorem dX6_ofShaft_59 : decode cX6_ofShaft 59 = .ok (.iadd, 1) := by decide +kernel
theorem dX6_ofShaft_60 : decode cX6_ofShaft 60 = .ok (.istore 4, 2) := by decide +kernel
theorem dX6_ofShaft_62 : decode cX6_ofShaft 62 = .ok (.iinc 6 1, 3) := by decide +kernel
theorem dX6_ofShaft_65 : decode cX6_ofShaft 65 = .ok (.goto (-54), 3) := by decide +kernel
theorem dX6_ofShaft_68 : decode cX6_ofShaft 68 = .ok (.iconst 0, 1) := by decide +kernel
theorem dX6_ofShaft_69 : decode cX6_ofShaft 69 = .ok (.istore 6, 2) := by decide +kernel
theorem dX6_ofShaft_71 : decode cX6_ofShaft 71 = .ok (.iload 6, 2) := by decide +kernel
theorem dX6_ofShaft_73 : decode cX6_ofShaft 73 = .ok (.aload_n 0, 1) := by decide +kernel
theorem dX6_ofShaft_74 : decode cX6_ofShaft 74 = .ok (.getfield 7, 3) := by decide +kernel
theorem dX6_ofShaft_77 : decode cX6_ofShaft 77 = .ok (.iconst 0, 1) := by decide +kernel
theorem dX6_ofShaft_78 : decode cX6_ofShaft 78 = .ok (.iaload, 1) := by decide +kernel
theorem dX6_ofShaft_79 : decode cX6_ofShaft 79 = .ok (.if_icmp .ge 40, 3) := by decide +kernel
theorem dX6_ofShaft_82 : decode cX6_ofShaft 82 = .ok (.iload_n 2, 1) := by decide +kernel
theorem dX6_ofShaft_83 : decode cX6_ofShaft 83 = .ok (.iconst 5, 1) := by decide +kernel
theorem dX6_ofShaft_84 : decode cX6_ofShaft 84 = .ok (.if_icmp .ne 35, 3) := by decide +kernel
theorem dX6_ofShaft_87 : decode cX6_ofShaft 87 = .ok (.iload 5, 2) := by decide +kernel
theorem dX6_ofShaft_89 : decode cX6_ofShaft 89 = .ok (.aload_n 0, 1) := by decide +kernel
theorem dX6_ofShaft_90 : decode cX6_ofShaft 90 = .ok (.iload 6, 2) := by decide +kernel
theorem dX6_ofShaft_92 : decode cX6_ofShaft 92 = .ok (.invokevirtual 68, 3) := by decide +kernel
theorem dX6_ofShaft_95 : decode cX6_ofShaft 95 = .ok (.iload_n 1, 1) := by decide +kernel
theorem dX6_ofShaft_96 : decode cX6_ofShaft 96 = .ok (.invokestatic 42, 3) := by decide +kernel
theorem dX6_ofShaft_99 : decode cX6_ofShaft 99 = .ok (.ifCond .eq 10, 3) := by decide +kernel
theorem dX6_ofShaft_102 : decode cX6_ofShaft 102 = .ok (.iconst 1, 1) := by decide +kernel
theorem dX6_ofShaft_103 : decode cX6_ofShaft 103 = .ok (.iload 6, 2) := by decide +kernel
theorem dX6_ofShaft_105 : decode cX6_ofShaft 105 = .ok (.ishl, 1) := by decide +kernel
theorem dX6_ofShaft_106 : decode cX6_ofShaft 106 = .ok (.goto 4, 3) := by decide +kernel
theorem dX6_ofShaft_109 : decode cX6_ofShaft 109 = .ok (.iconst 0, 1) := by decide +kernel
theorem dX6_ofShaft_110 : decode cX6_ofShaft 110 = .ok (.ior, 1) := by decide +kernel
theorem dX6_ofShaft_111 : decode cX6_ofShaft 111 = .ok (.istore 5, 2) := by decide +kernel
theorem dX6_ofShaft_113 : decode cX6_ofShaft 113 = .ok (.iinc 6 1, 3) := by decide +kernel
theorem dX6_ofShaft_116 : decode cX6_ofShaft 116 = .ok (.goto (-45), 3) := by decide +kernel
theorem dX6_ofShaft_119 : decode cX6_ofShaft 119 = .ok (.iload_n 2, 1) := by decide +kernel
theorem dX6_ofShaft_120 : decode cX6_ofShaft 120 = .ok (.tableswitch 59 0 4 #[36, 42, 48, 50, 53], 36) := by decide +kernel
theorem dX6_ofShaft_156 : decode cX6_ofShaft 156 = .ok (.aload_n 0, 1) := by decide +kernel
theorem dX6_ofShaft_157 : decode cX6_ofShaft 157 = .ok (.iload_n 1, 1) := by decide +kernel
theorem dX6_ofShaft_158 : decode cX6_ofShaft 158 = .ok (.invokevirtual 101, 3) := by decide +kernel
theorem dX6_ofShaft_161 : decode cX6_ofShaft 161 = .ok (.ireturn, 1) := by decide +kernel
theorem dX6_ofShaft_162 : decode cX6_ofShaft 162 = .ok (.aload_n 0, 1) := by decide +kernel
theorem dX6_ofShaft_163 : decode cX6_ofShaft 163 = .ok (.iload_n 1, 1) := by decide +kernel
theorem dX6_ofShaft_164 : decode cX6_ofShaft 164 = .ok (.invokevirtual 104, 3) := by decide +kernel
theorem dX6_ofShaft_167 : decode cX6_ofShaft 167 = .ok (.ireturn, 1) := by decide +kernel
theorem dX6_ofShaft_168 : decode cX6_ofShaft 168 = .ok (.iload_n 3, 1) := by decide +kernel
theorem dX6_ofShaft_169 : decode cX6_ofShaft 169 = .ok (.ireturn, 1) := by decide +kernel
theorem dX6_ofShaft_170 : decode cX6_ofShaft 170 = .ok (.iload 4, 2) := by decide +kernel
theorem dX6_ofShaft_172 : decode cX6_ofShaft 172 = .ok (.ireturn, 1) := by decide +kernel
theorem dX6_ofShaft_173 : decode cX6_ofShaft 173 = .ok (.aload_n 0, 1) := by decide +kernel
theorem dX6_ofShaft_174 : decode cX6_ofShaft 174 = .ok (.iload_n 1, 1) := by decide +kernel
theorem dX6_ofShaft_175 : decode cX6_ofShaft 175 = .ok (.invokevirtual 68, 3) := by decide +kernel
theorem dX6_ofShaft_178 : decode cX6_ofShaft 178 = .ok (.ireturn, 1) := by decide +kernel
theorem dX6_ofShaft_179 : decode cX6_ofShaft 179 = .ok (.iload 5, 2) := by decide +kernel
theorem dX6_ofShaft_181 : decode cX6_ofShaft 181 = .ok (.ireturn, 1) := by decide +kernel
set_option maxRecDepth 20000 in
theorem ggX6_of_X6_isShaft : GoodIn wsX6_of wsX6_isShaft := goodIn_r _ [5, 6, 7, 8, 4, 9, 38, 39, 40, 41, 42, 43, 44, 45, 46, 47, 48, 49, 50, 51, 52] (by decide +kernel) (by decide +kernel)
set_option maxRecDepth 20000 in
theorem gX6_of_X6_isShaft : GoodIn wsX6_of (wsV RX6 65 RX6 yX6_isShaft wsX6_isShaft) := goodIn_app (goodIn_of _ (by decide +kernel)) ggX6_of_X6_isShaft
set_option maxRecDepth 20000 in
theorem ggX6_of_X6_in : GoodIn wsX6_of wsX6_in := goodIn_r _ [9] (by decide +kernel) (by decide +kernel)
set_option maxRecDepth 20000 in
theorem gX6_of_X6_in : GoodIn wsX6_of (va_wsS RX6 53 yX6_in wsX6_in) := goodIn_app (goodIn_of _ (by decide +kernel)) ggX6_of_X6_in
set_option maxRecDepth 20000 in
theorem ggX6_of_X6_ofShaft : GoodIn wsX6_of wsX6_ofShaft := goodIn_r _ [13, 6, 14, 15, 16, 4, 17, 18, 19, 20, 21, 22, 23, 24, 25, 26, 27, 28, 29, 30, 31, 32, 38, 39, 40, 41, 42, 43, 44, 45, 46, 47, 48, 49, 50, 51, 52] (by decide +kernel) (by decide +kernel)
set_option maxRecDepth 20000 in
theorem gX6_of_X6_ofShaft : GoodIn wsX6_of (wsV RX6 107 RX6 yX6_ofShaft wsX6_ofShaft) := goodIn_app (goodIn_of _ (by decide +kernel)) ggX6_of_X6_ofShaft
set_option maxRecDepth 20000 in
theorem ggX6_of_X6_refuses : GoodIn wsX6_of wsX6_refuses := goodIn_r _ [36, 37, 38, 39, 40, 41, 42, 43, 44, 45, 46, 47, 48, 49, 50, 51, 52] (by decide +kernel) (by decide +kernel)
set_option maxRecDepth 20000 in
theorem gX6_of_X6_refuses : GoodIn wsX6_of (wsV RX6 46 RX6 yX6_refuses wsX6_refuses) := goodIn_app (goodIn_of _ (by decide +kernel)) ggX6_of_X6_refuses
theorem dX6_of_0 : decode cX6_of 0 = .ok (.aload_n 0, 1) := by decide +kernel
theorem dX6_of_1 : decode cX6_of 1 = .ok (.iload_n 1, 1) := by decide +kernel
theorem dX6_of_2 : decode cX6_of 2 = .ok (.invokevirtual 65, 3) := by decide +kernel
theorem dX6_of_5 : decode cX6_of 5 = .ok (.ifCond .eq 21, 3) := by decide +kernel
theorem dX6_of_8 : decode cX6_of 8 = .ok (.iload_n 2, 1) := by decide +kernel
theorem dX6_of_9 : decode cX6_of 9 = .ok (.iconst 0, 1) := by decide +kernel
theorem dX6_of_10 : decode cX6_of 10 = .ok (.iconst 5, 1) := by decide +kernel
theorem dX6_of_11 : decode cX6_of 11 = .ok (.invokestatic 53, 3) := by decide +kernel
theorem dX6_of_14 : decode cX6_of 14 = .ok (.ifCond .eq 12, 3) := by decide +kernel
theorem dX6_of_17 : decode cX6_of 17 = .ok (.aload_n 0, 1) := by decide +kernel
theorem dX6_of_18 : decode cX6_of 18 = .ok (.iload_n 1, 1) := by decide +kernel
theorem dX6_of_19 : decode cX6_of 19 = .ok (.iload_n 2, 1) := by decide +kernel
theorem dX6_of_20 : decode cX6_of 20 = .ok (.invokevirtual 107, 3) := by decide +kernel
theorem dX6_of_23 : decode cX6_of 23 = .ok (.goto 9, 3) := by decide +kernel
theorem dX6_of_26 : decode cX6_of 26 = .ok (.aload_n 0, 1) := by decide +kernel
theorem dX6_of_27 : decode cX6_of 27 = .ok (.bipush (-2), 2) := by decide +kernel
theorem dX6_of_29 : decode cX6_of 29 = .ok (.invokevirtual 46, 3) := by decide +kernel
theorem dX6_of_32 : decode cX6_of 32 = .ok (.ireturn, 1) := by decide +kernel
set_option maxRecDepth 20000 in
theorem ggX6_about_X6_isPipe : GoodIn wsX6_about wsX6_isPipe := goodIn_r _ [5, 6, 7, 8, 4, 9, 19, 20, 21, 22, 23, 24, 25, 26, 27, 28, 29, 30, 31, 32, 33] (by decide +kernel) (by decide +kernel)
set_option maxRecDepth 20000 in
theorem gX6_about_X6_isPipe : GoodIn wsX6_about (wsV RX6 71 RX6 yX6_isPipe wsX6_isPipe) := goodIn_app (goodIn_of _ (by decide +kernel)) ggX6_about_X6_isPipe
set_option maxRecDepth 20000 in
theorem ggX6_about_X6_in : GoodIn wsX6_about wsX6_in := goodIn_r _ [9] (by decide +kernel) (by decide +kernel)
set_option maxRecDepth 20000 in
theorem gX6_about_X6_in : GoodIn wsX6_about (va_wsS RX6 53 yX6_in wsX6_in) := goodIn_app (goodIn_of _ (by decide +kernel)) ggX6_about_X6_in
set_option maxRecDepth 20000 in
theorem ggX6_about_X6_pipeOf : GoodIn wsX6_about wsX6_pipeOf := goodIn_r _ [13, 6, 19, 20, 21, 22, 23, 24, 25, 26, 27, 28, 29, 30, 31, 32, 33] (by decide +kernel) (by decide +kernel)
set_option maxRecDepth 20000 in
theorem gX6_about_X6_pipeOf : GoodIn wsX6_about (wsV RX6 57 RX6 yX6_pipeOf wsX6_pipeOf) := goodIn_app (goodIn_of _ (by decide +kernel)) ggX6_about_X6_pipeOf
set_option maxRecDepth 20000 in
theorem ggX6_about_X6_refuses : GoodIn wsX6_about wsX6_refuses := goodIn_r _ [17, 18, 19, 20, 21, 22, 23, 24, 25, 26, 27, 28, 29, 30, 31, 32, 33] (by decide +kernel) (by decide +kernel)
set_option maxRecDepth 20000 in
theorem gX6_about_X6_refuses : GoodIn wsX6_about (wsV RX6 46 RX6 yX6_refuses wsX6_refuses) := goodIn_app (goodIn_of _ (by decide +kernel)) ggX6_about_X6_refuses
theorem dX6_about_0 : decode cX6_about 0 = .ok (.aload_n 0, 1) := by decide +kernel
theorem dX6_about_1 : decode cX6_about 1 = .ok (.iload_n 1, 1) := by decide +kernel
theorem dX6_about_2 : decode cX6_about 2 = .ok (.invokevirtual 71, 3) := by decide +kernel
theorem dX6_about_5 : decode cX6_about 5 = .ok (.ifCond .eq 21, 3) := by decide +kernel
theorem dX6_about_8 : decode cX6_about 8 = .ok (.iload_n 2, 1) := by decide +kernel
theorem dX6_about_9 : decode cX6_about 9 = .ok (.iconst 0, 1) := by decide +kernel
theorem dX6_about_10 : decode cX6_about 10 = .ok (.iconst 3, 1) := by decide +kernel
theorem dX6_about_11 : decode cX6_about 11 = .ok (.invokestatic 53, 3) := by decide +kernel
theorem dX6_about_14 : decode cX6_about 14 = .ok (.ifCond .eq 12, 3) := by decide +kernel
theorem dX6_about_17 : decode cX6_about 17 = .ok (.aload_n 0, 1) := by decide +kernel
theorem dX6_about_18 : decode cX6_about 18 = .ok (.iload_n 1, 1) := by decide +kernel
theorem dX6_about_19 : decode cX6_about 19 = .ok (.iload_n 2, 1) := by decide +kernel
theorem dX6_about_20 : decode cX6_about 20 = .ok (.invokevirtual 57, 3) := by decide +kernel
theorem dX6_about_23 : decode cX6_about 23 = .ok (.goto 9, 3) := by decide +kernel
theorem dX6_about_26 : decode cX6_about 26 = .ok (.aload_n 0, 1) := by decide +kernel
theorem dX6_about_27 : decode cX6_about 27 = .ok (.bipush (-2), 2) := by decide +kernel
theorem dX6_about_29 : decode cX6_about 29 = .ok (.invokevirtual 46, 3) := by decide +kernel
theorem dX6_about_32 : decode cX6_about 32 = .ok (.ireturn, 1) := by decide +kernel
set_option maxRecDepth 20000 in
theorem ggX6_pumped_X6_numberOf : GoodIn wsX6_pumped wsX6_numberOf := goodIn_r _ [5, 6, 7, 8, 9, 10, 11, 12, 13, 14, 15, 16, 17, 18, 19, 20, 21] (by decide +kernel) (by decide +kernel)
set_option maxRecDepth 20000 in
theorem gX6_pumped_X6_numberOf : GoodIn wsX6_pumped (wsV RX6 104 RX6 yX6_numberOf wsX6_numberOf) := goodIn_app (goodIn_of _ (by decide +kernel)) ggX6_pumped_X6_numberOf
theorem dX6_pumped_0 : decode cX6_pumped 0 = .ok (.iload_n 2, 1) := by decide +kernel
theorem dX6_pumped_1 : decode cX6_pumped 1 = .ok (.istore_n 3, 1) := by decide +kernel
theorem dX6_pumped_2 : decode cX6_pumped 2 = .ok (.iload_n 3, 1) := by decide +kernel
theorem dX6_pumped_3 : decode cX6_pumped 3 = .ok (.aload_n 0, 1) := by decide +kernel
theorem dX6_pumped_4 : decode cX6_pumped 4 = .ok (.iload_n 1, 1) := by decide +kernel
theorem dX6_pumped_5 : decode cX6_pumped 5 = .ok (.invokevirtual 104, 3) := by decide +kernel
theorem dX6_pumped_8 : decode cX6_pumped 8 = .ok (.irem, 1) := by decide +kernel
theorem dX6_pumped_9 : decode cX6_pumped 9 = .ok (.ifCond .eq 9, 3) := by decide +kernel
theorem dX6_pumped_12 : decode cX6_pumped 12 = .ok (.iinc 3 1, 3) := by decide +kernel
theorem dX6_pumped_15 : decode cX6_pumped 15 = .ok (.goto (-13), 3) := by decide +kernel
theorem dX6_pumped_18 : decode cX6_pumped 18 = .ok (.iload_n 3, 1) := by decide +kernel
theorem dX6_pumped_19 : decode cX6_pumped 19 = .ok (.ireturn, 1) := by decide +kernel
set_option maxRecDepth 20000 in
theorem ggX6_leavesAt_X6_kindOf : GoodIn wsX6_leavesAt wsX6_kindOf := goodIn_r _ [5, 6, 15, 16, 17, 18, 19, 20, 21, 22, 23, 24, 25, 26, 27, 28, 29] (by decide +kernel) (by decide +kernel)
set_option maxRecDepth 20000 in
theorem gX6_leavesAt_X6_kindOf : GoodIn wsX6_leavesAt (wsV RX6 101 RX6 yX6_kindOf wsX6_kindOf) := goodIn_app (goodIn_of _ (by decide +kernel)) ggX6_leavesAt_X6_kindOf
set_option maxRecDepth 20000 in
theorem ggX6_leavesAt_X6_pumped : GoodIn wsX6_leavesAt wsX6_pumped := goodIn_r _ [10, 11, 12, 13, 4, 14, 6, 15, 16, 17, 18, 19, 20, 21, 22, 23, 24, 25, 26, 27, 28, 29] (by decide +kernel) (by decide +kernel)
set_option maxRecDepth 20000 in
theorem gX6_leavesAt_X6_pumped : GoodIn wsX6_leavesAt (wsV RX6 110 RX6 yX6_pumped wsX6_pumped) := goodIn_app (goodIn_of _ (by decide +kernel)) ggX6_leavesAt_X6_pumped
set_option maxRecDepth 20000 in
theorem ggX6_leavesAt_X6_numberOf : GoodIn wsX6_leavesAt wsX6_numberOf := goodIn_r _ [14, 6, 15, 16, 17, 18, 19, 20, 21, 22, 23, 24, 25, 26, 27, 28, 29] (by decide +kernel) (by decide +kernel)
set_option maxRecDepth 20000 in
theorem gX6_leavesAt_X6_numberOf : GoodIn wsX6_leavesAt (wsV RX6 104 RX6 yX6_numberOf wsX6_numberOf) := goodIn_app (goodIn_of _ (by decide +kernel)) ggX6_leavesAt_X6_numberOf
theorem dX6_leavesAt_0 : decode cX6_leavesAt 0 = .ok (.iload_n 2, 1) := by decide +kernel
theorem dX6_leavesAt_1 : decode cX6_leavesAt 1 = .ok (.istore_n 3, 1) := by decide +kernel
theorem dX6_leavesAt_2 : decode cX6_leavesAt 2 = .ok (.aload_n 0, 1) := by decide +kernel
theorem dX6_leavesAt_3 : decode cX6_leavesAt 3 = .ok (.iload_n 1, 1) := by decide +kernel
theorem dX6_leavesAt_4 : decode cX6_leavesAt 4 = .ok (.invokevirtual 101, 3) := by decide +kernel
theorem dX6_leavesAt_7 : decode cX6_leavesAt 7 = .ok (.tableswitch 90 1 4 #[29, 39, 50, 69], 29) := by decide +kernel
theorem dX6_leavesAt_36 : decode cX6_leavesAt 36 = .ok (.aload_n 0, 1) := by decide +kernel
theorem dX6_leavesAt_37 : decode cX6_leavesAt 37 = .ok (.iload_n 1, 1) := by decide +kernel
theorem dX6_leavesAt_38 : decode cX6_leavesAt 38 = .ok (.iload_n 2, 1) := by decide +kernel
theorem dX6_leavesAt_39 : decode cX6_leavesAt 39 = .ok (.invokevirtual 110, 3) := by decide +kernel
theorem dX6_leavesAt_42 : decode cX6_leavesAt 42 = .ok (.istore_n 3, 1) := by decide +kernel
theorem dX6_leavesAt_43 : decode cX6_leavesAt 43 = .ok (.goto 54, 3) := by decide +kernel
theorem dX6_leavesAt_46 : decode cX6_leavesAt 46 = .ok (.iload_n 2, 1) := by decide +kernel
theorem dX6_leavesAt_47 : decode cX6_leavesAt 47 = .ok (.aload_n 0, 1) := by decide +kernel
theorem dX6_leavesAt_48 : decode cX6_leavesAt 48 = .ok (.iload_n 1, 1) := by decide +kernel
theorem dX6_leavesAt_49 : decode cX6_leavesAt 49 = .ok (.invokevirtual 104, 3) := by decide +kernel
theorem dX6_leavesAt_52 : decode cX6_leavesAt 52 = .ok (.iadd, 1) := by decide +kernel
theorem dX6_leavesAt_53 : decode cX6_leavesAt 53 = .ok (.istore_n 3, 1) := by decide +kernel
theorem dX6_leavesAt_54 : decode cX6_leavesAt 54 = .ok (.goto 43, 3) := by decide +kernel
theorem dX6_leavesAt_57 : decode cX6_leavesAt 57 = .ok (.iload_n 2, 1) := by decide +kernel
theorem dX6_leavesAt_58 : decode cX6_leavesAt 58 = .ok (.aload_n 0, 1) := by decide +kernel
theorem dX6_leavesAt_59 : decode cX6_leavesAt 59 = .ok (.iload_n 1, 1) := by decide +kernel
theorem dX6_leavesAt_60 : decode cX6_leavesAt 60 = .ok (.invokevirtual 104, 3) := by decide +kernel
theorem dX6_leavesAt_63 : decode cX6_leavesAt 63 = .ok (.if_icmp .ge 8, 3) := by decide +kernel
theorem dX6_leavesAt_66 : decode cX6_leavesAt 66 = .ok (.bipush 63, 2) := by decide +kernel
theorem dX6_leavesAt_68 : decode cX6_leavesAt 68 = .ok (.goto 4, 3) := by decide +kernel
theorem dX6_leavesAt_71 : decode cX6_leavesAt 71 = .ok (.iload_n 2, 1) := by decide +kernel
theorem dX6_leavesAt_72 : decode cX6_leavesAt 72 = .ok (.istore_n 3, 1) := by decide +kernel
theorem dX6_leavesAt_73 : decode cX6_leavesAt 73 = .ok (.goto 24, 3) := by decide +kernel
theorem dX6_leavesAt_76 : decode cX6_leavesAt 76 = .ok (.aload_n 0, 1) := by decide +kernel
theorem dX6_leavesAt_77 : decode cX6_leavesAt 77 = .ok (.iload_n 1, 1) := by decide +kernel
theorem dX6_leavesAt_78 : decode cX6_leavesAt 78 = .ok (.iload_n 2, 1) := by decide +kernel
theorem dX6_leavesAt_79 : decode cX6_leavesAt 79 = .ok (.invokevirtual 110, 3) := by decide +kernel
theorem dX6_leavesAt_82 : decode cX6_leavesAt 82 = .ok (.aload_n 0, 1) := by decide +kernel
theorem dX6_leavesAt_83 : decode cX6_leavesAt 83 = .ok (.iload_n 1, 1) := by decide +kernel
theorem dX6_leavesAt_84 : decode cX6_leavesAt 84 = .ok (.invokevirtual 104, 3) := by decide +kernel
theorem dX6_leavesAt_87 : decode cX6_leavesAt 87 = .ok (.bipush 10, 2) := by decide +kernel
theorem dX6_leavesAt_89 : decode cX6_leavesAt 89 = .ok (.idiv, 1) := by decide +kernel
theorem dX6_leavesAt_90 : decode cX6_leavesAt 90 = .ok (.iadd, 1) := by decide +kernel
theorem dX6_leavesAt_91 : decode cX6_leavesAt 91 = .ok (.iconst 1, 1) := by decide +kernel
theorem dX6_leavesAt_92 : decode cX6_leavesAt 92 = .ok (.iadd, 1) := by decide +kernel
theorem dX6_leavesAt_93 : decode cX6_leavesAt 93 = .ok (.istore_n 3, 1) := by decide +kernel
theorem dX6_leavesAt_94 : decode cX6_leavesAt 94 = .ok (.goto 3, 3) := by decide +kernel
theorem dX6_leavesAt_97 : decode cX6_leavesAt 97 = .ok (.iload_n 3, 1) := by decide +kernel
theorem dX6_leavesAt_98 : decode cX6_leavesAt 98 = .ok (.bipush 62, 2) := by decide +kernel
theorem dX6_leavesAt_100 : decode cX6_leavesAt 100 = .ok (.if_icmp .le 7, 3) := by decide +kernel
theorem dX6_leavesAt_103 : decode cX6_leavesAt 103 = .ok (.iconst (-1), 1) := by decide +kernel
theorem dX6_leavesAt_104 : decode cX6_leavesAt 104 = .ok (.goto 4, 3) := by decide +kernel
theorem dX6_leavesAt_107 : decode cX6_leavesAt 107 = .ok (.iload_n 3, 1) := by decide +kernel
theorem dX6_leavesAt_108 : decode cX6_leavesAt 108 = .ok (.ireturn, 1) := by decide +kernel
theorem dX6_hasMinute_0 : decode cX6_hasMinute 0 = .ok (.lload_n 0, 1) := by decide +kernel
theorem dX6_hasMinute_1 : decode cX6_hasMinute 1 = .ok (.iload_n 2, 1) := by decide +kernel
theorem dX6_hasMinute_2 : decode cX6_hasMinute 2 = .ok (.lshr, 1) := by decide +kernel
theorem dX6_hasMinute_3 : decode cX6_hasMinute 3 = .ok (.lconst 1, 1) := by decide +kernel
theorem dX6_hasMinute_4 : decode cX6_hasMinute 4 = .ok (.land, 1) := by decide +kernel
theorem dX6_hasMinute_5 : decode cX6_hasMinute 5 = .ok (.lconst 1, 1) := by decide +kernel
theorem dX6_hasMinute_6 : decode cX6_hasMinute 6 = .ok (.lcmp, 1) := by decide +kernel
theorem dX6_hasMinute_7 : decode cX6_hasMinute 7 = .ok (.ifCond .ne 7, 3) := by decide +kernel
theorem dX6_hasMinute_10 : decode cX6_hasMinute 10 = .ok (.iconst 1, 1) := by decide +kernel
theorem dX6_hasMinute_11 : decode cX6_hasMinute 11 = .ok (.goto 4, 3) := by decide +kernel
theorem dX6_hasMinute_14 : decode cX6_hasMinute 14 = .ok (.iconst 0, 1) := by decide +kernel
theorem dX6_hasMinute_15 : decode cX6_hasMinute 15 = .ok (.ireturn, 1) := by decide +kernel
set_option maxRecDepth 20000 in
theorem ggX6_carries_X6_pipeOf : GoodIn wsX6_carries wsX6_pipeOf := goodIn_r _ [6, 7, 27, 28, 29, 30, 31, 32, 33, 34, 35, 36, 37, 38, 39, 40, 41] (by decide +kernel) (by decide +kernel)
set_option maxRecDepth 20000 in
theorem gX6_carries_X6_pipeOf : GoodIn wsX6_carries (wsV RX6 57 RX6 yX6_pipeOf wsX6_pipeOf) := goodIn_app (goodIn_of _ (by decide +kernel)) ggX6_carries_X6_pipeOf
set_option maxRecDepth 20000 in
theorem ggX6_carries_X6_hasMinute : GoodIn wsX6_carries wsX6_hasMinute := goodIn_r _ [10] (by decide +kernel) (by decide +kernel)
set_option maxRecDepth 20000 in
theorem gX6_carries_X6_hasMinute : GoodIn wsX6_carries (va_wsS RX6 113 yX6_hasMinute wsX6_hasMinute) := goodIn_app (goodIn_of _ (by decide +kernel)) ggX6_carries_X6_hasMinute
set_option maxRecDepth 20000 in
theorem ggX6_carries_X6_leavesAt : GoodIn wsX6_carries wsX6_leavesAt := goodIn_r _ [14, 15, 16, 17, 5, 18, 7, 19, 20, 21, 22, 23, 24, 25, 26, 27, 28, 29, 30, 31, 32, 33, 34, 35, 36, 37, 38, 39, 40, 41] (by decide +kernel) (by decide +kernel)
set_option maxRecDepth 20000 in
theorem gX6_carries_X6_leavesAt : GoodIn wsX6_carries (wsV RX6 117 RX6 yX6_leavesAt wsX6_leavesAt) := goodIn_app (goodIn_of _ (by decide +kernel)) ggX6_carries_X6_leavesAt
theorem dX6_carries_0 : decode cX6_carries 0 = .ok (.aload_n 0, 1) := by decide +kernel
theorem dX6_carries_1 : decode cX6_carries 1 = .ok (.iload_n 1, 1) := by decide +kernel
theorem dX6_carries_2 : decode cX6_carries 2 = .ok (.iconst 0, 1) := by decide +kernel
theorem dX6_carries_3 : decode cX6_carries 3 = .ok (.invokevirtual 57, 3) := by decide +kernel
theorem dX6_carries_6 : decode cX6_carries 6 = .ok (.istore_n 2, 1) := by decide +kernel
theorem dX6_carries_7 : decode cX6_carries 7 = .ok (.aload_n 0, 1) := by decide +kernel
theorem dX6_carries_8 : decode cX6_carries 8 = .ok (.iload_n 1, 1) := by decide +kernel
theorem dX6_carries_9 : decode cX6_carries 9 = .ok (.iconst 1, 1) := by decide +kernel
theorem dX6_carries_10 : decode cX6_carries 10 = .ok (.invokevirtual 57, 3) := by decide +kernel
theorem dX6_carries_13 : decode cX6_carries 13 = .ok (.istore_n 3, 1) := by decide +kernel
theorem dX6_carries_14 : decode cX6_carries 14 = .ok (.aload_n 0, 1) := by decide +kernel
theorem dX6_carries_15 : decode cX6_carries 15 = .ok (.getfield 22, 3) := by decide +kernel
theorem dX6_carries_18 : decode cX6_carries 18 = .ok (.iload_n 3, 1) := by decide +kernel
theorem dX6_carries_19 : decode cX6_carries 19 = .ok (.laload, 1) := by decide +kernel
theorem dX6_carries_20 : decode cX6_carries 20 = .ok (.lstore 4, 2) := by decide +kernel
theorem dX6_carries_22 : decode cX6_carries 22 = .ok (.aload_n 0, 1) := by decide +kernel
theorem dX6_carries_23 : decode cX6_carries 23 = .ok (.getfield 22, 3) := by decide +kernel
theorem dX6_carries_26 : decode cX6_carries 26 = .ok (.iload_n 2, 1) := by decide +kernel
theorem dX6_carries_27 : decode cX6_carries 27 = .ok (.laload, 1) := by decide +kernel
theorem dX6_carries_28 : decode cX6_carries 28 = .ok (.lconst 0, 1) := by decide +kernel
theorem dX6_carries_29 : decode cX6_carries 29 = .ok (.lcmp, 1) := by decide +kernel
theorem dX6_carries_30 : decode cX6_carries 30 = .ok (.ifCond .ne 5, 3) := by decide +kernel
theorem dX6_carries_33 : decode cX6_carries 33 = .ok (.iconst 0, 1) := by decide +kernel
theorem dX6_carries_34 : decode cX6_carries 34 = .ok (.ireturn, 1) := by decide +kernel
theorem dX6_carries_35 : decode cX6_carries 35 = .ok (.iconst 0, 1) := by decide +kernel
theorem dX6_carries_36 : decode cX6_carries 36 = .ok (.istore 6, 2) := by decide +kernel
theorem dX6_carries_38 : decode cX6_carries 38 = .ok (.iload 6, 2) := by decide +kernel
theorem dX6_carries_40 : decode cX6_carries 40 = .ok (.bipush 62, 2) := by decide +kernel
theorem dX6_carries_42 : decode cX6_carries 42 = .ok (.if_icmp .gt 93, 3) := by decide +kernel
theorem dX6_carries_45 : decode cX6_carries 45 = .ok (.aload_n 0, 1) := by decide +kernel
theorem dX6_carries_46 : decode cX6_carries 46 = .ok (.getfield 22, 3) := by decide +kernel
theorem dX6_carries_49 : decode cX6_carries 49 = .ok (.iload_n 2, 1) := by decide +kernel
theorem dX6_carries_50 : decode cX6_carries 50 = .ok (.laload, 1) := by decide +kernel
theorem dX6_carries_51 : decode cX6_carries 51 = .ok (.iload 6, 2) := by decide +kernel
theorem dX6_carries_53 : decode cX6_carries 53 = .ok (.invokestatic 113, 3) := by decide +kernel
theorem dX6_carries_56 : decode cX6_carries 56 = .ok (.ifCond .eq 13, 3) := by decide +kernel
theorem dX6_carries_59 : decode cX6_carries 59 = .ok (.aload_n 0, 1) := by decide +kernel
theorem dX6_carries_60 : decode cX6_carries 60 = .ok (.iload_n 2, 1) := by decide +kernel
theorem dX6_carries_61 : decode cX6_carries 61 = .ok (.iload 6, 2) := by decide +kernel
theorem dX6_carries_63 : decode cX6_carries 63 = .ok (.invokevirtual 117, 3) := by decide +kernel
theorem dX6_carries_66 : decode cX6_carries 66 = .ok (.goto 4, 3) := by decide +kernel
theorem dX6_carries_69 : decode cX6_carries 69 = .ok (.iconst (-1), 1) := by decide +kernel
theorem dX6_carries_70 : decode cX6_carries 70 = .ok (.istore 7, 2) := by decide +kernel
theorem dX6_carries_72 : decode cX6_carries 72 = .ok (.aload_n 0, 1) := by decide +kernel
theorem dX6_carries_73 : decode cX6_carries 73 = .ok (.iload_n 1, 1) := by decide +kernel
theorem dX6_carries_74 : decode cX6_carries 74 = .ok (.iconst 2, 1) := by decide +kernel
theorem dX6_carries_75 : decode cX6_carries 75 = .ok (.invokevirtual 57, 3) := by decide +kernel
theorem dX6_carries_78 : decode cX6_carries 78 = .ok (.istore 8, 2) := by decide +kernel
theorem dX6_carries_80 : decode cX6_carries 80 = .ok (.iload 8, 2) := by decide +kernel
theorem dX6_carries_82 : decode cX6_carries 82 = .ok (.aload_n 0, 1) := by decide +kernel
theorem dX6_carries_83 : decode cX6_carries 83 = .ok (.iload_n 1, 1) := by decide +kernel
theorem dX6_carries_84 : decode cX6_carries 84 = .ok (.iconst 3, 1) := by decide +kernel
theorem dX6_carries_85 : decode cX6_carries 85 = .ok (.invokevirtual 57, 3) := by decide +kernel
theorem dX6_carries_88 : decode cX6_carries 88 = .ok (.if_icmp .gt 41, 3) := by decide +kernel
theorem dX6_carries_91 : decode cX6_carries 91 = .ok (.iload 7, 2) := by decide +kernel
theorem dX6_carries_93 : decode cX6_carries 93 = .ok (.iconst (-1), 1) := by decide +kernel
theorem dX6_carries_94 : decode cX6_carries 94 = .ok (.if_icmp .eq 35, 3) := by decide +kernel
theorem dX6_carries_97 : decode cX6_carries 97 = .ok (.iload 7, 2) := by decide +kernel
theorem dX6_carries_99 : decode cX6_carries 99 = .ok (.iload 8, 2) := by decide +kernel
theorem dX6_carries_101 : decode cX6_carries 101 = .ok (.iadd, 1) := by decide +kernel
theorem dX6_carries_102 : decode cX6_carries 102 = .ok (.bipush 62, 2) := by decide +kernel
theorem dX6_carries_104 : decode cX6_carries 104 = .ok (.if_icmp .gt 25, 3) := by decide +kernel
theorem dX6_carries_107 : decode cX6_carries 107 = .ok (.aload_n 0, 1) := by decide +kernel
theorem dX6_carries_108 : decode cX6_carries 108 = .ok (.getfield 22, 3) := by decide +kernel
theorem dX6_carries_111 : decode cX6_carries 111 = .ok (.iload_n 3, 1) := by decide +kernel
theorem dX6_carries_112 : decode cX6_carries 112 = .ok (.dup2, 1) := by decide +kernel
theorem dX6_carries_113 : decode cX6_carries 113 = .ok (.laload, 1) := by decide +kernel
theorem dX6_carries_114 : decode cX6_carries 114 = .ok (.lconst 1, 1) := by decide +kernel
theorem dX6_carries_115 : decode cX6_carries 115 = .ok (.iload 7, 2) := by decide +kernel
theorem dX6_carries_117 : decode cX6_carries 117 = .ok (.iload 8, 2) := by decide +kernel
theorem dX6_carries_119 : decode cX6_carries 119 = .ok (.iadd, 1) := by decide +kernel
theorem dX6_carries_120 : decode cX6_carries 120 = .ok (.lshl, 1) := by decide +kernel
theorem dX6_carries_121 : decode cX6_carries 121 = .ok (.lor, 1) := by decide +kernel
theorem dX6_carries_122 : decode cX6_carries 122 = .ok (.lastore, 1) := by decide +kernel
theorem dX6_carries_123 : decode cX6_carries 123 = .ok (.iinc 8 1, 3) := by decide +kernel
theorem dX6_carries_126 : decode cX6_carries 126 = .ok (.goto (-46), 3) := by decide +kernel
theorem dX6_carries_129 : decode cX6_carries 129 = .ok (.iinc 6 1, 3) := by decide +kernel
theorem dX6_carries_132 : decode cX6_carries 132 = .ok (.goto (-94), 3) := by decide +kernel
theorem dX6_carries_135 : decode cX6_carries 135 = .ok (.aload_n 0, 1) := by decide +kernel
theorem dX6_carries_136 : decode cX6_carries 136 = .ok (.getfield 22, 3) := by decide +kernel
theorem dX6_carries_139 : decode cX6_carries 139 = .ok (.iload_n 3, 1) := by decide +kernel
theorem dX6_carries_140 : decode cX6_carries 140 = .ok (.laload, 1) := by decide +kernel
theorem dX6_carries_141 : decode cX6_carries 141 = .ok (.lload 4, 2) := by decide +kernel
theorem dX6_carries_143 : decode cX6_carries 143 = .ok (.lcmp, 1) := by decide +kernel
theorem dX6_carries_144 : decode cX6_carries 144 = .ok (.ifCond .eq 7, 3) := by decide +kernel
theorem dX6_carries_147 : decode cX6_carries 147 = .ok (.iconst 1, 1) := by decide +kernel
theorem dX6_carries_148 : decode cX6_carries 148 = .ok (.goto 4, 3) := by decide +kernel
theorem dX6_carries_151 : decode cX6_carries 151 = .ok (.iconst 0, 1) := by decide +kernel
theorem dX6_carries_152 : decode cX6_carries 152 = .ok (.ireturn, 1) := by decide +kernel
set_option maxRecDepth 20000 in
theorem ggX6_start_X6_carries : GoodIn wsX6_start wsX6_carries := goodIn_r _ [7, 1, 8, 9, 10, 6, 11, 2, 12, 13, 14, 15, 16, 17, 18, 19, 20, 21, 22, 23, 24, 25, 26, 27, 28, 29, 30, 31, 32, 33, 34, 35, 36, 37, 38, 39, 40, 41, 42, 43, 44, 45] (by decide +kernel) (by decide +kernel)
set_option maxRecDepth 20000 in
theorem gX6_start_X6_carries : GoodIn wsX6_start (wsV RX6 120 RX6 yX6_carries wsX6_carries) := goodIn_app (goodIn_of _ (by decide +kernel)) ggX6_start_X6_carries
theorem dX6_start_0 : decode cX6_start 0 = .ok (.iconst 0, 1) := by decide +kernel
theorem dX6_start_1 : decode cX6_start 1 = .ok (.istore_n 3, 1) := by decide +kernel
theorem dX6_start_2 : decode cX6_start 2 = .ok (.iload_n 3, 1) := by decide +kernel
theorem dX6_start_3 : decode cX6_start 3 = .ok (.bipush 10, 2) := by decide +kernel
theorem dX6_start_5 : decode cX6_start 5 = .ok (.if_icmp .ge 27, 3) := by decide +kernel
theorem dX6_start_8 : decode cX6_start 8 = .ok (.aload_n 0, 1) := by decide +kernel
theorem dX6_start_9 : decode cX6_start 9 = .ok (.getfield 22, 3) := by decide +kernel
theorem dX6_start_12 : decode cX6_start 12 = .ok (.iload_n 3, 1) := by decide +kernel
theorem dX6_start_13 : decode cX6_start 13 = .ok (.iload_n 3, 1) := by decide +kernel
theorem dX6_start_14 : decode cX6_start 14 = .ok (.iload_n 1, 1) := by decide +kernel
theorem dX6_start_15 : decode cX6_start 15 = .ok (.if_icmp .ne 9, 3) := by decide +kernel
theorem dX6_start_18 : decode cX6_start 18 = .ok (.lconst 1, 1) := by decide +kernel
theorem dX6_start_19 : decode cX6_start 19 = .ok (.iload_n 2, 1) := by decide +kernel
theorem dX6_start_20 : decode cX6_start 20 = .ok (.lshl, 1) := by decide +kernel
theorem dX6_start_21 : decode cX6_start 21 = .ok (.goto 4, 3) := by decide +kernel
theorem dX6_start_24 : decode cX6_start 24 = .ok (.lconst 0, 1) := by decide +kernel
theorem dX6_start_25 : decode cX6_start 25 = .ok (.lastore, 1) := by decide +kernel
theorem dX6_start_26 : decode cX6_start 26 = .ok (.iinc 3 1, 3) := by decide +kernel
theorem dX6_start_29 : decode cX6_start 29 = .ok (.goto (-27), 3) := by decide +kernel
theorem dX6_start_32 : decode cX6_start 32 = .ok (.iconst 1, 1) := by decide +kernel
theorem dX6_start_33 : decode cX6_start 33 = .ok (.istore_n 3, 1) := by decide +kernel
theorem dX6_start_34 : decode cX6_start 34 = .ok (.iload_n 3, 1) := by decide +kernel
theorem dX6_start_35 : decode cX6_start 35 = .ok (.ifCond .eq 47, 3) := by decide +kernel
theorem dX6_start_38 : decode cX6_start 38 = .ok (.iconst 0, 1) := by decide +kernel
theorem dX6_start_39 : decode cX6_start 39 = .ok (.istore_n 3, 1) := by decide +kernel
theorem dX6_start_40 : decode cX6_start 40 = .ok (.iconst 0, 1) := by decide +kernel
theorem dX6_start_41 : decode cX6_start 41 = .ok (.istore 4, 2) := by decide +kernel
theorem dX6_start_43 : decode cX6_start 43 = .ok (.iload 4, 2) := by decide +kernel
theorem dX6_start_45 : decode cX6_start 45 = .ok (.aload_n 0, 1) := by decide +kernel
theorem dX6_start_46 : decode cX6_start 46 = .ok (.getfield 7, 3) := by decide +kernel
theorem dX6_start_49 : decode cX6_start 49 = .ok (.iconst 1, 1) := by decide +kernel
theorem dX6_start_50 : decode cX6_start 50 = .ok (.iaload, 1) := by decide +kernel
theorem dX6_start_51 : decode cX6_start 51 = .ok (.if_icmp .ge 28, 3) := by decide +kernel
theorem dX6_start_54 : decode cX6_start 54 = .ok (.aload_n 0, 1) := by decide +kernel
theorem dX6_start_55 : decode cX6_start 55 = .ok (.iload 4, 2) := by decide +kernel
theorem dX6_start_57 : decode cX6_start 57 = .ok (.invokevirtual 120, 3) := by decide +kernel
theorem dX6_start_60 : decode cX6_start 60 = .ok (.ifCond .ne 7, 3) := by decide +kernel
theorem dX6_start_63 : decode cX6_start 63 = .ok (.iload_n 3, 1) := by decide +kernel
theorem dX6_start_64 : decode cX6_start 64 = .ok (.ifCond .eq 7, 3) := by decide +kernel
theorem dX6_start_67 : decode cX6_start 67 = .ok (.iconst 1, 1) := by decide +kernel
theorem dX6_start_68 : decode cX6_start 68 = .ok (.goto 4, 3) := by decide +kernel
theorem dX6_start_71 : decode cX6_start 71 = .ok (.iconst 0, 1) := by decide +kernel
theorem dX6_start_72 : decode cX6_start 72 = .ok (.istore_n 3, 1) := by decide +kernel
theorem dX6_start_73 : decode cX6_start 73 = .ok (.iinc 4 1, 3) := by decide +kernel
theorem dX6_start_76 : decode cX6_start 76 = .ok (.goto (-33), 3) := by decide +kernel
theorem dX6_start_79 : decode cX6_start 79 = .ok (.goto (-45), 3) := by decide +kernel
theorem dX6_start_82 : decode cX6_start 82 = .ok (.return_, 1) := by decide +kernel
set_option maxRecDepth 20000 in
theorem ggX6_isStart_X6_isShaft : GoodIn wsX6_isStart wsX6_isShaft := goodIn_r _ [5, 6, 7, 8, 4, 9, 10, 11, 12, 13, 14, 15, 16, 17, 18, 19, 20, 21, 22, 23, 24] (by decide +kernel) (by decide +kernel)
set_option maxRecDepth 20000 in
theorem gX6_isStart_X6_isShaft : GoodIn wsX6_isStart (wsV RX6 65 RX6 yX6_isShaft wsX6_isShaft) := goodIn_app (goodIn_of _ (by decide +kernel)) ggX6_isStart_X6_isShaft
set_option maxRecDepth 20000 in
theorem ggX6_isStart_X6_in : GoodIn wsX6_isStart wsX6_in := goodIn_r _ [9] (by decide +kernel) (by decide +kernel)
set_option maxRecDepth 20000 in
theorem gX6_isStart_X6_in : GoodIn wsX6_isStart (va_wsS RX6 53 yX6_in wsX6_in) := goodIn_app (goodIn_of _ (by decide +kernel)) ggX6_isStart_X6_in
theorem dX6_isStart_0 : decode cX6_isStart 0 = .ok (.aload_n 0, 1) := by decide +kernel
theorem dX6_isStart_1 : decode cX6_isStart 1 = .ok (.iload_n 1, 1) := by decide +kernel
theorem dX6_isStart_2 : decode cX6_isStart 2 = .ok (.invokevirtual 65, 3) := by decide +kernel
theorem dX6_isStart_5 : decode cX6_isStart 5 = .ok (.ifCond .eq 17, 3) := by decide +kernel
theorem dX6_isStart_8 : decode cX6_isStart 8 = .ok (.iload_n 2, 1) := by decide +kernel
theorem dX6_isStart_9 : decode cX6_isStart 9 = .ok (.iconst 0, 1) := by decide +kernel
theorem dX6_isStart_10 : decode cX6_isStart 10 = .ok (.bipush 30, 2) := by decide +kernel
theorem dX6_isStart_12 : decode cX6_isStart 12 = .ok (.invokestatic 53, 3) := by decide +kernel
theorem dX6_isStart_15 : decode cX6_isStart 15 = .ok (.ifCond .eq 7, 3) := by decide +kernel
theorem dX6_isStart_18 : decode cX6_isStart 18 = .ok (.iconst 1, 1) := by decide +kernel
theorem dX6_isStart_19 : decode cX6_isStart 19 = .ok (.goto 4, 3) := by decide +kernel
theorem dX6_isStart_22 : decode cX6_isStart 22 = .ok (.iconst 0, 1) := by decide +kernel
theorem dX6_isStart_23 : decode cX6_isStart 23 = .ok (.ireturn, 1) := by decide +kernel
set_option maxRecDepth 20000 in
theorem ggX6_comesOf_X6_start : GoodIn wsX6_comesOf wsX6_start := goodIn_r _ [6, 1, 7, 8, 9, 10, 5, 11, 12, 13, 14, 15, 16, 17, 18, 19, 20, 21, 22, 23, 24, 25, 26, 27, 28, 29, 30, 31, 32, 33, 34, 35, 36, 37, 38, 39, 40, 41, 42, 43, 44, 45, 46, 47, 48, 49] (by decide +kernel) (by decide +kernel)
set_option maxRecDepth 20000 in
theorem gX6_comesOf_X6_start : GoodIn wsX6_comesOf (wsV RX6 123 RX6 yX6_start wsX6_start) := goodIn_app (goodIn_of _ (by decide +kernel)) ggX6_comesOf_X6_start
theorem dX6_comesOf_0 : decode cX6_comesOf 0 = .ok (.aload_n 0, 1) := by decide +kernel
theorem dX6_comesOf_1 : decode cX6_comesOf 1 = .ok (.iload_n 1, 1) := by decide +kernel
theorem dX6_comesOf_2 : decode cX6_comesOf 2 = .ok (.iload_n 2, 1) := by decide +kernel
theorem dX6_comesOf_3 : decode cX6_comesOf 3 = .ok (.invokevirtual 123, 3) := by decide +kernel
theorem dX6_comesOf_6 : decode cX6_comesOf 6 = .ok (.aload_n 0, 1) := by decide +kernel
theorem dX6_comesOf_7 : decode cX6_comesOf 7 = .ok (.getfield 22, 3) := by decide +kernel
theorem dX6_comesOf_10 : decode cX6_comesOf 10 = .ok (.iload_n 3, 1) := by decide +kernel
theorem dX6_comesOf_11 : decode cX6_comesOf 11 = .ok (.laload, 1) := by decide +kernel
theorem dX6_comesOf_12 : decode cX6_comesOf 12 = .ok (.lreturn, 1) := by decide +kernel
set_option maxRecDepth 20000 in
theorem ggX6_comes_X6_isStart : GoodIn wsX6_comes wsX6_isStart := goodIn_r _ [5, 6, 7, 8, 4, 9, 10, 11, 12, 13, 55, 56, 57, 58, 59, 60, 61, 62, 63, 64, 65, 66, 67, 68, 69] (by decide +kernel) (by decide +kernel)
set_option maxRecDepth 20000 in
theorem gX6_comes_X6_isStart : GoodIn wsX6_comes (wsV RX6 127 RX6 yX6_isStart wsX6_isStart) := goodIn_app (goodIn_of _ (by decide +kernel)) ggX6_comes_X6_isStart
set_option maxRecDepth 20000 in
theorem ggX6_comes_X6_isShaft : GoodIn wsX6_comes wsX6_isShaft := goodIn_r _ [9, 10, 11, 12, 4, 13, 55, 56, 57, 58, 59, 60, 61, 62, 63, 64, 65, 66, 67, 68, 69] (by decide +kernel) (by decide +kernel)
set_option maxRecDepth 20000 in
theorem gX6_comes_X6_isShaft : GoodIn wsX6_comes (wsV RX6 65 RX6 yX6_isShaft wsX6_isShaft) := goodIn_app (goodIn_of _ (by decide +kernel)) ggX6_comes_X6_isShaft
set_option maxRecDepth 20000 in
theorem ggX6_comes_X6_comesOf : GoodIn wsX6_comes wsX6_comesOf := goodIn_r _ [17, 18, 19, 20, 21, 4, 22, 10, 23, 24, 25, 26, 27, 28, 29, 30, 31, 32, 33, 34, 35, 36, 37, 38, 39, 40, 41, 42, 43, 44, 45, 46, 47, 48, 49, 55, 56, 57, 58, 59, 60, 61, 62, 63, 64, 65, 66, 67, 68, 69] (by decide +kernel) (by decide +kernel)
set_option maxRecDepth 20000 in
theorem gX6_comes_X6_comesOf : GoodIn wsX6_comes (wsV RX6 130 RX6 yX6_comesOf wsX6_comesOf) := goodIn_app (goodIn_of _ (by decide +kernel)) ggX6_comes_X6_comesOf
set_option maxRecDepth 20000 in
theorem ggX6_comes_X6_refuses : GoodIn wsX6_comes wsX6_refuses := goodIn_r _ [53, 54, 55, 56, 57, 58, 59, 60, 61, 62, 63, 64, 65, 66, 67, 68, 69] (by decide +kernel) (by decide +kernel)
set_option maxRecDepth 20000 in
theorem gX6_comes_X6_refuses : GoodIn wsX6_comes (wsV RX6 46 RX6 yX6_refuses wsX6_refuses) := goodIn_app (goodIn_of _ (by decide +kernel)) ggX6_comes_X6_refuses
theorem dX6_comes_0 : decode cX6_comes 0 = .ok (.aload_n 0, 1) := by decide +kernel
theorem dX6_comes_1 : decode cX6_comes 1 = .ok (.iload_n 1, 1) := by decide +kernel
theorem dX6_comes_2 : decode cX6_comes 2 = .ok (.iload_n 2, 1) := by decide +kernel
theorem dX6_comes_3 : decode cX6_comes 3 = .ok (.invokevirtual 127, 3) := by decide +kernel
theorem dX6_comes_6 : decode cX6_comes 6 = .ok (.ifCond .eq 21, 3) := by decide +kernel
theorem dX6_comes_9 : decode cX6_comes 9 = .ok (.aload_n 0, 1) := by decide +kernel
theorem dX6_comes_10 : decode cX6_comes 10 = .ok (.iload_n 3, 1) := by decide +kernel
theorem dX6_comes_11 : decode cX6_comes 11 = .ok (.invokevirtual 65, 3) := by decide +kernel
theorem dX6_comes_14 : decode cX6_comes 14 = .ok (.ifCond .eq 13, 3) := by decide +kernel
theorem dX6_comes_17 : decode cX6_comes 17 = .ok (.aload_n 0, 1) := by decide +kernel
theorem dX6_comes_18 : decode cX6_comes 18 = .ok (.iload_n 1, 1) := by decide +kernel
theorem dX6_comes_19 : decode cX6_comes 19 = .ok (.iload_n 2, 1) := by decide +kernel
theorem dX6_comes_20 : decode cX6_comes 20 = .ok (.iload_n 3, 1) := by decide +kernel
theorem dX6_comes_21 : decode cX6_comes 21 = .ok (.invokevirtual 130, 3) := by decide +kernel
theorem dX6_comes_24 : decode cX6_comes 24 = .ok (.goto 10, 3) := by decide +kernel
theorem dX6_comes_27 : decode cX6_comes 27 = .ok (.aload_n 0, 1) := by decide +kernel
theorem dX6_comes_28 : decode cX6_comes 28 = .ok (.bipush (-2), 2) := by decide +kernel
theorem dX6_comes_30 : decode cX6_comes 30 = .ok (.invokevirtual 46, 3) := by decide +kernel
theorem dX6_comes_33 : decode cX6_comes 33 = .ok (.i2l, 1) := by decide +kernel
theorem dX6_comes_34 : decode cX6_comes 34 = .ok (.lreturn, 1) := by decide +kernel
set_option maxRecDepth 20000 in
theorem ggX6_lastOf_X6_hasMinute : GoodIn wsX6_lastOf wsX6_hasMinute := goodIn_r _ [4] (by decide +kernel) (by decide +kernel)
set_option maxRecDepth 20000 in
theorem gX6_lastOf_X6_hasMinute : GoodIn wsX6_lastOf (va_wsS RX6 113 yX6_hasMinute wsX6_hasMinute) := goodIn_app (goodIn_of _ (by decide +kernel)) ggX6_lastOf_X6_hasMinute
theorem dX6_lastOf_0 : decode cX6_lastOf 0 = .ok (.iconst (-1), 1) := by decide +kernel
theorem dX6_lastOf_1 : decode cX6_lastOf 1 = .ok (.istore_n 2, 1) := by decide +kernel
theorem dX6_lastOf_2 : decode cX6_lastOf 2 = .ok (.iconst 0, 1) := by decide +kernel
theorem dX6_lastOf_3 : decode cX6_lastOf 3 = .ok (.istore_n 3, 1) := by decide +kernel
theorem dX6_lastOf_4 : decode cX6_lastOf 4 = .ok (.iload_n 3, 1) := by decide +kernel
theorem dX6_lastOf_5 : decode cX6_lastOf 5 = .ok (.bipush 62, 2) := by decide +kernel
theorem dX6_lastOf_7 : decode cX6_lastOf 7 = .ok (.if_icmp .gt 23, 3) := by decide +kernel
theorem dX6_lastOf_10 : decode cX6_lastOf 10 = .ok (.lload_n 0, 1) := by decide +kernel
theorem dX6_lastOf_11 : decode cX6_lastOf 11 = .ok (.iload_n 3, 1) := by decide +kernel
theorem dX6_lastOf_12 : decode cX6_lastOf 12 = .ok (.invokestatic 113, 3) := by decide +kernel
theorem dX6_lastOf_15 : decode cX6_lastOf 15 = .ok (.ifCond .eq 7, 3) := by decide +kernel
theorem dX6_lastOf_18 : decode cX6_lastOf 18 = .ok (.iload_n 3, 1) := by decide +kernel
theorem dX6_lastOf_19 : decode cX6_lastOf 19 = .ok (.goto 4, 3) := by decide +kernel
theorem dX6_lastOf_22 : decode cX6_lastOf 22 = .ok (.iload_n 2, 1) := by decide +kernel
theorem dX6_lastOf_23 : decode cX6_lastOf 23 = .ok (.istore_n 2, 1) := by decide +kernel
theorem dX6_lastOf_24 : decode cX6_lastOf 24 = .ok (.iinc 3 1, 3) := by decide +kernel
theorem dX6_lastOf_27 : decode cX6_lastOf 27 = .ok (.goto (-23), 3) := by decide +kernel
theorem dX6_lastOf_30 : decode cX6_lastOf 30 = .ok (.iload_n 2, 1) := by decide +kernel
theorem dX6_lastOf_31 : decode cX6_lastOf 31 = .ok (.ireturn, 1) := by decide +kernel
set_option maxRecDepth 20000 in
theorem ggX6_times_X6_isStart : GoodIn wsX6_times wsX6_isStart := goodIn_r _ [5, 6, 7, 8, 4, 9, 10, 11, 12, 13, 58, 59, 60, 61, 62, 63, 64, 65, 66, 67, 68, 69, 70, 71, 72] (by decide +kernel) (by decide +kernel)
set_option maxRecDepth 20000 in
theorem gX6_times_X6_isStart : GoodIn wsX6_times (wsV RX6 127 RX6 yX6_isStart wsX6_isStart) := goodIn_app (goodIn_of _ (by decide +kernel)) ggX6_times_X6_isStart
set_option maxRecDepth 20000 in
theorem ggX6_times_X6_isShaft : GoodIn wsX6_times wsX6_isShaft := goodIn_r _ [9, 10, 11, 12, 4, 13, 58, 59, 60, 61, 62, 63, 64, 65, 66, 67, 68, 69, 70, 71, 72] (by decide +kernel) (by decide +kernel)
set_option maxRecDepth 20000 in
theorem gX6_times_X6_isShaft : GoodIn wsX6_times (wsV RX6 65 RX6 yX6_isShaft wsX6_isShaft) := goodIn_app (goodIn_of _ (by decide +kernel)) ggX6_times_X6_isShaft
set_option maxRecDepth 20000 in
theorem ggX6_times_X6_in : GoodIn wsX6_times wsX6_in := goodIn_r _ [13] (by decide +kernel) (by decide +kernel)
set_option maxRecDepth 20000 in
theorem gX6_times_X6_in : GoodIn wsX6_times (va_wsS RX6 53 yX6_in wsX6_in) := goodIn_app (goodIn_of _ (by decide +kernel)) ggX6_times_X6_in
set_option maxRecDepth 20000 in
theorem ggX6_times_X6_refuses : GoodIn wsX6_times wsX6_refuses := goodIn_r _ [17, 18, 58, 59, 60, 61, 62, 63, 64, 65, 66, 67, 68, 69, 70, 71, 72] (by decide +kernel) (by decide +kernel)
set_option maxRecDepth 20000 in
theorem gX6_times_X6_refuses : GoodIn wsX6_times (wsV RX6 46 RX6 yX6_refuses wsX6_refuses) := goodIn_app (goodIn_of _ (by decide +kernel)) ggX6_times_X6_refuses
set_option maxRecDepth 20000 in
theorem ggX6_times_X6_comesOf : GoodIn wsX6_times wsX6_comesOf := goodIn_r _ [22, 23, 24, 25, 26, 4, 27, 10, 28, 29, 30, 31, 32, 33, 34, 35, 36, 37, 38, 39, 40, 41, 42, 43, 44, 45, 46, 47, 48, 49, 50, 51, 52, 53, 54, 58, 59, 60, 61, 62, 63, 64, 65, 66, 67, 68, 69, 70, 71, 72] (by decide +kernel) (by decide +kernel)
set_option maxRecDepth 20000 in
theorem gX6_times_X6_comesOf : GoodIn wsX6_times (wsV RX6 130 RX6 yX6_comesOf wsX6_comesOf) := goodIn_app (goodIn_of _ (by decide +kernel)) ggX6_times_X6_comesOf
set_option maxRecDepth 20000 in
theorem ggX6_times_X6_hasMinute : GoodIn wsX6_times wsX6_hasMinute := goodIn_r _ [38] (by decide +kernel) (by decide +kernel)
set_option maxRecDepth 20000 in
theorem gX6_times_X6_hasMinute : GoodIn wsX6_times (va_wsS RX6 113 yX6_hasMinute wsX6_hasMinute) := goodIn_app (goodIn_of _ (by decide +kernel)) ggX6_times_X6_hasMinute
set_option maxRecDepth 20000 in
theorem ggX6_times_X6_lastOf : GoodIn wsX6_times wsX6_lastOf := goodIn_r _ [57, 36, 37, 4, 38] (by decide +kernel) (by decide +kernel)
set_option maxRecDepth 20000 in
theorem gX6_times_X6_lastOf : GoodIn wsX6_times (va_wsS RX6 134 yX6_lastOf wsX6_lastOf) := goodIn_app (goodIn_of _ (by decide +kernel)) ggX6_times_X6_lastOf
theorem dX6_times_0 : decode cX6_times 0 = .ok (.aload_n 0, 1) := by decide +kernel
theorem dX6_times_1 : decode cX6_times 1 = .ok (.iload_n 1, 1) := by decide +kernel
theorem dX6_times_2 : decode cX6_times 2 = .ok (.iload_n 2, 1) := by decide +kernel
theorem dX6_times_3 : decode cX6_times 3 = .ok (.invokevirtual 127, 3) := by decide +kernel
theorem dX6_times_6 : decode cX6_times 6 = .ok (.ifCond .eq 21, 3) := by decide +kernel
theorem dX6_times_9 : decode cX6_times 9 = .ok (.aload_n 0, 1) := by decide +kernel
theorem dX6_times_10 : decode cX6_times 10 = .ok (.iload_n 3, 1) := by decide +kernel
theorem dX6_times_11 : decode cX6_times 11 = .ok (.invokevirtual 65, 3) := by decide +kernel
theorem dX6_times_14 : decode cX6_times 14 = .ok (.ifCond .eq 13, 3) := by decide +kernel
theorem dX6_times_17 : decode cX6_times 17 = .ok (.iload 4, 2) := by decide +kernel
theorem dX6_times_19 : decode cX6_times 19 = .ok (.iconst 0, 1) := by decide +kernel
theorem dX6_times_20 : decode cX6_times 20 = .ok (.iconst 2, 1) := by decide +kernel
theorem dX6_times_21 : decode cX6_times 21 = .ok (.invokestatic 53, 3) := by decide +kernel
theorem dX6_times_24 : decode cX6_times 24 = .ok (.ifCond .ne 10, 3) := by decide +kernel
theorem dX6_times_27 : decode cX6_times 27 = .ok (.aload_n 0, 1) := by decide +kernel
theorem dX6_times_28 : decode cX6_times 28 = .ok (.bipush (-2), 2) := by decide +kernel
theorem dX6_times_30 : decode cX6_times 30 = .ok (.invokevirtual 46, 3) := by decide +kernel
theorem dX6_times_33 : decode cX6_times 33 = .ok (.ireturn, 1) := by decide +kernel
theorem dX6_times_34 : decode cX6_times 34 = .ok (.aload_n 0, 1) := by decide +kernel
theorem dX6_times_35 : decode cX6_times 35 = .ok (.iload_n 1, 1) := by decide +kernel
theorem dX6_times_36 : decode cX6_times 36 = .ok (.iload_n 2, 1) := by decide +kernel
theorem dX6_times_37 : decode cX6_times 37 = .ok (.iload_n 3, 1) := by decide +kernel
theorem dX6_times_38 : decode cX6_times 38 = .ok (.invokevirtual 130, 3) := by decide +kernel
theorem dX6_times_41 : decode cX6_times 41 = .ok (.lstore 5, 2) := by decide +kernel
theorem dX6_times_43 : decode cX6_times 43 = .ok (.iconst 0, 1) := by decide +kernel
theorem dX6_times_44 : decode cX6_times 44 = .ok (.istore 7, 2) := by decide +kernel
theorem dX6_times_46 : decode cX6_times 46 = .ok (.iconst (-1), 1) := by decide +kernel
theorem dX6_times_47 : decode cX6_times 47 = .ok (.istore 8, 2) := by decide +kernel
theorem dX6_times_49 : decode cX6_times 49 = .ok (.bipush 62, 2) := by decide +kernel
theorem dX6_times_51 : decode cX6_times 51 = .ok (.istore 9, 2) := by decide +kernel
theorem dX6_times_53 : decode cX6_times 53 = .ok (.iload 9, 2) := by decide +kernel
theorem dX6_times_55 : decode cX6_times 55 = .ok (.ifCond .lt 48, 3) := by decide +kernel
theorem dX6_times_58 : decode cX6_times 58 = .ok (.lload 5, 2) := by decide +kernel
theorem dX6_times_60 : decode cX6_times 60 = .ok (.iload 9, 2) := by decide +kernel
theorem dX6_times_62 : decode cX6_times 62 = .ok (.invokestatic 113, 3) := by decide +kernel
theorem dX6_times_65 : decode cX6_times 65 = .ok (.ifCond .eq 8, 3) := by decide +kernel
theorem dX6_times_68 : decode cX6_times 68 = .ok (.iload 9, 2) := by decide +kernel
theorem dX6_times_70 : decode cX6_times 70 = .ok (.goto 5, 3) := by decide +kernel
theorem dX6_times_73 : decode cX6_times 73 = .ok (.iload 8, 2) := by decide +kernel
theorem dX6_times_75 : decode cX6_times 75 = .ok (.istore 8, 2) := by decide +kernel
theorem dX6_times_77 : decode cX6_times 77 = .ok (.iload 7, 2) := by decide +kernel
theorem dX6_times_79 : decode cX6_times 79 = .ok (.lload 5, 2) := by decide +kernel
theorem dX6_times_81 : decode cX6_times 81 = .ok (.iload 9, 2) := by decide +kernel
theorem dX6_times_83 : decode cX6_times 83 = .ok (.invokestatic 113, 3) := by decide +kernel
theorem dX6_times_86 : decode cX6_times 86 = .ok (.ifCond .eq 7, 3) := by decide +kernel
theorem dX6_times_89 : decode cX6_times 89 = .ok (.iconst 1, 1) := by decide +kernel
theorem dX6_times_90 : decode cX6_times 90 = .ok (.goto 4, 3) := by decide +kernel
theorem dX6_times_93 : decode cX6_times 93 = .ok (.iconst 0, 1) := by decide +kernel
theorem dX6_times_94 : decode cX6_times 94 = .ok (.iadd, 1) := by decide +kernel
theorem dX6_times_95 : decode cX6_times 95 = .ok (.istore 7, 2) := by decide +kernel
theorem dX6_times_97 : decode cX6_times 97 = .ok (.iinc 9 (-1), 3) := by decide +kernel
theorem dX6_times_100 : decode cX6_times 100 = .ok (.goto (-47), 3) := by decide +kernel
theorem dX6_times_103 : decode cX6_times 103 = .ok (.iload 4, 2) := by decide +kernel
theorem dX6_times_105 : decode cX6_times 105 = .ok (.ifCond .ne 8, 3) := by decide +kernel
theorem dX6_times_108 : decode cX6_times 108 = .ok (.iload 8, 2) := by decide +kernel
theorem dX6_times_110 : decode cX6_times 110 = .ok (.goto 19, 3) := by decide +kernel
theorem dX6_times_113 : decode cX6_times 113 = .ok (.iload 4, 2) := by decide +kernel
theorem dX6_times_115 : decode cX6_times 115 = .ok (.iconst 1, 1) := by decide +kernel
theorem dX6_times_116 : decode cX6_times 116 = .ok (.if_icmp .ne 11, 3) := by decide +kernel
theorem dX6_times_119 : decode cX6_times 119 = .ok (.lload 5, 2) := by decide +kernel
theorem dX6_times_121 : decode cX6_times 121 = .ok (.invokestatic 134, 3) := by decide +kernel
theorem dX6_times_124 : decode cX6_times 124 = .ok (.goto 5, 3) := by decide +kernel
theorem dX6_times_127 : decode cX6_times 127 = .ok (.iload 7, 2) := by decide +kernel
theorem dX6_times_129 : decode cX6_times 129 = .ok (.ireturn, 1) := by decide +kernel
set_option maxRecDepth 20000 in
theorem ggX6_leaves_X6_isShaft : GoodIn wsX6_leaves wsX6_isShaft := goodIn_r _ [5, 6, 7, 8, 4, 9, 31, 32, 33, 34, 35, 36, 37, 38, 39, 40, 41, 42, 43, 44, 45] (by decide +kernel) (by decide +kernel)
set_option maxRecDepth 20000 in
theorem gX6_leaves_X6_isShaft : GoodIn wsX6_leaves (wsV RX6 65 RX6 yX6_isShaft wsX6_isShaft) := goodIn_app (goodIn_of _ (by decide +kernel)) ggX6_leaves_X6_isShaft
set_option maxRecDepth 20000 in
theorem ggX6_leaves_X6_in : GoodIn wsX6_leaves wsX6_in := goodIn_r _ [9] (by decide +kernel) (by decide +kernel)
set_option maxRecDepth 20000 in
theorem gX6_leaves_X6_in : GoodIn wsX6_leaves (va_wsS RX6 53 yX6_in wsX6_in) := goodIn_app (goodIn_of _ (by decide +kernel)) ggX6_leaves_X6_in
set_option maxRecDepth 20000 in
theorem ggX6_leaves_X6_leavesAt : GoodIn wsX6_leaves wsX6_leavesAt := goodIn_r _ [13, 14, 15, 16, 4, 17, 6, 18, 19, 20, 21, 22, 23, 24, 25, 31, 32, 33, 34, 35, 36, 37, 38, 39, 40, 41, 42, 43, 44, 45] (by decide +kernel) (by decide +kernel)
set_option maxRecDepth 20000 in
theorem gX6_leaves_X6_leavesAt : GoodIn wsX6_leaves (wsV RX6 117 RX6 yX6_leavesAt wsX6_leavesAt) := goodIn_app (goodIn_of _ (by decide +kernel)) ggX6_leaves_X6_leavesAt
set_option maxRecDepth 20000 in
theorem ggX6_leaves_X6_refuses : GoodIn wsX6_leaves wsX6_refuses := goodIn_r _ [29, 30, 31, 32, 33, 34, 35, 36, 37, 38, 39, 40, 41, 42, 43, 44, 45] (by decide +kernel) (by decide +kernel)
set_option maxRecDepth 20000 in
theorem gX6_leaves_X6_refuses : GoodIn wsX6_leaves (wsV RX6 46 RX6 yX6_refuses wsX6_refuses) := goodIn_app (goodIn_of _ (by decide +kernel)) ggX6_leaves_X6_refuses
theorem dX6_leaves_0 : decode cX6_leaves 0 = .ok (.aload_n 0, 1) := by decide +kernel
theorem dX6_leaves_1 : decode cX6_leaves 1 = .ok (.iload_n 1, 1) := by decide +kernel
theorem dX6_leaves_2 : decode cX6_leaves 2 = .ok (.invokevirtual 65, 3) := by decide +kernel
theorem dX6_leaves_5 : decode cX6_leaves 5 = .ok (.ifCond .eq 22, 3) := by decide +kernel
theorem dX6_leaves_8 : decode cX6_leaves 8 = .ok (.iload_n 2, 1) := by decide +kernel
theorem dX6_leaves_9 : decode cX6_leaves 9 = .ok (.iconst 0, 1) := by decide +kernel
theorem dX6_leaves_10 : decode cX6_leaves 10 = .ok (.bipush 62, 2) := by decide +kernel
theorem dX6_leaves_12 : decode cX6_leaves 12 = .ok (.invokestatic 53, 3) := by decide +kernel
theorem dX6_leaves_15 : decode cX6_leaves 15 = .ok (.ifCond .eq 12, 3) := by decide +kernel
theorem dX6_leaves_18 : decode cX6_leaves 18 = .ok (.aload_n 0, 1) := by decide +kernel
theorem dX6_leaves_19 : decode cX6_leaves 19 = .ok (.iload_n 1, 1) := by decide +kernel
theorem dX6_leaves_20 : decode cX6_leaves 20 = .ok (.iload_n 2, 1) := by decide +kernel
theorem dX6_leaves_21 : decode cX6_leaves 21 = .ok (.invokevirtual 117, 3) := by decide +kernel
theorem dX6_leaves_24 : decode cX6_leaves 24 = .ok (.goto 9, 3) := by decide +kernel
theorem dX6_leaves_27 : decode cX6_leaves 27 = .ok (.aload_n 0, 1) := by decide +kernel
theorem dX6_leaves_28 : decode cX6_leaves 28 = .ok (.bipush (-2), 2) := by decide +kernel
theorem dX6_leaves_30 : decode cX6_leaves 30 = .ok (.invokevirtual 46, 3) := by decide +kernel
theorem dX6_leaves_33 : decode cX6_leaves 33 = .ok (.ireturn, 1) := by decide +kernel
set_option maxRecDepth 20000 in
theorem ggX6_isFit_X6_start : GoodIn wsX6_isFit wsX6_start := goodIn_r _ [7, 2, 1, 8, 9, 10, 6, 11, 12, 13, 14, 15, 16, 17, 18, 19, 20, 21, 22, 23, 24, 25, 26, 27, 28, 29, 30, 31, 32, 33, 34, 38, 39, 40, 41, 42, 43, 44, 45, 46, 47, 48, 49, 50, 51, 52] (by decide +kernel) (by decide +kernel)
set_option maxRecDepth 20000 in
theorem gX6_isFit_X6_start : GoodIn wsX6_isFit (wsV RX6 123 RX6 yX6_start wsX6_start) := goodIn_app (goodIn_of _ (by decide +kernel)) ggX6_isFit_X6_start
set_option maxRecDepth 20000 in
theorem ggX6_isFit_X6_hasMinute : GoodIn wsX6_isFit wsX6_hasMinute := goodIn_r _ [18] (by decide +kernel) (by decide +kernel)
set_option maxRecDepth 20000 in
theorem gX6_isFit_X6_hasMinute : GoodIn wsX6_isFit (va_wsS RX6 113 yX6_hasMinute wsX6_hasMinute) := goodIn_app (goodIn_of _ (by decide +kernel)) ggX6_isFit_X6_hasMinute
set_option maxRecDepth 20000 in
theorem ggX6_isFit_X6_lastOf : GoodIn wsX6_isFit wsX6_lastOf := goodIn_r _ [37, 16, 17, 6, 18] (by decide +kernel) (by decide +kernel)
set_option maxRecDepth 20000 in
theorem gX6_isFit_X6_lastOf : GoodIn wsX6_isFit (va_wsS RX6 134 yX6_lastOf wsX6_lastOf) := goodIn_app (goodIn_of _ (by decide +kernel)) ggX6_isFit_X6_lastOf
theorem dX6_isFit_0 : decode cX6_isFit 0 = .ok (.aload_n 0, 1) := by decide +kernel
theorem dX6_isFit_1 : decode cX6_isFit 1 = .ok (.iload_n 1, 1) := by decide +kernel
theorem dX6_isFit_2 : decode cX6_isFit 2 = .ok (.iload_n 2, 1) := by decide +kernel
theorem dX6_isFit_3 : decode cX6_isFit 3 = .ok (.invokevirtual 123, 3) := by decide +kernel
theorem dX6_isFit_6 : decode cX6_isFit 6 = .ok (.iconst 1, 1) := by decide +kernel
theorem dX6_isFit_7 : decode cX6_isFit 7 = .ok (.istore_n 3, 1) := by decide +kernel
theorem dX6_isFit_8 : decode cX6_isFit 8 = .ok (.iconst 0, 1) := by decide +kernel
theorem dX6_isFit_9 : decode cX6_isFit 9 = .ok (.istore 4, 2) := by decide +kernel
theorem dX6_isFit_11 : decode cX6_isFit 11 = .ok (.iload 4, 2) := by decide +kernel
theorem dX6_isFit_13 : decode cX6_isFit 13 = .ok (.aload_n 0, 1) := by decide +kernel
theorem dX6_isFit_14 : decode cX6_isFit 14 = .ok (.getfield 7, 3) := by decide +kernel
theorem dX6_isFit_17 : decode cX6_isFit 17 = .ok (.iconst 2, 1) := by decide +kernel
theorem dX6_isFit_18 : decode cX6_isFit 18 = .ok (.iaload, 1) := by decide +kernel
theorem dX6_isFit_19 : decode cX6_isFit 19 = .ok (.if_icmp .ge 99, 3) := by decide +kernel
theorem dX6_isFit_22 : decode cX6_isFit 22 = .ok (.bipush 87, 2) := by decide +kernel
theorem dX6_isFit_24 : decode cX6_isFit 24 = .ok (.iconst 3, 1) := by decide +kernel
theorem dX6_isFit_25 : decode cX6_isFit 25 = .ok (.iload 4, 2) := by decide +kernel
theorem dX6_isFit_27 : decode cX6_isFit 27 = .ok (.imul, 1) := by decide +kernel
theorem dX6_isFit_28 : decode cX6_isFit 28 = .ok (.iadd, 1) := by decide +kernel
theorem dX6_isFit_29 : decode cX6_isFit 29 = .ok (.istore 5, 2) := by decide +kernel
theorem dX6_isFit_31 : decode cX6_isFit 31 = .ok (.aload_n 0, 1) := by decide +kernel
theorem dX6_isFit_32 : decode cX6_isFit 32 = .ok (.getfield 22, 3) := by decide +kernel
theorem dX6_isFit_35 : decode cX6_isFit 35 = .ok (.aload_n 0, 1) := by decide +kernel
theorem dX6_isFit_36 : decode cX6_isFit 36 = .ok (.getfield 7, 3) := by decide +kernel
theorem dX6_isFit_39 : decode cX6_isFit 39 = .ok (.iload 5, 2) := by decide +kernel
theorem dX6_isFit_41 : decode cX6_isFit 41 = .ok (.iconst 1, 1) := by decide +kernel
theorem dX6_isFit_42 : decode cX6_isFit 42 = .ok (.iadd, 1) := by decide +kernel
theorem dX6_isFit_43 : decode cX6_isFit 43 = .ok (.iaload, 1) := by decide +kernel
theorem dX6_isFit_44 : decode cX6_isFit 44 = .ok (.laload, 1) := by decide +kernel
theorem dX6_isFit_45 : decode cX6_isFit 45 = .ok (.lstore 6, 2) := by decide +kernel
theorem dX6_isFit_47 : decode cX6_isFit 47 = .ok (.iload_n 3, 1) := by decide +kernel
theorem dX6_isFit_48 : decode cX6_isFit 48 = .ok (.ifCond .eq 62, 3) := by decide +kernel
theorem dX6_isFit_51 : decode cX6_isFit 51 = .ok (.aload_n 0, 1) := by decide +kernel
theorem dX6_isFit_52 : decode cX6_isFit 52 = .ok (.getfield 7, 3) := by decide +kernel
theorem dX6_isFit_55 : decode cX6_isFit 55 = .ok (.iload 5, 2) := by decide +kernel
theorem dX6_isFit_57 : decode cX6_isFit 57 = .ok (.iaload, 1) := by decide +kernel
theorem dX6_isFit_58 : decode cX6_isFit 58 = .ok (.iconst 1, 1) := by decide +kernel
theorem dX6_isFit_59 : decode cX6_isFit 59 = .ok (.if_icmp .ne 23, 3) := by decide +kernel
theorem dX6_isFit_62 : decode cX6_isFit 62 = .ok (.lload 6, 2) := by decide +kernel
theorem dX6_isFit_64 : decode cX6_isFit 64 = .ok (.aload_n 0, 1) := by decide +kernel
theorem dX6_isFit_65 : decode cX6_isFit 65 = .ok (.getfield 7, 3) := by decide +kernel
theorem dX6_isFit_68 : decode cX6_isFit 68 = .ok (.iload 5, 2) := by decide +kernel
theorem dX6_isFit_70 : decode cX6_isFit 70 = .ok (.iconst 2, 1) := by decide +kernel
theorem dX6_isFit_71 : decode cX6_isFit 71 = .ok (.iadd, 1) := by decide +kernel
theorem dX6_isFit_72 : decode cX6_isFit 72 = .ok (.iaload, 1) := by decide +kernel
theorem dX6_isFit_73 : decode cX6_isFit 73 = .ok (.invokestatic 113, 3) := by decide +kernel
theorem dX6_isFit_76 : decode cX6_isFit 76 = .ok (.ifCond .eq 34, 3) := by decide +kernel
theorem dX6_isFit_79 : decode cX6_isFit 79 = .ok (.goto 27, 3) := by decide +kernel
theorem dX6_isFit_82 : decode cX6_isFit 82 = .ok (.lload 6, 2) := by decide +kernel
theorem dX6_isFit_84 : decode cX6_isFit 84 = .ok (.lconst 0, 1) := by decide +kernel
theorem dX6_isFit_85 : decode cX6_isFit 85 = .ok (.lcmp, 1) := by decide +kernel
theorem dX6_isFit_86 : decode cX6_isFit 86 = .ok (.ifCond .eq 20, 3) := by decide +kernel
theorem dX6_isFit_89 : decode cX6_isFit 89 = .ok (.lload 6, 2) := by decide +kernel
theorem dX6_isFit_91 : decode cX6_isFit 91 = .ok (.invokestatic 134, 3) := by decide +kernel
theorem dX6_isFit_94 : decode cX6_isFit 94 = .ok (.aload_n 0, 1) := by decide +kernel
theorem dX6_isFit_95 : decode cX6_isFit 95 = .ok (.getfield 7, 3) := by decide +kernel
theorem dX6_isFit_98 : decode cX6_isFit 98 = .ok (.iload 5, 2) := by decide +kernel
theorem dX6_isFit_100 : decode cX6_isFit 100 = .ok (.iconst 2, 1) := by decide +kernel
theorem dX6_isFit_101 : decode cX6_isFit 101 = .ok (.iadd, 1) := by decide +kernel
theorem dX6_isFit_102 : decode cX6_isFit 102 = .ok (.iaload, 1) := by decide +kernel
theorem dX6_isFit_103 : decode cX6_isFit 103 = .ok (.if_icmp .le 7, 3) := by decide +kernel
theorem dX6_isFit_106 : decode cX6_isFit 106 = .ok (.iconst 1, 1) := by decide +kernel
theorem dX6_isFit_107 : decode cX6_isFit 107 = .ok (.goto 4, 3) := by decide +kernel
theorem dX6_isFit_110 : decode cX6_isFit 110 = .ok (.iconst 0, 1) := by decide +kernel
theorem dX6_isFit_111 : decode cX6_isFit 111 = .ok (.istore_n 3, 1) := by decide +kernel
theorem dX6_isFit_112 : decode cX6_isFit 112 = .ok (.iinc 4 1, 3) := by decide +kernel
theorem dX6_isFit_115 : decode cX6_isFit 115 = .ok (.goto (-104), 3) := by decide +kernel
theorem dX6_isFit_118 : decode cX6_isFit 118 = .ok (.iload_n 3, 1) := by decide +kernel
theorem dX6_isFit_119 : decode cX6_isFit 119 = .ok (.ireturn, 1) := by decide +kernel
set_option maxRecDepth 20000 in
theorem ggX6_fits_X6_isStart : GoodIn wsX6_fits wsX6_isStart := goodIn_r _ [5, 6, 7, 8, 4, 9, 10, 11, 12, 13, 58, 59, 60, 61, 62, 63, 64, 65, 66, 67, 68, 69, 70, 71, 72] (by decide +kernel) (by decide +kernel)
set_option maxRecDepth 20000 in
theorem gX6_fits_X6_isStart : GoodIn wsX6_fits (wsV RX6 127 RX6 yX6_isStart wsX6_isStart) := goodIn_app (goodIn_of _ (by decide +kernel)) ggX6_fits_X6_isStart
set_option maxRecDepth 20000 in
theorem ggX6_fits_X6_refuses : GoodIn wsX6_fits wsX6_refuses := goodIn_r _ [17, 18, 58, 59, 60, 61, 62, 63, 64, 65, 66, 67, 68, 69, 70, 71, 72] (by decide +kernel) (by decide +kernel)
set_option maxRecDepth 20000 in
theorem gX6_fits_X6_refuses : GoodIn wsX6_fits (wsV RX6 46 RX6 yX6_refuses wsX6_refuses) := goodIn_app (goodIn_of _ (by decide +kernel)) ggX6_fits_X6_refuses
set_option maxRecDepth 20000 in
theorem ggX6_fits_X6_isFit : GoodIn wsX6_fits wsX6_isFit := goodIn_r _ [22, 10, 23, 24, 25, 26, 4, 27, 28, 29, 30, 31, 32, 33, 34, 35, 36, 37, 38, 39, 40, 41, 42, 43, 44, 45, 46, 47, 48, 49, 50, 51, 52, 53, 54, 55, 56, 57, 58, 59, 60, 61, 62, 63, 64, 65, 66, 67, 68, 69, 70, 71, 72] (by decide +kernel) (by decide +kernel)
set_option maxRecDepth 20000 in
theorem gX6_fits_X6_isFit : GoodIn wsX6_fits (wsV RX6 138 RX6 yX6_isFit wsX6_isFit) := goodIn_app (goodIn_of _ (by decide +kernel)) ggX6_fits_X6_isFit
theorem dX6_fits_0 : decode cX6_fits 0 = .ok (.aload_n 0, 1) := by decide +kernel
theorem dX6_fits_1 : decode cX6_fits 1 = .ok (.iload_n 1, 1) := by decide +kernel
theorem dX6_fits_2 : decode cX6_fits 2 = .ok (.iload_n 2, 1) := by decide +kernel
theorem dX6_fits_3 : decode cX6_fits 3 = .ok (.invokevirtual 127, 3) := by decide +kernel
theorem dX6_fits_6 : decode cX6_fits 6 = .ok (.ifCond .ne 10, 3) := by decide +kernel
theorem dX6_fits_9 : decode cX6_fits 9 = .ok (.aload_n 0, 1) := by decide +kernel
theorem dX6_fits_10 : decode cX6_fits 10 = .ok (.bipush (-2), 2) := by decide +kernel
theorem dX6_fits_12 : decode cX6_fits 12 = .ok (.invokevirtual 46, 3) := by decide +kernel
theorem dX6_fits_15 : decode cX6_fits 15 = .ok (.ireturn, 1) := by decide +kernel
theorem dX6_fits_16 : decode cX6_fits 16 = .ok (.aload_n 0, 1) := by decide +kernel
theorem dX6_fits_17 : decode cX6_fits 17 = .ok (.iload_n 1, 1) := by decide +kernel
theorem dX6_fits_18 : decode cX6_fits 18 = .ok (.iload_n 2, 1) := by decide +kernel
theorem dX6_fits_19 : decode cX6_fits 19 = .ok (.invokevirtual 138, 3) := by decide +kernel
theorem dX6_fits_22 : decode cX6_fits 22 = .ok (.ifCond .eq 7, 3) := by decide +kernel
theorem dX6_fits_25 : decode cX6_fits 25 = .ok (.iconst 1, 1) := by decide +kernel
theorem dX6_fits_26 : decode cX6_fits 26 = .ok (.goto 4, 3) := by decide +kernel
theorem dX6_fits_29 : decode cX6_fits 29 = .ok (.iconst 0, 1) := by decide +kernel
theorem dX6_fits_30 : decode cX6_fits 30 = .ok (.ireturn, 1) := by decide +kernel
set_option maxRecDepth 20000 in
theorem ggX6_whenOf_X6_isFit : GoodIn wsX6_whenOf wsX6_isFit := goodIn_r _ [5, 6, 7, 8, 9, 10, 4, 11, 12, 13, 14, 15, 16, 17, 18, 19, 20, 21, 22, 23, 24, 25, 26, 27, 28, 29, 30, 31, 32, 33, 34, 35, 36, 37, 38, 39, 40, 41, 42, 43, 44, 45, 46, 47, 48, 49, 50, 51, 52, 53, 54, 55, 56] (by decide +kernel) (by decide +kernel)
set_option maxRecDepth 20000 in
theorem gX6_whenOf_X6_isFit : GoodIn wsX6_whenOf (wsV RX6 138 RX6 yX6_isFit wsX6_isFit) := goodIn_app (goodIn_of _ (by decide +kernel)) ggX6_whenOf_X6_isFit
theorem dX6_whenOf_0 : decode cX6_whenOf 0 = .ok (.iconst 0, 1) := by decide +kernel
theorem dX6_whenOf_1 : decode cX6_whenOf 1 = .ok (.istore_n 2, 1) := by decide +kernel
theorem dX6_whenOf_2 : decode cX6_whenOf 2 = .ok (.iconst 0, 1) := by decide +kernel
theorem dX6_whenOf_3 : decode cX6_whenOf 3 = .ok (.istore_n 3, 1) := by decide +kernel
theorem dX6_whenOf_4 : decode cX6_whenOf 4 = .ok (.iload_n 3, 1) := by decide +kernel
theorem dX6_whenOf_5 : decode cX6_whenOf 5 = .ok (.bipush 30, 2) := by decide +kernel
theorem dX6_whenOf_7 : decode cX6_whenOf 7 = .ok (.if_icmp .gt 28, 3) := by decide +kernel
theorem dX6_whenOf_10 : decode cX6_whenOf 10 = .ok (.iload_n 2, 1) := by decide +kernel
theorem dX6_whenOf_11 : decode cX6_whenOf 11 = .ok (.aload_n 0, 1) := by decide +kernel
theorem dX6_whenOf_12 : decode cX6_whenOf 12 = .ok (.iload_n 1, 1) := by decide +kernel
theorem dX6_whenOf_13 : decode cX6_whenOf 13 = .ok (.iload_n 3, 1) := by decide +kernel
theorem dX6_whenOf_14 : decode cX6_whenOf 14 = .ok (.invokevirtual 138, 3) := by decide +kernel
theorem dX6_whenOf_17 : decode cX6_whenOf 17 = .ok (.ifCond .eq 9, 3) := by decide +kernel
theorem dX6_whenOf_20 : decode cX6_whenOf 20 = .ok (.iconst 1, 1) := by decide +kernel
theorem dX6_whenOf_21 : decode cX6_whenOf 21 = .ok (.iload_n 3, 1) := by decide +kernel
theorem dX6_whenOf_22 : decode cX6_whenOf 22 = .ok (.ishl, 1) := by decide +kernel
theorem dX6_whenOf_23 : decode cX6_whenOf 23 = .ok (.goto 4, 3) := by decide +kernel
theorem dX6_whenOf_26 : decode cX6_whenOf 26 = .ok (.iconst 0, 1) := by decide +kernel
theorem dX6_whenOf_27 : decode cX6_whenOf 27 = .ok (.ior, 1) := by decide +kernel
theorem dX6_whenOf_28 : decode cX6_whenOf 28 = .ok (.istore_n 2, 1) := by decide +kernel
theorem dX6_whenOf_29 : decode cX6_whenOf 29 = .ok (.iinc 3 1, 3) := by decide +kernel
theorem dX6_whenOf_32 : decode cX6_whenOf 32 = .ok (.goto (-28), 3) := by decide +kernel
theorem dX6_whenOf_35 : decode cX6_whenOf 35 = .ok (.iload_n 2, 1) := by decide +kernel
theorem dX6_whenOf_36 : decode cX6_whenOf 36 = .ok (.ireturn, 1) := by decide +kernel
set_option maxRecDepth 20000 in
theorem ggX6_when_X6_isShaft : GoodIn wsX6_when wsX6_isShaft := goodIn_r _ [5, 6, 7, 8, 4, 9, 58, 59, 60, 61, 62, 63, 64, 65, 66, 67, 68, 69, 70, 71, 72] (by decide +kernel) (by decide +kernel)
set_option maxRecDepth 20000 in
theorem gX6_when_X6_isShaft : GoodIn wsX6_when (wsV RX6 65 RX6 yX6_isShaft wsX6_isShaft) := goodIn_app (goodIn_of _ (by decide +kernel)) ggX6_when_X6_isShaft
set_option maxRecDepth 20000 in
theorem ggX6_when_X6_whenOf : GoodIn wsX6_when wsX6_whenOf := goodIn_r _ [13, 14, 15, 16, 4, 17, 6, 18, 19, 20, 21, 22, 23, 24, 25, 26, 27, 28, 29, 30, 31, 32, 33, 34, 35, 36, 37, 38, 39, 40, 41, 42, 43, 44, 45, 46, 47, 48, 49, 50, 51, 52, 58, 59, 60, 61, 62, 63, 64, 65, 66, 67, 68, 69, 70, 71, 72] (by decide +kernel) (by decide +kernel)
set_option maxRecDepth 20000 in
theorem gX6_when_X6_whenOf : GoodIn wsX6_when (wsV RX6 141 RX6 yX6_whenOf wsX6_whenOf) := goodIn_app (goodIn_of _ (by decide +kernel)) ggX6_when_X6_whenOf
set_option maxRecDepth 20000 in
theorem ggX6_when_X6_refuses : GoodIn wsX6_when wsX6_refuses := goodIn_r _ [56, 57, 58, 59, 60, 61, 62, 63, 64, 65, 66, 67, 68, 69, 70, 71, 72] (by decide +kernel) (by decide +kernel)
set_option maxRecDepth 20000 in
theorem gX6_when_X6_refuses : GoodIn wsX6_when (wsV RX6 46 RX6 yX6_refuses wsX6_refuses) := goodIn_app (goodIn_of _ (by decide +kernel)) ggX6_when_X6_refuses
theorem dX6_when_0 : decode cX6_when 0 = .ok (.aload_n 0, 1) := by decide +kernel
theorem dX6_when_1 : decode cX6_when 1 = .ok (.iload_n 1, 1) := by decide +kernel
theorem dX6_when_2 : decode cX6_when 2 = .ok (.invokevirtual 65, 3) := by decide +kernel
theorem dX6_when_5 : decode cX6_when 5 = .ok (.ifCond .eq 11, 3) := by decide +kernel
theorem dX6_when_8 : decode cX6_when 8 = .ok (.aload_n 0, 1) := by decide +kernel
theorem dX6_when_9 : decode cX6_when 9 = .ok (.iload_n 1, 1) := by decide +kernel
theorem dX6_when_10 : decode cX6_when 10 = .ok (.invokevirtual 141, 3) := by decide +kernel
theorem dX6_when_13 : decode cX6_when 13 = .ok (.goto 9, 3) := by decide +kernel
theorem dX6_when_16 : decode cX6_when 16 = .ok (.aload_n 0, 1) := by decide +kernel
theorem dX6_when_17 : decode cX6_when 17 = .ok (.bipush (-2), 2) := by decide +kernel
theorem dX6_when_19 : decode cX6_when 19 = .ok (.invokevirtual 46, 3) := by decide +kernel
theorem dX6_when_22 : decode cX6_when 22 = .ok (.ireturn, 1) := by decide +kernel
set_option maxRecDepth 20000 in
theorem ggX6_suspectsNow_X6_whenOf : GoodIn wsX6_suspectsNow wsX6_whenOf := goodIn_r _ [6, 7, 8, 9, 5, 10, 1, 11, 12, 13, 14, 15, 16, 17, 18, 19, 20, 21, 22, 23, 24, 25, 26, 27, 28, 29, 30, 31, 32, 33, 34, 35, 36, 37, 38, 39, 40, 41, 42, 43, 44, 45, 46, 47, 48, 49, 50, 51, 52, 53, 54, 55, 56, 57, 58, 59, 60] (by decide +kernel) (by decide +kernel)
set_option maxRecDepth 20000 in
theorem gX6_suspectsNow_X6_whenOf : GoodIn wsX6_suspectsNow (wsV RX6 141 RX6 yX6_whenOf wsX6_whenOf) := goodIn_app (goodIn_of _ (by decide +kernel)) ggX6_suspectsNow_X6_whenOf
theorem dX6_suspectsNow_0 : decode cX6_suspectsNow 0 = .ok (.iconst 0, 1) := by decide +kernel
theorem dX6_suspectsNow_1 : decode cX6_suspectsNow 1 = .ok (.istore_n 1, 1) := by decide +kernel
theorem dX6_suspectsNow_2 : decode cX6_suspectsNow 2 = .ok (.iconst 0, 1) := by decide +kernel
theorem dX6_suspectsNow_3 : decode cX6_suspectsNow 3 = .ok (.istore_n 2, 1) := by decide +kernel
theorem dX6_suspectsNow_4 : decode cX6_suspectsNow 4 = .ok (.iload_n 2, 1) := by decide +kernel
theorem dX6_suspectsNow_5 : decode cX6_suspectsNow 5 = .ok (.aload_n 0, 1) := by decide +kernel
theorem dX6_suspectsNow_6 : decode cX6_suspectsNow 6 = .ok (.getfield 7, 3) := by decide +kernel
theorem dX6_suspectsNow_9 : decode cX6_suspectsNow 9 = .ok (.iconst 0, 1) := by decide +kernel
theorem dX6_suspectsNow_10 : decode cX6_suspectsNow 10 = .ok (.iaload, 1) := by decide +kernel
theorem dX6_suspectsNow_11 : decode cX6_suspectsNow 11 = .ok (.if_icmp .ge 27, 3) := by decide +kernel
theorem dX6_suspectsNow_14 : decode cX6_suspectsNow 14 = .ok (.iload_n 1, 1) := by decide +kernel
theorem dX6_suspectsNow_15 : decode cX6_suspectsNow 15 = .ok (.aload_n 0, 1) := by decide +kernel
theorem dX6_suspectsNow_16 : decode cX6_suspectsNow 16 = .ok (.iload_n 2, 1) := by decide +kernel
theorem dX6_suspectsNow_17 : decode cX6_suspectsNow 17 = .ok (.invokevirtual 141, 3) := by decide +kernel
theorem dX6_suspectsNow_20 : decode cX6_suspectsNow 20 = .ok (.ifCond .ne 7, 3) := by decide +kernel
theorem dX6_suspectsNow_23 : decode cX6_suspectsNow 23 = .ok (.iconst 0, 1) := by decide +kernel
theorem dX6_suspectsNow_24 : decode cX6_suspectsNow 24 = .ok (.goto 6, 3) := by decide +kernel
theorem dX6_suspectsNow_27 : decode cX6_suspectsNow 27 = .ok (.iconst 1, 1) := by decide +kernel
theorem dX6_suspectsNow_28 : decode cX6_suspectsNow 28 = .ok (.iload_n 2, 1) := by decide +kernel
theorem dX6_suspectsNow_29 : decode cX6_suspectsNow 29 = .ok (.ishl, 1) := by decide +kernel
theorem dX6_suspectsNow_30 : decode cX6_suspectsNow 30 = .ok (.ior, 1) := by decide +kernel
theorem dX6_suspectsNow_31 : decode cX6_suspectsNow 31 = .ok (.istore_n 1, 1) := by decide +kernel
theorem dX6_suspectsNow_32 : decode cX6_suspectsNow 32 = .ok (.iinc 2 1, 3) := by decide +kernel
theorem dX6_suspectsNow_35 : decode cX6_suspectsNow 35 = .ok (.goto (-31), 3) := by decide +kernel
theorem dX6_suspectsNow_38 : decode cX6_suspectsNow 38 = .ok (.iload_n 1, 1) := by decide +kernel
theorem dX6_suspectsNow_39 : decode cX6_suspectsNow 39 = .ok (.ireturn, 1) := by decide +kernel
set_option maxRecDepth 20000 in
theorem ggX6_suspects_X6_suspectsNow : GoodIn wsX6_suspects wsX6_suspectsNow := goodIn_r _ [5, 6, 7, 8, 9, 4, 10, 11, 12, 13, 14, 15, 16, 17, 18, 19, 20, 21, 22, 23, 24, 25, 26, 27, 28, 29, 30, 31, 32, 33, 34, 35, 36, 37, 38, 39, 40, 41, 42, 43, 44, 45, 46, 47, 48, 49, 50, 51, 52, 53, 54, 55, 56, 57, 58, 59, 60, 61, 62, 63, 64] (by decide +kernel) (by decide +kernel)
set_option maxRecDepth 20000 in
theorem gX6_suspects_X6_suspectsNow : GoodIn wsX6_suspects (wsV RX6 144 RX6 yX6_suspectsNow wsX6_suspectsNow) := goodIn_app (goodIn_of _ (by decide +kernel)) ggX6_suspects_X6_suspectsNow
theorem dX6_suspects_0 : decode cX6_suspects 0 = .ok (.aload_n 0, 1) := by decide +kernel
theorem dX6_suspects_1 : decode cX6_suspects 1 = .ok (.invokevirtual 144, 3) := by decide +kernel
theorem dX6_suspects_4 : decode cX6_suspects 4 = .ok (.ireturn, 1) := by decide +kernel
set_option maxRecDepth 20000 in
theorem ggX6_nextOf_X6_suspectsNow : GoodIn wsX6_nextOf wsX6_suspectsNow := goodIn_r _ [6, 1, 7, 8, 9, 5, 10, 11, 12, 13, 14, 15, 16, 17, 18, 19, 20, 21, 22, 23, 24, 25, 26, 27, 28, 29, 30, 31, 32, 33, 34, 35, 36, 37, 38, 39, 40, 41, 42, 43, 44, 45, 46, 47, 48, 49, 60, 61, 62, 63, 64, 65, 66, 67, 68, 69, 70, 71, 72, 73, 74] (by decide +kernel) (by decide +kernel)
set_option maxRecDepth 20000 in
theorem gX6_nextOf_X6_suspectsNow : GoodIn wsX6_nextOf (wsV RX6 144 RX6 yX6_suspectsNow wsX6_suspectsNow) := goodIn_app (goodIn_of _ (by decide +kernel)) ggX6_nextOf_X6_suspectsNow
set_option maxRecDepth 20000 in
theorem ggX6_nextOf_X6_has : GoodIn wsX6_nextOf wsX6_has := goodIn_r _ [52] (by decide +kernel) (by decide +kernel)
set_option maxRecDepth 20000 in
theorem gX6_nextOf_X6_has : GoodIn wsX6_nextOf (va_wsS RX6 42 yX6_has wsX6_has) := goodIn_app (goodIn_of _ (by decide +kernel)) ggX6_nextOf_X6_has
set_option maxRecDepth 20000 in
theorem ggX6_nextOf_X6_below : GoodIn wsX6_nextOf wsX6_below := goodIn_r _ [56, 1, 24, 25, 26, 5, 27, 50, 51, 52, 60, 61, 62, 63, 64, 65, 66, 67, 68, 69, 70, 71, 72, 73, 74] (by decide +kernel) (by decide +kernel)
set_option maxRecDepth 20000 in
theorem gX6_nextOf_X6_below : GoodIn wsX6_nextOf (wsV RX6 68 RX6 yX6_below wsX6_below) := goodIn_app (goodIn_of _ (by decide +kernel)) ggX6_nextOf_X6_below
set_option maxRecDepth 20000 in
theorem ggX6_nextOf_X6_ones : GoodIn wsX6_nextOf wsX6_ones := goodIn_r _ [59, 50, 51, 5, 52] (by decide +kernel) (by decide +kernel)
set_option maxRecDepth 20000 in
theorem gX6_nextOf_X6_ones : GoodIn wsX6_nextOf (va_wsS RX6 147 yX6_ones wsX6_ones) := goodIn_app (goodIn_of _ (by decide +kernel)) ggX6_nextOf_X6_ones
theorem dX6_nextOf_0 : decode cX6_nextOf 0 = .ok (.aload_n 0, 1) := by decide +kernel
theorem dX6_nextOf_1 : decode cX6_nextOf 1 = .ok (.invokevirtual 144, 3) := by decide +kernel
theorem dX6_nextOf_4 : decode cX6_nextOf 4 = .ok (.istore_n 2, 1) := by decide +kernel
theorem dX6_nextOf_5 : decode cX6_nextOf 5 = .ok (.iconst (-1), 1) := by decide +kernel
theorem dX6_nextOf_6 : decode cX6_nextOf 6 = .ok (.istore_n 3, 1) := by decide +kernel
theorem dX6_nextOf_7 : decode cX6_nextOf 7 = .ok (.bipush 11, 2) := by decide +kernel
theorem dX6_nextOf_9 : decode cX6_nextOf 9 = .ok (.istore 4, 2) := by decide +kernel
theorem dX6_nextOf_11 : decode cX6_nextOf 11 = .ok (.iconst 0, 1) := by decide +kernel
theorem dX6_nextOf_12 : decode cX6_nextOf 12 = .ok (.istore 5, 2) := by decide +kernel
theorem dX6_nextOf_14 : decode cX6_nextOf 14 = .ok (.iload 5, 2) := by decide +kernel
theorem dX6_nextOf_16 : decode cX6_nextOf 16 = .ok (.aload_n 0, 1) := by decide +kernel
theorem dX6_nextOf_17 : decode cX6_nextOf 17 = .ok (.getfield 7, 3) := by decide +kernel
theorem dX6_nextOf_20 : decode cX6_nextOf 20 = .ok (.iconst 0, 1) := by decide +kernel
theorem dX6_nextOf_21 : decode cX6_nextOf 21 = .ok (.iaload, 1) := by decide +kernel
theorem dX6_nextOf_22 : decode cX6_nextOf 22 = .ok (.if_icmp .ge 120, 3) := by decide +kernel
theorem dX6_nextOf_25 : decode cX6_nextOf 25 = .ok (.iconst 0, 1) := by decide +kernel
theorem dX6_nextOf_26 : decode cX6_nextOf 26 = .ok (.istore 6, 2) := by decide +kernel
theorem dX6_nextOf_28 : decode cX6_nextOf 28 = .ok (.iconst 0, 1) := by decide +kernel
theorem dX6_nextOf_29 : decode cX6_nextOf 29 = .ok (.istore 7, 2) := by decide +kernel
theorem dX6_nextOf_31 : decode cX6_nextOf 31 = .ok (.iload 7, 2) := by decide +kernel
theorem dX6_nextOf_33 : decode cX6_nextOf 33 = .ok (.aload_n 0, 1) := by decide +kernel
theorem dX6_nextOf_34 : decode cX6_nextOf 34 = .ok (.getfield 7, 3) := by decide +kernel
theorem dX6_nextOf_37 : decode cX6_nextOf 37 = .ok (.iconst 0, 1) := by decide +kernel
theorem dX6_nextOf_38 : decode cX6_nextOf 38 = .ok (.iaload, 1) := by decide +kernel
theorem dX6_nextOf_39 : decode cX6_nextOf 39 = .ok (.if_icmp .ge 42, 3) := by decide +kernel
theorem dX6_nextOf_42 : decode cX6_nextOf 42 = .ok (.iload 6, 2) := by decide +kernel
theorem dX6_nextOf_44 : decode cX6_nextOf 44 = .ok (.iload_n 2, 1) := by decide +kernel
theorem dX6_nextOf_45 : decode cX6_nextOf 45 = .ok (.iload 7, 2) := by decide +kernel
theorem dX6_nextOf_47 : decode cX6_nextOf 47 = .ok (.invokestatic 42, 3) := by decide +kernel
theorem dX6_nextOf_50 : decode cX6_nextOf 50 = .ok (.ifCond .eq 21, 3) := by decide +kernel
theorem dX6_nextOf_53 : decode cX6_nextOf 53 = .ok (.aload_n 0, 1) := by decide +kernel
theorem dX6_nextOf_54 : decode cX6_nextOf 54 = .ok (.iload 7, 2) := by decide +kernel
theorem dX6_nextOf_56 : decode cX6_nextOf 56 = .ok (.invokevirtual 68, 3) := by decide +kernel
theorem dX6_nextOf_59 : decode cX6_nextOf 59 = .ok (.iload 5, 2) := by decide +kernel
theorem dX6_nextOf_61 : decode cX6_nextOf 61 = .ok (.invokestatic 42, 3) := by decide +kernel
theorem dX6_nextOf_64 : decode cX6_nextOf 64 = .ok (.ifCond .eq 7, 3) := by decide +kernel
theorem dX6_nextOf_67 : decode cX6_nextOf 67 = .ok (.iconst 1, 1) := by decide +kernel
theorem dX6_nextOf_68 : decode cX6_nextOf 68 = .ok (.goto 4, 3) := by decide +kernel
theorem dX6_nextOf_71 : decode cX6_nextOf 71 = .ok (.iconst 0, 1) := by decide +kernel
theorem dX6_nextOf_72 : decode cX6_nextOf 72 = .ok (.iadd, 1) := by decide +kernel
theorem dX6_nextOf_73 : decode cX6_nextOf 73 = .ok (.istore 6, 2) := by decide +kernel
theorem dX6_nextOf_75 : decode cX6_nextOf 75 = .ok (.iinc 7 1, 3) := by decide +kernel
theorem dX6_nextOf_78 : decode cX6_nextOf 78 = .ok (.goto (-47), 3) := by decide +kernel
theorem dX6_nextOf_81 : decode cX6_nextOf 81 = .ok (.iload_n 2, 1) := by decide +kernel
theorem dX6_nextOf_82 : decode cX6_nextOf 82 = .ok (.invokestatic 147, 3) := by decide +kernel
theorem dX6_nextOf_85 : decode cX6_nextOf 85 = .ok (.iload 6, 2) := by decide +kernel
theorem dX6_nextOf_87 : decode cX6_nextOf 87 = .ok (.isub, 1) := by decide +kernel
theorem dX6_nextOf_88 : decode cX6_nextOf 88 = .ok (.istore 7, 2) := by decide +kernel
theorem dX6_nextOf_90 : decode cX6_nextOf 90 = .ok (.iload 6, 2) := by decide +kernel
theorem dX6_nextOf_92 : decode cX6_nextOf 92 = .ok (.iload 7, 2) := by decide +kernel
theorem dX6_nextOf_94 : decode cX6_nextOf 94 = .ok (.if_icmp .le 8, 3) := by decide +kernel
theorem dX6_nextOf_97 : decode cX6_nextOf 97 = .ok (.iload 6, 2) := by decide +kernel
theorem dX6_nextOf_99 : decode cX6_nextOf 99 = .ok (.goto 5, 3) := by decide +kernel
theorem dX6_nextOf_102 : decode cX6_nextOf 102 = .ok (.iload 7, 2) := by decide +kernel
theorem dX6_nextOf_104 : decode cX6_nextOf 104 = .ok (.istore 8, 2) := by decide +kernel
theorem dX6_nextOf_106 : decode cX6_nextOf 106 = .ok (.iload 8, 2) := by decide +kernel
theorem dX6_nextOf_108 : decode cX6_nextOf 108 = .ok (.iload 4, 2) := by decide +kernel
theorem dX6_nextOf_110 : decode cX6_nextOf 110 = .ok (.if_icmp .ge 8, 3) := by decide +kernel
theorem dX6_nextOf_113 : decode cX6_nextOf 113 = .ok (.iload 5, 2) := by decide +kernel
theorem dX6_nextOf_115 : decode cX6_nextOf 115 = .ok (.goto 4, 3) := by decide +kernel
theorem dX6_nextOf_118 : decode cX6_nextOf 118 = .ok (.iload_n 3, 1) := by decide +kernel
theorem dX6_nextOf_119 : decode cX6_nextOf 119 = .ok (.istore_n 3, 1) := by decide +kernel
theorem dX6_nextOf_120 : decode cX6_nextOf 120 = .ok (.iload 8, 2) := by decide +kernel
theorem dX6_nextOf_122 : decode cX6_nextOf 122 = .ok (.iload 4, 2) := by decide +kernel
theorem dX6_nextOf_124 : decode cX6_nextOf 124 = .ok (.if_icmp .ge 8, 3) := by decide +kernel
theorem dX6_nextOf_127 : decode cX6_nextOf 127 = .ok (.iload 8, 2) := by decide +kernel
theorem dX6_nextOf_129 : decode cX6_nextOf 129 = .ok (.goto 5, 3) := by decide +kernel
theorem dX6_nextOf_132 : decode cX6_nextOf 132 = .ok (.iload 4, 2) := by decide +kernel
theorem dX6_nextOf_134 : decode cX6_nextOf 134 = .ok (.istore 4, 2) := by decide +kernel
theorem dX6_nextOf_136 : decode cX6_nextOf 136 = .ok (.iinc 5 1, 3) := by decide +kernel
theorem dX6_nextOf_139 : decode cX6_nextOf 139 = .ok (.goto (-125), 3) := by decide +kernel
theorem dX6_nextOf_142 : decode cX6_nextOf 142 = .ok (.iload_n 1, 1) := by decide +kernel
theorem dX6_nextOf_143 : decode cX6_nextOf 143 = .ok (.ifCond .eq 8, 3) := by decide +kernel
theorem dX6_nextOf_146 : decode cX6_nextOf 146 = .ok (.iload_n 3, 1) := by decide +kernel
theorem dX6_nextOf_147 : decode cX6_nextOf 147 = .ok (.iconst (-1), 1) := by decide +kernel
theorem dX6_nextOf_148 : decode cX6_nextOf 148 = .ok (.if_icmp .ne 7, 3) := by decide +kernel
theorem dX6_nextOf_151 : decode cX6_nextOf 151 = .ok (.iload_n 3, 1) := by decide +kernel
theorem dX6_nextOf_152 : decode cX6_nextOf 152 = .ok (.goto 5, 3) := by decide +kernel
theorem dX6_nextOf_155 : decode cX6_nextOf 155 = .ok (.iload 4, 2) := by decide +kernel
theorem dX6_nextOf_157 : decode cX6_nextOf 157 = .ok (.ireturn, 1) := by decide +kernel
set_option maxRecDepth 20000 in
theorem ggX6_next_X6_in : GoodIn wsX6_next wsX6_in := goodIn_r _ [4] (by decide +kernel) (by decide +kernel)
set_option maxRecDepth 20000 in
theorem gX6_next_X6_in : GoodIn wsX6_next (va_wsS RX6 53 yX6_in wsX6_in) := goodIn_app (goodIn_of _ (by decide +kernel)) ggX6_next_X6_in
set_option maxRecDepth 20000 in
theorem ggX6_next_X6_nextOf : GoodIn wsX6_next wsX6_nextOf := goodIn_r _ [8, 9, 10, 11, 12, 3, 13, 14, 15, 16, 17, 18, 19, 20, 21, 22, 23, 24, 25, 26, 27, 28, 29, 30, 31, 32, 33, 34, 35, 36, 37, 38, 39, 40, 41, 42, 43, 44, 45, 46, 47, 48, 49, 50, 51, 52, 53, 54, 55, 56, 57, 58, 59, 60, 61, 62, 63, 64, 65, 66, 72, 73, 74, 75, 76, 77, 78, 79, 80, 81, 82, 83, 84, 85, 86] (by decide +kernel) (by decide +kernel)
set_option maxRecDepth 20000 in
theorem gX6_next_X6_nextOf : GoodIn wsX6_next (wsV RX6 150 RX6 yX6_nextOf wsX6_nextOf) := goodIn_app (goodIn_of _ (by decide +kernel)) ggX6_next_X6_nextOf
set_option maxRecDepth 20000 in
theorem ggX6_next_X6_refuses : GoodIn wsX6_next wsX6_refuses := goodIn_r _ [70, 71, 72, 73, 74, 75, 76, 77, 78, 79, 80, 81, 82, 83, 84, 85, 86] (by decide +kernel) (by decide +kernel)
set_option maxRecDepth 20000 in
theorem gX6_next_X6_refuses : GoodIn wsX6_next (wsV RX6 46 RX6 yX6_refuses wsX6_refuses) := goodIn_app (goodIn_of _ (by decide +kernel)) ggX6_next_X6_refuses
theorem dX6_next_0 : decode cX6_next 0 = .ok (.iload_n 1, 1) := by decide +kernel
theorem dX6_next_1 : decode cX6_next 1 = .ok (.iconst 0, 1) := by decide +kernel
theorem dX6_next_2 : decode cX6_next 2 = .ok (.iconst 1, 1) := by decide +kernel
theorem dX6_next_3 : decode cX6_next 3 = .ok (.invokestatic 53, 3) := by decide +kernel
theorem dX6_next_6 : decode cX6_next 6 = .ok (.ifCond .eq 11, 3) := by decide +kernel
theorem dX6_next_9 : decode cX6_next 9 = .ok (.aload_n 0, 1) := by decide +kernel
theorem dX6_next_10 : decode cX6_next 10 = .ok (.iload_n 1, 1) := by decide +kernel
theorem dX6_next_11 : decode cX6_next 11 = .ok (.invokevirtual 150, 3) := by decide +kernel
theorem dX6_next_14 : decode cX6_next 14 = .ok (.goto 9, 3) := by decide +kernel
theorem dX6_next_17 : decode cX6_next 17 = .ok (.aload_n 0, 1) := by decide +kernel
theorem dX6_next_18 : decode cX6_next 18 = .ok (.bipush (-2), 2) := by decide +kernel
theorem dX6_next_20 : decode cX6_next 20 = .ok (.invokevirtual 46, 3) := by decide +kernel
theorem dX6_next_23 : decode cX6_next 23 = .ok (.ireturn, 1) := by decide +kernel
set_option maxRecDepth 20000 in
theorem ggX6_findBelows_X6_below : GoodIn wsX6_findBelows wsX6_below := goodIn_r _ [7, 1, 8, 9, 10, 6, 11, 12, 13, 14, 15, 16, 17, 18, 19, 20, 21, 22, 23, 24, 25, 26, 27, 28, 29] (by decide +kernel) (by decide +kernel)
set_option maxRecDepth 20000 in
theorem gX6_findBelows_X6_below : GoodIn wsX6_findBelows (wsV RX6 68 RX6 yX6_below wsX6_below) := goodIn_app (goodIn_of _ (by decide +kernel)) ggX6_findBelows_X6_below
theorem dX6_findBelows_0 : decode cX6_findBelows 0 = .ok (.iconst 0, 1) := by decide +kernel
theorem dX6_findBelows_1 : decode cX6_findBelows 1 = .ok (.istore_n 1, 1) := by decide +kernel
theorem dX6_findBelows_2 : decode cX6_findBelows 2 = .ok (.iload_n 1, 1) := by decide +kernel
theorem dX6_findBelows_3 : decode cX6_findBelows 3 = .ok (.aload_n 0, 1) := by decide +kernel
theorem dX6_findBelows_4 : decode cX6_findBelows 4 = .ok (.getfield 7, 3) := by decide +kernel
theorem dX6_findBelows_7 : decode cX6_findBelows 7 = .ok (.iconst 0, 1) := by decide +kernel
theorem dX6_findBelows_8 : decode cX6_findBelows 8 = .ok (.iaload, 1) := by decide +kernel
theorem dX6_findBelows_9 : decode cX6_findBelows 9 = .ok (.if_icmp .ge 20, 3) := by decide +kernel
theorem dX6_findBelows_12 : decode cX6_findBelows 12 = .ok (.aload_n 0, 1) := by decide +kernel
theorem dX6_findBelows_13 : decode cX6_findBelows 13 = .ok (.getfield 26, 3) := by decide +kernel
theorem dX6_findBelows_16 : decode cX6_findBelows 16 = .ok (.iload_n 1, 1) := by decide +kernel
theorem dX6_findBelows_17 : decode cX6_findBelows 17 = .ok (.aload_n 0, 1) := by decide +kernel
theorem dX6_findBelows_18 : decode cX6_findBelows 18 = .ok (.iload_n 1, 1) := by decide +kernel
theorem dX6_findBelows_19 : decode cX6_findBelows 19 = .ok (.invokevirtual 68, 3) := by decide +kernel
theorem dX6_findBelows_22 : decode cX6_findBelows 22 = .ok (.iastore, 1) := by decide +kernel
theorem dX6_findBelows_23 : decode cX6_findBelows 23 = .ok (.iinc 1 1, 3) := by decide +kernel
theorem dX6_findBelows_26 : decode cX6_findBelows 26 = .ok (.goto (-24), 3) := by decide +kernel
theorem dX6_findBelows_29 : decode cX6_findBelows 29 = .ok (.return_, 1) := by decide +kernel
theorem dX6_alikeBy_0 : decode cX6_alikeBy 0 = .ok (.iconst 0, 1) := by decide +kernel
theorem dX6_alikeBy_1 : decode cX6_alikeBy 1 = .ok (.istore_n 2, 1) := by decide +kernel
theorem dX6_alikeBy_2 : decode cX6_alikeBy 2 = .ok (.iconst 0, 1) := by decide +kernel
theorem dX6_alikeBy_3 : decode cX6_alikeBy 3 = .ok (.istore_n 3, 1) := by decide +kernel
theorem dX6_alikeBy_4 : decode cX6_alikeBy 4 = .ok (.iload_n 3, 1) := by decide +kernel
theorem dX6_alikeBy_5 : decode cX6_alikeBy 5 = .ok (.aload_n 0, 1) := by decide +kernel
theorem dX6_alikeBy_6 : decode cX6_alikeBy 6 = .ok (.getfield 7, 3) := by decide +kernel
theorem dX6_alikeBy_9 : decode cX6_alikeBy 9 = .ok (.iconst 0, 1) := by decide +kernel
theorem dX6_alikeBy_10 : decode cX6_alikeBy 10 = .ok (.iaload, 1) := by decide +kernel
theorem dX6_alikeBy_11 : decode cX6_alikeBy 11 = .ok (.if_icmp .ge 59, 3) := by decide +kernel
theorem dX6_alikeBy_14 : decode cX6_alikeBy 14 = .ok (.iload_n 3, 1) := by decide +kernel
theorem dX6_alikeBy_15 : decode cX6_alikeBy 15 = .ok (.iconst 1, 1) := by decide +kernel
theorem dX6_alikeBy_16 : decode cX6_alikeBy 16 = .ok (.iadd, 1) := by decide +kernel
theorem dX6_alikeBy_17 : decode cX6_alikeBy 17 = .ok (.istore 4, 2) := by decide +kernel
theorem dX6_alikeBy_19 : decode cX6_alikeBy 19 = .ok (.iload 4, 2) := by decide +kernel
theorem dX6_alikeBy_21 : decode cX6_alikeBy 21 = .ok (.aload_n 0, 1) := by decide +kernel
theorem dX6_alikeBy_22 : decode cX6_alikeBy 22 = .ok (.getfield 7, 3) := by decide +kernel
theorem dX6_alikeBy_25 : decode cX6_alikeBy 25 = .ok (.iconst 0, 1) := by decide +kernel
theorem dX6_alikeBy_26 : decode cX6_alikeBy 26 = .ok (.iaload, 1) := by decide +kernel
theorem dX6_alikeBy_27 : decode cX6_alikeBy 27 = .ok (.if_icmp .ge 37, 3) := by decide +kernel
theorem dX6_alikeBy_30 : decode cX6_alikeBy 30 = .ok (.iload_n 2, 1) := by decide +kernel
theorem dX6_alikeBy_31 : decode cX6_alikeBy 31 = .ok (.aload_n 0, 1) := by decide +kernel
theorem dX6_alikeBy_32 : decode cX6_alikeBy 32 = .ok (.getfield 26, 3) := by decide +kernel
theorem dX6_alikeBy_35 : decode cX6_alikeBy 35 = .ok (.iload_n 3, 1) := by decide +kernel
theorem dX6_alikeBy_36 : decode cX6_alikeBy 36 = .ok (.iaload, 1) := by decide +kernel
theorem dX6_alikeBy_37 : decode cX6_alikeBy 37 = .ok (.iload_n 1, 1) := by decide +kernel
theorem dX6_alikeBy_38 : decode cX6_alikeBy 38 = .ok (.iand, 1) := by decide +kernel
theorem dX6_alikeBy_39 : decode cX6_alikeBy 39 = .ok (.aload_n 0, 1) := by decide +kernel
theorem dX6_alikeBy_40 : decode cX6_alikeBy 40 = .ok (.getfield 26, 3) := by decide +kernel
theorem dX6_alikeBy_43 : decode cX6_alikeBy 43 = .ok (.iload 4, 2) := by decide +kernel
theorem dX6_alikeBy_45 : decode cX6_alikeBy 45 = .ok (.iaload, 1) := by decide +kernel
theorem dX6_alikeBy_46 : decode cX6_alikeBy 46 = .ok (.iload_n 1, 1) := by decide +kernel
theorem dX6_alikeBy_47 : decode cX6_alikeBy 47 = .ok (.iand, 1) := by decide +kernel
theorem dX6_alikeBy_48 : decode cX6_alikeBy 48 = .ok (.if_icmp .ne 7, 3) := by decide +kernel
theorem dX6_alikeBy_51 : decode cX6_alikeBy 51 = .ok (.iconst 1, 1) := by decide +kernel
theorem dX6_alikeBy_52 : decode cX6_alikeBy 52 = .ok (.goto 4, 3) := by decide +kernel
theorem dX6_alikeBy_55 : decode cX6_alikeBy 55 = .ok (.iconst 0, 1) := by decide +kernel
theorem dX6_alikeBy_56 : decode cX6_alikeBy 56 = .ok (.iadd, 1) := by decide +kernel
theorem dX6_alikeBy_57 : decode cX6_alikeBy 57 = .ok (.istore_n 2, 1) := by decide +kernel
theorem dX6_alikeBy_58 : decode cX6_alikeBy 58 = .ok (.iinc 4 1, 3) := by decide +kernel
theorem dX6_alikeBy_61 : decode cX6_alikeBy 61 = .ok (.goto (-42), 3) := by decide +kernel
theorem dX6_alikeBy_64 : decode cX6_alikeBy 64 = .ok (.iinc 3 1, 3) := by decide +kernel
theorem dX6_alikeBy_67 : decode cX6_alikeBy 67 = .ok (.goto (-63), 3) := by decide +kernel
theorem dX6_alikeBy_70 : decode cX6_alikeBy 70 = .ok (.iload_n 2, 1) := by decide +kernel
theorem dX6_alikeBy_71 : decode cX6_alikeBy 71 = .ok (.ireturn, 1) := by decide +kernel
set_option maxRecDepth 20000 in
theorem ggX6_alike_X6_in : GoodIn wsX6_alike wsX6_in := goodIn_r _ [5] (by decide +kernel) (by decide +kernel)
set_option maxRecDepth 20000 in
theorem gX6_alike_X6_in : GoodIn wsX6_alike (va_wsS RX6 53 yX6_in wsX6_in) := goodIn_app (goodIn_of _ (by decide +kernel)) ggX6_alike_X6_in
set_option maxRecDepth 20000 in
theorem ggX6_alike_X6_refuses : GoodIn wsX6_alike wsX6_refuses := goodIn_r _ [9, 10, 31, 32, 33, 34, 35, 36, 37, 38, 39, 40, 41, 42, 43, 44, 45] (by decide +kernel) (by decide +kernel)
set_option maxRecDepth 20000 in
theorem gX6_alike_X6_refuses : GoodIn wsX6_alike (wsV RX6 46 RX6 yX6_refuses wsX6_refuses) := goodIn_app (goodIn_of _ (by decide +kernel)) ggX6_alike_X6_refuses
set_option maxRecDepth 20000 in
theorem ggX6_alike_X6_findBelows : GoodIn wsX6_alike wsX6_findBelows := goodIn_r _ [14, 1, 15, 16, 17, 18, 4, 19, 20, 21, 22, 23, 24, 25, 26, 31, 32, 33, 34, 35, 36, 37, 38, 39, 40, 41, 42, 43, 44, 45] (by decide +kernel) (by decide +kernel)
set_option maxRecDepth 20000 in
theorem gX6_alike_X6_findBelows : GoodIn wsX6_alike (wsV RX6 153 RX6 yX6_findBelows wsX6_findBelows) := goodIn_app (goodIn_of _ (by decide +kernel)) ggX6_alike_X6_findBelows
set_option maxRecDepth 20000 in
theorem ggX6_alike_X6_alikeBy : GoodIn wsX6_alike wsX6_alikeBy := goodIn_r _ [30, 1, 15, 31, 32, 33, 34, 35, 36, 37, 38, 39, 40, 41, 42, 43, 44, 45] (by decide +kernel) (by decide +kernel)
set_option maxRecDepth 20000 in
theorem gX6_alike_X6_alikeBy : GoodIn wsX6_alike (wsV RX6 156 RX6 yX6_alikeBy wsX6_alikeBy) := goodIn_app (goodIn_of _ (by decide +kernel)) ggX6_alike_X6_alikeBy
theorem dX6_alike_0 : decode cX6_alike 0 = .ok (.iload_n 1, 1) := by decide +kernel
theorem dX6_alike_1 : decode cX6_alike 1 = .ok (.iconst 0, 1) := by decide +kernel
theorem dX6_alike_2 : decode cX6_alike 2 = .ok (.iconst 1, 1) := by decide +kernel
theorem dX6_alike_3 : decode cX6_alike 3 = .ok (.aload_n 0, 1) := by decide +kernel
theorem dX6_alike_4 : decode cX6_alike 4 = .ok (.getfield 7, 3) := by decide +kernel
theorem dX6_alike_7 : decode cX6_alike 7 = .ok (.iconst 0, 1) := by decide +kernel
theorem dX6_alike_8 : decode cX6_alike 8 = .ok (.iaload, 1) := by decide +kernel
theorem dX6_alike_9 : decode cX6_alike 9 = .ok (.ishl, 1) := by decide +kernel
theorem dX6_alike_10 : decode cX6_alike 10 = .ok (.iconst 1, 1) := by decide +kernel
theorem dX6_alike_11 : decode cX6_alike 11 = .ok (.isub, 1) := by decide +kernel
theorem dX6_alike_12 : decode cX6_alike 12 = .ok (.invokestatic 53, 3) := by decide +kernel
theorem dX6_alike_15 : decode cX6_alike 15 = .ok (.ifCond .ne 10, 3) := by decide +kernel
theorem dX6_alike_18 : decode cX6_alike 18 = .ok (.aload_n 0, 1) := by decide +kernel
theorem dX6_alike_19 : decode cX6_alike 19 = .ok (.bipush (-2), 2) := by decide +kernel
theorem dX6_alike_21 : decode cX6_alike 21 = .ok (.invokevirtual 46, 3) := by decide +kernel
theorem dX6_alike_24 : decode cX6_alike 24 = .ok (.ireturn, 1) := by decide +kernel
theorem dX6_alike_25 : decode cX6_alike 25 = .ok (.aload_n 0, 1) := by decide +kernel
theorem dX6_alike_26 : decode cX6_alike 26 = .ok (.invokevirtual 153, 3) := by decide +kernel
theorem dX6_alike_29 : decode cX6_alike 29 = .ok (.aload_n 0, 1) := by decide +kernel
theorem dX6_alike_30 : decode cX6_alike 30 = .ok (.iload_n 1, 1) := by decide +kernel
theorem dX6_alike_31 : decode cX6_alike 31 = .ok (.invokevirtual 156, 3) := by decide +kernel
theorem dX6_alike_34 : decode cX6_alike 34 = .ok (.ireturn, 1) := by decide +kernel
set_option maxRecDepth 20000 in
theorem ggX6_sensorsOf_X6_findBelows : GoodIn wsX6_sensorsOf wsX6_findBelows := goodIn_r _ [6, 1, 7, 8, 9, 10, 5, 11, 12, 13, 14, 15, 16, 17, 18, 26, 27, 28, 29, 30, 31, 32, 33, 34, 35, 36, 37, 38, 39, 40] (by decide +kernel) (by decide +kernel)
set_option maxRecDepth 20000 in
theorem gX6_sensorsOf_X6_findBelows : GoodIn wsX6_sensorsOf (wsV RX6 153 RX6 yX6_findBelows wsX6_findBelows) := goodIn_app (goodIn_of _ (by decide +kernel)) ggX6_sensorsOf_X6_findBelows
set_option maxRecDepth 20000 in
theorem ggX6_sensorsOf_X6_ones : GoodIn wsX6_sensorsOf wsX6_ones := goodIn_r _ [21, 16, 17, 5, 18] (by decide +kernel) (by decide +kernel)
set_option maxRecDepth 20000 in
theorem gX6_sensorsOf_X6_ones : GoodIn wsX6_sensorsOf (va_wsS RX6 147 yX6_ones wsX6_ones) := goodIn_app (goodIn_of _ (by decide +kernel)) ggX6_sensorsOf_X6_ones
set_option maxRecDepth 20000 in
theorem ggX6_sensorsOf_X6_alikeBy : GoodIn wsX6_sensorsOf wsX6_alikeBy := goodIn_r _ [25, 1, 7, 26, 27, 28, 29, 30, 31, 32, 33, 34, 35, 36, 37, 38, 39, 40] (by decide +kernel) (by decide +kernel)
set_option maxRecDepth 20000 in
theorem gX6_sensorsOf_X6_alikeBy : GoodIn wsX6_sensorsOf (wsV RX6 156 RX6 yX6_alikeBy wsX6_alikeBy) := goodIn_app (goodIn_of _ (by decide +kernel)) ggX6_sensorsOf_X6_alikeBy
theorem dX6_sensorsOf_0 : decode cX6_sensorsOf 0 = .ok (.aload_n 0, 1) := by decide +kernel
theorem dX6_sensorsOf_1 : decode cX6_sensorsOf 1 = .ok (.invokevirtual 153, 3) := by decide +kernel
theorem dX6_sensorsOf_4 : decode cX6_sensorsOf 4 = .ok (.iconst (-1), 1) := by decide +kernel
theorem dX6_sensorsOf_5 : decode cX6_sensorsOf 5 = .ok (.istore_n 2, 1) := by decide +kernel
theorem dX6_sensorsOf_6 : decode cX6_sensorsOf 6 = .ok (.bipush 11, 2) := by decide +kernel
theorem dX6_sensorsOf_8 : decode cX6_sensorsOf 8 = .ok (.istore_n 3, 1) := by decide +kernel
theorem dX6_sensorsOf_9 : decode cX6_sensorsOf 9 = .ok (.iconst 0, 1) := by decide +kernel
theorem dX6_sensorsOf_10 : decode cX6_sensorsOf 10 = .ok (.istore 4, 2) := by decide +kernel
theorem dX6_sensorsOf_12 : decode cX6_sensorsOf 12 = .ok (.iload 4, 2) := by decide +kernel
theorem dX6_sensorsOf_14 : decode cX6_sensorsOf 14 = .ok (.iconst 1, 1) := by decide +kernel
theorem dX6_sensorsOf_15 : decode cX6_sensorsOf 15 = .ok (.aload_n 0, 1) := by decide +kernel
theorem dX6_sensorsOf_16 : decode cX6_sensorsOf 16 = .ok (.getfield 7, 3) := by decide +kernel
theorem dX6_sensorsOf_19 : decode cX6_sensorsOf 19 = .ok (.iconst 0, 1) := by decide +kernel
theorem dX6_sensorsOf_20 : decode cX6_sensorsOf 20 = .ok (.iaload, 1) := by decide +kernel
theorem dX6_sensorsOf_21 : decode cX6_sensorsOf 21 = .ok (.ishl, 1) := by decide +kernel
theorem dX6_sensorsOf_22 : decode cX6_sensorsOf 22 = .ok (.if_icmp .ge 36, 3) := by decide +kernel
theorem dX6_sensorsOf_25 : decode cX6_sensorsOf 25 = .ok (.iload 4, 2) := by decide +kernel
theorem dX6_sensorsOf_27 : decode cX6_sensorsOf 27 = .ok (.invokestatic 147, 3) := by decide +kernel
theorem dX6_sensorsOf_30 : decode cX6_sensorsOf 30 = .ok (.iload_n 3, 1) := by decide +kernel
theorem dX6_sensorsOf_31 : decode cX6_sensorsOf 31 = .ok (.if_icmp .ge 21, 3) := by decide +kernel
theorem dX6_sensorsOf_34 : decode cX6_sensorsOf 34 = .ok (.aload_n 0, 1) := by decide +kernel
theorem dX6_sensorsOf_35 : decode cX6_sensorsOf 35 = .ok (.iload 4, 2) := by decide +kernel
theorem dX6_sensorsOf_37 : decode cX6_sensorsOf 37 = .ok (.invokevirtual 156, 3) := by decide +kernel
theorem dX6_sensorsOf_40 : decode cX6_sensorsOf 40 = .ok (.ifCond .ne 12, 3) := by decide +kernel
theorem dX6_sensorsOf_43 : decode cX6_sensorsOf 43 = .ok (.iload 4, 2) := by decide +kernel
theorem dX6_sensorsOf_45 : decode cX6_sensorsOf 45 = .ok (.istore_n 2, 1) := by decide +kernel
theorem dX6_sensorsOf_46 : decode cX6_sensorsOf 46 = .ok (.iload 4, 2) := by decide +kernel
theorem dX6_sensorsOf_48 : decode cX6_sensorsOf 48 = .ok (.invokestatic 147, 3) := by decide +kernel
theorem dX6_sensorsOf_51 : decode cX6_sensorsOf 51 = .ok (.istore_n 3, 1) := by decide +kernel
theorem dX6_sensorsOf_52 : decode cX6_sensorsOf 52 = .ok (.iinc 4 1, 3) := by decide +kernel
theorem dX6_sensorsOf_55 : decode cX6_sensorsOf 55 = .ok (.goto (-43), 3) := by decide +kernel
theorem dX6_sensorsOf_58 : decode cX6_sensorsOf 58 = .ok (.iload_n 1, 1) := by decide +kernel
theorem dX6_sensorsOf_59 : decode cX6_sensorsOf 59 = .ok (.ifCond .eq 8, 3) := by decide +kernel
theorem dX6_sensorsOf_62 : decode cX6_sensorsOf 62 = .ok (.iload_n 2, 1) := by decide +kernel
theorem dX6_sensorsOf_63 : decode cX6_sensorsOf 63 = .ok (.iconst (-1), 1) := by decide +kernel
theorem dX6_sensorsOf_64 : decode cX6_sensorsOf 64 = .ok (.if_icmp .ne 7, 3) := by decide +kernel
theorem dX6_sensorsOf_67 : decode cX6_sensorsOf 67 = .ok (.iload_n 2, 1) := by decide +kernel
theorem dX6_sensorsOf_68 : decode cX6_sensorsOf 68 = .ok (.goto 4, 3) := by decide +kernel
theorem dX6_sensorsOf_71 : decode cX6_sensorsOf 71 = .ok (.iload_n 3, 1) := by decide +kernel
theorem dX6_sensorsOf_72 : decode cX6_sensorsOf 72 = .ok (.ireturn, 1) := by decide +kernel
set_option maxRecDepth 20000 in
theorem ggX6_sensors_X6_in : GoodIn wsX6_sensors wsX6_in := goodIn_r _ [4] (by decide +kernel) (by decide +kernel)
set_option maxRecDepth 20000 in
theorem gX6_sensors_X6_in : GoodIn wsX6_sensors (va_wsS RX6 53 yX6_in wsX6_in) := goodIn_app (goodIn_of _ (by decide +kernel)) ggX6_sensors_X6_in
set_option maxRecDepth 20000 in
theorem ggX6_sensors_X6_sensorsOf : GoodIn wsX6_sensors wsX6_sensorsOf := goodIn_r _ [8, 9, 10, 11, 12, 3, 13, 14, 15, 16, 17, 18, 19, 20, 21, 22, 23, 24, 25, 26, 27, 28, 29, 30, 31, 32, 38, 39, 40, 41, 42, 43, 44, 45, 46, 47, 48, 49, 50, 51, 52] (by decide +kernel) (by decide +kernel)
set_option maxRecDepth 20000 in
theorem gX6_sensors_X6_sensorsOf : GoodIn wsX6_sensors (wsV RX6 159 RX6 yX6_sensorsOf wsX6_sensorsOf) := goodIn_app (goodIn_of _ (by decide +kernel)) ggX6_sensors_X6_sensorsOf
set_option maxRecDepth 20000 in
theorem ggX6_sensors_X6_refuses : GoodIn wsX6_sensors wsX6_refuses := goodIn_r _ [36, 37, 38, 39, 40, 41, 42, 43, 44, 45, 46, 47, 48, 49, 50, 51, 52] (by decide +kernel) (by decide +kernel)
set_option maxRecDepth 20000 in
theorem gX6_sensors_X6_refuses : GoodIn wsX6_sensors (wsV RX6 46 RX6 yX6_refuses wsX6_refuses) := goodIn_app (goodIn_of _ (by decide +kernel)) ggX6_sensors_X6_refuses
theorem dX6_sensors_0 : decode cX6_sensors 0 = .ok (.iload_n 1, 1) := by decide +kernel
theorem dX6_sensors_1 : decode cX6_sensors 1 = .ok (.iconst 0, 1) := by decide +kernel
theorem dX6_sensors_2 : decode cX6_sensors 2 = .ok (.iconst 1, 1) := by decide +kernel
theorem dX6_sensors_3 : decode cX6_sensors 3 = .ok (.invokestatic 53, 3) := by decide +kernel
theorem dX6_sensors_6 : decode cX6_sensors 6 = .ok (.ifCond .eq 11, 3) := by decide +kernel
theorem dX6_sensors_9 : decode cX6_sensors 9 = .ok (.aload_n 0, 1) := by decide +kernel
theorem dX6_sensors_10 : decode cX6_sensors 10 = .ok (.iload_n 1, 1) := by decide +kernel
theorem dX6_sensors_11 : decode cX6_sensors 11 = .ok (.invokevirtual 159, 3) := by decide +kernel
theorem dX6_sensors_14 : decode cX6_sensors 14 = .ok (.goto 9, 3) := by decide +kernel
theorem dX6_sensors_17 : decode cX6_sensors 17 = .ok (.aload_n 0, 1) := by decide +kernel
theorem dX6_sensors_18 : decode cX6_sensors 18 = .ok (.bipush (-2), 2) := by decide +kernel
theorem dX6_sensors_20 : decode cX6_sensors 20 = .ok (.invokevirtual 46, 3) := by decide +kernel
theorem dX6_sensors_23 : decode cX6_sensors 23 = .ok (.ireturn, 1) := by decide +kernel
set_option maxRecDepth 20000 in
theorem ggX6_type_X6_in : GoodIn wsX6_type wsX6_in := goodIn_r _ [6] (by decide +kernel) (by decide +kernel)
set_option maxRecDepth 20000 in
theorem gX6_type_X6_in : GoodIn wsX6_type (va_wsS RX6 53 yX6_in wsX6_in) := goodIn_app (goodIn_of _ (by decide +kernel)) ggX6_type_X6_in
set_option maxRecDepth 20000 in
theorem ggX6_type_X6_refuses : GoodIn wsX6_type wsX6_refuses := goodIn_r _ [10, 11, 12, 13, 14, 15, 16, 17, 18, 19, 20, 21, 22, 23, 24, 25, 26] (by decide +kernel) (by decide +kernel)
set_option maxRecDepth 20000 in
theorem gX6_type_X6_refuses : GoodIn wsX6_type (wsV RX6 46 RX6 yX6_refuses wsX6_refuses) := goodIn_app (goodIn_of _ (by decide +kernel)) ggX6_type_X6_refuses
theorem dX6_type_0 : decode cX6_type 0 = .ok (.iload_n 1, 1) := by decide +kernel
theorem dX6_type_1 : decode cX6_type 1 = .ok (.iconst 0, 1) := by decide +kernel
theorem dX6_type_2 : decode cX6_type 2 = .ok (.bipush 127, 2) := by decide +kernel
theorem dX6_type_4 : decode cX6_type 4 = .ok (.invokestatic 53, 3) := by decide +kernel
theorem dX6_type_7 : decode cX6_type 7 = .ok (.ifCond .ne 10, 3) := by decide +kernel
theorem dX6_type_10 : decode cX6_type 10 = .ok (.aload_n 0, 1) := by decide +kernel
theorem dX6_type_11 : decode cX6_type 11 = .ok (.bipush (-2), 2) := by decide +kernel
theorem dX6_type_13 : decode cX6_type 13 = .ok (.invokevirtual 46, 3) := by decide +kernel
theorem dX6_type_16 : decode cX6_type 16 = .ok (.ireturn, 1) := by decide +kernel
theorem dX6_type_17 : decode cX6_type 17 = .ok (.aload_n 0, 1) := by decide +kernel
theorem dX6_type_18 : decode cX6_type 18 = .ok (.getfield 162, 3) := by decide +kernel
theorem dX6_type_21 : decode cX6_type 21 = .ok (.bipush 120, 2) := by decide +kernel
theorem dX6_type_23 : decode cX6_type 23 = .ok (.if_icmp .ne 10, 3) := by decide +kernel
theorem dX6_type_26 : decode cX6_type 26 = .ok (.aload_n 0, 1) := by decide +kernel
theorem dX6_type_27 : decode cX6_type 27 = .ok (.bipush (-4), 2) := by decide +kernel
theorem dX6_type_29 : decode cX6_type 29 = .ok (.invokevirtual 46, 3) := by decide +kernel
theorem dX6_type_32 : decode cX6_type 32 = .ok (.ireturn, 1) := by decide +kernel
theorem dX6_type_33 : decode cX6_type 33 = .ok (.aload_n 0, 1) := by decide +kernel
theorem dX6_type_34 : decode cX6_type 34 = .ok (.getfield 29, 3) := by decide +kernel
theorem dX6_type_37 : decode cX6_type 37 = .ok (.aload_n 0, 1) := by decide +kernel
theorem dX6_type_38 : decode cX6_type 38 = .ok (.getfield 162, 3) := by decide +kernel
theorem dX6_type_41 : decode cX6_type 41 = .ok (.iload_n 1, 1) := by decide +kernel
theorem dX6_type_42 : decode cX6_type 42 = .ok (.iastore, 1) := by decide +kernel
theorem dX6_type_43 : decode cX6_type 43 = .ok (.aload_n 0, 1) := by decide +kernel
theorem dX6_type_44 : decode cX6_type 44 = .ok (.dup, 1) := by decide +kernel
theorem dX6_type_45 : decode cX6_type 45 = .ok (.getfield 162, 3) := by decide +kernel
theorem dX6_type_48 : decode cX6_type 48 = .ok (.iconst 1, 1) := by decide +kernel
theorem dX6_type_49 : decode cX6_type 49 = .ok (.iadd, 1) := by decide +kernel
theorem dX6_type_50 : decode cX6_type 50 = .ok (.putfield 162, 3) := by decide +kernel
theorem dX6_type_53 : decode cX6_type 53 = .ok (.aload_n 0, 1) := by decide +kernel
theorem dX6_type_54 : decode cX6_type 54 = .ok (.getfield 162, 3) := by decide +kernel
theorem dX6_type_57 : decode cX6_type 57 = .ok (.ireturn, 1) := by decide +kernel
theorem dX6_clear_0 : decode cX6_clear 0 = .ok (.aload_n 0, 1) := by decide +kernel
theorem dX6_clear_1 : decode cX6_clear 1 = .ok (.getfield 162, 3) := by decide +kernel
theorem dX6_clear_4 : decode cX6_clear 4 = .ok (.istore_n 1, 1) := by decide +kernel
theorem dX6_clear_5 : decode cX6_clear 5 = .ok (.aload_n 0, 1) := by decide +kernel
theorem dX6_clear_6 : decode cX6_clear 6 = .ok (.iconst 0, 1) := by decide +kernel
theorem dX6_clear_7 : decode cX6_clear 7 = .ok (.putfield 162, 3) := by decide +kernel
theorem dX6_clear_10 : decode cX6_clear 10 = .ok (.iload_n 1, 1) := by decide +kernel
theorem dX6_clear_11 : decode cX6_clear 11 = .ok (.ireturn, 1) := by decide +kernel
theorem dX6_here_0 : decode cX6_here 0 = .ok (.aload_n 0, 1) := by decide +kernel
theorem dX6_here_1 : decode cX6_here 1 = .ok (.getfield 165, 3) := by decide +kernel
theorem dX6_here_4 : decode cX6_here 4 = .ok (.aload_n 0, 1) := by decide +kernel
theorem dX6_here_5 : decode cX6_here 5 = .ok (.getfield 162, 3) := by decide +kernel
theorem dX6_here_8 : decode cX6_here 8 = .ok (.if_icmp .ge 30, 3) := by decide +kernel
theorem dX6_here_11 : decode cX6_here 11 = .ok (.aload_n 0, 1) := by decide +kernel
theorem dX6_here_12 : decode cX6_here 12 = .ok (.getfield 29, 3) := by decide +kernel
theorem dX6_here_15 : decode cX6_here 15 = .ok (.aload_n 0, 1) := by decide +kernel
theorem dX6_here_16 : decode cX6_here 16 = .ok (.getfield 165, 3) := by decide +kernel
theorem dX6_here_19 : decode cX6_here 19 = .ok (.iaload, 1) := by decide +kernel
theorem dX6_here_20 : decode cX6_here 20 = .ok (.bipush 32, 2) := by decide +kernel
theorem dX6_here_22 : decode cX6_here 22 = .ok (.if_icmp .ne 16, 3) := by decide +kernel
theorem dX6_here_25 : decode cX6_here 25 = .ok (.aload_n 0, 1) := by decide +kernel
theorem dX6_here_26 : decode cX6_here 26 = .ok (.dup, 1) := by decide +kernel
theorem dX6_here_27 : decode cX6_here 27 = .ok (.getfield 165, 3) := by decide +kernel
theorem dX6_here_30 : decode cX6_here 30 = .ok (.iconst 1, 1) := by decide +kernel
theorem dX6_here_31 : decode cX6_here 31 = .ok (.iadd, 1) := by decide +kernel
theorem dX6_here_32 : decode cX6_here 32 = .ok (.putfield 165, 3) := by decide +kernel
theorem dX6_here_35 : decode cX6_here 35 = .ok (.goto (-35), 3) := by decide +kernel
theorem dX6_here_38 : decode cX6_here 38 = .ok (.aload_n 0, 1) := by decide +kernel
theorem dX6_here_39 : decode cX6_here 39 = .ok (.getfield 165, 3) := by decide +kernel
theorem dX6_here_42 : decode cX6_here 42 = .ok (.aload_n 0, 1) := by decide +kernel
theorem dX6_here_43 : decode cX6_here 43 = .ok (.getfield 162, 3) := by decide +kernel
theorem dX6_here_46 : decode cX6_here 46 = .ok (.if_icmp .ge 15, 3) := by decide +kernel
theorem dX6_here_49 : decode cX6_here 49 = .ok (.aload_n 0, 1) := by decide +kernel
theorem dX6_here_50 : decode cX6_here 50 = .ok (.getfield 29, 3) := by decide +kernel
theorem dX6_here_53 : decode cX6_here 53 = .ok (.aload_n 0, 1) := by decide +kernel
theorem dX6_here_54 : decode cX6_here 54 = .ok (.getfield 165, 3) := by decide +kernel
theorem dX6_here_57 : decode cX6_here 57 = .ok (.iaload, 1) := by decide +kernel
theorem dX6_here_58 : decode cX6_here 58 = .ok (.goto 4, 3) := by decide +kernel
theorem dX6_here_61 : decode cX6_here 61 = .ok (.iconst (-1), 1) := by decide +kernel
theorem dX6_here_62 : decode cX6_here 62 = .ok (.ireturn, 1) := by decide +kernel
theorem dX6_must_0 : decode cX6_must 0 = .ok (.aload_n 0, 1) := by decide +kernel
theorem dX6_must_1 : decode cX6_must 1 = .ok (.getfield 168, 3) := by decide +kernel
theorem dX6_must_4 : decode cX6_must 4 = .ok (.iconst (-1), 1) := by decide +kernel
theorem dX6_must_5 : decode cX6_must 5 = .ok (.if_icmp .ne 28, 3) := by decide +kernel
theorem dX6_must_8 : decode cX6_must 8 = .ok (.iload_n 1, 1) := by decide +kernel
theorem dX6_must_9 : decode cX6_must 9 = .ok (.ifCond .eq 16, 3) := by decide +kernel
theorem dX6_must_12 : decode cX6_must 12 = .ok (.aload_n 0, 1) := by decide +kernel
theorem dX6_must_13 : decode cX6_must 13 = .ok (.dup, 1) := by decide +kernel
theorem dX6_must_14 : decode cX6_must 14 = .ok (.getfield 165, 3) := by decide +kernel
theorem dX6_must_17 : decode cX6_must 17 = .ok (.iconst 1, 1) := by decide +kernel
theorem dX6_must_18 : decode cX6_must 18 = .ok (.iadd, 1) := by decide +kernel
theorem dX6_must_19 : decode cX6_must 19 = .ok (.putfield 165, 3) := by decide +kernel
theorem dX6_must_22 : decode cX6_must 22 = .ok (.goto 11, 3) := by decide +kernel
theorem dX6_must_25 : decode cX6_must 25 = .ok (.aload_n 0, 1) := by decide +kernel
theorem dX6_must_26 : decode cX6_must 26 = .ok (.aload_n 0, 1) := by decide +kernel
theorem dX6_must_27 : decode cX6_must 27 = .ok (.getfield 165, 3) := by decide +kernel
theorem dX6_must_30 : decode cX6_must 30 = .ok (.putfield 168, 3) := by decide +kernel
theorem dX6_must_33 : decode cX6_must 33 = .ok (.return_, 1) := by decide +kernel
set_option maxRecDepth 20000 in
theorem ggX6_isFigure_X6_in : GoodIn wsX6_isFigure wsX6_in := goodIn_r _ [7] (by decide +kernel) (by decide +kernel)
set_option maxRecDepth 20000 in
theorem gX6_isFigure_X6_in : GoodIn wsX6_isFigure (va_wsS RX6 53 yX6_in wsX6_in) := goodIn_app (goodIn_of _ (by decide +kernel)) ggX6_isFigure_X6_in
theorem dX6_isFigure_0 : decode cX6_isFigure 0 = .ok (.aload_n 0, 1) := by decide +kernel
theorem dX6_isFigure_1 : decode cX6_isFigure 1 = .ok (.getfield 165, 3) := by decide +kernel
theorem dX6_isFigure_4 : decode cX6_isFigure 4 = .ok (.aload_n 0, 1) := by decide +kernel
theorem dX6_isFigure_5 : decode cX6_isFigure 5 = .ok (.getfield 162, 3) := by decide +kernel
theorem dX6_isFigure_8 : decode cX6_isFigure 8 = .ok (.if_icmp .ge 26, 3) := by decide +kernel
theorem dX6_isFigure_11 : decode cX6_isFigure 11 = .ok (.aload_n 0, 1) := by decide +kernel
theorem dX6_isFigure_12 : decode cX6_isFigure 12 = .ok (.getfield 29, 3) := by decide +kernel
theorem dX6_isFigure_15 : decode cX6_isFigure 15 = .ok (.aload_n 0, 1) := by decide +kernel
theorem dX6_isFigure_16 : decode cX6_isFigure 16 = .ok (.getfield 165, 3) := by decide +kernel
theorem dX6_isFigure_19 : decode cX6_isFigure 19 = .ok (.iaload, 1) := by decide +kernel
theorem dX6_isFigure_20 : decode cX6_isFigure 20 = .ok (.bipush 48, 2) := by decide +kernel
theorem dX6_isFigure_22 : decode cX6_isFigure 22 = .ok (.bipush 57, 2) := by decide +kernel
theorem dX6_isFigure_24 : decode cX6_isFigure 24 = .ok (.invokestatic 53, 3) := by decide +kernel
theorem dX6_isFigure_27 : decode cX6_isFigure 27 = .ok (.ifCond .eq 7, 3) := by decide +kernel
theorem dX6_isFigure_30 : decode cX6_isFigure 30 = .ok (.iconst 1, 1) := by decide +kernel
theorem dX6_isFigure_31 : decode cX6_isFigure 31 = .ok (.goto 4, 3) := by decide +kernel
theorem dX6_isFigure_34 : decode cX6_isFigure 34 = .ok (.iconst 0, 1) := by decide +kernel
theorem dX6_isFigure_35 : decode cX6_isFigure 35 = .ok (.ireturn, 1) := by decide +kernel
set_option maxRecDepth 20000 in
theorem ggX6_number_X6_here : GoodIn wsX6_number wsX6_here := goodIn_r _ [8, 3, 9, 2, 21, 22, 23, 24, 25, 26, 27, 28, 29, 30, 31, 32, 33, 34, 35] (by decide +kernel) (by decide +kernel)
set_option maxRecDepth 20000 in
theorem gX6_number_X6_here : GoodIn wsX6_number (wsV RX6 171 RX6 yX6_here wsX6_here) := goodIn_app (goodIn_of _ (by decide +kernel)) ggX6_number_X6_here
set_option maxRecDepth 20000 in
theorem ggX6_number_X6_in : GoodIn wsX6_number wsX6_in := goodIn_r _ [12] (by decide +kernel) (by decide +kernel)
set_option maxRecDepth 20000 in
theorem gX6_number_X6_in : GoodIn wsX6_number (va_wsS RX6 53 yX6_in wsX6_in) := goodIn_app (goodIn_of _ (by decide +kernel)) ggX6_number_X6_in
set_option maxRecDepth 20000 in
theorem ggX6_number_X6_must : GoodIn wsX6_number wsX6_must := goodIn_r _ [16, 1, 3, 21, 22, 23, 24, 25, 26, 27, 28, 29, 30, 31, 32, 33, 34, 35] (by decide +kernel) (by decide +kernel)
set_option maxRecDepth 20000 in
theorem gX6_number_X6_must : GoodIn wsX6_number (wsV RX6 174 RX6 yX6_must wsX6_must) := goodIn_app (goodIn_of _ (by decide +kernel)) ggX6_number_X6_must
set_option maxRecDepth 20000 in
theorem ggX6_number_X6_isFigure : GoodIn wsX6_number wsX6_isFigure := goodIn_r _ [20, 3, 9, 2, 10, 11, 7, 12, 21, 22, 23, 24, 25, 26, 27, 28, 29, 30, 31, 32, 33, 34, 35] (by decide +kernel) (by decide +kernel)
set_option maxRecDepth 20000 in
theorem gX6_number_X6_isFigure : GoodIn wsX6_number (wsV RX6 178 RX6 yX6_isFigure wsX6_isFigure) := goodIn_app (goodIn_of _ (by decide +kernel)) ggX6_number_X6_isFigure
theorem dX6_number_0 : decode cX6_number 0 = .ok (.aload_n 0, 1) := by decide +kernel
theorem dX6_number_1 : decode cX6_number 1 = .ok (.aload_n 0, 1) := by decide +kernel
theorem dX6_number_2 : decode cX6_number 2 = .ok (.invokevirtual 171, 3) := by decide +kernel
theorem dX6_number_5 : decode cX6_number 5 = .ok (.bipush 48, 2) := by decide +kernel
theorem dX6_number_7 : decode cX6_number 7 = .ok (.bipush 57, 2) := by decide +kernel
theorem dX6_number_9 : decode cX6_number 9 = .ok (.invokestatic 53, 3) := by decide +kernel
theorem dX6_number_12 : decode cX6_number 12 = .ok (.invokevirtual 174, 3) := by decide +kernel
theorem dX6_number_15 : decode cX6_number 15 = .ok (.aload_n 0, 1) := by decide +kernel
theorem dX6_number_16 : decode cX6_number 16 = .ok (.getfield 168, 3) := by decide +kernel
theorem dX6_number_19 : decode cX6_number 19 = .ok (.iconst (-1), 1) := by decide +kernel
theorem dX6_number_20 : decode cX6_number 20 = .ok (.if_icmp .eq 5, 3) := by decide +kernel
theorem dX6_number_23 : decode cX6_number 23 = .ok (.iconst 0, 1) := by decide +kernel
theorem dX6_number_24 : decode cX6_number 24 = .ok (.ireturn, 1) := by decide +kernel
theorem dX6_number_25 : decode cX6_number 25 = .ok (.aload_n 0, 1) := by decide +kernel
theorem dX6_number_26 : decode cX6_number 26 = .ok (.getfield 29, 3) := by decide +kernel
theorem dX6_number_29 : decode cX6_number 29 = .ok (.aload_n 0, 1) := by decide +kernel
theorem dX6_number_30 : decode cX6_number 30 = .ok (.getfield 165, 3) := by decide +kernel
theorem dX6_number_33 : decode cX6_number 33 = .ok (.iconst 1, 1) := by decide +kernel
theorem dX6_number_34 : decode cX6_number 34 = .ok (.isub, 1) := by decide +kernel
theorem dX6_number_35 : decode cX6_number 35 = .ok (.iaload, 1) := by decide +kernel
theorem dX6_number_36 : decode cX6_number 36 = .ok (.bipush 48, 2) := by decide +kernel
theorem dX6_number_38 : decode cX6_number 38 = .ok (.isub, 1) := by decide +kernel
theorem dX6_number_39 : decode cX6_number 39 = .ok (.istore_n 1, 1) := by decide +kernel
theorem dX6_number_40 : decode cX6_number 40 = .ok (.aload_n 0, 1) := by decide +kernel
theorem dX6_number_41 : decode cX6_number 41 = .ok (.invokevirtual 178, 3) := by decide +kernel
theorem dX6_number_44 : decode cX6_number 44 = .ok (.ifCond .eq 31, 3) := by decide +kernel
theorem dX6_number_47 : decode cX6_number 47 = .ok (.bipush 10, 2) := by decide +kernel
theorem dX6_number_49 : decode cX6_number 49 = .ok (.iload_n 1, 1) := by decide +kernel
theorem dX6_number_50 : decode cX6_number 50 = .ok (.imul, 1) := by decide +kernel
theorem dX6_number_51 : decode cX6_number 51 = .ok (.aload_n 0, 1) := by decide +kernel
theorem dX6_number_52 : decode cX6_number 52 = .ok (.getfield 29, 3) := by decide +kernel
theorem dX6_number_55 : decode cX6_number 55 = .ok (.aload_n 0, 1) := by decide +kernel
theorem dX6_number_56 : decode cX6_number 56 = .ok (.getfield 165, 3) := by decide +kernel
theorem dX6_number_59 : decode cX6_number 59 = .ok (.iaload, 1) := by decide +kernel
theorem dX6_number_60 : decode cX6_number 60 = .ok (.iadd, 1) := by decide +kernel
theorem dX6_number_61 : decode cX6_number 61 = .ok (.bipush 48, 2) := by decide +kernel
theorem dX6_number_63 : decode cX6_number 63 = .ok (.isub, 1) := by decide +kernel
theorem dX6_number_64 : decode cX6_number 64 = .ok (.istore_n 1, 1) := by decide +kernel
theorem dX6_number_65 : decode cX6_number 65 = .ok (.aload_n 0, 1) := by decide +kernel
theorem dX6_number_66 : decode cX6_number 66 = .ok (.dup, 1) := by decide +kernel
theorem dX6_number_67 : decode cX6_number 67 = .ok (.getfield 165, 3) := by decide +kernel
theorem dX6_number_70 : decode cX6_number 70 = .ok (.iconst 1, 1) := by decide +kernel
theorem dX6_number_71 : decode cX6_number 71 = .ok (.iadd, 1) := by decide +kernel
theorem dX6_number_72 : decode cX6_number 72 = .ok (.putfield 165, 3) := by decide +kernel
theorem dX6_number_75 : decode cX6_number 75 = .ok (.aload_n 0, 1) := by decide +kernel
theorem dX6_number_76 : decode cX6_number 76 = .ok (.invokevirtual 178, 3) := by decide +kernel
theorem dX6_number_79 : decode cX6_number 79 = .ok (.ifCond .eq 11, 3) := by decide +kernel
theorem dX6_number_82 : decode cX6_number 82 = .ok (.aload_n 0, 1) := by decide +kernel
theorem dX6_number_83 : decode cX6_number 83 = .ok (.aload_n 0, 1) := by decide +kernel
theorem dX6_number_84 : decode cX6_number 84 = .ok (.getfield 165, 3) := by decide +kernel
theorem dX6_number_87 : decode cX6_number 87 = .ok (.putfield 168, 3) := by decide +kernel
theorem dX6_number_90 : decode cX6_number 90 = .ok (.iload_n 1, 1) := by decide +kernel
theorem dX6_number_91 : decode cX6_number 91 = .ok (.ireturn, 1) := by decide +kernel
theorem dX6_numbersOf_0 : decode cX6_numbersOf 0 = .ok (.iload_n 0, 1) := by decide +kernel
theorem dX6_numbersOf_1 : decode cX6_numbersOf 1 = .ok (.lookupswitch 57 #[(99, 53), (101, 53), (112, 51), (115, 53), (120, 55)], 51) := by decide +kernel
theorem dX6_numbersOf_52 : decode cX6_numbersOf 52 = .ok (.iconst 4, 1) := by decide +kernel
theorem dX6_numbersOf_53 : decode cX6_numbersOf 53 = .ok (.ireturn, 1) := by decide +kernel
theorem dX6_numbersOf_54 : decode cX6_numbersOf 54 = .ok (.iconst 2, 1) := by decide +kernel
theorem dX6_numbersOf_55 : decode cX6_numbersOf 55 = .ok (.ireturn, 1) := by decide +kernel
theorem dX6_numbersOf_56 : decode cX6_numbersOf 56 = .ok (.iconst 1, 1) := by decide +kernel
theorem dX6_numbersOf_57 : decode cX6_numbersOf 57 = .ok (.ireturn, 1) := by decide +kernel
theorem dX6_numbersOf_58 : decode cX6_numbersOf 58 = .ok (.iconst (-1), 1) := by decide +kernel
theorem dX6_numbersOf_59 : decode cX6_numbersOf 59 = .ok (.ireturn, 1) := by decide +kernel
set_option maxRecDepth 20000 in
theorem ggX6_readOrder_X6_here : GoodIn wsX6_readOrder wsX6_here := goodIn_r _ [9, 10, 11, 12, 31, 32, 33, 34, 35, 36, 37, 38, 39, 40, 41, 42, 43, 44, 45] (by decide +kernel) (by decide +kernel)
set_option maxRecDepth 20000 in
theorem gX6_readOrder_X6_here : GoodIn wsX6_readOrder (wsV RX6 171 RX6 yX6_here wsX6_here) := goodIn_app (goodIn_of _ (by decide +kernel)) ggX6_readOrder_X6_here
set_option maxRecDepth 20000 in
theorem ggX6_readOrder_X6_numbersOf : GoodIn wsX6_readOrder wsX6_numbersOf := goodIn_r _ [15] (by decide +kernel) (by decide +kernel)
set_option maxRecDepth 20000 in
theorem gX6_readOrder_X6_numbersOf : GoodIn wsX6_readOrder (va_wsS RX6 182 yX6_numbersOf wsX6_numbersOf) := goodIn_app (goodIn_of _ (by decide +kernel)) ggX6_readOrder_X6_numbersOf
set_option maxRecDepth 20000 in
theorem ggX6_readOrder_X6_must : GoodIn wsX6_readOrder wsX6_must := goodIn_r _ [19, 1, 10, 31, 32, 33, 34, 35, 36, 37, 38, 39, 40, 41, 42, 43, 44, 45] (by decide +kernel) (by decide +kernel)
set_option maxRecDepth 20000 in
theorem gX6_readOrder_X6_must : GoodIn wsX6_readOrder (wsV RX6 174 RX6 yX6_must wsX6_must) := goodIn_app (goodIn_of _ (by decide +kernel)) ggX6_readOrder_X6_must
set_option maxRecDepth 20000 in
theorem ggX6_readOrder_X6_number : GoodIn wsX6_readOrder wsX6_number := goodIn_r _ [23, 1, 12, 10, 5, 6, 7, 8, 9, 11, 24, 25, 26, 16, 17, 18, 19, 27, 28, 29, 30, 31, 32, 33, 34, 35, 36, 37, 38, 39, 40, 41, 42, 43, 44, 45] (by decide +kernel) (by decide +kernel)
set_option maxRecDepth 20000 in
theorem gX6_readOrder_X6_number : GoodIn wsX6_readOrder (wsV RX6 188 RX6 yX6_number wsX6_number) := goodIn_app (goodIn_of _ (by decide +kernel)) ggX6_readOrder_X6_number
theorem dX6_readOrder_0 : decode cX6_readOrder 0 = .ok (.aload_n 0, 1) := by decide +kernel
theorem dX6_readOrder_1 : decode cX6_readOrder 1 = .ok (.invokevirtual 171, 3) := by decide +kernel
theorem dX6_readOrder_4 : decode cX6_readOrder 4 = .ok (.istore_n 1, 1) := by decide +kernel
theorem dX6_readOrder_5 : decode cX6_readOrder 5 = .ok (.iload_n 1, 1) := by decide +kernel
theorem dX6_readOrder_6 : decode cX6_readOrder 6 = .ok (.invokestatic 182, 3) := by decide +kernel
theorem dX6_readOrder_9 : decode cX6_readOrder 9 = .ok (.istore_n 2, 1) := by decide +kernel
theorem dX6_readOrder_10 : decode cX6_readOrder 10 = .ok (.aload_n 0, 1) := by decide +kernel
theorem dX6_readOrder_11 : decode cX6_readOrder 11 = .ok (.iload_n 2, 1) := by decide +kernel
theorem dX6_readOrder_12 : decode cX6_readOrder 12 = .ok (.iconst (-1), 1) := by decide +kernel
theorem dX6_readOrder_13 : decode cX6_readOrder 13 = .ok (.if_icmp .eq 7, 3) := by decide +kernel
theorem dX6_readOrder_16 : decode cX6_readOrder 16 = .ok (.iconst 1, 1) := by decide +kernel
theorem dX6_readOrder_17 : decode cX6_readOrder 17 = .ok (.goto 4, 3) := by decide +kernel
theorem dX6_readOrder_20 : decode cX6_readOrder 20 = .ok (.iconst 0, 1) := by decide +kernel
theorem dX6_readOrder_21 : decode cX6_readOrder 21 = .ok (.invokevirtual 174, 3) := by decide +kernel
theorem dX6_readOrder_24 : decode cX6_readOrder 24 = .ok (.iconst 0, 1) := by decide +kernel
theorem dX6_readOrder_25 : decode cX6_readOrder 25 = .ok (.istore_n 3, 1) := by decide +kernel
theorem dX6_readOrder_26 : decode cX6_readOrder 26 = .ok (.iload_n 3, 1) := by decide +kernel
theorem dX6_readOrder_27 : decode cX6_readOrder 27 = .ok (.iload_n 2, 1) := by decide +kernel
theorem dX6_readOrder_28 : decode cX6_readOrder 28 = .ok (.if_icmp .ge 34, 3) := by decide +kernel
theorem dX6_readOrder_31 : decode cX6_readOrder 31 = .ok (.aload_n 0, 1) := by decide +kernel
theorem dX6_readOrder_32 : decode cX6_readOrder 32 = .ok (.getfield 168, 3) := by decide +kernel
theorem dX6_readOrder_35 : decode cX6_readOrder 35 = .ok (.iconst (-1), 1) := by decide +kernel
theorem dX6_readOrder_36 : decode cX6_readOrder 36 = .ok (.if_icmp .ne 26, 3) := by decide +kernel
theorem dX6_readOrder_39 : decode cX6_readOrder 39 = .ok (.aload_n 0, 1) := by decide +kernel
theorem dX6_readOrder_40 : decode cX6_readOrder 40 = .ok (.getfield 35, 3) := by decide +kernel
theorem dX6_readOrder_43 : decode cX6_readOrder 43 = .ok (.iconst 4, 1) := by decide +kernel
theorem dX6_readOrder_44 : decode cX6_readOrder 44 = .ok (.aload_n 0, 1) := by decide +kernel
theorem dX6_readOrder_45 : decode cX6_readOrder 45 = .ok (.getfield 185, 3) := by decide +kernel
theorem dX6_readOrder_48 : decode cX6_readOrder 48 = .ok (.imul, 1) := by decide +kernel
theorem dX6_readOrder_49 : decode cX6_readOrder 49 = .ok (.iload_n 3, 1) := by decide +kernel
theorem dX6_readOrder_50 : decode cX6_readOrder 50 = .ok (.iadd, 1) := by decide +kernel
theorem dX6_readOrder_51 : decode cX6_readOrder 51 = .ok (.aload_n 0, 1) := by decide +kernel
theorem dX6_readOrder_52 : decode cX6_readOrder 52 = .ok (.invokevirtual 188, 3) := by decide +kernel
theorem dX6_readOrder_55 : decode cX6_readOrder 55 = .ok (.iastore, 1) := by decide +kernel
theorem dX6_readOrder_56 : decode cX6_readOrder 56 = .ok (.iinc 3 1, 3) := by decide +kernel
theorem dX6_readOrder_59 : decode cX6_readOrder 59 = .ok (.goto (-33), 3) := by decide +kernel
theorem dX6_readOrder_62 : decode cX6_readOrder 62 = .ok (.aload_n 0, 1) := by decide +kernel
theorem dX6_readOrder_63 : decode cX6_readOrder 63 = .ok (.getfield 168, 3) := by decide +kernel
theorem dX6_readOrder_66 : decode cX6_readOrder 66 = .ok (.iconst (-1), 1) := by decide +kernel
theorem dX6_readOrder_67 : decode cX6_readOrder 67 = .ok (.if_icmp .ne 41, 3) := by decide +kernel
theorem dX6_readOrder_70 : decode cX6_readOrder 70 = .ok (.aload_n 0, 1) := by decide +kernel
theorem dX6_readOrder_71 : decode cX6_readOrder 71 = .ok (.getfield 32, 3) := by decide +kernel
theorem dX6_readOrder_74 : decode cX6_readOrder 74 = .ok (.aload_n 0, 1) := by decide +kernel
theorem dX6_readOrder_75 : decode cX6_readOrder 75 = .ok (.getfield 185, 3) := by decide +kernel
theorem dX6_readOrder_78 : decode cX6_readOrder 78 = .ok (.iload_n 1, 1) := by decide +kernel
theorem dX6_readOrder_79 : decode cX6_readOrder 79 = .ok (.iastore, 1) := by decide +kernel
theorem dX6_readOrder_80 : decode cX6_readOrder 80 = .ok (.aload_n 0, 1) := by decide +kernel
theorem dX6_readOrder_81 : decode cX6_readOrder 81 = .ok (.dup, 1) := by decide +kernel
theorem dX6_readOrder_82 : decode cX6_readOrder 82 = .ok (.getfield 185, 3) := by decide +kernel
theorem dX6_readOrder_85 : decode cX6_readOrder 85 = .ok (.iconst 1, 1) := by decide +kernel
theorem dX6_readOrder_86 : decode cX6_readOrder 86 = .ok (.iadd, 1) := by decide +kernel
theorem dX6_readOrder_87 : decode cX6_readOrder 87 = .ok (.putfield 185, 3) := by decide +kernel
theorem dX6_readOrder_90 : decode cX6_readOrder 90 = .ok (.aload_n 0, 1) := by decide +kernel
theorem dX6_readOrder_91 : decode cX6_readOrder 91 = .ok (.aload_n 0, 1) := by decide +kernel
theorem dX6_readOrder_92 : decode cX6_readOrder 92 = .ok (.invokevirtual 171, 3) := by decide +kernel
theorem dX6_readOrder_95 : decode cX6_readOrder 95 = .ok (.bipush 59, 2) := by decide +kernel
theorem dX6_readOrder_97 : decode cX6_readOrder 97 = .ok (.if_icmp .ne 7, 3) := by decide +kernel
theorem dX6_readOrder_100 : decode cX6_readOrder 100 = .ok (.iconst 1, 1) := by decide +kernel
theorem dX6_readOrder_101 : decode cX6_readOrder 101 = .ok (.goto 4, 3) := by decide +kernel
theorem dX6_readOrder_104 : decode cX6_readOrder 104 = .ok (.iconst 0, 1) := by decide +kernel
theorem dX6_readOrder_105 : decode cX6_readOrder 105 = .ok (.invokevirtual 174, 3) := by decide +kernel
theorem dX6_readOrder_108 : decode cX6_readOrder 108 = .ok (.return_, 1) := by decide +kernel
set_option maxRecDepth 20000 in
theorem ggX6_doOrder_X6_doShaft : GoodIn wsX6_doOrder wsX6_doShaft := goodIn_r _ [7, 8, 9, 10, 6, 11, 12, 13, 14, 46, 47, 48, 49, 50, 51, 52, 53, 54, 55, 56, 57, 58, 59, 60] (by decide +kernel) (by decide +kernel)
set_option maxRecDepth 20000 in
theorem gX6_doOrder_X6_doShaft : GoodIn wsX6_doOrder (wsV RX6 77 RX6 yX6_doShaft wsX6_doShaft) := goodIn_app (goodIn_of _ (by decide +kernel)) ggX6_doOrder_X6_doShaft
set_option maxRecDepth 20000 in
theorem ggX6_doOrder_X6_doPipe : GoodIn wsX6_doOrder wsX6_doPipe := goodIn_r _ [18, 8, 19, 20, 21, 6, 22, 12, 13, 14, 23, 24, 25, 26, 27, 28, 29, 30, 31, 32, 33, 46, 47, 48, 49, 50, 51, 52, 53, 54, 55, 56, 57, 58, 59, 60] (by decide +kernel) (by decide +kernel)
set_option maxRecDepth 20000 in
theorem gX6_doOrder_X6_doPipe : GoodIn wsX6_doOrder (wsV RX6 87 RX6 yX6_doPipe wsX6_doPipe) := goodIn_app (goodIn_of _ (by decide +kernel)) ggX6_doOrder_X6_doPipe
set_option maxRecDepth 20000 in
theorem ggX6_doOrder_X6_doSight : GoodIn wsX6_doOrder wsX6_doSight := goodIn_r _ [37, 8, 12, 13, 6, 14, 19, 20, 21, 22, 46, 47, 48, 49, 50, 51, 52, 53, 54, 55, 56, 57, 58, 59, 60] (by decide +kernel) (by decide +kernel)
set_option maxRecDepth 20000 in
theorem gX6_doOrder_X6_doSight : GoodIn wsX6_doOrder (wsV RX6 94 RX6 yX6_doSight wsX6_doSight) := goodIn_app (goodIn_of _ (by decide +kernel)) ggX6_doOrder_X6_doSight
set_option maxRecDepth 20000 in
theorem ggX6_doOrder_X6_doDrops : GoodIn wsX6_doOrder wsX6_doDrops := goodIn_r _ [41, 8, 42, 43, 44, 6, 45, 12, 13, 14, 46, 47, 48, 49, 50, 51, 52, 53, 54, 55, 56, 57, 58, 59, 60] (by decide +kernel) (by decide +kernel)
set_option maxRecDepth 20000 in
theorem gX6_doOrder_X6_doDrops : GoodIn wsX6_doOrder (wsV RX6 91 RX6 yX6_doDrops wsX6_doDrops) := goodIn_app (goodIn_of _ (by decide +kernel)) ggX6_doOrder_X6_doDrops
theorem dX6_doOrder_0 : decode cX6_doOrder 0 = .ok (.aload_n 0, 1) := by decide +kernel
theorem dX6_doOrder_1 : decode cX6_doOrder 1 = .ok (.getfield 35, 3) := by decide +kernel
theorem dX6_doOrder_4 : decode cX6_doOrder 4 = .ok (.iconst 4, 1) := by decide +kernel
theorem dX6_doOrder_5 : decode cX6_doOrder 5 = .ok (.iload_n 1, 1) := by decide +kernel
theorem dX6_doOrder_6 : decode cX6_doOrder 6 = .ok (.imul, 1) := by decide +kernel
theorem dX6_doOrder_7 : decode cX6_doOrder 7 = .ok (.iaload, 1) := by decide +kernel
theorem dX6_doOrder_8 : decode cX6_doOrder 8 = .ok (.istore_n 2, 1) := by decide +kernel
theorem dX6_doOrder_9 : decode cX6_doOrder 9 = .ok (.aload_n 0, 1) := by decide +kernel
theorem dX6_doOrder_10 : decode cX6_doOrder 10 = .ok (.getfield 35, 3) := by decide +kernel
theorem dX6_doOrder_13 : decode cX6_doOrder 13 = .ok (.iconst 4, 1) := by decide +kernel
theorem dX6_doOrder_14 : decode cX6_doOrder 14 = .ok (.iload_n 1, 1) := by decide +kernel
theorem dX6_doOrder_15 : decode cX6_doOrder 15 = .ok (.imul, 1) := by decide +kernel
theorem dX6_doOrder_16 : decode cX6_doOrder 16 = .ok (.iconst 1, 1) := by decide +kernel
theorem dX6_doOrder_17 : decode cX6_doOrder 17 = .ok (.iadd, 1) := by decide +kernel
theorem dX6_doOrder_18 : decode cX6_doOrder 18 = .ok (.iaload, 1) := by decide +kernel
theorem dX6_doOrder_19 : decode cX6_doOrder 19 = .ok (.istore_n 3, 1) := by decide +kernel
theorem dX6_doOrder_20 : decode cX6_doOrder 20 = .ok (.aload_n 0, 1) := by decide +kernel
theorem dX6_doOrder_21 : decode cX6_doOrder 21 = .ok (.getfield 32, 3) := by decide +kernel
theorem dX6_doOrder_24 : decode cX6_doOrder 24 = .ok (.iload_n 1, 1) := by decide +kernel
theorem dX6_doOrder_25 : decode cX6_doOrder 25 = .ok (.iaload, 1) := by decide +kernel
theorem dX6_doOrder_26 : decode cX6_doOrder 26 = .ok (.lookupswitch 92 #[(99, 84), (101, 76), (112, 49), (115, 42)], 42) := by decide +kernel
theorem dX6_doOrder_68 : decode cX6_doOrder 68 = .ok (.aload_n 0, 1) := by decide +kernel
theorem dX6_doOrder_69 : decode cX6_doOrder 69 = .ok (.iload_n 2, 1) := by decide +kernel
theorem dX6_doOrder_70 : decode cX6_doOrder 70 = .ok (.iload_n 3, 1) := by decide +kernel
theorem dX6_doOrder_71 : decode cX6_doOrder 71 = .ok (.invokevirtual 77, 3) := by decide +kernel
theorem dX6_doOrder_74 : decode cX6_doOrder 74 = .ok (.ireturn, 1) := by decide +kernel
theorem dX6_doOrder_75 : decode cX6_doOrder 75 = .ok (.aload_n 0, 1) := by decide +kernel
theorem dX6_doOrder_76 : decode cX6_doOrder 76 = .ok (.iload_n 2, 1) := by decide +kernel
theorem dX6_doOrder_77 : decode cX6_doOrder 77 = .ok (.iload_n 3, 1) := by decide +kernel
theorem dX6_doOrder_78 : decode cX6_doOrder 78 = .ok (.aload_n 0, 1) := by decide +kernel
theorem dX6_doOrder_79 : decode cX6_doOrder 79 = .ok (.getfield 35, 3) := by decide +kernel
theorem dX6_doOrder_82 : decode cX6_doOrder 82 = .ok (.iconst 4, 1) := by decide +kernel
theorem dX6_doOrder_83 : decode cX6_doOrder 83 = .ok (.iload_n 1, 1) := by decide +kernel
theorem dX6_doOrder_84 : decode cX6_doOrder 84 = .ok (.imul, 1) := by decide +kernel
theorem dX6_doOrder_85 : decode cX6_doOrder 85 = .ok (.iconst 2, 1) := by decide +kernel
theorem dX6_doOrder_86 : decode cX6_doOrder 86 = .ok (.iadd, 1) := by decide +kernel
theorem dX6_doOrder_87 : decode cX6_doOrder 87 = .ok (.iaload, 1) := by decide +kernel
theorem dX6_doOrder_88 : decode cX6_doOrder 88 = .ok (.aload_n 0, 1) := by decide +kernel
theorem dX6_doOrder_89 : decode cX6_doOrder 89 = .ok (.getfield 35, 3) := by decide +kernel
theorem dX6_doOrder_92 : decode cX6_doOrder 92 = .ok (.iconst 4, 1) := by decide +kernel
theorem dX6_doOrder_93 : decode cX6_doOrder 93 = .ok (.iload_n 1, 1) := by decide +kernel
theorem dX6_doOrder_94 : decode cX6_doOrder 94 = .ok (.imul, 1) := by decide +kernel
theorem dX6_doOrder_95 : decode cX6_doOrder 95 = .ok (.iconst 3, 1) := by decide +kernel
theorem dX6_doOrder_96 : decode cX6_doOrder 96 = .ok (.iadd, 1) := by decide +kernel
theorem dX6_doOrder_97 : decode cX6_doOrder 97 = .ok (.iaload, 1) := by decide +kernel
theorem dX6_doOrder_98 : decode cX6_doOrder 98 = .ok (.invokevirtual 87, 3) := by decide +kernel
theorem dX6_doOrder_101 : decode cX6_doOrder 101 = .ok (.ireturn, 1) := by decide +kernel
theorem dX6_doOrder_102 : decode cX6_doOrder 102 = .ok (.aload_n 0, 1) := by decide +kernel
theorem dX6_doOrder_103 : decode cX6_doOrder 103 = .ok (.iconst 1, 1) := by decide +kernel
theorem dX6_doOrder_104 : decode cX6_doOrder 104 = .ok (.iload_n 2, 1) := by decide +kernel
theorem dX6_doOrder_105 : decode cX6_doOrder 105 = .ok (.iload_n 3, 1) := by decide +kernel
theorem dX6_doOrder_106 : decode cX6_doOrder 106 = .ok (.invokevirtual 94, 3) := by decide +kernel
theorem dX6_doOrder_109 : decode cX6_doOrder 109 = .ok (.ireturn, 1) := by decide +kernel
theorem dX6_doOrder_110 : decode cX6_doOrder 110 = .ok (.aload_n 0, 1) := by decide +kernel
theorem dX6_doOrder_111 : decode cX6_doOrder 111 = .ok (.iconst 0, 1) := by decide +kernel
theorem dX6_doOrder_112 : decode cX6_doOrder 112 = .ok (.iload_n 2, 1) := by decide +kernel
theorem dX6_doOrder_113 : decode cX6_doOrder 113 = .ok (.iload_n 3, 1) := by decide +kernel
theorem dX6_doOrder_114 : decode cX6_doOrder 114 = .ok (.invokevirtual 94, 3) := by decide +kernel
theorem dX6_doOrder_117 : decode cX6_doOrder 117 = .ok (.ireturn, 1) := by decide +kernel
theorem dX6_doOrder_118 : decode cX6_doOrder 118 = .ok (.aload_n 0, 1) := by decide +kernel
theorem dX6_doOrder_119 : decode cX6_doOrder 119 = .ok (.iload_n 2, 1) := by decide +kernel
theorem dX6_doOrder_120 : decode cX6_doOrder 120 = .ok (.invokevirtual 91, 3) := by decide +kernel
theorem dX6_doOrder_123 : decode cX6_doOrder 123 = .ok (.ireturn, 1) := by decide +kernel
set_option maxRecDepth 20000 in
theorem ggX6_reads_X6_here : GoodIn wsX6_reads wsX6_here := goodIn_r _ [11, 1, 4, 12, 89, 90, 91, 92, 93, 94, 95, 96, 97, 98, 99, 100, 101, 102, 103] (by decide +kernel) (by decide +kernel)
set_option maxRecDepth 20000 in
theorem gX6_reads_X6_here : GoodIn wsX6_reads (wsV RX6 171 RX6 yX6_here wsX6_here) := goodIn_app (goodIn_of _ (by decide +kernel)) ggX6_reads_X6_here
set_option maxRecDepth 20000 in
theorem ggX6_reads_X6_readOrder : GoodIn wsX6_reads wsX6_readOrder := goodIn_r _ [16, 2, 17, 3, 18, 7, 8, 9, 10, 11, 1, 4, 12, 19, 20, 21, 22, 23, 24, 25, 26, 27, 28, 29, 30, 31, 32, 33, 34, 35, 36, 89, 90, 91, 92, 93, 94, 95, 96, 97, 98, 99, 100, 101, 102, 103] (by decide +kernel) (by decide +kernel)
set_option maxRecDepth 20000 in
theorem gX6_reads_X6_readOrder : GoodIn wsX6_reads (wsV RX6 191 RX6 yX6_readOrder wsX6_readOrder) := goodIn_app (goodIn_of _ (by decide +kernel)) ggX6_reads_X6_readOrder
set_option maxRecDepth 20000 in
theorem ggX6_reads_X6_hold : GoodIn wsX6_reads wsX6_hold := goodIn_r _ [40, 6, 5, 89, 90, 91, 92, 93, 94, 95, 96, 97, 98, 99, 100, 101, 102, 103] (by decide +kernel) (by decide +kernel)
set_option maxRecDepth 20000 in
theorem gX6_reads_X6_hold : GoodIn wsX6_reads (wsV RX6 74 RX6 yX6_hold wsX6_hold) := goodIn_app (goodIn_of _ (by decide +kernel)) ggX6_reads_X6_hold
set_option maxRecDepth 20000 in
theorem ggX6_reads_X6_doOrder : GoodIn wsX6_reads wsX6_doOrder := goodIn_r _ [44, 17, 18, 45, 46, 47, 10, 48, 5, 49, 50, 51, 30, 31, 32, 52, 53, 54, 55, 56, 57, 58, 59, 60, 61, 62, 63, 64, 65, 66, 67, 68, 69, 70, 71, 72, 73, 74, 75, 76, 77, 78, 79, 80, 81, 82, 89, 90, 91, 92, 93, 94, 95, 96, 97, 98, 99, 100, 101, 102, 103] (by decide +kernel) (by decide +kernel)
set_option maxRecDepth 20000 in
theorem gX6_reads_X6_doOrder : GoodIn wsX6_reads (wsV RX6 194 RX6 yX6_doOrder wsX6_doOrder) := goodIn_app (goodIn_of _ (by decide +kernel)) ggX6_reads_X6_doOrder
set_option maxRecDepth 20000 in
theorem ggX6_reads_X6_push : GoodIn wsX6_reads wsX6_push := goodIn_r _ [86, 87, 88, 6, 89, 90, 91, 92, 93, 94, 95, 96, 97, 98, 99, 100, 101, 102, 103] (by decide +kernel) (by decide +kernel)
set_option maxRecDepth 20000 in
theorem gX6_reads_X6_push : GoodIn wsX6_reads (wsV RX6 50 RX6 yX6_push wsX6_push) := goodIn_app (goodIn_of _ (by decide +kernel)) ggX6_reads_X6_push
theorem dX6_reads_0 : decode cX6_reads 0 = .ok (.aload_n 0, 1) := by decide +kernel
theorem dX6_reads_1 : decode cX6_reads 1 = .ok (.iconst 0, 1) := by decide +kernel
theorem dX6_reads_2 : decode cX6_reads 2 = .ok (.putfield 165, 3) := by decide +kernel
theorem dX6_reads_5 : decode cX6_reads 5 = .ok (.aload_n 0, 1) := by decide +kernel
theorem dX6_reads_6 : decode cX6_reads 6 = .ok (.iconst (-1), 1) := by decide +kernel
theorem dX6_reads_7 : decode cX6_reads 7 = .ok (.putfield 168, 3) := by decide +kernel
theorem dX6_reads_10 : decode cX6_reads 10 = .ok (.aload_n 0, 1) := by decide +kernel
theorem dX6_reads_11 : decode cX6_reads 11 = .ok (.iconst 0, 1) := by decide +kernel
theorem dX6_reads_12 : decode cX6_reads 12 = .ok (.putfield 185, 3) := by decide +kernel
theorem dX6_reads_15 : decode cX6_reads 15 = .ok (.aload_n 0, 1) := by decide +kernel
theorem dX6_reads_16 : decode cX6_reads 16 = .ok (.invokevirtual 171, 3) := by decide +kernel
theorem dX6_reads_19 : decode cX6_reads 19 = .ok (.iconst (-1), 1) := by decide +kernel
theorem dX6_reads_20 : decode cX6_reads 20 = .ok (.if_icmp .ne 11, 3) := by decide +kernel
theorem dX6_reads_23 : decode cX6_reads 23 = .ok (.bipush (-10), 2) := by decide +kernel
theorem dX6_reads_25 : decode cX6_reads 25 = .ok (.aload_n 0, 1) := by decide +kernel
theorem dX6_reads_26 : decode cX6_reads 26 = .ok (.getfield 162, 3) := by decide +kernel
theorem dX6_reads_29 : decode cX6_reads 29 = .ok (.isub, 1) := by decide +kernel
theorem dX6_reads_30 : decode cX6_reads 30 = .ok (.ireturn, 1) := by decide +kernel
theorem dX6_reads_31 : decode cX6_reads 31 = .ok (.aload_n 0, 1) := by decide +kernel
theorem dX6_reads_32 : decode cX6_reads 32 = .ok (.getfield 168, 3) := by decide +kernel
theorem dX6_reads_35 : decode cX6_reads 35 = .ok (.iconst (-1), 1) := by decide +kernel
theorem dX6_reads_36 : decode cX6_reads 36 = .ok (.if_icmp .ne 18, 3) := by decide +kernel
theorem dX6_reads_39 : decode cX6_reads 39 = .ok (.aload_n 0, 1) := by decide +kernel
theorem dX6_reads_40 : decode cX6_reads 40 = .ok (.invokevirtual 171, 3) := by decide +kernel
theorem dX6_reads_43 : decode cX6_reads 43 = .ok (.iconst (-1), 1) := by decide +kernel
theorem dX6_reads_44 : decode cX6_reads 44 = .ok (.if_icmp .eq 10, 3) := by decide +kernel
theorem dX6_reads_47 : decode cX6_reads 47 = .ok (.aload_n 0, 1) := by decide +kernel
theorem dX6_reads_48 : decode cX6_reads 48 = .ok (.invokevirtual 191, 3) := by decide +kernel
theorem dX6_reads_51 : decode cX6_reads 51 = .ok (.goto (-20), 3) := by decide +kernel
theorem dX6_reads_54 : decode cX6_reads 54 = .ok (.aload_n 0, 1) := by decide +kernel
theorem dX6_reads_55 : decode cX6_reads 55 = .ok (.getfield 168, 3) := by decide +kernel
theorem dX6_reads_58 : decode cX6_reads 58 = .ok (.iconst (-1), 1) := by decide +kernel
theorem dX6_reads_59 : decode cX6_reads 59 = .ok (.if_icmp .eq 11, 3) := by decide +kernel
theorem dX6_reads_62 : decode cX6_reads 62 = .ok (.bipush (-10), 2) := by decide +kernel
theorem dX6_reads_64 : decode cX6_reads 64 = .ok (.aload_n 0, 1) := by decide +kernel
theorem dX6_reads_65 : decode cX6_reads 65 = .ok (.getfield 168, 3) := by decide +kernel
theorem dX6_reads_68 : decode cX6_reads 68 = .ok (.isub, 1) := by decide +kernel
theorem dX6_reads_69 : decode cX6_reads 69 = .ok (.ireturn, 1) := by decide +kernel
theorem dX6_reads_70 : decode cX6_reads 70 = .ok (.aload_n 0, 1) := by decide +kernel
theorem dX6_reads_71 : decode cX6_reads 71 = .ok (.invokevirtual 74, 3) := by decide +kernel
theorem dX6_reads_74 : decode cX6_reads 74 = .ok (.iconst 0, 1) := by decide +kernel
theorem dX6_reads_75 : decode cX6_reads 75 = .ok (.istore_n 1, 1) := by decide +kernel
theorem dX6_reads_76 : decode cX6_reads 76 = .ok (.iload_n 1, 1) := by decide +kernel
theorem dX6_reads_77 : decode cX6_reads 77 = .ok (.aload_n 0, 1) := by decide +kernel
theorem dX6_reads_78 : decode cX6_reads 78 = .ok (.getfield 185, 3) := by decide +kernel
theorem dX6_reads_81 : decode cX6_reads 81 = .ok (.if_icmp .ge 49, 3) := by decide +kernel
theorem dX6_reads_84 : decode cX6_reads 84 = .ok (.aload_n 0, 1) := by decide +kernel
theorem dX6_reads_85 : decode cX6_reads 85 = .ok (.iload_n 1, 1) := by decide +kernel
theorem dX6_reads_86 : decode cX6_reads 86 = .ok (.invokevirtual 194, 3) := by decide +kernel
theorem dX6_reads_89 : decode cX6_reads 89 = .ok (.ifCond .ge 35, 3) := by decide +kernel
theorem dX6_reads_92 : decode cX6_reads 92 = .ok (.iconst 0, 1) := by decide +kernel
theorem dX6_reads_93 : decode cX6_reads 93 = .ok (.istore_n 2, 1) := by decide +kernel
theorem dX6_reads_94 : decode cX6_reads 94 = .ok (.iload_n 2, 1) := by decide +kernel
theorem dX6_reads_95 : decode cX6_reads 95 = .ok (.bipush 123, 2) := by decide +kernel
theorem dX6_reads_97 : decode cX6_reads 97 = .ok (.if_icmp .ge 21, 3) := by decide +kernel
theorem dX6_reads_100 : decode cX6_reads 100 = .ok (.aload_n 0, 1) := by decide +kernel
theorem dX6_reads_101 : decode cX6_reads 101 = .ok (.getfield 7, 3) := by decide +kernel
theorem dX6_reads_104 : decode cX6_reads 104 = .ok (.iload_n 2, 1) := by decide +kernel
theorem dX6_reads_105 : decode cX6_reads 105 = .ok (.aload_n 0, 1) := by decide +kernel
theorem dX6_reads_106 : decode cX6_reads 106 = .ok (.getfield 13, 3) := by decide +kernel
theorem dX6_reads_109 : decode cX6_reads 109 = .ok (.iload_n 2, 1) := by decide +kernel
theorem dX6_reads_110 : decode cX6_reads 110 = .ok (.iaload, 1) := by decide +kernel
theorem dX6_reads_111 : decode cX6_reads 111 = .ok (.iastore, 1) := by decide +kernel
theorem dX6_reads_112 : decode cX6_reads 112 = .ok (.iinc 2 1, 3) := by decide +kernel
theorem dX6_reads_115 : decode cX6_reads 115 = .ok (.goto (-21), 3) := by decide +kernel
theorem dX6_reads_118 : decode cX6_reads 118 = .ok (.sipush (-1000), 3) := by decide +kernel
theorem dX6_reads_121 : decode cX6_reads 121 = .ok (.iload_n 1, 1) := by decide +kernel
theorem dX6_reads_122 : decode cX6_reads 122 = .ok (.isub, 1) := by decide +kernel
theorem dX6_reads_123 : decode cX6_reads 123 = .ok (.ireturn, 1) := by decide +kernel
theorem dX6_reads_124 : decode cX6_reads 124 = .ok (.iinc 1 1, 3) := by decide +kernel
theorem dX6_reads_127 : decode cX6_reads 127 = .ok (.goto (-51), 3) := by decide +kernel
theorem dX6_reads_130 : decode cX6_reads 130 = .ok (.aload_n 0, 1) := by decide +kernel
theorem dX6_reads_131 : decode cX6_reads 131 = .ok (.invokevirtual 50, 3) := by decide +kernel
theorem dX6_reads_134 : decode cX6_reads 134 = .ok (.aload_n 0, 1) := by decide +kernel
theorem dX6_reads_135 : decode cX6_reads 135 = .ok (.getfield 185, 3) := by decide +kernel
theorem dX6_reads_138 : decode cX6_reads 138 = .ok (.ireturn, 1) := by decide +kernel
theorem dX6_toldOf_0 : decode cX6_toldOf 0 = .ok (.iload_n 1, 1) := by decide +kernel
theorem dX6_toldOf_1 : decode cX6_toldOf 1 = .ok (.iconst 3, 1) := by decide +kernel
theorem dX6_toldOf_2 : decode cX6_toldOf 2 = .ok (.if_icmp .ge 12, 3) := by decide +kernel
theorem dX6_toldOf_5 : decode cX6_toldOf 5 = .ok (.aload_n 0, 1) := by decide +kernel
theorem dX6_toldOf_6 : decode cX6_toldOf 6 = .ok (.getfield 19, 3) := by decide +kernel
theorem dX6_toldOf_9 : decode cX6_toldOf 9 = .ok (.iload_n 1, 1) := by decide +kernel
theorem dX6_toldOf_10 : decode cX6_toldOf 10 = .ok (.iaload, 1) := by decide +kernel
theorem dX6_toldOf_11 : decode cX6_toldOf 11 = .ok (.goto 36, 3) := by decide +kernel
theorem dX6_toldOf_14 : decode cX6_toldOf 14 = .ok (.iload_n 1, 1) := by decide +kernel
theorem dX6_toldOf_15 : decode cX6_toldOf 15 = .ok (.iconst 3, 1) := by decide +kernel
theorem dX6_toldOf_16 : decode cX6_toldOf 16 = .ok (.if_icmp .ne 10, 3) := by decide +kernel
theorem dX6_toldOf_19 : decode cX6_toldOf 19 = .ok (.aload_n 0, 1) := by decide +kernel
theorem dX6_toldOf_20 : decode cX6_toldOf 20 = .ok (.getfield 162, 3) := by decide +kernel
theorem dX6_toldOf_23 : decode cX6_toldOf 23 = .ok (.goto 24, 3) := by decide +kernel
theorem dX6_toldOf_26 : decode cX6_toldOf 26 = .ok (.iload_n 1, 1) := by decide +kernel
theorem dX6_toldOf_27 : decode cX6_toldOf 27 = .ok (.bipush 7, 2) := by decide +kernel
theorem dX6_toldOf_29 : decode cX6_toldOf 29 = .ok (.if_icmp .ge 14, 3) := by decide +kernel
theorem dX6_toldOf_32 : decode cX6_toldOf 32 = .ok (.aload_n 0, 1) := by decide +kernel
theorem dX6_toldOf_33 : decode cX6_toldOf 33 = .ok (.getfield 7, 3) := by decide +kernel
theorem dX6_toldOf_36 : decode cX6_toldOf 36 = .ok (.iload_n 1, 1) := by decide +kernel
theorem dX6_toldOf_37 : decode cX6_toldOf 37 = .ok (.iconst 4, 1) := by decide +kernel
theorem dX6_toldOf_38 : decode cX6_toldOf 38 = .ok (.isub, 1) := by decide +kernel
theorem dX6_toldOf_39 : decode cX6_toldOf 39 = .ok (.iaload, 1) := by decide +kernel
theorem dX6_toldOf_40 : decode cX6_toldOf 40 = .ok (.goto 7, 3) := by decide +kernel
theorem dX6_toldOf_43 : decode cX6_toldOf 43 = .ok (.aload_n 0, 1) := by decide +kernel
theorem dX6_toldOf_44 : decode cX6_toldOf 44 = .ok (.getfield 38, 3) := by decide +kernel
theorem dX6_toldOf_47 : decode cX6_toldOf 47 = .ok (.ireturn, 1) := by decide +kernel
set_option maxRecDepth 20000 in
theorem ggX6_told_X6_in : GoodIn wsX6_told wsX6_in := goodIn_r _ [4] (by decide +kernel) (by decide +kernel)
set_option maxRecDepth 20000 in
theorem gX6_told_X6_in : GoodIn wsX6_told (va_wsS RX6 53 yX6_in wsX6_in) := goodIn_app (goodIn_of _ (by decide +kernel)) ggX6_told_X6_in
set_option maxRecDepth 20000 in
theorem ggX6_told_X6_toldOf : GoodIn wsX6_told wsX6_toldOf := goodIn_r _ [8, 9, 10, 11, 12, 17, 18, 19, 20, 21, 22, 23, 24, 25, 26, 27, 28, 29, 30, 31] (by decide +kernel) (by decide +kernel)
set_option maxRecDepth 20000 in
theorem gX6_told_X6_toldOf : GoodIn wsX6_told (wsV RX6 197 RX6 yX6_toldOf wsX6_toldOf) := goodIn_app (goodIn_of _ (by decide +kernel)) ggX6_told_X6_toldOf
set_option maxRecDepth 20000 in
theorem ggX6_told_X6_refuses : GoodIn wsX6_told wsX6_refuses := goodIn_r _ [16, 9, 17, 18, 19, 20, 21, 22, 23, 24, 25, 26, 27, 28, 29, 30, 31] (by decide +kernel) (by decide +kernel)
set_option maxRecDepth 20000 in
theorem gX6_told_X6_refuses : GoodIn wsX6_told (wsV RX6 46 RX6 yX6_refuses wsX6_refuses) := goodIn_app (goodIn_of _ (by decide +kernel)) ggX6_told_X6_refuses
theorem dX6_told_0 : decode cX6_told 0 = .ok (.iload_n 1, 1) := by decide +kernel
theorem dX6_told_1 : decode cX6_told 1 = .ok (.iconst 0, 1) := by decide +kernel
theorem dX6_told_2 : decode cX6_told 2 = .ok (.bipush 7, 2) := by decide +kernel
theorem dX6_told_4 : decode cX6_told 4 = .ok (.invokestatic 53, 3) := by decide +kernel
theorem dX6_told_7 : decode cX6_told 7 = .ok (.ifCond .eq 11, 3) := by decide +kernel
theorem dX6_told_10 : decode cX6_told 10 = .ok (.aload_n 0, 1) := by decide +kernel
theorem dX6_told_11 : decode cX6_told 11 = .ok (.iload_n 1, 1) := by decide +kernel
theorem dX6_told_12 : decode cX6_told 12 = .ok (.invokevirtual 197, 3) := by decide +kernel
theorem dX6_told_15 : decode cX6_told 15 = .ok (.goto 9, 3) := by decide +kernel
theorem dX6_told_18 : decode cX6_told 18 = .ok (.aload_n 0, 1) := by decide +kernel
theorem dX6_told_19 : decode cX6_told 19 = .ok (.bipush (-2), 2) := by decide +kernel
theorem dX6_told_21 : decode cX6_told 21 = .ok (.invokevirtual 46, 3) := by decide +kernel
theorem dX6_told_24 : decode cX6_told 24 = .ok (.ireturn, 1) := by decide +kernel
theorem dX6_mix_0 : decode cX6_mix 0 = .ok (.aload_n 0, 1) := by decide +kernel
theorem dX6_mix_1 : decode cX6_mix 1 = .ok (.ldc2_w 200, 3) := by decide +kernel
theorem dX6_mix_4 : decode cX6_mix 4 = .ok (.aload_n 0, 1) := by decide +kernel
theorem dX6_mix_5 : decode cX6_mix 5 = .ok (.getfield 202, 3) := by decide +kernel
theorem dX6_mix_8 : decode cX6_mix 8 = .ok (.lmul, 1) := by decide +kernel
theorem dX6_mix_9 : decode cX6_mix 9 = .ok (.lload_n 1, 1) := by decide +kernel
theorem dX6_mix_10 : decode cX6_mix 10 = .ok (.ladd, 1) := by decide +kernel
theorem dX6_mix_11 : decode cX6_mix 11 = .ok (.putfield 202, 3) := by decide +kernel
theorem dX6_mix_14 : decode cX6_mix 14 = .ok (.return_, 1) := by decide +kernel
set_option maxRecDepth 20000 in
theorem ggX6_digest_X6_toldOf : GoodIn wsX6_digest wsX6_toldOf := goodIn_r _ [8, 9, 10, 3, 11, 99, 100, 101, 102, 103, 104, 105, 106, 107, 108, 109, 110, 111, 112, 113] (by decide +kernel) (by decide +kernel)
set_option maxRecDepth 20000 in
theorem gX6_digest_X6_toldOf : GoodIn wsX6_digest (wsV RX6 197 RX6 yX6_toldOf wsX6_toldOf) := goodIn_app (goodIn_of _ (by decide +kernel)) ggX6_digest_X6_toldOf
set_option maxRecDepth 20000 in
theorem ggX6_digest_X6_mix : GoodIn wsX6_digest wsX6_mix := goodIn_r _ [15, 16, 2, 99, 100, 101, 102, 103, 104, 105, 106, 107, 108, 109, 110, 111, 112, 113] (by decide +kernel) (by decide +kernel)
set_option maxRecDepth 20000 in
theorem gX6_digest_X6_mix : GoodIn wsX6_digest (wsV RX6 208 RX6 yX6_mix wsX6_mix) := goodIn_app (goodIn_of _ (by decide +kernel)) ggX6_digest_X6_mix
set_option maxRecDepth 20000 in
theorem ggX6_digest_X6_ofShaft : GoodIn wsX6_digest wsX6_ofShaft := goodIn_r _ [20, 3, 21, 22, 23, 7, 24, 25, 26, 27, 28, 29, 30, 31, 32, 33, 34, 35, 36, 37, 38, 39, 99, 100, 101, 102, 103, 104, 105, 106, 107, 108, 109, 110, 111, 112, 113] (by decide +kernel) (by decide +kernel)
set_option maxRecDepth 20000 in
theorem gX6_digest_X6_ofShaft : GoodIn wsX6_digest (wsV RX6 107 RX6 yX6_ofShaft wsX6_ofShaft) := goodIn_app (goodIn_of _ (by decide +kernel)) ggX6_digest_X6_ofShaft
set_option maxRecDepth 20000 in
theorem ggX6_digest_X6_whenOf : GoodIn wsX6_digest wsX6_whenOf := goodIn_r _ [43, 44, 45, 46, 7, 47, 3, 48, 49, 50, 51, 52, 53, 54, 55, 56, 21, 22, 23, 24, 57, 58, 59, 60, 61, 62, 63, 32, 33, 34, 35, 64, 65, 66, 67, 36, 37, 38, 39, 68, 69, 70, 99, 100, 101, 102, 103, 104, 105, 106, 107, 108, 109, 110, 111, 112, 113] (by decide +kernel) (by decide +kernel)
set_option maxRecDepth 20000 in
theorem gX6_digest_X6_whenOf : GoodIn wsX6_digest (wsV RX6 141 RX6 yX6_whenOf wsX6_whenOf) := goodIn_app (goodIn_of _ (by decide +kernel)) ggX6_digest_X6_whenOf
set_option maxRecDepth 20000 in
theorem ggX6_digest_X6_pipeOf : GoodIn wsX6_digest wsX6_pipeOf := goodIn_r _ [24, 3, 99, 100, 101, 102, 103, 104, 105, 106, 107, 108, 109, 110, 111, 112, 113] (by decide +kernel) (by decide +kernel)
set_option maxRecDepth 20000 in
theorem gX6_digest_X6_pipeOf : GoodIn wsX6_digest (wsV RX6 57 RX6 yX6_pipeOf wsX6_pipeOf) := goodIn_app (goodIn_of _ (by decide +kernel)) ggX6_digest_X6_pipeOf
set_option maxRecDepth 20000 in
theorem ggX6_digest_X6_comesOf : GoodIn wsX6_digest wsX6_comesOf := goodIn_r _ [74, 48, 49, 50, 51, 7, 52, 3, 53, 54, 55, 56, 21, 22, 23, 24, 57, 58, 59, 60, 61, 62, 63, 32, 33, 34, 35, 64, 65, 66, 67, 36, 37, 38, 39, 99, 100, 101, 102, 103, 104, 105, 106, 107, 108, 109, 110, 111, 112, 113] (by decide +kernel) (by decide +kernel)
set_option maxRecDepth 20000 in
theorem gX6_digest_X6_comesOf : GoodIn wsX6_digest (wsV RX6 130 RX6 yX6_comesOf wsX6_comesOf) := goodIn_app (goodIn_of _ (by decide +kernel)) ggX6_digest_X6_comesOf
set_option maxRecDepth 20000 in
theorem ggX6_digest_X6_nextOf : GoodIn wsX6_digest wsX6_nextOf := goodIn_r _ [78, 3, 79, 80, 81, 7, 82, 40, 41, 42, 43, 44, 45, 46, 47, 48, 49, 50, 51, 52, 53, 54, 55, 56, 21, 22, 23, 24, 57, 58, 59, 60, 61, 62, 63, 32, 33, 34, 35, 64, 65, 66, 67, 36, 37, 38, 39, 68, 69, 70, 29, 30, 31, 25, 26, 27, 28, 83, 84, 85, 99, 100, 101, 102, 103, 104, 105, 106, 107, 108, 109, 110, 111, 112, 113] (by decide +kernel) (by decide +kernel)
set_option maxRecDepth 20000 in
theorem gX6_digest_X6_nextOf : GoodIn wsX6_digest (wsV RX6 150 RX6 yX6_nextOf wsX6_nextOf) := goodIn_app (goodIn_of _ (by decide +kernel)) ggX6_digest_X6_nextOf
set_option maxRecDepth 20000 in
theorem ggX6_digest_X6_sensorsOf : GoodIn wsX6_digest wsX6_sensorsOf := goodIn_r _ [89, 3, 90, 91, 92, 7, 93, 94, 25, 26, 27, 28, 21, 22, 23, 24, 29, 30, 31, 83, 84, 85, 95, 96, 97, 98, 99, 100, 101, 102, 103, 104, 105, 106, 107, 108, 109, 110, 111, 112, 113] (by decide +kernel) (by decide +kernel)
set_option maxRecDepth 20000 in
theorem gX6_digest_X6_sensorsOf : GoodIn wsX6_digest (wsV RX6 159 RX6 yX6_sensorsOf wsX6_sensorsOf) := goodIn_app (goodIn_of _ (by decide +kernel)) ggX6_digest_X6_sensorsOf
theorem dX6_digest_0 : decode cX6_digest 0 = .ok (.aload_n 0, 1) := by decide +kernel
theorem dX6_digest_1 : decode cX6_digest 1 = .ok (.ldc2_w 206, 3) := by decide +kernel
theorem dX6_digest_4 : decode cX6_digest 4 = .ok (.putfield 202, 3) := by decide +kernel
theorem dX6_digest_7 : decode cX6_digest 7 = .ok (.iconst 0, 1) := by decide +kernel
theorem dX6_digest_8 : decode cX6_digest 8 = .ok (.istore_n 1, 1) := by decide +kernel
theorem dX6_digest_9 : decode cX6_digest 9 = .ok (.iload_n 1, 1) := by decide +kernel
theorem dX6_digest_10 : decode cX6_digest 10 = .ok (.bipush 8, 2) := by decide +kernel
theorem dX6_digest_12 : decode cX6_digest 12 = .ok (.if_icmp .ge 19, 3) := by decide +kernel
theorem dX6_digest_15 : decode cX6_digest 15 = .ok (.aload_n 0, 1) := by decide +kernel
theorem dX6_digest_16 : decode cX6_digest 16 = .ok (.aload_n 0, 1) := by decide +kernel
theorem dX6_digest_17 : decode cX6_digest 17 = .ok (.iload_n 1, 1) := by decide +kernel
theorem dX6_digest_18 : decode cX6_digest 18 = .ok (.invokevirtual 197, 3) := by decide +kernel
theorem dX6_digest_21 : decode cX6_digest 21 = .ok (.i2l, 1) := by decide +kernel
theorem dX6_digest_22 : decode cX6_digest 22 = .ok (.invokevirtual 208, 3) := by decide +kernel
theorem dX6_digest_25 : decode cX6_digest 25 = .ok (.iinc 1 1, 3) := by decide +kernel
theorem dX6_digest_28 : decode cX6_digest 28 = .ok (.goto (-19), 3) := by decide +kernel
theorem dX6_digest_31 : decode cX6_digest 31 = .ok (.aload_n 0, 1) := by decide +kernel
theorem dX6_digest_32 : decode cX6_digest 32 = .ok (.getfield 7, 3) := by decide +kernel
theorem dX6_digest_35 : decode cX6_digest 35 = .ok (.iconst 0, 1) := by decide +kernel
theorem dX6_digest_36 : decode cX6_digest 36 = .ok (.iaload, 1) := by decide +kernel
theorem dX6_digest_37 : decode cX6_digest 37 = .ok (.istore_n 1, 1) := by decide +kernel
theorem dX6_digest_38 : decode cX6_digest 38 = .ok (.iconst 0, 1) := by decide +kernel
theorem dX6_digest_39 : decode cX6_digest 39 = .ok (.istore_n 2, 1) := by decide +kernel
theorem dX6_digest_40 : decode cX6_digest 40 = .ok (.iload_n 2, 1) := by decide +kernel
theorem dX6_digest_41 : decode cX6_digest 41 = .ok (.iload_n 1, 1) := by decide +kernel
theorem dX6_digest_42 : decode cX6_digest 42 = .ok (.if_icmp .ge 44, 3) := by decide +kernel
theorem dX6_digest_45 : decode cX6_digest 45 = .ok (.iconst 0, 1) := by decide +kernel
theorem dX6_digest_46 : decode cX6_digest 46 = .ok (.istore_n 3, 1) := by decide +kernel
theorem dX6_digest_47 : decode cX6_digest 47 = .ok (.iload_n 3, 1) := by decide +kernel
theorem dX6_digest_48 : decode cX6_digest 48 = .ok (.bipush 6, 2) := by decide +kernel
theorem dX6_digest_50 : decode cX6_digest 50 = .ok (.if_icmp .ge 20, 3) := by decide +kernel
theorem dX6_digest_53 : decode cX6_digest 53 = .ok (.aload_n 0, 1) := by decide +kernel
theorem dX6_digest_54 : decode cX6_digest 54 = .ok (.aload_n 0, 1) := by decide +kernel
theorem dX6_digest_55 : decode cX6_digest 55 = .ok (.iload_n 2, 1) := by decide +kernel
theorem dX6_digest_56 : decode cX6_digest 56 = .ok (.iload_n 3, 1) := by decide +kernel
theorem dX6_digest_57 : decode cX6_digest 57 = .ok (.invokevirtual 107, 3) := by decide +kernel
theorem dX6_digest_60 : decode cX6_digest 60 = .ok (.i2l, 1) := by decide +kernel
theorem dX6_digest_61 : decode cX6_digest 61 = .ok (.invokevirtual 208, 3) := by decide +kernel
theorem dX6_digest_64 : decode cX6_digest 64 = .ok (.iinc 3 1, 3) := by decide +kernel
theorem dX6_digest_67 : decode cX6_digest 67 = .ok (.goto (-20), 3) := by decide +kernel
theorem dX6_digest_70 : decode cX6_digest 70 = .ok (.aload_n 0, 1) := by decide +kernel
theorem dX6_digest_71 : decode cX6_digest 71 = .ok (.aload_n 0, 1) := by decide +kernel
theorem dX6_digest_72 : decode cX6_digest 72 = .ok (.iload_n 2, 1) := by decide +kernel
theorem dX6_digest_73 : decode cX6_digest 73 = .ok (.invokevirtual 141, 3) := by decide +kernel
theorem dX6_digest_76 : decode cX6_digest 76 = .ok (.i2l, 1) := by decide +kernel
theorem dX6_digest_77 : decode cX6_digest 77 = .ok (.invokevirtual 208, 3) := by decide +kernel
theorem dX6_digest_80 : decode cX6_digest 80 = .ok (.iinc 2 1, 3) := by decide +kernel
theorem dX6_digest_83 : decode cX6_digest 83 = .ok (.goto (-43), 3) := by decide +kernel
theorem dX6_digest_86 : decode cX6_digest 86 = .ok (.iconst 0, 1) := by decide +kernel
theorem dX6_digest_87 : decode cX6_digest 87 = .ok (.istore_n 2, 1) := by decide +kernel
theorem dX6_digest_88 : decode cX6_digest 88 = .ok (.iload_n 2, 1) := by decide +kernel
theorem dX6_digest_89 : decode cX6_digest 89 = .ok (.iconst 4, 1) := by decide +kernel
theorem dX6_digest_90 : decode cX6_digest 90 = .ok (.aload_n 0, 1) := by decide +kernel
theorem dX6_digest_91 : decode cX6_digest 91 = .ok (.getfield 7, 3) := by decide +kernel
theorem dX6_digest_94 : decode cX6_digest 94 = .ok (.iconst 1, 1) := by decide +kernel
theorem dX6_digest_95 : decode cX6_digest 95 = .ok (.iaload, 1) := by decide +kernel
theorem dX6_digest_96 : decode cX6_digest 96 = .ok (.imul, 1) := by decide +kernel
theorem dX6_digest_97 : decode cX6_digest 97 = .ok (.if_icmp .ge 24, 3) := by decide +kernel
theorem dX6_digest_100 : decode cX6_digest 100 = .ok (.aload_n 0, 1) := by decide +kernel
theorem dX6_digest_101 : decode cX6_digest 101 = .ok (.aload_n 0, 1) := by decide +kernel
theorem dX6_digest_102 : decode cX6_digest 102 = .ok (.iload_n 2, 1) := by decide +kernel
theorem dX6_digest_103 : decode cX6_digest 103 = .ok (.iconst 4, 1) := by decide +kernel
theorem dX6_digest_104 : decode cX6_digest 104 = .ok (.idiv, 1) := by decide +kernel
theorem dX6_digest_105 : decode cX6_digest 105 = .ok (.iload_n 2, 1) := by decide +kernel
theorem dX6_digest_106 : decode cX6_digest 106 = .ok (.iconst 4, 1) := by decide +kernel
theorem dX6_digest_107 : decode cX6_digest 107 = .ok (.irem, 1) := by decide +kernel
theorem dX6_digest_108 : decode cX6_digest 108 = .ok (.invokevirtual 57, 3) := by decide +kernel
theorem dX6_digest_111 : decode cX6_digest 111 = .ok (.i2l, 1) := by decide +kernel
theorem dX6_digest_112 : decode cX6_digest 112 = .ok (.invokevirtual 208, 3) := by decide +kernel
theorem dX6_digest_115 : decode cX6_digest 115 = .ok (.iinc 2 1, 3) := by decide +kernel
theorem dX6_digest_118 : decode cX6_digest 118 = .ok (.goto (-30), 3) := by decide +kernel
theorem dX6_digest_121 : decode cX6_digest 121 = .ok (.iconst 0, 1) := by decide +kernel
theorem dX6_digest_122 : decode cX6_digest 122 = .ok (.istore_n 2, 1) := by decide +kernel
theorem dX6_digest_123 : decode cX6_digest 123 = .ok (.iload_n 2, 1) := by decide +kernel
theorem dX6_digest_124 : decode cX6_digest 124 = .ok (.iload_n 1, 1) := by decide +kernel
theorem dX6_digest_125 : decode cX6_digest 125 = .ok (.if_icmp .ge 33, 3) := by decide +kernel
theorem dX6_digest_128 : decode cX6_digest 128 = .ok (.iconst 0, 1) := by decide +kernel
theorem dX6_digest_129 : decode cX6_digest 129 = .ok (.istore_n 3, 1) := by decide +kernel
theorem dX6_digest_130 : decode cX6_digest 130 = .ok (.iload_n 3, 1) := by decide +kernel
theorem dX6_digest_131 : decode cX6_digest 131 = .ok (.iload_n 1, 1) := by decide +kernel
theorem dX6_digest_132 : decode cX6_digest 132 = .ok (.if_icmp .ge 20, 3) := by decide +kernel
theorem dX6_digest_135 : decode cX6_digest 135 = .ok (.aload_n 0, 1) := by decide +kernel
theorem dX6_digest_136 : decode cX6_digest 136 = .ok (.aload_n 0, 1) := by decide +kernel
theorem dX6_digest_137 : decode cX6_digest 137 = .ok (.iload_n 3, 1) := by decide +kernel
theorem dX6_digest_138 : decode cX6_digest 138 = .ok (.iconst 5, 1) := by decide +kernel
theorem dX6_digest_139 : decode cX6_digest 139 = .ok (.iload_n 2, 1) := by decide +kernel
theorem dX6_digest_140 : decode cX6_digest 140 = .ok (.invokevirtual 130, 3) := by decide +kernel
theorem dX6_digest_143 : decode cX6_digest 143 = .ok (.invokevirtual 208, 3) := by decide +kernel
theorem dX6_digest_146 : decode cX6_digest 146 = .ok (.iinc 3 1, 3) := by decide +kernel
theorem dX6_digest_149 : decode cX6_digest 149 = .ok (.goto (-19), 3) := by decide +kernel
theorem dX6_digest_152 : decode cX6_digest 152 = .ok (.iinc 2 1, 3) := by decide +kernel
theorem dX6_digest_155 : decode cX6_digest 155 = .ok (.goto (-32), 3) := by decide +kernel
theorem dX6_digest_158 : decode cX6_digest 158 = .ok (.aload_n 0, 1) := by decide +kernel
theorem dX6_digest_159 : decode cX6_digest 159 = .ok (.aload_n 0, 1) := by decide +kernel
theorem dX6_digest_160 : decode cX6_digest 160 = .ok (.iconst 0, 1) := by decide +kernel
theorem dX6_digest_161 : decode cX6_digest 161 = .ok (.invokevirtual 150, 3) := by decide +kernel
theorem dX6_digest_164 : decode cX6_digest 164 = .ok (.i2l, 1) := by decide +kernel
theorem dX6_digest_165 : decode cX6_digest 165 = .ok (.invokevirtual 208, 3) := by decide +kernel
theorem dX6_digest_168 : decode cX6_digest 168 = .ok (.aload_n 0, 1) := by decide +kernel
theorem dX6_digest_169 : decode cX6_digest 169 = .ok (.aload_n 0, 1) := by decide +kernel
theorem dX6_digest_170 : decode cX6_digest 170 = .ok (.iconst 1, 1) := by decide +kernel
theorem dX6_digest_171 : decode cX6_digest 171 = .ok (.invokevirtual 150, 3) := by decide +kernel
theorem dX6_digest_174 : decode cX6_digest 174 = .ok (.i2l, 1) := by decide +kernel
theorem dX6_digest_175 : decode cX6_digest 175 = .ok (.invokevirtual 208, 3) := by decide +kernel
theorem dX6_digest_178 : decode cX6_digest 178 = .ok (.aload_n 0, 1) := by decide +kernel
theorem dX6_digest_179 : decode cX6_digest 179 = .ok (.aload_n 0, 1) := by decide +kernel
theorem dX6_digest_180 : decode cX6_digest 180 = .ok (.iconst 0, 1) := by decide +kernel
theorem dX6_digest_181 : decode cX6_digest 181 = .ok (.invokevirtual 159, 3) := by decide +kernel
theorem dX6_digest_184 : decode cX6_digest 184 = .ok (.i2l, 1) := by decide +kernel
theorem dX6_digest_185 : decode cX6_digest 185 = .ok (.invokevirtual 208, 3) := by decide +kernel
theorem dX6_digest_188 : decode cX6_digest 188 = .ok (.aload_n 0, 1) := by decide +kernel
theorem dX6_digest_189 : decode cX6_digest 189 = .ok (.getfield 202, 3) := by decide +kernel
theorem dX6_digest_192 : decode cX6_digest 192 = .ok (.lreturn, 1) := by decide +kernel
end
section
theorem dJ6_numberOfLeadingZeros_0f7a4_0 : decode cJ6_numberOfLeadingZeros_0f7a4 0 = .ok (.iload_n 0, 1) := by decide +kernel
theorem dJ6_numberOfLeadingZeros_0f7a4_1 : decode cJ6_numberOfLeadingZeros_0f7a4 1 = .ok (.ifCond .gt 14, 3) := by decide +kernel
theorem dJ6_numberOfLeadingZeros_0f7a4_4 : decode cJ6_numberOfLeadingZeros_0f7a4 4 = .ok (.iload_n 0, 1) := by decide +kernel
theorem dJ6_numberOfLeadingZeros_0f7a4_5 : decode cJ6_numberOfLeadingZeros_0f7a4 5 = .ok (.ifCond .ne 8, 3) := by decide +kernel
theorem dJ6_numberOfLeadingZeros_0f7a4_8 : decode cJ6_numberOfLeadingZeros_0f7a4 8 = .ok (.bipush 32, 2) := by decide +kernel
theorem dJ6_numberOfLeadingZeros_0f7a4_10 : decode cJ6_numberOfLeadingZeros_0f7a4 10 = .ok (.goto 4, 3) := by decide +kernel
theorem dJ6_numberOfLeadingZeros_0f7a4_13 : decode cJ6_numberOfLeadingZeros_0f7a4 13 = .ok (.iconst 0, 1) := by decide +kernel
theorem dJ6_numberOfLeadingZeros_0f7a4_14 : decode cJ6_numberOfLeadingZeros_0f7a4 14 = .ok (.ireturn, 1) := by decide +kernel
theorem dJ6_numberOfLeadingZeros_0f7a4_15 : decode cJ6_numberOfLeadingZeros_0f7a4 15 = .ok (.bipush 31, 2) := by decide +kernel
theorem dJ6_numberOfLeadingZeros_0f7a4_17 : decode cJ6_numberOfLeadingZeros_0f7a4 17 = .ok (.istore_n 1, 1) := by decide +kernel
theorem dJ6_numberOfLeadingZeros_0f7a4_18 : decode cJ6_numberOfLeadingZeros_0f7a4 18 = .ok (.iload_n 0, 1) := by decide +kernel
theorem dJ6_numberOfLeadingZeros_0f7a4_19 : decode cJ6_numberOfLeadingZeros_0f7a4 19 = .ok (.ldc_w 264, 3) := by decide +kernel
theorem dJ6_numberOfLeadingZeros_0f7a4_22 : decode cJ6_numberOfLeadingZeros_0f7a4 22 = .ok (.if_icmp .lt 11, 3) := by decide +kernel
theorem dJ6_numberOfLeadingZeros_0f7a4_25 : decode cJ6_numberOfLeadingZeros_0f7a4 25 = .ok (.iinc 1 (-16), 3) := by decide +kernel
theorem dJ6_numberOfLeadingZeros_0f7a4_28 : decode cJ6_numberOfLeadingZeros_0f7a4 28 = .ok (.iload_n 0, 1) := by decide +kernel
theorem dJ6_numberOfLeadingZeros_0f7a4_29 : decode cJ6_numberOfLeadingZeros_0f7a4 29 = .ok (.bipush 16, 2) := by decide +kernel
theorem dJ6_numberOfLeadingZeros_0f7a4_31 : decode cJ6_numberOfLeadingZeros_0f7a4 31 = .ok (.iushr, 1) := by decide +kernel
theorem dJ6_numberOfLeadingZeros_0f7a4_32 : decode cJ6_numberOfLeadingZeros_0f7a4 32 = .ok (.istore_n 0, 1) := by decide +kernel
theorem dJ6_numberOfLeadingZeros_0f7a4_33 : decode cJ6_numberOfLeadingZeros_0f7a4 33 = .ok (.iload_n 0, 1) := by decide +kernel
theorem dJ6_numberOfLeadingZeros_0f7a4_34 : decode cJ6_numberOfLeadingZeros_0f7a4 34 = .ok (.sipush 256, 3) := by decide +kernel
theorem dJ6_numberOfLeadingZeros_0f7a4_37 : decode cJ6_numberOfLeadingZeros_0f7a4 37 = .ok (.if_icmp .lt 11, 3) := by decide +kernel
theorem dJ6_numberOfLeadingZeros_0f7a4_40 : decode cJ6_numberOfLeadingZeros_0f7a4 40 = .ok (.iinc 1 (-8), 3) := by decide +kernel
theorem dJ6_numberOfLeadingZeros_0f7a4_43 : decode cJ6_numberOfLeadingZeros_0f7a4 43 = .ok (.iload_n 0, 1) := by decide +kernel
theorem dJ6_numberOfLeadingZeros_0f7a4_44 : decode cJ6_numberOfLeadingZeros_0f7a4 44 = .ok (.bipush 8, 2) := by decide +kernel
theorem dJ6_numberOfLeadingZeros_0f7a4_46 : decode cJ6_numberOfLeadingZeros_0f7a4 46 = .ok (.iushr, 1) := by decide +kernel
theorem dJ6_numberOfLeadingZeros_0f7a4_47 : decode cJ6_numberOfLeadingZeros_0f7a4 47 = .ok (.istore_n 0, 1) := by decide +kernel
theorem dJ6_numberOfLeadingZeros_0f7a4_48 : decode cJ6_numberOfLeadingZeros_0f7a4 48 = .ok (.iload_n 0, 1) := by decide +kernel
theorem dJ6_numberOfLeadingZeros_0f7a4_49 : decode cJ6_numberOfLeadingZeros_0f7a4 49 = .ok (.bipush 16, 2) := by decide +kernel
theorem dJ6_numberOfLeadingZeros_0f7a4_51 : decode cJ6_numberOfLeadingZeros_0f7a4 51 = .ok (.if_icmp .lt 10, 3) := by decide +kernel
theorem dJ6_numberOfLeadingZeros_0f7a4_54 : decode cJ6_numberOfLeadingZeros_0f7a4 54 = .ok (.iinc 1 (-4), 3) := by decide +kernel
theorem dJ6_numberOfLeadingZeros_0f7a4_57 : decode cJ6_numberOfLeadingZeros_0f7a4 57 = .ok (.iload_n 0, 1) := by decide +kernel
theorem dJ6_numberOfLeadingZeros_0f7a4_58 : decode cJ6_numberOfLeadingZeros_0f7a4 58 = .ok (.iconst 4, 1) := by decide +kernel
theorem dJ6_numberOfLeadingZeros_0f7a4_59 : decode cJ6_numberOfLeadingZeros_0f7a4 59 = .ok (.iushr, 1) := by decide +kernel
theorem dJ6_numberOfLeadingZeros_0f7a4_60 : decode cJ6_numberOfLeadingZeros_0f7a4 60 = .ok (.istore_n 0, 1) := by decide +kernel
theorem dJ6_numberOfLeadingZeros_0f7a4_61 : decode cJ6_numberOfLeadingZeros_0f7a4 61 = .ok (.iload_n 0, 1) := by decide +kernel
theorem dJ6_numberOfLeadingZeros_0f7a4_62 : decode cJ6_numberOfLeadingZeros_0f7a4 62 = .ok (.iconst 4, 1) := by decide +kernel
theorem dJ6_numberOfLeadingZeros_0f7a4_63 : decode cJ6_numberOfLeadingZeros_0f7a4 63 = .ok (.if_icmp .lt 10, 3) := by decide +kernel
theorem dJ6_numberOfLeadingZeros_0f7a4_66 : decode cJ6_numberOfLeadingZeros_0f7a4 66 = .ok (.iinc 1 (-2), 3) := by decide +kernel
theorem dJ6_numberOfLeadingZeros_0f7a4_69 : decode cJ6_numberOfLeadingZeros_0f7a4 69 = .ok (.iload_n 0, 1) := by decide +kernel
theorem dJ6_numberOfLeadingZeros_0f7a4_70 : decode cJ6_numberOfLeadingZeros_0f7a4 70 = .ok (.iconst 2, 1) := by decide +kernel
theorem dJ6_numberOfLeadingZeros_0f7a4_71 : decode cJ6_numberOfLeadingZeros_0f7a4 71 = .ok (.iushr, 1) := by decide +kernel
theorem dJ6_numberOfLeadingZeros_0f7a4_72 : decode cJ6_numberOfLeadingZeros_0f7a4 72 = .ok (.istore_n 0, 1) := by decide +kernel
theorem dJ6_numberOfLeadingZeros_0f7a4_73 : decode cJ6_numberOfLeadingZeros_0f7a4 73 = .ok (.iload_n 1, 1) := by decide +kernel
theorem dJ6_numberOfLeadingZeros_0f7a4_74 : decode cJ6_numberOfLeadingZeros_0f7a4 74 = .ok (.iload_n 0, 1) := by decide +kernel
theorem dJ6_numberOfLeadingZeros_0f7a4_75 : decode cJ6_numberOfLeadingZeros_0f7a4 75 = .ok (.iconst 1, 1) := by decide +kernel
theorem dJ6_numberOfLeadingZeros_0f7a4_76 : decode cJ6_numberOfLeadingZeros_0f7a4 76 = .ok (.iushr, 1) := by decide +kernel
theorem dJ6_numberOfLeadingZeros_0f7a4_77 : decode cJ6_numberOfLeadingZeros_0f7a4 77 = .ok (.isub, 1) := by decide +kernel
theorem dJ6_numberOfLeadingZeros_0f7a4_78 : decode cJ6_numberOfLeadingZeros_0f7a4 78 = .ok (.ireturn, 1) := by decide +kernel
theorem dJ6_numberOfTrailingZeros_0f7a4_0 : decode cJ6_numberOfTrailingZeros_0f7a4 0 = .ok (.iload_n 0, 1) := by decide +kernel
theorem dJ6_numberOfTrailingZeros_0f7a4_1 : decode cJ6_numberOfTrailingZeros_0f7a4 1 = .ok (.iconst (-1), 1) := by decide +kernel
theorem dJ6_numberOfTrailingZeros_0f7a4_2 : decode cJ6_numberOfTrailingZeros_0f7a4 2 = .ok (.ixor, 1) := by decide +kernel
theorem dJ6_numberOfTrailingZeros_0f7a4_3 : decode cJ6_numberOfTrailingZeros_0f7a4 3 = .ok (.iload_n 0, 1) := by decide +kernel
theorem dJ6_numberOfTrailingZeros_0f7a4_4 : decode cJ6_numberOfTrailingZeros_0f7a4 4 = .ok (.iconst 1, 1) := by decide +kernel
theorem dJ6_numberOfTrailingZeros_0f7a4_5 : decode cJ6_numberOfTrailingZeros_0f7a4 5 = .ok (.isub, 1) := by decide +kernel
theorem dJ6_numberOfTrailingZeros_0f7a4_6 : decode cJ6_numberOfTrailingZeros_0f7a4 6 = .ok (.iand, 1) := by decide +kernel
theorem dJ6_numberOfTrailingZeros_0f7a4_7 : decode cJ6_numberOfTrailingZeros_0f7a4 7 = .ok (.istore_n 0, 1) := by decide +kernel
theorem dJ6_numberOfTrailingZeros_0f7a4_8 : decode cJ6_numberOfTrailingZeros_0f7a4 8 = .ok (.iload_n 0, 1) := by decide +kernel
theorem dJ6_numberOfTrailingZeros_0f7a4_9 : decode cJ6_numberOfTrailingZeros_0f7a4 9 = .ok (.ifCond .gt 8, 3) := by decide +kernel
theorem dJ6_numberOfTrailingZeros_0f7a4_12 : decode cJ6_numberOfTrailingZeros_0f7a4 12 = .ok (.iload_n 0, 1) := by decide +kernel
theorem dJ6_numberOfTrailingZeros_0f7a4_13 : decode cJ6_numberOfTrailingZeros_0f7a4 13 = .ok (.bipush 32, 2) := by decide +kernel
theorem dJ6_numberOfTrailingZeros_0f7a4_15 : decode cJ6_numberOfTrailingZeros_0f7a4 15 = .ok (.iand, 1) := by decide +kernel
theorem dJ6_numberOfTrailingZeros_0f7a4_16 : decode cJ6_numberOfTrailingZeros_0f7a4 16 = .ok (.ireturn, 1) := by decide +kernel
theorem dJ6_numberOfTrailingZeros_0f7a4_17 : decode cJ6_numberOfTrailingZeros_0f7a4 17 = .ok (.iconst 1, 1) := by decide +kernel
theorem dJ6_numberOfTrailingZeros_0f7a4_18 : decode cJ6_numberOfTrailingZeros_0f7a4 18 = .ok (.istore_n 1, 1) := by decide +kernel
theorem dJ6_numberOfTrailingZeros_0f7a4_19 : decode cJ6_numberOfTrailingZeros_0f7a4 19 = .ok (.iload_n 0, 1) := by decide +kernel
theorem dJ6_numberOfTrailingZeros_0f7a4_20 : decode cJ6_numberOfTrailingZeros_0f7a4 20 = .ok (.ldc_w 264, 3) := by decide +kernel
theorem dJ6_numberOfTrailingZeros_0f7a4_23 : decode cJ6_numberOfTrailingZeros_0f7a4 23 = .ok (.if_icmp .le 11, 3) := by decide +kernel
theorem dJ6_numberOfTrailingZeros_0f7a4_26 : decode cJ6_numberOfTrailingZeros_0f7a4 26 = .ok (.iinc 1 16, 3) := by decide +kernel
theorem dJ6_numberOfTrailingZeros_0f7a4_29 : decode cJ6_numberOfTrailingZeros_0f7a4 29 = .ok (.iload_n 0, 1) := by decide +kernel
theorem dJ6_numberOfTrailingZeros_0f7a4_30 : decode cJ6_numberOfTrailingZeros_0f7a4 30 = .ok (.bipush 16, 2) := by decide +kernel
theorem dJ6_numberOfTrailingZeros_0f7a4_32 : decode cJ6_numberOfTrailingZeros_0f7a4 32 = .ok (.iushr, 1) := by decide +kernel
theorem dJ6_numberOfTrailingZeros_0f7a4_33 : decode cJ6_numberOfTrailingZeros_0f7a4 33 = .ok (.istore_n 0, 1) := by decide +kernel
theorem dJ6_numberOfTrailingZeros_0f7a4_34 : decode cJ6_numberOfTrailingZeros_0f7a4 34 = .ok (.iload_n 0, 1) := by decide +kernel
theorem dJ6_numberOfTrailingZeros_0f7a4_35 : decode cJ6_numberOfTrailingZeros_0f7a4 35 = .ok (.sipush 256, 3) := by decide +kernel
theorem dJ6_numberOfTrailingZeros_0f7a4_38 : decode cJ6_numberOfTrailingZeros_0f7a4 38 = .ok (.if_icmp .le 11, 3) := by decide +kernel
theorem dJ6_numberOfTrailingZeros_0f7a4_41 : decode cJ6_numberOfTrailingZeros_0f7a4 41 = .ok (.iinc 1 8, 3) := by decide +kernel
theorem dJ6_numberOfTrailingZeros_0f7a4_44 : decode cJ6_numberOfTrailingZeros_0f7a4 44 = .ok (.iload_n 0, 1) := by decide +kernel
theorem dJ6_numberOfTrailingZeros_0f7a4_45 : decode cJ6_numberOfTrailingZeros_0f7a4 45 = .ok (.bipush 8, 2) := by decide +kernel
theorem dJ6_numberOfTrailingZeros_0f7a4_47 : decode cJ6_numberOfTrailingZeros_0f7a4 47 = .ok (.iushr, 1) := by decide +kernel
theorem dJ6_numberOfTrailingZeros_0f7a4_48 : decode cJ6_numberOfTrailingZeros_0f7a4 48 = .ok (.istore_n 0, 1) := by decide +kernel
theorem dJ6_numberOfTrailingZeros_0f7a4_49 : decode cJ6_numberOfTrailingZeros_0f7a4 49 = .ok (.iload_n 0, 1) := by decide +kernel
theorem dJ6_numberOfTrailingZeros_0f7a4_50 : decode cJ6_numberOfTrailingZeros_0f7a4 50 = .ok (.bipush 16, 2) := by decide +kernel
theorem dJ6_numberOfTrailingZeros_0f7a4_52 : decode cJ6_numberOfTrailingZeros_0f7a4 52 = .ok (.if_icmp .le 10, 3) := by decide +kernel
theorem dJ6_numberOfTrailingZeros_0f7a4_55 : decode cJ6_numberOfTrailingZeros_0f7a4 55 = .ok (.iinc 1 4, 3) := by decide +kernel
theorem dJ6_numberOfTrailingZeros_0f7a4_58 : decode cJ6_numberOfTrailingZeros_0f7a4 58 = .ok (.iload_n 0, 1) := by decide +kernel
theorem dJ6_numberOfTrailingZeros_0f7a4_59 : decode cJ6_numberOfTrailingZeros_0f7a4 59 = .ok (.iconst 4, 1) := by decide +kernel
theorem dJ6_numberOfTrailingZeros_0f7a4_60 : decode cJ6_numberOfTrailingZeros_0f7a4 60 = .ok (.iushr, 1) := by decide +kernel
theorem dJ6_numberOfTrailingZeros_0f7a4_61 : decode cJ6_numberOfTrailingZeros_0f7a4 61 = .ok (.istore_n 0, 1) := by decide +kernel
theorem dJ6_numberOfTrailingZeros_0f7a4_62 : decode cJ6_numberOfTrailingZeros_0f7a4 62 = .ok (.iload_n 0, 1) := by decide +kernel
theorem dJ6_numberOfTrailingZeros_0f7a4_63 : decode cJ6_numberOfTrailingZeros_0f7a4 63 = .ok (.iconst 4, 1) := by decide +kernel
theorem dJ6_numberOfTrailingZeros_0f7a4_64 : decode cJ6_numberOfTrailingZeros_0f7a4 64 = .ok (.if_icmp .le 10, 3) := by decide +kernel
theorem dJ6_numberOfTrailingZeros_0f7a4_67 : decode cJ6_numberOfTrailingZeros_0f7a4 67 = .ok (.iinc 1 2, 3) := by decide +kernel
theorem dJ6_numberOfTrailingZeros_0f7a4_70 : decode cJ6_numberOfTrailingZeros_0f7a4 70 = .ok (.iload_n 0, 1) := by decide +kernel
theorem dJ6_numberOfTrailingZeros_0f7a4_71 : decode cJ6_numberOfTrailingZeros_0f7a4 71 = .ok (.iconst 2, 1) := by decide +kernel
theorem dJ6_numberOfTrailingZeros_0f7a4_72 : decode cJ6_numberOfTrailingZeros_0f7a4 72 = .ok (.iushr, 1) := by decide +kernel
theorem dJ6_numberOfTrailingZeros_0f7a4_73 : decode cJ6_numberOfTrailingZeros_0f7a4 73 = .ok (.istore_n 0, 1) := by decide +kernel
theorem dJ6_numberOfTrailingZeros_0f7a4_74 : decode cJ6_numberOfTrailingZeros_0f7a4 74 = .ok (.iload_n 1, 1) := by decide +kernel
theorem dJ6_numberOfTrailingZeros_0f7a4_75 : decode cJ6_numberOfTrailingZeros_0f7a4 75 = .ok (.iload_n 0, 1) := by decide +kernel
theorem dJ6_numberOfTrailingZeros_0f7a4_76 : decode cJ6_numberOfTrailingZeros_0f7a4 76 = .ok (.iconst 1, 1) := by decide +kernel
theorem dJ6_numberOfTrailingZeros_0f7a4_77 : decode cJ6_numberOfTrailingZeros_0f7a4 77 = .ok (.iushr, 1) := by decide +kernel
theorem dJ6_numberOfTrailingZeros_0f7a4_78 : decode cJ6_numberOfTrailingZeros_0f7a4 78 = .ok (.iadd, 1) := by decide +kernel
theorem dJ6_numberOfTrailingZeros_0f7a4_79 : decode cJ6_numberOfTrailingZeros_0f7a4 79 = .ok (.ireturn, 1) := by decide +kernel
theorem dJ6_bitCount_0f7a4_0 : decode cJ6_bitCount_0f7a4 0 = .ok (.iload_n 0, 1) := by decide +kernel
theorem dJ6_bitCount_0f7a4_1 : decode cJ6_bitCount_0f7a4 1 = .ok (.iload_n 0, 1) := by decide +kernel
theorem dJ6_bitCount_0f7a4_2 : decode cJ6_bitCount_0f7a4 2 = .ok (.iconst 1, 1) := by decide +kernel
theorem dJ6_bitCount_0f7a4_3 : decode cJ6_bitCount_0f7a4 3 = .ok (.iushr, 1) := by decide +kernel
theorem dJ6_bitCount_0f7a4_4 : decode cJ6_bitCount_0f7a4 4 = .ok (.ldc_w 265, 3) := by decide +kernel
theorem dJ6_bitCount_0f7a4_7 : decode cJ6_bitCount_0f7a4 7 = .ok (.iand, 1) := by decide +kernel
theorem dJ6_bitCount_0f7a4_8 : decode cJ6_bitCount_0f7a4 8 = .ok (.isub, 1) := by decide +kernel
theorem dJ6_bitCount_0f7a4_9 : decode cJ6_bitCount_0f7a4 9 = .ok (.istore_n 0, 1) := by decide +kernel
theorem dJ6_bitCount_0f7a4_10 : decode cJ6_bitCount_0f7a4 10 = .ok (.iload_n 0, 1) := by decide +kernel
theorem dJ6_bitCount_0f7a4_11 : decode cJ6_bitCount_0f7a4 11 = .ok (.ldc_w 266, 3) := by decide +kernel
theorem dJ6_bitCount_0f7a4_14 : decode cJ6_bitCount_0f7a4 14 = .ok (.iand, 1) := by decide +kernel
theorem dJ6_bitCount_0f7a4_15 : decode cJ6_bitCount_0f7a4 15 = .ok (.iload_n 0, 1) := by decide +kernel
theorem dJ6_bitCount_0f7a4_16 : decode cJ6_bitCount_0f7a4 16 = .ok (.iconst 2, 1) := by decide +kernel
theorem dJ6_bitCount_0f7a4_17 : decode cJ6_bitCount_0f7a4 17 = .ok (.iushr, 1) := by decide +kernel
theorem dJ6_bitCount_0f7a4_18 : decode cJ6_bitCount_0f7a4 18 = .ok (.ldc_w 266, 3) := by decide +kernel
theorem dJ6_bitCount_0f7a4_21 : decode cJ6_bitCount_0f7a4 21 = .ok (.iand, 1) := by decide +kernel
theorem dJ6_bitCount_0f7a4_22 : decode cJ6_bitCount_0f7a4 22 = .ok (.iadd, 1) := by decide +kernel
theorem dJ6_bitCount_0f7a4_23 : decode cJ6_bitCount_0f7a4 23 = .ok (.istore_n 0, 1) := by decide +kernel
theorem dJ6_bitCount_0f7a4_24 : decode cJ6_bitCount_0f7a4 24 = .ok (.iload_n 0, 1) := by decide +kernel
theorem dJ6_bitCount_0f7a4_25 : decode cJ6_bitCount_0f7a4 25 = .ok (.iload_n 0, 1) := by decide +kernel
theorem dJ6_bitCount_0f7a4_26 : decode cJ6_bitCount_0f7a4 26 = .ok (.iconst 4, 1) := by decide +kernel
theorem dJ6_bitCount_0f7a4_27 : decode cJ6_bitCount_0f7a4 27 = .ok (.iushr, 1) := by decide +kernel
theorem dJ6_bitCount_0f7a4_28 : decode cJ6_bitCount_0f7a4 28 = .ok (.iadd, 1) := by decide +kernel
theorem dJ6_bitCount_0f7a4_29 : decode cJ6_bitCount_0f7a4 29 = .ok (.ldc_w 267, 3) := by decide +kernel
theorem dJ6_bitCount_0f7a4_32 : decode cJ6_bitCount_0f7a4 32 = .ok (.iand, 1) := by decide +kernel
theorem dJ6_bitCount_0f7a4_33 : decode cJ6_bitCount_0f7a4 33 = .ok (.istore_n 0, 1) := by decide +kernel
theorem dJ6_bitCount_0f7a4_34 : decode cJ6_bitCount_0f7a4 34 = .ok (.iload_n 0, 1) := by decide +kernel
theorem dJ6_bitCount_0f7a4_35 : decode cJ6_bitCount_0f7a4 35 = .ok (.iload_n 0, 1) := by decide +kernel
theorem dJ6_bitCount_0f7a4_36 : decode cJ6_bitCount_0f7a4 36 = .ok (.bipush 8, 2) := by decide +kernel
theorem dJ6_bitCount_0f7a4_38 : decode cJ6_bitCount_0f7a4 38 = .ok (.iushr, 1) := by decide +kernel
theorem dJ6_bitCount_0f7a4_39 : decode cJ6_bitCount_0f7a4 39 = .ok (.iadd, 1) := by decide +kernel
theorem dJ6_bitCount_0f7a4_40 : decode cJ6_bitCount_0f7a4 40 = .ok (.istore_n 0, 1) := by decide +kernel
theorem dJ6_bitCount_0f7a4_41 : decode cJ6_bitCount_0f7a4 41 = .ok (.iload_n 0, 1) := by decide +kernel
theorem dJ6_bitCount_0f7a4_42 : decode cJ6_bitCount_0f7a4 42 = .ok (.iload_n 0, 1) := by decide +kernel
theorem dJ6_bitCount_0f7a4_43 : decode cJ6_bitCount_0f7a4 43 = .ok (.bipush 16, 2) := by decide +kernel
theorem dJ6_bitCount_0f7a4_45 : decode cJ6_bitCount_0f7a4 45 = .ok (.iushr, 1) := by decide +kernel
theorem dJ6_bitCount_0f7a4_46 : decode cJ6_bitCount_0f7a4 46 = .ok (.iadd, 1) := by decide +kernel
theorem dJ6_bitCount_0f7a4_47 : decode cJ6_bitCount_0f7a4 47 = .ok (.istore_n 0, 1) := by decide +kernel
theorem dJ6_bitCount_0f7a4_48 : decode cJ6_bitCount_0f7a4 48 = .ok (.iload_n 0, 1) := by decide +kernel
theorem dJ6_bitCount_0f7a4_49 : decode cJ6_bitCount_0f7a4 49 = .ok (.bipush 63, 2) := by decide +kernel
theorem dJ6_bitCount_0f7a4_51 : decode cJ6_bitCount_0f7a4 51 = .ok (.iand, 1) := by decide +kernel
theorem dJ6_bitCount_0f7a4_52 : decode cJ6_bitCount_0f7a4 52 = .ok (.ireturn, 1) := by decide +kernel
set_option maxRecDepth 20000 in
theorem ggJ13_numberOfLeadingZeros_95d88_J6_numberOfLeadingZeros_0f7a4 : GoodIn wsJ13_numberOfLeadingZeros_95d88 wsJ6_numberOfLeadingZeros_0f7a4 := goodIn_r _ [4, 5] (by decide +kernel) (by decide +kernel)
set_option maxRecDepth 20000 in
theorem gJ13_numberOfLeadingZeros_95d88_J6_numberOfLeadingZeros_0f7a4 : GoodIn wsJ13_numberOfLeadingZeros_95d88 (va_wsS RJ13 308 yJ6_numberOfLeadingZeros_0f7a4 wsJ6_numberOfLeadingZeros_0f7a4) := goodIn_app (goodIn_of _ (by decide +kernel)) ggJ13_numberOfLeadingZeros_95d88_J6_numberOfLeadingZeros_0f7a4
theorem dJ13_numberOfLeadingZeros_95d88_0 : decode cJ13_numberOfLeadingZeros_95d88 0 = .ok (.lload_n 0, 1) := by decide +kernel
theorem dJ13_numberOfLeadingZeros_95d88_1 : decode cJ13_numberOfLeadingZeros_95d88 1 = .ok (.bipush 32, 2) := by decide +kernel
theorem dJ13_numberOfLeadingZeros_95d88_3 : decode cJ13_numberOfLeadingZeros_95d88 3 = .ok (.lushr, 1) := by decide +kernel
theorem dJ13_numberOfLeadingZeros_95d88_4 : decode cJ13_numberOfLeadingZeros_95d88 4 = .ok (.l2i, 1) := by decide +kernel
theorem dJ13_numberOfLeadingZeros_95d88_5 : decode cJ13_numberOfLeadingZeros_95d88 5 = .ok (.istore_n 2, 1) := by decide +kernel
theorem dJ13_numberOfLeadingZeros_95d88_6 : decode cJ13_numberOfLeadingZeros_95d88 6 = .ok (.iload_n 2, 1) := by decide +kernel
theorem dJ13_numberOfLeadingZeros_95d88_7 : decode cJ13_numberOfLeadingZeros_95d88 7 = .ok (.ifCond .ne 14, 3) := by decide +kernel
theorem dJ13_numberOfLeadingZeros_95d88_10 : decode cJ13_numberOfLeadingZeros_95d88 10 = .ok (.bipush 32, 2) := by decide +kernel
theorem dJ13_numberOfLeadingZeros_95d88_12 : decode cJ13_numberOfLeadingZeros_95d88 12 = .ok (.lload_n 0, 1) := by decide +kernel
theorem dJ13_numberOfLeadingZeros_95d88_13 : decode cJ13_numberOfLeadingZeros_95d88 13 = .ok (.l2i, 1) := by decide +kernel
theorem dJ13_numberOfLeadingZeros_95d88_14 : decode cJ13_numberOfLeadingZeros_95d88 14 = .ok (.invokestatic 308, 3) := by decide +kernel
theorem dJ13_numberOfLeadingZeros_95d88_17 : decode cJ13_numberOfLeadingZeros_95d88 17 = .ok (.iadd, 1) := by decide +kernel
theorem dJ13_numberOfLeadingZeros_95d88_18 : decode cJ13_numberOfLeadingZeros_95d88 18 = .ok (.goto 7, 3) := by decide +kernel
theorem dJ13_numberOfLeadingZeros_95d88_21 : decode cJ13_numberOfLeadingZeros_95d88 21 = .ok (.iload_n 2, 1) := by decide +kernel
theorem dJ13_numberOfLeadingZeros_95d88_22 : decode cJ13_numberOfLeadingZeros_95d88 22 = .ok (.invokestatic 308, 3) := by decide +kernel
theorem dJ13_numberOfLeadingZeros_95d88_25 : decode cJ13_numberOfLeadingZeros_95d88 25 = .ok (.ireturn, 1) := by decide +kernel
set_option maxRecDepth 20000 in
theorem ggJ13_numberOfTrailingZeros_95d88_J6_numberOfTrailingZeros_0f7a4 : GoodIn wsJ13_numberOfTrailingZeros_95d88 wsJ6_numberOfTrailingZeros_0f7a4 := goodIn_r _ [4, 5] (by decide +kernel) (by decide +kernel)
set_option maxRecDepth 20000 in
theorem gJ13_numberOfTrailingZeros_95d88_J6_numberOfTrailingZeros_0f7a4 : GoodIn wsJ13_numberOfTrailingZeros_95d88 (va_wsS RJ13 311 yJ6_numberOfTrailingZeros_0f7a4 wsJ6_numberOfTrailingZeros_0f7a4) := goodIn_app (goodIn_of _ (by decide +kernel)) ggJ13_numberOfTrailingZeros_95d88_J6_numberOfTrailingZeros_0f7a4
theorem dJ13_numberOfTrailingZeros_95d88_0 : decode cJ13_numberOfTrailingZeros_95d88 0 = .ok (.lload_n 0, 1) := by decide +kernel
theorem dJ13_numberOfTrailingZeros_95d88_1 : decode cJ13_numberOfTrailingZeros_95d88 1 = .ok (.l2i, 1) := by decide +kernel
theorem dJ13_numberOfTrailingZeros_95d88_2 : decode cJ13_numberOfTrailingZeros_95d88 2 = .ok (.istore_n 2, 1) := by decide +kernel
theorem dJ13_numberOfTrailingZeros_95d88_3 : decode cJ13_numberOfTrailingZeros_95d88 3 = .ok (.iload_n 2, 1) := by decide +kernel
theorem dJ13_numberOfTrailingZeros_95d88_4 : decode cJ13_numberOfTrailingZeros_95d88 4 = .ok (.ifCond .ne 17, 3) := by decide +kernel
theorem dJ13_numberOfTrailingZeros_95d88_7 : decode cJ13_numberOfTrailingZeros_95d88 7 = .ok (.bipush 32, 2) := by decide +kernel
theorem dJ13_numberOfTrailingZeros_95d88_9 : decode cJ13_numberOfTrailingZeros_95d88 9 = .ok (.lload_n 0, 1) := by decide +kernel
theorem dJ13_numberOfTrailingZeros_95d88_10 : decode cJ13_numberOfTrailingZeros_95d88 10 = .ok (.bipush 32, 2) := by decide +kernel
theorem dJ13_numberOfTrailingZeros_95d88_12 : decode cJ13_numberOfTrailingZeros_95d88 12 = .ok (.lushr, 1) := by decide +kernel
theorem dJ13_numberOfTrailingZeros_95d88_13 : decode cJ13_numberOfTrailingZeros_95d88 13 = .ok (.l2i, 1) := by decide +kernel
theorem dJ13_numberOfTrailingZeros_95d88_14 : decode cJ13_numberOfTrailingZeros_95d88 14 = .ok (.invokestatic 311, 3) := by decide +kernel
theorem dJ13_numberOfTrailingZeros_95d88_17 : decode cJ13_numberOfTrailingZeros_95d88 17 = .ok (.iadd, 1) := by decide +kernel
theorem dJ13_numberOfTrailingZeros_95d88_18 : decode cJ13_numberOfTrailingZeros_95d88 18 = .ok (.goto 7, 3) := by decide +kernel
theorem dJ13_numberOfTrailingZeros_95d88_21 : decode cJ13_numberOfTrailingZeros_95d88 21 = .ok (.iload_n 2, 1) := by decide +kernel
theorem dJ13_numberOfTrailingZeros_95d88_22 : decode cJ13_numberOfTrailingZeros_95d88 22 = .ok (.invokestatic 311, 3) := by decide +kernel
theorem dJ13_numberOfTrailingZeros_95d88_25 : decode cJ13_numberOfTrailingZeros_95d88 25 = .ok (.ireturn, 1) := by decide +kernel
theorem dJ13_bitCount_95d88_0 : decode cJ13_bitCount_95d88 0 = .ok (.lload_n 0, 1) := by decide +kernel
theorem dJ13_bitCount_95d88_1 : decode cJ13_bitCount_95d88 1 = .ok (.lload_n 0, 1) := by decide +kernel
theorem dJ13_bitCount_95d88_2 : decode cJ13_bitCount_95d88 2 = .ok (.iconst 1, 1) := by decide +kernel
theorem dJ13_bitCount_95d88_3 : decode cJ13_bitCount_95d88 3 = .ok (.lushr, 1) := by decide +kernel
theorem dJ13_bitCount_95d88_4 : decode cJ13_bitCount_95d88 4 = .ok (.ldc2_w 314, 3) := by decide +kernel
theorem dJ13_bitCount_95d88_7 : decode cJ13_bitCount_95d88 7 = .ok (.land, 1) := by decide +kernel
theorem dJ13_bitCount_95d88_8 : decode cJ13_bitCount_95d88 8 = .ok (.lsub, 1) := by decide +kernel
theorem dJ13_bitCount_95d88_9 : decode cJ13_bitCount_95d88 9 = .ok (.lstore_n 0, 1) := by decide +kernel
theorem dJ13_bitCount_95d88_10 : decode cJ13_bitCount_95d88 10 = .ok (.lload_n 0, 1) := by decide +kernel
theorem dJ13_bitCount_95d88_11 : decode cJ13_bitCount_95d88 11 = .ok (.ldc2_w 316, 3) := by decide +kernel
theorem dJ13_bitCount_95d88_14 : decode cJ13_bitCount_95d88 14 = .ok (.land, 1) := by decide +kernel
theorem dJ13_bitCount_95d88_15 : decode cJ13_bitCount_95d88 15 = .ok (.lload_n 0, 1) := by decide +kernel
theorem dJ13_bitCount_95d88_16 : decode cJ13_bitCount_95d88 16 = .ok (.iconst 2, 1) := by decide +kernel
theorem dJ13_bitCount_95d88_17 : decode cJ13_bitCount_95d88 17 = .ok (.lushr, 1) := by decide +kernel
theorem dJ13_bitCount_95d88_18 : decode cJ13_bitCount_95d88 18 = .ok (.ldc2_w 316, 3) := by decide +kernel
theorem dJ13_bitCount_95d88_21 : decode cJ13_bitCount_95d88 21 = .ok (.land, 1) := by decide +kernel
theorem dJ13_bitCount_95d88_22 : decode cJ13_bitCount_95d88 22 = .ok (.ladd, 1) := by decide +kernel
theorem dJ13_bitCount_95d88_23 : decode cJ13_bitCount_95d88 23 = .ok (.lstore_n 0, 1) := by decide +kernel
theorem dJ13_bitCount_95d88_24 : decode cJ13_bitCount_95d88 24 = .ok (.lload_n 0, 1) := by decide +kernel
theorem dJ13_bitCount_95d88_25 : decode cJ13_bitCount_95d88 25 = .ok (.lload_n 0, 1) := by decide +kernel
theorem dJ13_bitCount_95d88_26 : decode cJ13_bitCount_95d88 26 = .ok (.iconst 4, 1) := by decide +kernel
theorem dJ13_bitCount_95d88_27 : decode cJ13_bitCount_95d88 27 = .ok (.lushr, 1) := by decide +kernel
theorem dJ13_bitCount_95d88_28 : decode cJ13_bitCount_95d88 28 = .ok (.ladd, 1) := by decide +kernel
theorem dJ13_bitCount_95d88_29 : decode cJ13_bitCount_95d88 29 = .ok (.ldc2_w 318, 3) := by decide +kernel
theorem dJ13_bitCount_95d88_32 : decode cJ13_bitCount_95d88 32 = .ok (.land, 1) := by decide +kernel
theorem dJ13_bitCount_95d88_33 : decode cJ13_bitCount_95d88 33 = .ok (.lstore_n 0, 1) := by decide +kernel
theorem dJ13_bitCount_95d88_34 : decode cJ13_bitCount_95d88 34 = .ok (.lload_n 0, 1) := by decide +kernel
theorem dJ13_bitCount_95d88_35 : decode cJ13_bitCount_95d88 35 = .ok (.lload_n 0, 1) := by decide +kernel
theorem dJ13_bitCount_95d88_36 : decode cJ13_bitCount_95d88 36 = .ok (.bipush 8, 2) := by decide +kernel
theorem dJ13_bitCount_95d88_38 : decode cJ13_bitCount_95d88 38 = .ok (.lushr, 1) := by decide +kernel
theorem dJ13_bitCount_95d88_39 : decode cJ13_bitCount_95d88 39 = .ok (.ladd, 1) := by decide +kernel
theorem dJ13_bitCount_95d88_40 : decode cJ13_bitCount_95d88 40 = .ok (.lstore_n 0, 1) := by decide +kernel
theorem dJ13_bitCount_95d88_41 : decode cJ13_bitCount_95d88 41 = .ok (.lload_n 0, 1) := by decide +kernel
theorem dJ13_bitCount_95d88_42 : decode cJ13_bitCount_95d88 42 = .ok (.lload_n 0, 1) := by decide +kernel
theorem dJ13_bitCount_95d88_43 : decode cJ13_bitCount_95d88 43 = .ok (.bipush 16, 2) := by decide +kernel
theorem dJ13_bitCount_95d88_45 : decode cJ13_bitCount_95d88 45 = .ok (.lushr, 1) := by decide +kernel
theorem dJ13_bitCount_95d88_46 : decode cJ13_bitCount_95d88 46 = .ok (.ladd, 1) := by decide +kernel
theorem dJ13_bitCount_95d88_47 : decode cJ13_bitCount_95d88 47 = .ok (.lstore_n 0, 1) := by decide +kernel
theorem dJ13_bitCount_95d88_48 : decode cJ13_bitCount_95d88 48 = .ok (.lload_n 0, 1) := by decide +kernel
theorem dJ13_bitCount_95d88_49 : decode cJ13_bitCount_95d88 49 = .ok (.lload_n 0, 1) := by decide +kernel
theorem dJ13_bitCount_95d88_50 : decode cJ13_bitCount_95d88 50 = .ok (.bipush 32, 2) := by decide +kernel
theorem dJ13_bitCount_95d88_52 : decode cJ13_bitCount_95d88 52 = .ok (.lushr, 1) := by decide +kernel
theorem dJ13_bitCount_95d88_53 : decode cJ13_bitCount_95d88 53 = .ok (.ladd, 1) := by decide +kernel
theorem dJ13_bitCount_95d88_54 : decode cJ13_bitCount_95d88 54 = .ok (.lstore_n 0, 1) := by decide +kernel
theorem dJ13_bitCount_95d88_55 : decode cJ13_bitCount_95d88 55 = .ok (.lload_n 0, 1) := by decide +kernel
theorem dJ13_bitCount_95d88_56 : decode cJ13_bitCount_95d88 56 = .ok (.l2i, 1) := by decide +kernel
theorem dJ13_bitCount_95d88_57 : decode cJ13_bitCount_95d88 57 = .ok (.bipush 127, 2) := by decide +kernel
theorem dJ13_bitCount_95d88_59 : decode cJ13_bitCount_95d88 59 = .ok (.iand, 1) := by decide +kernel
theorem dJ13_bitCount_95d88_60 : decode cJ13_bitCount_95d88 60 = .ok (.ireturn, 1) := by decide +kernel
theorem dJ9_max_7cf53_0 : decode cJ9_max_7cf53 0 = .ok (.iload_n 0, 1) := by decide +kernel
theorem dJ9_max_7cf53_1 : decode cJ9_max_7cf53 1 = .ok (.iload_n 1, 1) := by decide +kernel
theorem dJ9_max_7cf53_2 : decode cJ9_max_7cf53 2 = .ok (.if_icmp .lt 7, 3) := by decide +kernel
theorem dJ9_max_7cf53_5 : decode cJ9_max_7cf53 5 = .ok (.iload_n 0, 1) := by decide +kernel
theorem dJ9_max_7cf53_6 : decode cJ9_max_7cf53 6 = .ok (.goto 4, 3) := by decide +kernel
theorem dJ9_max_7cf53_9 : decode cJ9_max_7cf53 9 = .ok (.iload_n 1, 1) := by decide +kernel
theorem dJ9_max_7cf53_10 : decode cJ9_max_7cf53 10 = .ok (.ireturn, 1) := by decide +kernel
theorem dJ9_min_7cf53_0 : decode cJ9_min_7cf53 0 = .ok (.iload_n 0, 1) := by decide +kernel
theorem dJ9_min_7cf53_1 : decode cJ9_min_7cf53 1 = .ok (.iload_n 1, 1) := by decide +kernel
theorem dJ9_min_7cf53_2 : decode cJ9_min_7cf53 2 = .ok (.if_icmp .gt 7, 3) := by decide +kernel
theorem dJ9_min_7cf53_5 : decode cJ9_min_7cf53 5 = .ok (.iload_n 0, 1) := by decide +kernel
theorem dJ9_min_7cf53_6 : decode cJ9_min_7cf53 6 = .ok (.goto 4, 3) := by decide +kernel
theorem dJ9_min_7cf53_9 : decode cJ9_min_7cf53 9 = .ok (.iload_n 1, 1) := by decide +kernel
theorem dJ9_min_7cf53_10 : decode cJ9_min_7cf53 10 = .ok (.ireturn, 1) := by decide +kernel
theorem dJ7_fill_d0a16_0 : decode cJ7_fill_d0a16 0 = .ok (.iconst 0, 1) := by decide +kernel
theorem dJ7_fill_d0a16_1 : decode cJ7_fill_d0a16 1 = .ok (.istore_n 3, 1) := by decide +kernel
theorem dJ7_fill_d0a16_2 : decode cJ7_fill_d0a16 2 = .ok (.aload_n 0, 1) := by decide +kernel
theorem dJ7_fill_d0a16_3 : decode cJ7_fill_d0a16 3 = .ok (.arraylength, 1) := by decide +kernel
theorem dJ7_fill_d0a16_4 : decode cJ7_fill_d0a16 4 = .ok (.istore 4, 2) := by decide +kernel
theorem dJ7_fill_d0a16_6 : decode cJ7_fill_d0a16 6 = .ok (.iload_n 3, 1) := by decide +kernel
theorem dJ7_fill_d0a16_7 : decode cJ7_fill_d0a16 7 = .ok (.iload 4, 2) := by decide +kernel
theorem dJ7_fill_d0a16_9 : decode cJ7_fill_d0a16 9 = .ok (.if_icmp .ge 13, 3) := by decide +kernel
theorem dJ7_fill_d0a16_12 : decode cJ7_fill_d0a16 12 = .ok (.aload_n 0, 1) := by decide +kernel
theorem dJ7_fill_d0a16_13 : decode cJ7_fill_d0a16 13 = .ok (.iload_n 3, 1) := by decide +kernel
theorem dJ7_fill_d0a16_14 : decode cJ7_fill_d0a16 14 = .ok (.lload_n 1, 1) := by decide +kernel
theorem dJ7_fill_d0a16_15 : decode cJ7_fill_d0a16 15 = .ok (.lastore, 1) := by decide +kernel
theorem dJ7_fill_d0a16_16 : decode cJ7_fill_d0a16 16 = .ok (.iinc 3 1, 3) := by decide +kernel
theorem dJ7_fill_d0a16_19 : decode cJ7_fill_d0a16 19 = .ok (.goto (-13), 3) := by decide +kernel
theorem dJ7_fill_d0a16_22 : decode cJ7_fill_d0a16 22 = .ok (.return_, 1) := by decide +kernel
set_option maxRecDepth 20000 in
theorem ggL_law_X5_init : GoodIn wsL_law wsX5_init := goodIn_r _ [8, 9, 10, 11, 12, 13, 14, 15, 16, 17, 18, 19, 20, 21, 22, 23, 24, 25, 26, 27, 28, 29, 30, 31, 32, 33, 34, 35, 36, 37, 38, 39, 40, 41, 42, 43, 44, 45, 46, 47, 48, 49, 50, 51, 52, 53, 54, 55, 56, 57, 58, 59, 60, 61, 62, 63, 64, 65, 66, 67, 68, 69, 70, 71, 767, 768, 769, 770, 771, 772, 773, 774, 775, 776, 777, 778, 779, 780, 742, 743, 744, 745, 746, 747, 748, 749, 750, 751, 781, 782, 783, 784, 785, 786, 787, 788, 789, 790, 791, 792, 793, 794] (by decide +kernel) (by decide +kernel)
set_option maxRecDepth 20000 in
theorem gL_law_X5_init : GoodIn wsL_law (wsX5_init) := ggL_law_X5_init
set_option maxRecDepth 20000 in
theorem ggL_law_X6_init : GoodIn wsL_law wsX6_init := goodIn_r _ [74, 75, 10, 11, 37, 76, 77, 78, 79, 59, 80, 81, 82, 83, 84, 85, 752, 753, 754, 755, 756, 757, 758, 759, 760, 761, 762, 763, 764, 765, 766] (by decide +kernel) (by decide +kernel)
set_option maxRecDepth 20000 in
theorem gL_law_X6_init : GoodIn wsL_law (wsX6_init) := ggL_law_X6_init
set_option maxRecDepth 20000 in
theorem ggL_law_X5_shaft : GoodIn wsL_law wsX5_shaft := goodIn_r _ [89, 19, 15, 90, 91, 92, 18, 93, 54, 94, 95, 96, 97, 14, 98, 99, 38, 39, 47, 100, 40, 41, 42, 43, 48, 101, 44, 45, 46, 102, 103, 104, 105, 106, 107, 108, 109, 110, 111, 112, 113, 114, 115, 116, 117, 118, 119, 120, 2, 121, 122, 123, 124, 125, 126, 127, 128, 129, 130, 131, 132, 133, 134, 135, 136, 137, 138, 139, 140, 141, 142, 143, 144, 145, 146, 147, 23, 148, 149, 150, 151, 152, 153, 154, 155, 156, 157, 158, 159, 160, 161, 22, 162, 163, 742, 743, 744, 745, 746, 747, 748, 749, 750, 751, 781, 782, 767, 768, 769, 770, 771, 772, 773, 774, 775, 776, 777, 778, 779, 780, 783, 784, 785, 786] (by decide +kernel) (by decide +kernel)
set_option maxRecDepth 20000 in
theorem gL_law_X5_shaft : GoodIn wsL_law (wsV RL 13 RX5 yX5_shaft wsX5_shaft) := goodIn_app (goodIn_of _ (by decide +kernel)) ggL_law_X5_shaft
set_option maxRecDepth 20000 in
theorem ggL_law_X6_shaft : GoodIn wsL_law wsX6_shaft := goodIn_r _ [167, 168, 169, 170, 5, 171, 77, 76, 172, 173, 174, 175, 176, 177, 178, 179, 180, 181, 182, 183, 184, 185, 186, 187, 188, 189, 79, 190, 191, 192, 193, 85, 78, 752, 753, 754, 755, 756, 757, 758, 759, 760, 761, 762, 763, 764, 765, 766] (by decide +kernel) (by decide +kernel)
set_option maxRecDepth 20000 in
theorem gL_law_X6_shaft : GoodIn wsL_law (wsV RL 17 RX6 yX6_shaft wsX6_shaft) := goodIn_app (goodIn_of _ (by decide +kernel)) ggL_law_X6_shaft
set_option maxRecDepth 20000 in
theorem ggL_law_X5_sets : GoodIn wsL_law wsX5_sets := goodIn_r _ [197, 19, 15, 90, 91, 92, 18, 93, 54, 94, 95, 96, 97, 14, 98, 99, 38, 39, 47, 100, 40, 41, 42, 43, 48, 101, 44, 45, 46, 102, 103, 104, 105, 106, 107, 108, 109, 110, 111, 112, 198, 199, 200, 201, 202, 203, 204, 205, 120, 2, 121, 117, 118, 119, 122, 123, 124, 144, 145, 146, 147, 23, 148, 149, 150, 151, 152, 153, 154, 155, 156, 157, 158, 159, 160, 161, 22, 162, 163, 742, 743, 744, 745, 746, 747, 748, 749, 750, 751, 781, 782, 767, 768, 769, 770, 771, 772, 773, 774, 775, 776, 777, 778, 779, 780, 783, 784, 785, 786] (by decide +kernel) (by decide +kernel)
set_option maxRecDepth 20000 in
theorem gL_law_X5_sets : GoodIn wsL_law (wsV RL 18 RX5 yX5_sets wsX5_sets) := goodIn_app (goodIn_of _ (by decide +kernel)) ggL_law_X5_sets
set_option maxRecDepth 20000 in
theorem ggL_law_X6_sets : GoodIn wsL_law wsX6_sets := goodIn_r _ [209, 168, 169, 170, 5, 171, 77, 76, 210, 211, 212, 213, 176, 177, 178, 179, 180, 181, 214, 215, 216, 217, 182, 183, 184, 185, 186, 187, 188, 189, 79, 190, 191, 192, 193, 85, 78, 752, 753, 754, 755, 756, 757, 758, 759, 760, 761, 762, 763, 764, 765, 766] (by decide +kernel) (by decide +kernel)
set_option maxRecDepth 20000 in
theorem gL_law_X6_sets : GoodIn wsL_law (wsV RL 22 RX6 yX6_sets wsX6_sets) := goodIn_app (goodIn_of _ (by decide +kernel)) ggL_law_X6_sets
set_option maxRecDepth 20000 in
theorem ggL_law_X5_pipe : GoodIn wsL_law wsX5_pipe := goodIn_r _ [221, 19, 15, 90, 91, 92, 18, 93, 54, 94, 95, 96, 97, 14, 98, 99, 38, 39, 47, 100, 40, 41, 42, 43, 48, 101, 44, 45, 46, 102, 103, 104, 105, 106, 107, 108, 109, 110, 111, 112, 222, 223, 224, 225, 202, 203, 204, 205, 120, 2, 121, 226, 227, 228, 229, 125, 126, 127, 128, 129, 130, 131, 132, 133, 134, 135, 136, 137, 138, 139, 140, 141, 142, 143, 144, 145, 146, 147, 23, 148, 149, 150, 151, 152, 153, 154, 155, 156, 157, 158, 159, 160, 161, 22, 162, 163, 742, 743, 744, 745, 746, 747, 748, 749, 750, 751, 781, 782, 767, 768, 769, 770, 771, 772, 773, 774, 775, 776, 777, 778, 779, 780, 783, 784, 785, 786] (by decide +kernel) (by decide +kernel)
set_option maxRecDepth 20000 in
theorem gL_law_X5_pipe : GoodIn wsL_law (wsV RL 23 RX5 yX5_pipe wsX5_pipe) := goodIn_app (goodIn_of _ (by decide +kernel)) ggL_law_X5_pipe
set_option maxRecDepth 20000 in
theorem ggL_law_X6_pipe : GoodIn wsL_law wsX6_pipe := goodIn_r _ [233, 168, 169, 170, 5, 171, 77, 76, 234, 235, 236, 237, 214, 215, 216, 217, 179, 180, 181, 238, 239, 240, 241, 242, 243, 244, 245, 246, 247, 248, 182, 183, 184, 185, 186, 187, 188, 189, 79, 190, 191, 192, 193, 85, 78, 752, 753, 754, 755, 756, 757, 758, 759, 760, 761, 762, 763, 764, 765, 766] (by decide +kernel) (by decide +kernel)
set_option maxRecDepth 20000 in
theorem gL_law_X6_pipe : GoodIn wsL_law (wsV RL 27 RX6 yX6_pipe wsX6_pipe) := goodIn_app (goodIn_of _ (by decide +kernel)) ggL_law_X6_pipe
set_option maxRecDepth 20000 in
theorem ggL_law_X5_drops : GoodIn wsL_law wsX5_drops := goodIn_r _ [252, 19, 15, 90, 91, 92, 18, 93, 54, 94, 95, 96, 97, 14, 98, 99, 38, 39, 47, 100, 40, 41, 42, 43, 48, 101, 44, 45, 46, 102, 103, 104, 105, 106, 107, 108, 109, 110, 111, 112, 253, 254, 255, 256, 257, 258, 259, 260, 120, 2, 121, 125, 126, 127, 128, 129, 130, 131, 132, 133, 134, 135, 136, 137, 138, 139, 140, 141, 142, 143, 144, 145, 146, 147, 23, 148, 149, 150, 151, 152, 153, 154, 155, 156, 157, 158, 159, 160, 161, 22, 162, 163, 742, 743, 744, 745, 746, 747, 748, 749, 750, 751, 781, 782, 767, 768, 769, 770, 771, 772, 773, 774, 775, 776, 777, 778, 779, 780, 783, 784, 785, 786] (by decide +kernel) (by decide +kernel)
set_option maxRecDepth 20000 in
theorem gL_law_X5_drops : GoodIn wsL_law (wsV RL 28 RX5 yX5_drops wsX5_drops) := goodIn_app (goodIn_of _ (by decide +kernel)) ggL_law_X5_drops
set_option maxRecDepth 20000 in
theorem ggL_law_X6_drops : GoodIn wsL_law wsX6_drops := goodIn_r _ [264, 168, 169, 170, 5, 171, 77, 76, 265, 266, 267, 268, 269, 270, 271, 272, 179, 180, 181, 182, 183, 184, 185, 186, 187, 188, 189, 79, 190, 191, 192, 193, 85, 78, 752, 753, 754, 755, 756, 757, 758, 759, 760, 761, 762, 763, 764, 765, 766] (by decide +kernel) (by decide +kernel)
set_option maxRecDepth 20000 in
theorem gL_law_X6_drops : GoodIn wsL_law (wsV RL 32 RX6 yX6_drops wsX6_drops) := goodIn_app (goodIn_of _ (by decide +kernel)) ggL_law_X6_drops
set_option maxRecDepth 20000 in
theorem ggL_law_X5_of : GoodIn wsL_law wsX5_of := goodIn_r _ [276, 15, 277, 278, 279, 280, 281, 282, 203, 204, 14, 205, 99, 120, 2, 121, 148, 149, 150, 151, 152, 153, 154, 283, 284, 285, 286, 100, 287, 288, 289, 290, 226, 227, 228, 229, 47, 742, 743, 744, 745, 746, 747, 748, 749, 750, 751, 767, 768, 769, 770, 771, 772, 773, 774, 775, 776, 777, 778, 779, 780] (by decide +kernel) (by decide +kernel)
set_option maxRecDepth 20000 in
theorem gL_law_X5_of : GoodIn wsL_law (wsV RL 33 RX5 yX5_of wsX5_of) := goodIn_app (goodIn_of _ (by decide +kernel)) ggL_law_X5_of
set_option maxRecDepth 20000 in
theorem ggL_law_X6_of : GoodIn wsL_law wsX6_of := goodIn_r _ [294, 214, 215, 216, 5, 217, 76, 179, 180, 181, 295, 296, 297, 298, 242, 243, 244, 245, 238, 239, 240, 241, 246, 247, 248, 299, 300, 301, 302, 303, 304, 305, 306, 186, 187, 188, 189, 79, 752, 753, 754, 755, 756, 757, 758, 759, 760, 761, 762, 763, 764, 765, 766] (by decide +kernel) (by decide +kernel)
set_option maxRecDepth 20000 in
theorem gL_law_X6_of : GoodIn wsL_law (wsV RL 36 RX6 yX6_of wsX6_of) := goodIn_app (goodIn_of _ (by decide +kernel)) ggL_law_X6_of
set_option maxRecDepth 20000 in
theorem ggL_law_X5_about : GoodIn wsL_law wsX5_about := goodIn_r _ [310, 15, 279, 280, 311, 312, 313, 258, 259, 14, 260, 100, 120, 2, 121, 148, 149, 150, 151, 152, 153, 154, 742, 743, 744, 745, 746, 747, 748, 749, 750, 751, 767, 768, 769, 770, 771, 772, 773, 774, 775, 776, 777, 778, 779, 780] (by decide +kernel) (by decide +kernel)
set_option maxRecDepth 20000 in
theorem gL_law_X5_about : GoodIn wsL_law (wsV RL 37 RX5 yX5_about wsX5_about) := goodIn_app (goodIn_of _ (by decide +kernel)) ggL_law_X5_about
set_option maxRecDepth 20000 in
theorem ggL_law_X6_about : GoodIn wsL_law wsX6_about := goodIn_r _ [317, 269, 270, 271, 5, 272, 76, 179, 180, 181, 242, 243, 244, 245, 186, 187, 188, 189, 79, 752, 753, 754, 755, 756, 757, 758, 759, 760, 761, 762, 763, 764, 765, 766] (by decide +kernel) (by decide +kernel)
set_option maxRecDepth 20000 in
theorem gL_law_X6_about : GoodIn wsL_law (wsV RL 40 RX6 yX6_about wsX6_about) := goodIn_app (goodIn_of _ (by decide +kernel)) ggL_law_X6_about
set_option maxRecDepth 20000 in
theorem ggL_law_X5_comes : GoodIn wsL_law wsX5_comes := goodIn_r _ [321, 15, 23, 322, 323, 324, 325, 2, 326, 282, 203, 204, 14, 205, 99, 120, 121, 327, 148, 149, 150, 151, 152, 153, 154, 328, 329, 330, 22, 331, 60, 62, 332, 333, 334, 335, 336, 337, 338, 339, 340, 341, 342, 343, 39, 38, 344, 345, 346, 347, 348, 349, 350, 351, 352, 42, 43, 742, 743, 744, 745, 746, 747, 748, 749, 750, 751, 783, 784, 785, 786, 767, 768, 769, 770, 771, 772, 773, 774, 775, 776, 777, 778, 779, 780] (by decide +kernel) (by decide +kernel)
set_option maxRecDepth 20000 in
theorem gL_law_X5_comes : GoodIn wsL_law (wsV RL 41 RX5 yX5_comes wsX5_comes) := goodIn_app (goodIn_of _ (by decide +kernel)) ggL_law_X5_comes
set_option maxRecDepth 20000 in
theorem ggL_law_X6_comes : GoodIn wsL_law wsX6_comes := goodIn_r _ [356, 357, 358, 359, 5, 360, 214, 215, 216, 217, 76, 179, 180, 181, 361, 362, 363, 364, 80, 365, 366, 367, 368, 369, 370, 371, 372, 242, 243, 244, 245, 373, 374, 375, 376, 377, 378, 379, 299, 300, 301, 302, 380, 381, 382, 383, 303, 304, 305, 306, 186, 187, 188, 189, 79, 752, 753, 754, 755, 756, 757, 758, 759, 760, 761, 762, 763, 764, 765, 766] (by decide +kernel) (by decide +kernel)
set_option maxRecDepth 20000 in
theorem gL_law_X6_comes : GoodIn wsL_law (wsV RL 45 RX6 yX6_comes wsX6_comes) := goodIn_app (goodIn_of _ (by decide +kernel)) ggL_law_X6_comes
set_option maxRecDepth 20000 in
theorem ggL_law_X5_times : GoodIn wsL_law wsX5_times := goodIn_r _ [387, 15, 23, 322, 323, 324, 325, 2, 326, 282, 203, 204, 14, 205, 99, 120, 121, 327, 148, 149, 150, 151, 152, 153, 154, 328, 329, 330, 22, 331, 60, 62, 332, 333, 334, 335, 336, 337, 338, 339, 340, 341, 342, 343, 39, 38, 344, 345, 346, 347, 348, 349, 350, 351, 352, 42, 43, 388, 389, 390, 391, 392, 393, 394, 395, 396, 397, 398, 399, 139, 400, 401, 402, 403, 404, 405, 406, 407, 742, 743, 744, 745, 746, 747, 748, 749, 750, 751, 783, 784, 785, 786, 767, 768, 769, 770, 771, 772, 773, 774, 775, 776, 777, 778, 779, 780] (by decide +kernel) (by decide +kernel)
set_option maxRecDepth 20000 in
theorem gL_law_X5_times : GoodIn wsL_law (wsV RL 46 RX5 yX5_times wsX5_times) := goodIn_app (goodIn_of _ (by decide +kernel)) ggL_law_X5_times
set_option maxRecDepth 20000 in
theorem ggL_law_X6_times : GoodIn wsL_law wsX6_times := goodIn_r _ [411, 357, 358, 359, 5, 360, 214, 215, 216, 217, 76, 179, 180, 181, 186, 187, 188, 189, 79, 361, 362, 363, 364, 80, 365, 366, 367, 368, 369, 370, 371, 372, 242, 243, 244, 245, 373, 374, 375, 376, 377, 378, 379, 299, 300, 301, 302, 380, 381, 382, 383, 303, 304, 305, 306, 412, 413, 414, 752, 753, 754, 755, 756, 757, 758, 759, 760, 761, 762, 763, 764, 765, 766] (by decide +kernel) (by decide +kernel)
set_option maxRecDepth 20000 in
theorem gL_law_X6_times : GoodIn wsL_law (wsV RL 49 RX6 yX6_times wsX6_times) := goodIn_app (goodIn_of _ (by decide +kernel)) ggL_law_X6_times
set_option maxRecDepth 20000 in
theorem ggL_law_X5_leaves : GoodIn wsL_law wsX5_leaves := goodIn_r _ [418, 15, 282, 203, 204, 14, 205, 99, 120, 2, 121, 327, 148, 149, 150, 151, 152, 153, 154, 419, 341, 342, 343, 39, 38, 344, 345, 346, 347, 348, 395, 396, 390, 397, 398, 399, 139, 400, 401, 742, 743, 744, 745, 746, 747, 748, 749, 750, 751, 767, 768, 769, 770, 771, 772, 773, 774, 775, 776, 777, 778, 779, 780] (by decide +kernel) (by decide +kernel)
set_option maxRecDepth 20000 in
theorem gL_law_X5_leaves : GoodIn wsL_law (wsV RL 50 RX5 yX5_leaves wsX5_leaves) := goodIn_app (goodIn_of _ (by decide +kernel)) ggL_law_X5_leaves
set_option maxRecDepth 20000 in
theorem ggL_law_X6_leaves : GoodIn wsL_law wsX6_leaves := goodIn_r _ [423, 214, 215, 216, 5, 217, 76, 179, 180, 181, 376, 377, 378, 379, 299, 300, 301, 302, 380, 381, 382, 383, 303, 304, 305, 306, 186, 187, 188, 189, 79, 752, 753, 754, 755, 756, 757, 758, 759, 760, 761, 762, 763, 764, 765, 766] (by decide +kernel) (by decide +kernel)
set_option maxRecDepth 20000 in
theorem gL_law_X6_leaves : GoodIn wsL_law (wsV RL 53 RX6 yX6_leaves wsX6_leaves) := goodIn_app (goodIn_of _ (by decide +kernel)) ggL_law_X6_leaves
set_option maxRecDepth 20000 in
theorem ggL_law_X5_sight : GoodIn wsL_law wsX5_sight := goodIn_r _ [427, 19, 15, 90, 91, 92, 18, 93, 54, 94, 95, 96, 97, 14, 98, 99, 38, 39, 47, 100, 40, 41, 42, 43, 48, 101, 44, 45, 46, 102, 103, 104, 105, 106, 107, 108, 109, 110, 111, 112, 428, 429, 430, 431, 120, 2, 121, 202, 203, 204, 205, 144, 145, 146, 147, 23, 148, 149, 150, 151, 152, 153, 154, 155, 156, 157, 158, 159, 160, 161, 22, 162, 163, 742, 743, 744, 745, 746, 747, 748, 749, 750, 751, 781, 782, 767, 768, 769, 770, 771, 772, 773, 774, 775, 776, 777, 778, 779, 780, 783, 784, 785, 786] (by decide +kernel) (by decide +kernel)
set_option maxRecDepth 20000 in
theorem gL_law_X5_sight : GoodIn wsL_law (wsV RL 54 RX5 yX5_sight wsX5_sight) := goodIn_app (goodIn_of _ (by decide +kernel)) ggL_law_X5_sight
set_option maxRecDepth 20000 in
theorem ggL_law_X6_sight : GoodIn wsL_law wsX6_sight := goodIn_r _ [435, 168, 169, 170, 5, 171, 77, 76, 436, 437, 438, 439, 179, 180, 181, 214, 215, 216, 217, 182, 183, 184, 185, 186, 187, 188, 189, 79, 190, 191, 192, 193, 85, 78, 752, 753, 754, 755, 756, 757, 758, 759, 760, 761, 762, 763, 764, 765, 766] (by decide +kernel) (by decide +kernel)
set_option maxRecDepth 20000 in
theorem gL_law_X6_sight : GoodIn wsL_law (wsV RL 57 RX6 yX6_sight wsX6_sight) := goodIn_app (goodIn_of _ (by decide +kernel)) ggL_law_X6_sight
set_option maxRecDepth 20000 in
theorem ggL_law_X5_forget : GoodIn wsL_law wsX5_forget := goodIn_r _ [443, 19, 15, 90, 91, 92, 18, 93, 54, 94, 95, 96, 97, 14, 98, 99, 38, 39, 47, 100, 40, 41, 42, 43, 48, 101, 44, 45, 46, 102, 103, 104, 105, 106, 107, 108, 109, 110, 111, 112, 444, 445, 446, 447, 144, 145, 146, 2, 147, 23, 148, 149, 150, 151, 152, 153, 154, 155, 156, 157, 158, 159, 160, 161, 22, 162, 163, 742, 743, 744, 745, 746, 747, 748, 749, 750, 751, 781, 782, 767, 768, 769, 770, 771, 772, 773, 774, 775, 776, 777, 778, 779, 780, 783, 784, 785, 786] (by decide +kernel) (by decide +kernel)
set_option maxRecDepth 20000 in
theorem gL_law_X5_forget : GoodIn wsL_law (wsV RL 58 RX5 yX5_forget wsX5_forget) := goodIn_app (goodIn_of _ (by decide +kernel)) ggL_law_X5_forget
set_option maxRecDepth 20000 in
theorem ggL_law_X6_forget : GoodIn wsL_law wsX6_forget := goodIn_r _ [451, 168, 169, 170, 5, 171, 77, 76, 452, 453, 454, 455, 182, 183, 184, 185, 186, 187, 188, 189, 79, 190, 191, 192, 193, 85, 78, 752, 753, 754, 755, 756, 757, 758, 759, 760, 761, 762, 763, 764, 765, 766] (by decide +kernel) (by decide +kernel)
set_option maxRecDepth 20000 in
theorem gL_law_X6_forget : GoodIn wsL_law (wsV RL 62 RX6 yX6_forget wsX6_forget) := goodIn_app (goodIn_of _ (by decide +kernel)) ggL_law_X6_forget
set_option maxRecDepth 20000 in
theorem ggL_law_X5_fits : GoodIn wsL_law wsX5_fits := goodIn_r _ [459, 23, 323, 324, 325, 2, 326, 15, 282, 203, 204, 14, 205, 99, 120, 121, 327, 148, 149, 150, 151, 152, 153, 154, 328, 329, 330, 22, 331, 60, 62, 332, 333, 334, 335, 336, 337, 338, 339, 340, 341, 342, 343, 39, 38, 344, 345, 346, 347, 348, 349, 350, 351, 352, 42, 43, 460, 461, 462, 463, 464, 465, 466, 467, 468, 469, 470, 471, 742, 743, 744, 745, 746, 747, 748, 749, 750, 751, 767, 768, 769, 770, 771, 772, 773, 774, 775, 776, 777, 778, 779, 780, 783, 784, 785, 786] (by decide +kernel) (by decide +kernel)
set_option maxRecDepth 20000 in
theorem gL_law_X5_fits : GoodIn wsL_law (wsV RL 63 RX5 yX5_fits wsX5_fits) := goodIn_app (goodIn_of _ (by decide +kernel)) ggL_law_X5_fits
set_option maxRecDepth 20000 in
theorem ggL_law_X6_fits : GoodIn wsL_law wsX6_fits := goodIn_r _ [475, 357, 358, 359, 5, 360, 214, 215, 216, 217, 76, 179, 180, 181, 186, 187, 188, 189, 79, 476, 477, 478, 479, 80, 365, 366, 367, 368, 369, 370, 371, 372, 242, 243, 244, 245, 373, 374, 375, 376, 377, 378, 379, 299, 300, 301, 302, 380, 381, 382, 383, 303, 304, 305, 306, 412, 413, 414, 752, 753, 754, 755, 756, 757, 758, 759, 760, 761, 762, 763, 764, 765, 766] (by decide +kernel) (by decide +kernel)
set_option maxRecDepth 20000 in
theorem gL_law_X6_fits : GoodIn wsL_law (wsV RL 66 RX6 yX6_fits wsX6_fits) := goodIn_app (goodIn_of _ (by decide +kernel)) ggL_law_X6_fits
set_option maxRecDepth 20000 in
theorem ggL_law_X5_when : GoodIn wsL_law wsX5_when := goodIn_r _ [483, 15, 23, 282, 203, 204, 14, 205, 99, 120, 2, 121, 148, 149, 150, 151, 152, 153, 154, 484, 485, 486, 22, 487, 163, 61, 488, 329, 330, 331, 60, 62, 332, 333, 334, 335, 336, 337, 338, 339, 340, 341, 342, 343, 39, 38, 344, 345, 346, 347, 348, 349, 350, 351, 352, 42, 43, 489, 461, 462, 463, 464, 465, 466, 467, 468, 469, 470, 471, 742, 743, 744, 745, 746, 747, 748, 749, 750, 751, 767, 768, 769, 770, 771, 772, 773, 774, 775, 776, 777, 778, 779, 780, 783, 784, 785, 786] (by decide +kernel) (by decide +kernel)
set_option maxRecDepth 20000 in
theorem gL_law_X5_when : GoodIn wsL_law (wsV RL 67 RX5 yX5_when wsX5_when) := goodIn_app (goodIn_of _ (by decide +kernel)) ggL_law_X5_when
set_option maxRecDepth 20000 in
theorem ggL_law_X6_when : GoodIn wsL_law wsX6_when := goodIn_r _ [493, 214, 215, 216, 5, 217, 76, 179, 180, 181, 494, 495, 496, 497, 476, 477, 478, 479, 80, 365, 366, 367, 368, 369, 370, 371, 372, 242, 243, 244, 245, 373, 374, 375, 376, 377, 378, 379, 299, 300, 301, 302, 380, 381, 382, 383, 303, 304, 305, 306, 412, 413, 414, 186, 187, 188, 189, 79, 752, 753, 754, 755, 756, 757, 758, 759, 760, 761, 762, 763, 764, 765, 766] (by decide +kernel) (by decide +kernel)
set_option maxRecDepth 20000 in
theorem gL_law_X6_when : GoodIn wsL_law (wsV RL 70 RX6 yX6_when wsX6_when) := goodIn_app (goodIn_of _ (by decide +kernel)) ggL_law_X6_when
set_option maxRecDepth 20000 in
theorem ggL_law_X5_suspects : GoodIn wsL_law wsX5_suspects := goodIn_r _ [501, 23, 502, 503, 504, 22, 505, 62, 506, 507, 485, 486, 487, 163, 61, 488, 329, 330, 331, 60, 332, 333, 334, 335, 336, 337, 338, 339, 340, 341, 342, 14, 343, 39, 38, 344, 345, 346, 347, 348, 349, 350, 351, 352, 42, 43, 489, 461, 462, 463, 464, 465, 466, 467, 468, 469, 470, 471, 742, 743, 744, 745, 746, 747, 748, 749, 750, 751, 783, 784, 785, 786, 767, 768, 769, 770, 771, 772, 773, 774, 775, 776, 777, 778, 779, 780] (by decide +kernel) (by decide +kernel)
set_option maxRecDepth 20000 in
theorem gL_law_X5_suspects : GoodIn wsL_law (wsV RL 71 RX5 yX5_suspects wsX5_suspects) := goodIn_app (goodIn_of _ (by decide +kernel)) ggL_law_X5_suspects
set_option maxRecDepth 20000 in
theorem ggL_law_X6_suspects : GoodIn wsL_law wsX6_suspects := goodIn_r _ [511, 512, 513, 514, 5, 515, 76, 494, 495, 496, 497, 476, 477, 478, 479, 80, 365, 366, 367, 368, 369, 370, 371, 372, 242, 243, 244, 245, 373, 374, 375, 376, 377, 378, 379, 299, 300, 301, 302, 380, 381, 382, 383, 303, 304, 305, 306, 412, 413, 414, 752, 753, 754, 755, 756, 757, 758, 759, 760, 761, 762, 763, 764, 765, 766] (by decide +kernel) (by decide +kernel)
set_option maxRecDepth 20000 in
theorem gL_law_X6_suspects : GoodIn wsL_law (wsV RL 74 RX6 yX6_suspects wsX6_suspects) := goodIn_app (goodIn_of _ (by decide +kernel)) ggL_law_X6_suspects
set_option maxRecDepth 20000 in
theorem ggL_law_X5_next : GoodIn wsL_law wsX5_next := goodIn_r _ [519, 23, 15, 520, 327, 120, 2, 121, 148, 149, 150, 151, 152, 153, 154, 502, 503, 504, 22, 505, 62, 506, 507, 485, 486, 487, 163, 61, 488, 329, 330, 331, 60, 332, 333, 334, 335, 336, 337, 338, 339, 340, 341, 342, 14, 343, 39, 38, 344, 345, 346, 347, 348, 349, 350, 351, 352, 42, 43, 489, 461, 462, 463, 464, 465, 466, 467, 468, 469, 470, 471, 287, 288, 289, 290, 99, 226, 227, 228, 229, 47, 521, 522, 523, 524, 525, 107, 526, 527, 138, 139, 140, 141, 142, 143, 742, 743, 744, 745, 746, 747, 748, 749, 750, 751, 767, 768, 769, 770, 771, 772, 773, 774, 775, 776, 777, 778, 779, 780, 783, 784, 785, 786] (by decide +kernel) (by decide +kernel)
set_option maxRecDepth 20000 in
theorem gL_law_X5_next : GoodIn wsL_law (wsV RL 75 RX5 yX5_next wsX5_next) := goodIn_app (goodIn_of _ (by decide +kernel)) ggL_law_X5_next
set_option maxRecDepth 20000 in
theorem ggL_law_X6_next : GoodIn wsL_law wsX6_next := goodIn_r _ [531, 179, 180, 5, 181, 532, 533, 534, 535, 76, 512, 513, 514, 515, 494, 495, 496, 497, 476, 477, 478, 479, 80, 365, 366, 367, 368, 369, 370, 371, 372, 242, 243, 244, 245, 373, 374, 375, 376, 377, 378, 379, 299, 300, 301, 302, 380, 381, 382, 383, 303, 304, 305, 306, 412, 413, 414, 246, 247, 248, 238, 239, 240, 241, 536, 537, 538, 186, 187, 188, 189, 79, 752, 753, 754, 755, 756, 757, 758, 759, 760, 761, 762, 763, 764, 765, 766] (by decide +kernel) (by decide +kernel)
set_option maxRecDepth 20000 in
theorem gL_law_X6_next : GoodIn wsL_law (wsV RL 78 RX6 yX6_next wsX6_next) := goodIn_app (goodIn_of _ (by decide +kernel)) ggL_law_X6_next
set_option maxRecDepth 20000 in
theorem ggL_law_X5_alike : GoodIn wsL_law wsX5_alike := goodIn_r _ [542, 15, 520, 27, 327, 120, 2, 121, 148, 149, 150, 151, 152, 153, 154, 543, 544, 545, 26, 546, 547, 548, 66, 549, 550, 551, 552, 553, 742, 743, 744, 745, 746, 747, 748, 749, 750, 751, 767, 768, 769, 770, 771, 772, 773, 774, 775, 776, 777, 778, 779, 780, 787, 788] (by decide +kernel) (by decide +kernel)
set_option maxRecDepth 20000 in
theorem gL_law_X5_alike : GoodIn wsL_law (wsV RL 79 RX5 yX5_alike wsX5_alike) := goodIn_app (goodIn_of _ (by decide +kernel)) ggL_law_X5_alike
set_option maxRecDepth 20000 in
theorem ggL_law_X6_alike : GoodIn wsL_law wsX6_alike := goodIn_r _ [557, 76, 179, 180, 5, 181, 186, 187, 188, 189, 79, 558, 559, 560, 561, 81, 238, 239, 240, 241, 242, 243, 244, 245, 246, 247, 248, 562, 563, 564, 565, 752, 753, 754, 755, 756, 757, 758, 759, 760, 761, 762, 763, 764, 765, 766] (by decide +kernel) (by decide +kernel)
set_option maxRecDepth 20000 in
theorem gL_law_X6_alike : GoodIn wsL_law (wsV RL 82 RX6 yX6_alike wsX6_alike) := goodIn_app (goodIn_of _ (by decide +kernel)) ggL_law_X6_alike
set_option maxRecDepth 20000 in
theorem ggL_law_X5_sensors : GoodIn wsL_law wsX5_sensors := goodIn_r _ [569, 27, 15, 520, 327, 120, 2, 121, 148, 149, 150, 151, 152, 153, 154, 543, 544, 545, 26, 546, 547, 548, 66, 549, 570, 571, 572, 573, 574, 138, 139, 140, 141, 142, 143, 575, 576, 577, 578, 527, 742, 743, 744, 745, 746, 747, 748, 749, 750, 751, 767, 768, 769, 770, 771, 772, 773, 774, 775, 776, 777, 778, 779, 780, 787, 788] (by decide +kernel) (by decide +kernel)
set_option maxRecDepth 20000 in
theorem gL_law_X5_sensors : GoodIn wsL_law (wsV RL 83 RX5 yX5_sensors wsX5_sensors) := goodIn_app (goodIn_of _ (by decide +kernel)) ggL_law_X5_sensors
set_option maxRecDepth 20000 in
theorem ggL_law_X6_sensors : GoodIn wsL_law wsX6_sensors := goodIn_r _ [582, 179, 180, 5, 181, 583, 584, 585, 586, 76, 558, 559, 560, 561, 81, 238, 239, 240, 241, 242, 243, 244, 245, 246, 247, 248, 536, 537, 538, 562, 563, 564, 565, 186, 187, 188, 189, 79, 752, 753, 754, 755, 756, 757, 758, 759, 760, 761, 762, 763, 764, 765, 766] (by decide +kernel) (by decide +kernel)
set_option maxRecDepth 20000 in
theorem gL_law_X6_sensors : GoodIn wsL_law (wsV RL 86 RX6 yX6_sensors wsX6_sensors) := goodIn_app (goodIn_of _ (by decide +kernel)) ggL_law_X6_sensors
set_option maxRecDepth 20000 in
theorem ggL_law_X5_type : GoodIn wsL_law wsX5_type := goodIn_r _ [590, 591, 33, 327, 120, 2, 121, 148, 149, 150, 151, 152, 153, 154, 742, 743, 744, 745, 746, 747, 748, 749, 750, 751] (by decide +kernel) (by decide +kernel)
set_option maxRecDepth 20000 in
theorem gL_law_X5_type : GoodIn wsL_law (wsV RL 87 RX5 yX5_type wsX5_type) := goodIn_app (goodIn_of _ (by decide +kernel)) ggL_law_X5_type
set_option maxRecDepth 20000 in
theorem ggL_law_X6_type : GoodIn wsL_law wsX6_type := goodIn_r _ [595, 596, 82, 179, 180, 5, 181, 186, 187, 188, 189, 79, 752, 753, 754, 755, 756, 757, 758, 759, 760, 761, 762, 763, 764, 765, 766] (by decide +kernel) (by decide +kernel)
set_option maxRecDepth 20000 in
theorem gL_law_X6_type : GoodIn wsL_law (wsV RL 90 RX6 yX6_type wsX6_type) := goodIn_app (goodIn_of _ (by decide +kernel)) ggL_law_X6_type
set_option maxRecDepth 20000 in
theorem ggL_law_X5_clear : GoodIn wsL_law wsX5_clear := goodIn_r _ [600, 591, 742, 743, 744, 745, 746, 747, 748, 749, 750, 751] (by decide +kernel) (by decide +kernel)
set_option maxRecDepth 20000 in
theorem gL_law_X5_clear : GoodIn wsL_law (wsV RL 91 RX5 yX5_clear wsX5_clear) := goodIn_app (goodIn_of _ (by decide +kernel)) ggL_law_X5_clear
set_option maxRecDepth 20000 in
theorem ggL_law_X6_clear : GoodIn wsL_law wsX6_clear := goodIn_r _ [604, 596, 752, 753, 754, 755, 756, 757, 758, 759, 760, 761, 762, 763, 764, 765, 766] (by decide +kernel) (by decide +kernel)
set_option maxRecDepth 20000 in
theorem gL_law_X6_clear : GoodIn wsL_law (wsV RL 94 RX6 yX6_clear wsX6_clear) := goodIn_app (goodIn_of _ (by decide +kernel)) ggL_law_X6_clear
set_option maxRecDepth 20000 in
theorem ggL_law_X5_reads : GoodIn wsL_law wsX5_reads := goodIn_r _ [608, 31, 33, 591, 19, 15, 609, 610, 611, 612, 30, 613, 614, 615, 616, 617, 618, 619, 620, 621, 622, 623, 624, 70, 625, 626, 627, 628, 629, 630, 631, 632, 120, 2, 121, 633, 634, 635, 636, 71, 90, 91, 92, 18, 93, 54, 94, 95, 96, 97, 14, 98, 99, 38, 39, 47, 100, 40, 41, 42, 43, 48, 101, 44, 45, 46, 102, 103, 104, 105, 106, 107, 108, 109, 110, 111, 112, 637, 638, 639, 640, 641, 114, 115, 116, 117, 118, 119, 122, 123, 124, 125, 126, 127, 128, 129, 130, 131, 132, 133, 134, 135, 136, 137, 138, 139, 140, 141, 142, 143, 642, 223, 224, 225, 202, 203, 204, 205, 226, 227, 228, 229, 643, 429, 430, 431, 644, 254, 255, 256, 257, 258, 259, 260, 645, 646, 647, 648, 144, 145, 146, 147, 23, 148, 149, 150, 151, 152, 153, 154, 155, 156, 157, 158, 159, 160, 161, 22, 162, 163, 742, 743, 744, 745, 746, 747, 748, 749, 750, 751, 789, 790, 791, 792, 793, 794, 781, 782, 767, 768, 769, 770, 771, 772, 773, 774, 775, 776, 777, 778, 779, 780, 783, 784, 785, 786] (by decide +kernel) (by decide +kernel)
set_option maxRecDepth 20000 in
theorem gL_law_X5_reads : GoodIn wsL_law (wsV RL 95 RX5 yX5_reads wsX5_reads) := goodIn_app (goodIn_of _ (by decide +kernel)) ggL_law_X5_reads
set_option maxRecDepth 20000 in
theorem ggL_law_X6_reads : GoodIn wsL_law wsX6_reads := goodIn_r _ [652, 653, 654, 655, 596, 76, 77, 656, 657, 658, 5, 659, 82, 660, 661, 662, 663, 84, 83, 664, 665, 666, 667, 668, 669, 670, 671, 672, 673, 674, 179, 180, 181, 675, 676, 677, 678, 168, 169, 170, 171, 679, 680, 681, 682, 172, 173, 174, 175, 176, 177, 178, 234, 235, 236, 237, 214, 215, 216, 217, 238, 239, 240, 241, 242, 243, 244, 245, 246, 247, 248, 436, 437, 438, 439, 265, 266, 267, 268, 269, 270, 271, 272, 190, 191, 192, 193, 85, 78, 752, 753, 754, 755, 756, 757, 758, 759, 760, 761, 762, 763, 764, 765, 766] (by decide +kernel) (by decide +kernel)
set_option maxRecDepth 20000 in
theorem gL_law_X6_reads : GoodIn wsL_law (wsV RL 98 RX6 yX6_reads wsX6_reads) := goodIn_app (goodIn_of _ (by decide +kernel)) ggL_law_X6_reads
set_option maxRecDepth 20000 in
theorem ggL_law_X5_back : GoodIn wsL_law wsX5_back := goodIn_r _ [686, 19, 687, 15, 23, 148, 149, 150, 2, 151, 152, 153, 154, 688, 689, 690, 18, 691, 94, 54, 95, 96, 97, 14, 98, 99, 38, 39, 47, 100, 40, 41, 42, 43, 48, 101, 44, 45, 46, 102, 103, 104, 105, 106, 107, 108, 109, 110, 111, 112, 159, 160, 161, 22, 162, 163, 742, 743, 744, 745, 746, 747, 748, 749, 750, 751, 781, 782, 767, 768, 769, 770, 771, 772, 773, 774, 775, 776, 777, 778, 779, 780, 783, 784, 785, 786] (by decide +kernel) (by decide +kernel)
set_option maxRecDepth 20000 in
theorem gL_law_X5_back : GoodIn wsL_law (wsV RL 99 RX5 yX5_back wsX5_back) := goodIn_app (goodIn_of _ (by decide +kernel)) ggL_law_X5_back
set_option maxRecDepth 20000 in
theorem ggL_law_X6_back : GoodIn wsL_law wsX6_back := goodIn_r _ [695, 85, 76, 78, 186, 187, 188, 5, 189, 79, 752, 753, 754, 755, 756, 757, 758, 759, 760, 761, 762, 763, 764, 765, 766] (by decide +kernel) (by decide +kernel)
set_option maxRecDepth 20000 in
theorem gL_law_X6_back : GoodIn wsL_law (wsV RL 102 RX6 yX6_back wsX6_back) := goodIn_app (goodIn_of _ (by decide +kernel)) ggL_law_X6_back
set_option maxRecDepth 20000 in
theorem ggL_law_X5_told : GoodIn wsL_law wsX5_told := goodIn_r _ [699, 152, 153, 154, 591, 15, 520, 700, 701, 19, 687, 148, 149, 150, 2, 151, 742, 743, 744, 745, 746, 747, 748, 749, 750, 751, 767, 768, 769, 770, 771, 772, 773, 774, 775, 776, 777, 778, 779, 780, 781, 782] (by decide +kernel) (by decide +kernel)
set_option maxRecDepth 20000 in
theorem gL_law_X5_told : GoodIn wsL_law (wsV RL 103 RX5 yX5_told wsX5_told) := goodIn_app (goodIn_of _ (by decide +kernel)) ggL_law_X5_told
set_option maxRecDepth 20000 in
theorem ggL_law_X6_told : GoodIn wsL_law wsX6_told := goodIn_r _ [705, 179, 180, 5, 181, 706, 707, 708, 709, 79, 596, 76, 85, 186, 187, 188, 189, 752, 753, 754, 755, 756, 757, 758, 759, 760, 761, 762, 763, 764, 765, 766] (by decide +kernel) (by decide +kernel)
set_option maxRecDepth 20000 in
theorem gL_law_X6_told : GoodIn wsL_law (wsV RL 106 RX6 yX6_told wsX6_told) := goodIn_app (goodIn_of _ (by decide +kernel)) ggL_law_X6_told
set_option maxRecDepth 20000 in
theorem ggL_law_X5_digest : GoodIn wsL_law wsX5_digest := goodIn_r _ [713, 714, 715, 15, 520, 716, 697, 698, 2, 699, 152, 153, 154, 591, 700, 701, 19, 687, 148, 149, 150, 151, 717, 718, 719, 720, 721, 274, 275, 276, 277, 278, 279, 280, 281, 282, 203, 204, 14, 205, 99, 120, 121, 283, 284, 285, 286, 100, 287, 288, 289, 290, 226, 227, 228, 229, 47, 722, 481, 482, 483, 23, 484, 485, 486, 22, 487, 163, 61, 488, 329, 330, 331, 60, 62, 332, 333, 334, 335, 336, 337, 338, 339, 340, 341, 342, 343, 39, 38, 344, 345, 346, 347, 348, 349, 350, 351, 352, 42, 43, 489, 461, 462, 463, 464, 465, 466, 467, 468, 469, 470, 471, 723, 724, 725, 726, 727, 308, 309, 310, 311, 312, 313, 258, 259, 260, 728, 319, 320, 321, 322, 323, 324, 325, 326, 327, 328, 729, 517, 518, 519, 502, 503, 504, 505, 506, 507, 521, 522, 523, 524, 525, 107, 526, 527, 138, 139, 140, 141, 142, 143, 730, 567, 568, 569, 27, 543, 544, 545, 26, 546, 547, 548, 66, 549, 570, 571, 572, 573, 574, 575, 576, 577, 578, 742, 743, 744, 745, 746, 747, 748, 749, 750, 751, 767, 768, 769, 770, 771, 772, 773, 774, 775, 776, 777, 778, 779, 780, 781, 782, 783, 784, 785, 786, 787, 788] (by decide +kernel) (by decide +kernel)
set_option maxRecDepth 20000 in
theorem gL_law_X5_digest : GoodIn wsL_law (wsV RL 107 RX5 yX5_digest wsX5_digest) := goodIn_app (goodIn_of _ (by decide +kernel)) ggL_law_X5_digest
set_option maxRecDepth 20000 in
theorem ggL_law_X6_digest : GoodIn wsL_law wsX6_digest := goodIn_r _ [734, 735, 736, 76, 706, 707, 708, 5, 709, 79, 596, 85, 737, 738, 739, 740, 741, 295, 296, 297, 298, 242, 243, 244, 245, 238, 239, 240, 241, 246, 247, 248, 299, 300, 301, 302, 303, 304, 305, 306, 494, 495, 496, 497, 476, 477, 478, 479, 80, 365, 366, 367, 368, 369, 370, 371, 372, 373, 374, 375, 376, 377, 378, 379, 380, 381, 382, 383, 412, 413, 414, 361, 362, 363, 364, 532, 533, 534, 535, 512, 513, 514, 515, 536, 537, 538, 583, 584, 585, 586, 558, 559, 560, 561, 81, 562, 563, 564, 565, 752, 753, 754, 755, 756, 757, 758, 759, 760, 761, 762, 763, 764, 765, 766] (by decide +kernel) (by decide +kernel)
set_option maxRecDepth 20000 in
theorem gL_law_X6_digest : GoodIn wsL_law (wsV RL 111 RX6 yX6_digest wsX6_digest) := goodIn_app (goodIn_of _ (by decide +kernel)) ggL_law_X6_digest
theorem dL_law_0 : decode cL_law 0 = .ok (.new 7, 3) := by decide +kernel
theorem dL_law_3 : decode cL_law 3 = .ok (.dup, 1) := by decide +kernel
theorem dL_law_4 : decode cL_law 4 = .ok (.invokespecial 9, 3) := by decide +kernel
theorem dL_law_7 : decode cL_law 7 = .ok (.astore_n 1, 1) := by decide +kernel
theorem dL_law_8 : decode cL_law 8 = .ok (.new 10, 3) := by decide +kernel
theorem dL_law_11 : decode cL_law 11 = .ok (.dup, 1) := by decide +kernel
theorem dL_law_12 : decode cL_law 12 = .ok (.invokespecial 12, 3) := by decide +kernel
theorem dL_law_15 : decode cL_law 15 = .ok (.astore_n 2, 1) := by decide +kernel
theorem dL_law_16 : decode cL_law 16 = .ok (.iconst 0, 1) := by decide +kernel
theorem dL_law_17 : decode cL_law 17 = .ok (.istore_n 3, 1) := by decide +kernel
theorem dL_law_18 : decode cL_law 18 = .ok (.iload_n 3, 1) := by decide +kernel
theorem dL_law_19 : decode cL_law 19 = .ok (.aload_n 0, 1) := by decide +kernel
theorem dL_law_20 : decode cL_law 20 = .ok (.arraylength, 1) := by decide +kernel
theorem dL_law_21 : decode cL_law 21 = .ok (.iconst 5, 1) := by decide +kernel
theorem dL_law_22 : decode cL_law 22 = .ok (.isub, 1) := by decide +kernel
theorem dL_law_23 : decode cL_law 23 = .ok (.if_icmp .gt 764, 3) := by decide +kernel
theorem dL_law_26 : decode cL_law 26 = .ok (.aload_n 0, 1) := by decide +kernel
theorem dL_law_27 : decode cL_law 27 = .ok (.iload_n 3, 1) := by decide +kernel
theorem dL_law_28 : decode cL_law 28 = .ok (.iaload, 1) := by decide +kernel
theorem dL_law_29 : decode cL_law 29 = .ok (.bipush 31, 2) := by decide +kernel
theorem dL_law_31 : decode cL_law 31 = .ok (.iand, 1) := by decide +kernel
theorem dL_law_32 : decode cL_law 32 = .ok (.tableswitch 749 0 22 #[108, 141, 184, 237, 260, 293, 326, 370, 423, 456, 499, 512, 545, 568, 581, 604, 627, 650, 673, 686, 699, 712, 735], 108) := by decide +kernel
theorem dL_law_140 : decode cL_law 140 = .ok (.aload_n 1, 1) := by decide +kernel
theorem dL_law_141 : decode cL_law 141 = .ok (.aload_n 0, 1) := by decide +kernel
theorem dL_law_142 : decode cL_law 142 = .ok (.iload_n 3, 1) := by decide +kernel
theorem dL_law_143 : decode cL_law 143 = .ok (.iconst 1, 1) := by decide +kernel
theorem dL_law_144 : decode cL_law 144 = .ok (.iadd, 1) := by decide +kernel
theorem dL_law_145 : decode cL_law 145 = .ok (.iaload, 1) := by decide +kernel
theorem dL_law_146 : decode cL_law 146 = .ok (.aload_n 0, 1) := by decide +kernel
theorem dL_law_147 : decode cL_law 147 = .ok (.iload_n 3, 1) := by decide +kernel
theorem dL_law_148 : decode cL_law 148 = .ok (.iconst 2, 1) := by decide +kernel
theorem dL_law_149 : decode cL_law 149 = .ok (.iadd, 1) := by decide +kernel
theorem dL_law_150 : decode cL_law 150 = .ok (.iaload, 1) := by decide +kernel
theorem dL_law_151 : decode cL_law 151 = .ok (.invokevirtual 13, 3) := by decide +kernel
theorem dL_law_154 : decode cL_law 154 = .ok (.aload_n 2, 1) := by decide +kernel
theorem dL_law_155 : decode cL_law 155 = .ok (.aload_n 0, 1) := by decide +kernel
theorem dL_law_156 : decode cL_law 156 = .ok (.iload_n 3, 1) := by decide +kernel
theorem dL_law_157 : decode cL_law 157 = .ok (.iconst 1, 1) := by decide +kernel
theorem dL_law_158 : decode cL_law 158 = .ok (.iadd, 1) := by decide +kernel
theorem dL_law_159 : decode cL_law 159 = .ok (.iaload, 1) := by decide +kernel
theorem dL_law_160 : decode cL_law 160 = .ok (.aload_n 0, 1) := by decide +kernel
theorem dL_law_161 : decode cL_law 161 = .ok (.iload_n 3, 1) := by decide +kernel
theorem dL_law_162 : decode cL_law 162 = .ok (.iconst 2, 1) := by decide +kernel
theorem dL_law_163 : decode cL_law 163 = .ok (.iadd, 1) := by decide +kernel
theorem dL_law_164 : decode cL_law 164 = .ok (.iaload, 1) := by decide +kernel
theorem dL_law_165 : decode cL_law 165 = .ok (.invokevirtual 17, 3) := by decide +kernel
theorem dL_law_168 : decode cL_law 168 = .ok (.if_icmp .eq 613, 3) := by decide +kernel
theorem dL_law_171 : decode cL_law 171 = .ok (.iconst 0, 1) := by decide +kernel
theorem dL_law_172 : decode cL_law 172 = .ok (.ireturn, 1) := by decide +kernel
theorem dL_law_173 : decode cL_law 173 = .ok (.aload_n 1, 1) := by decide +kernel
theorem dL_law_174 : decode cL_law 174 = .ok (.aload_n 0, 1) := by decide +kernel
theorem dL_law_175 : decode cL_law 175 = .ok (.iload_n 3, 1) := by decide +kernel
theorem dL_law_176 : decode cL_law 176 = .ok (.iconst 1, 1) := by decide +kernel
theorem dL_law_177 : decode cL_law 177 = .ok (.iadd, 1) := by decide +kernel
theorem dL_law_178 : decode cL_law 178 = .ok (.iaload, 1) := by decide +kernel
theorem dL_law_179 : decode cL_law 179 = .ok (.aload_n 0, 1) := by decide +kernel
theorem dL_law_180 : decode cL_law 180 = .ok (.iload_n 3, 1) := by decide +kernel
theorem dL_law_181 : decode cL_law 181 = .ok (.iconst 2, 1) := by decide +kernel
theorem dL_law_182 : decode cL_law 182 = .ok (.iadd, 1) := by decide +kernel
theorem dL_law_183 : decode cL_law 183 = .ok (.iaload, 1) := by decide +kernel
theorem dL_law_184 : decode cL_law 184 = .ok (.aload_n 0, 1) := by decide +kernel
theorem dL_law_185 : decode cL_law 185 = .ok (.iload_n 3, 1) := by decide +kernel
theorem dL_law_186 : decode cL_law 186 = .ok (.iconst 3, 1) := by decide +kernel
theorem dL_law_187 : decode cL_law 187 = .ok (.iadd, 1) := by decide +kernel
theorem dL_law_188 : decode cL_law 188 = .ok (.iaload, 1) := by decide +kernel
theorem dL_law_189 : decode cL_law 189 = .ok (.invokevirtual 18, 3) := by decide +kernel
theorem dL_law_192 : decode cL_law 192 = .ok (.aload_n 2, 1) := by decide +kernel
theorem dL_law_193 : decode cL_law 193 = .ok (.aload_n 0, 1) := by decide +kernel
theorem dL_law_194 : decode cL_law 194 = .ok (.iload_n 3, 1) := by decide +kernel
theorem dL_law_195 : decode cL_law 195 = .ok (.iconst 1, 1) := by decide +kernel
theorem dL_law_196 : decode cL_law 196 = .ok (.iadd, 1) := by decide +kernel
theorem dL_law_197 : decode cL_law 197 = .ok (.iaload, 1) := by decide +kernel
theorem dL_law_198 : decode cL_law 198 = .ok (.aload_n 0, 1) := by decide +kernel
theorem dL_law_199 : decode cL_law 199 = .ok (.iload_n 3, 1) := by decide +kernel
theorem dL_law_200 : decode cL_law 200 = .ok (.iconst 2, 1) := by decide +kernel
theorem dL_law_201 : decode cL_law 201 = .ok (.iadd, 1) := by decide +kernel
theorem dL_law_202 : decode cL_law 202 = .ok (.iaload, 1) := by decide +kernel
theorem dL_law_203 : decode cL_law 203 = .ok (.aload_n 0, 1) := by decide +kernel
theorem dL_law_204 : decode cL_law 204 = .ok (.iload_n 3, 1) := by decide +kernel
theorem dL_law_205 : decode cL_law 205 = .ok (.iconst 3, 1) := by decide +kernel
theorem dL_law_206 : decode cL_law 206 = .ok (.iadd, 1) := by decide +kernel
theorem dL_law_207 : decode cL_law 207 = .ok (.iaload, 1) := by decide +kernel
theorem dL_law_208 : decode cL_law 208 = .ok (.invokevirtual 22, 3) := by decide +kernel
theorem dL_law_211 : decode cL_law 211 = .ok (.if_icmp .eq 570, 3) := by decide +kernel
theorem dL_law_214 : decode cL_law 214 = .ok (.iconst 0, 1) := by decide +kernel
theorem dL_law_215 : decode cL_law 215 = .ok (.ireturn, 1) := by decide +kernel
theorem dL_law_216 : decode cL_law 216 = .ok (.aload_n 1, 1) := by decide +kernel
theorem dL_law_217 : decode cL_law 217 = .ok (.aload_n 0, 1) := by decide +kernel
theorem dL_law_218 : decode cL_law 218 = .ok (.iload_n 3, 1) := by decide +kernel
theorem dL_law_219 : decode cL_law 219 = .ok (.iconst 1, 1) := by decide +kernel
theorem dL_law_220 : decode cL_law 220 = .ok (.iadd, 1) := by decide +kernel
theorem dL_law_221 : decode cL_law 221 = .ok (.iaload, 1) := by decide +kernel
theorem dL_law_222 : decode cL_law 222 = .ok (.aload_n 0, 1) := by decide +kernel
theorem dL_law_223 : decode cL_law 223 = .ok (.iload_n 3, 1) := by decide +kernel
theorem dL_law_224 : decode cL_law 224 = .ok (.iconst 2, 1) := by decide +kernel
theorem dL_law_225 : decode cL_law 225 = .ok (.iadd, 1) := by decide +kernel
theorem dL_law_226 : decode cL_law 226 = .ok (.iaload, 1) := by decide +kernel
theorem dL_law_227 : decode cL_law 227 = .ok (.aload_n 0, 1) := by decide +kernel
theorem dL_law_228 : decode cL_law 228 = .ok (.iload_n 3, 1) := by decide +kernel
theorem dL_law_229 : decode cL_law 229 = .ok (.iconst 3, 1) := by decide +kernel
theorem dL_law_230 : decode cL_law 230 = .ok (.iadd, 1) := by decide +kernel
theorem dL_law_231 : decode cL_law 231 = .ok (.iaload, 1) := by decide +kernel
theorem dL_law_232 : decode cL_law 232 = .ok (.aload_n 0, 1) := by decide +kernel
theorem dL_law_233 : decode cL_law 233 = .ok (.iload_n 3, 1) := by decide +kernel
theorem dL_law_234 : decode cL_law 234 = .ok (.iconst 4, 1) := by decide +kernel
theorem dL_law_235 : decode cL_law 235 = .ok (.iadd, 1) := by decide +kernel
theorem dL_law_236 : decode cL_law 236 = .ok (.iaload, 1) := by decide +kernel
theorem dL_law_237 : decode cL_law 237 = .ok (.invokevirtual 23, 3) := by decide +kernel
theorem dL_law_240 : decode cL_law 240 = .ok (.aload_n 2, 1) := by decide +kernel
theorem dL_law_241 : decode cL_law 241 = .ok (.aload_n 0, 1) := by decide +kernel
theorem dL_law_242 : decode cL_law 242 = .ok (.iload_n 3, 1) := by decide +kernel
theorem dL_law_243 : decode cL_law 243 = .ok (.iconst 1, 1) := by decide +kernel
theorem dL_law_244 : decode cL_law 244 = .ok (.iadd, 1) := by decide +kernel
theorem dL_law_245 : decode cL_law 245 = .ok (.iaload, 1) := by decide +kernel
theorem dL_law_246 : decode cL_law 246 = .ok (.aload_n 0, 1) := by decide +kernel
theorem dL_law_247 : decode cL_law 247 = .ok (.iload_n 3, 1) := by decide +kernel
theorem dL_law_248 : decode cL_law 248 = .ok (.iconst 2, 1) := by decide +kernel
theorem dL_law_249 : decode cL_law 249 = .ok (.iadd, 1) := by decide +kernel
theorem dL_law_250 : decode cL_law 250 = .ok (.iaload, 1) := by decide +kernel
theorem dL_law_251 : decode cL_law 251 = .ok (.aload_n 0, 1) := by decide +kernel
theorem dL_law_252 : decode cL_law 252 = .ok (.iload_n 3, 1) := by decide +kernel
theorem dL_law_253 : decode cL_law 253 = .ok (.iconst 3, 1) := by decide +kernel
theorem dL_law_254 : decode cL_law 254 = .ok (.iadd, 1) := by decide +kernel
theorem dL_law_255 : decode cL_law 255 = .ok (.iaload, 1) := by decide +kernel
theorem dL_law_256 : decode cL_law 256 = .ok (.aload_n 0, 1) := by decide +kernel
theorem dL_law_257 : decode cL_law 257 = .ok (.iload_n 3, 1) := by decide +kernel
theorem dL_law_258 : decode cL_law 258 = .ok (.iconst 4, 1) := by decide +kernel
theorem dL_law_259 : decode cL_law 259 = .ok (.iadd, 1) := by decide +kernel
theorem dL_law_260 : decode cL_law 260 = .ok (.iaload, 1) := by decide +kernel
theorem dL_law_261 : decode cL_law 261 = .ok (.invokevirtual 27, 3) := by decide +kernel
theorem dL_law_264 : decode cL_law 264 = .ok (.if_icmp .eq 517, 3) := by decide +kernel
theorem dL_law_267 : decode cL_law 267 = .ok (.iconst 0, 1) := by decide +kernel
theorem dL_law_268 : decode cL_law 268 = .ok (.ireturn, 1) := by decide +kernel
theorem dL_law_269 : decode cL_law 269 = .ok (.aload_n 1, 1) := by decide +kernel
theorem dL_law_270 : decode cL_law 270 = .ok (.aload_n 0, 1) := by decide +kernel
theorem dL_law_271 : decode cL_law 271 = .ok (.iload_n 3, 1) := by decide +kernel
theorem dL_law_272 : decode cL_law 272 = .ok (.iconst 1, 1) := by decide +kernel
theorem dL_law_273 : decode cL_law 273 = .ok (.iadd, 1) := by decide +kernel
theorem dL_law_274 : decode cL_law 274 = .ok (.iaload, 1) := by decide +kernel
theorem dL_law_275 : decode cL_law 275 = .ok (.invokevirtual 28, 3) := by decide +kernel
theorem dL_law_278 : decode cL_law 278 = .ok (.aload_n 2, 1) := by decide +kernel
theorem dL_law_279 : decode cL_law 279 = .ok (.aload_n 0, 1) := by decide +kernel
theorem dL_law_280 : decode cL_law 280 = .ok (.iload_n 3, 1) := by decide +kernel
theorem dL_law_281 : decode cL_law 281 = .ok (.iconst 1, 1) := by decide +kernel
theorem dL_law_282 : decode cL_law 282 = .ok (.iadd, 1) := by decide +kernel
theorem dL_law_283 : decode cL_law 283 = .ok (.iaload, 1) := by decide +kernel
theorem dL_law_284 : decode cL_law 284 = .ok (.invokevirtual 32, 3) := by decide +kernel
theorem dL_law_287 : decode cL_law 287 = .ok (.if_icmp .eq 494, 3) := by decide +kernel
theorem dL_law_290 : decode cL_law 290 = .ok (.iconst 0, 1) := by decide +kernel
theorem dL_law_291 : decode cL_law 291 = .ok (.ireturn, 1) := by decide +kernel
theorem dL_law_292 : decode cL_law 292 = .ok (.aload_n 1, 1) := by decide +kernel
theorem dL_law_293 : decode cL_law 293 = .ok (.aload_n 0, 1) := by decide +kernel
theorem dL_law_294 : decode cL_law 294 = .ok (.iload_n 3, 1) := by decide +kernel
theorem dL_law_295 : decode cL_law 295 = .ok (.iconst 1, 1) := by decide +kernel
theorem dL_law_296 : decode cL_law 296 = .ok (.iadd, 1) := by decide +kernel
theorem dL_law_297 : decode cL_law 297 = .ok (.iaload, 1) := by decide +kernel
theorem dL_law_298 : decode cL_law 298 = .ok (.aload_n 0, 1) := by decide +kernel
theorem dL_law_299 : decode cL_law 299 = .ok (.iload_n 3, 1) := by decide +kernel
theorem dL_law_300 : decode cL_law 300 = .ok (.iconst 2, 1) := by decide +kernel
theorem dL_law_301 : decode cL_law 301 = .ok (.iadd, 1) := by decide +kernel
theorem dL_law_302 : decode cL_law 302 = .ok (.iaload, 1) := by decide +kernel
theorem dL_law_303 : decode cL_law 303 = .ok (.invokevirtual 33, 3) := by decide +kernel
theorem dL_law_306 : decode cL_law 306 = .ok (.aload_n 2, 1) := by decide +kernel
theorem dL_law_307 : decode cL_law 307 = .ok (.aload_n 0, 1) := by decide +kernel
theorem dL_law_308 : decode cL_law 308 = .ok (.iload_n 3, 1) := by decide +kernel
theorem dL_law_309 : decode cL_law 309 = .ok (.iconst 1, 1) := by decide +kernel
theorem dL_law_310 : decode cL_law 310 = .ok (.iadd, 1) := by decide +kernel
theorem dL_law_311 : decode cL_law 311 = .ok (.iaload, 1) := by decide +kernel
theorem dL_law_312 : decode cL_law 312 = .ok (.aload_n 0, 1) := by decide +kernel
theorem dL_law_313 : decode cL_law 313 = .ok (.iload_n 3, 1) := by decide +kernel
theorem dL_law_314 : decode cL_law 314 = .ok (.iconst 2, 1) := by decide +kernel
theorem dL_law_315 : decode cL_law 315 = .ok (.iadd, 1) := by decide +kernel
theorem dL_law_316 : decode cL_law 316 = .ok (.iaload, 1) := by decide +kernel
theorem dL_law_317 : decode cL_law 317 = .ok (.invokevirtual 36, 3) := by decide +kernel
theorem dL_law_320 : decode cL_law 320 = .ok (.if_icmp .eq 461, 3) := by decide +kernel
theorem dL_law_323 : decode cL_law 323 = .ok (.iconst 0, 1) := by decide +kernel
theorem dL_law_324 : decode cL_law 324 = .ok (.ireturn, 1) := by decide +kernel
theorem dL_law_325 : decode cL_law 325 = .ok (.aload_n 1, 1) := by decide +kernel
theorem dL_law_326 : decode cL_law 326 = .ok (.aload_n 0, 1) := by decide +kernel
theorem dL_law_327 : decode cL_law 327 = .ok (.iload_n 3, 1) := by decide +kernel
theorem dL_law_328 : decode cL_law 328 = .ok (.iconst 1, 1) := by decide +kernel
theorem dL_law_329 : decode cL_law 329 = .ok (.iadd, 1) := by decide +kernel
theorem dL_law_330 : decode cL_law 330 = .ok (.iaload, 1) := by decide +kernel
theorem dL_law_331 : decode cL_law 331 = .ok (.aload_n 0, 1) := by decide +kernel
theorem dL_law_332 : decode cL_law 332 = .ok (.iload_n 3, 1) := by decide +kernel
theorem dL_law_333 : decode cL_law 333 = .ok (.iconst 2, 1) := by decide +kernel
theorem dL_law_334 : decode cL_law 334 = .ok (.iadd, 1) := by decide +kernel
theorem dL_law_335 : decode cL_law 335 = .ok (.iaload, 1) := by decide +kernel
theorem dL_law_336 : decode cL_law 336 = .ok (.invokevirtual 37, 3) := by decide +kernel
theorem dL_law_339 : decode cL_law 339 = .ok (.aload_n 2, 1) := by decide +kernel
theorem dL_law_340 : decode cL_law 340 = .ok (.aload_n 0, 1) := by decide +kernel
theorem dL_law_341 : decode cL_law 341 = .ok (.iload_n 3, 1) := by decide +kernel
theorem dL_law_342 : decode cL_law 342 = .ok (.iconst 1, 1) := by decide +kernel
theorem dL_law_343 : decode cL_law 343 = .ok (.iadd, 1) := by decide +kernel
theorem dL_law_344 : decode cL_law 344 = .ok (.iaload, 1) := by decide +kernel
theorem dL_law_345 : decode cL_law 345 = .ok (.aload_n 0, 1) := by decide +kernel
theorem dL_law_346 : decode cL_law 346 = .ok (.iload_n 3, 1) := by decide +kernel
theorem dL_law_347 : decode cL_law 347 = .ok (.iconst 2, 1) := by decide +kernel
theorem dL_law_348 : decode cL_law 348 = .ok (.iadd, 1) := by decide +kernel
theorem dL_law_349 : decode cL_law 349 = .ok (.iaload, 1) := by decide +kernel
theorem dL_law_350 : decode cL_law 350 = .ok (.invokevirtual 40, 3) := by decide +kernel
theorem dL_law_353 : decode cL_law 353 = .ok (.if_icmp .eq 428, 3) := by decide +kernel
theorem dL_law_356 : decode cL_law 356 = .ok (.iconst 0, 1) := by decide +kernel
theorem dL_law_357 : decode cL_law 357 = .ok (.ireturn, 1) := by decide +kernel
theorem dL_law_358 : decode cL_law 358 = .ok (.aload_n 1, 1) := by decide +kernel
theorem dL_law_359 : decode cL_law 359 = .ok (.aload_n 0, 1) := by decide +kernel
theorem dL_law_360 : decode cL_law 360 = .ok (.iload_n 3, 1) := by decide +kernel
theorem dL_law_361 : decode cL_law 361 = .ok (.iconst 1, 1) := by decide +kernel
theorem dL_law_362 : decode cL_law 362 = .ok (.iadd, 1) := by decide +kernel
theorem dL_law_363 : decode cL_law 363 = .ok (.iaload, 1) := by decide +kernel
theorem dL_law_364 : decode cL_law 364 = .ok (.aload_n 0, 1) := by decide +kernel
theorem dL_law_365 : decode cL_law 365 = .ok (.iload_n 3, 1) := by decide +kernel
theorem dL_law_366 : decode cL_law 366 = .ok (.iconst 2, 1) := by decide +kernel
theorem dL_law_367 : decode cL_law 367 = .ok (.iadd, 1) := by decide +kernel
theorem dL_law_368 : decode cL_law 368 = .ok (.iaload, 1) := by decide +kernel
theorem dL_law_369 : decode cL_law 369 = .ok (.aload_n 0, 1) := by decide +kernel
theorem dL_law_370 : decode cL_law 370 = .ok (.iload_n 3, 1) := by decide +kernel
theorem dL_law_371 : decode cL_law 371 = .ok (.iconst 3, 1) := by decide +kernel
theorem dL_law_372 : decode cL_law 372 = .ok (.iadd, 1) := by decide +kernel
theorem dL_law_373 : decode cL_law 373 = .ok (.iaload, 1) := by decide +kernel
theorem dL_law_374 : decode cL_law 374 = .ok (.invokevirtual 41, 3) := by decide +kernel
theorem dL_law_377 : decode cL_law 377 = .ok (.aload_n 2, 1) := by decide +kernel
theorem dL_law_378 : decode cL_law 378 = .ok (.aload_n 0, 1) := by decide +kernel
theorem dL_law_379 : decode cL_law 379 = .ok (.iload_n 3, 1) := by decide +kernel
theorem dL_law_380 : decode cL_law 380 = .ok (.iconst 1, 1) := by decide +kernel
theorem dL_law_381 : decode cL_law 381 = .ok (.iadd, 1) := by decide +kernel
theorem dL_law_382 : decode cL_law 382 = .ok (.iaload, 1) := by decide +kernel
theorem dL_law_383 : decode cL_law 383 = .ok (.aload_n 0, 1) := by decide +kernel
theorem dL_law_384 : decode cL_law 384 = .ok (.iload_n 3, 1) := by decide +kernel
theorem dL_law_385 : decode cL_law 385 = .ok (.iconst 2, 1) := by decide +kernel
theorem dL_law_386 : decode cL_law 386 = .ok (.iadd, 1) := by decide +kernel
theorem dL_law_387 : decode cL_law 387 = .ok (.iaload, 1) := by decide +kernel
theorem dL_law_388 : decode cL_law 388 = .ok (.aload_n 0, 1) := by decide +kernel
theorem dL_law_389 : decode cL_law 389 = .ok (.iload_n 3, 1) := by decide +kernel
theorem dL_law_390 : decode cL_law 390 = .ok (.iconst 3, 1) := by decide +kernel
theorem dL_law_391 : decode cL_law 391 = .ok (.iadd, 1) := by decide +kernel
theorem dL_law_392 : decode cL_law 392 = .ok (.iaload, 1) := by decide +kernel
theorem dL_law_393 : decode cL_law 393 = .ok (.invokevirtual 45, 3) := by decide +kernel
theorem dL_law_396 : decode cL_law 396 = .ok (.lcmp, 1) := by decide +kernel
theorem dL_law_397 : decode cL_law 397 = .ok (.ifCond .eq 384, 3) := by decide +kernel
theorem dL_law_400 : decode cL_law 400 = .ok (.iconst 0, 1) := by decide +kernel
theorem dL_law_401 : decode cL_law 401 = .ok (.ireturn, 1) := by decide +kernel
theorem dL_law_402 : decode cL_law 402 = .ok (.aload_n 1, 1) := by decide +kernel
theorem dL_law_403 : decode cL_law 403 = .ok (.aload_n 0, 1) := by decide +kernel
theorem dL_law_404 : decode cL_law 404 = .ok (.iload_n 3, 1) := by decide +kernel
theorem dL_law_405 : decode cL_law 405 = .ok (.iconst 1, 1) := by decide +kernel
theorem dL_law_406 : decode cL_law 406 = .ok (.iadd, 1) := by decide +kernel
theorem dL_law_407 : decode cL_law 407 = .ok (.iaload, 1) := by decide +kernel
theorem dL_law_408 : decode cL_law 408 = .ok (.aload_n 0, 1) := by decide +kernel
theorem dL_law_409 : decode cL_law 409 = .ok (.iload_n 3, 1) := by decide +kernel
theorem dL_law_410 : decode cL_law 410 = .ok (.iconst 2, 1) := by decide +kernel
theorem dL_law_411 : decode cL_law 411 = .ok (.iadd, 1) := by decide +kernel
theorem dL_law_412 : decode cL_law 412 = .ok (.iaload, 1) := by decide +kernel
theorem dL_law_413 : decode cL_law 413 = .ok (.aload_n 0, 1) := by decide +kernel
theorem dL_law_414 : decode cL_law 414 = .ok (.iload_n 3, 1) := by decide +kernel
theorem dL_law_415 : decode cL_law 415 = .ok (.iconst 3, 1) := by decide +kernel
theorem dL_law_416 : decode cL_law 416 = .ok (.iadd, 1) := by decide +kernel
theorem dL_law_417 : decode cL_law 417 = .ok (.iaload, 1) := by decide +kernel
theorem dL_law_418 : decode cL_law 418 = .ok (.aload_n 0, 1) := by decide +kernel
theorem dL_law_419 : decode cL_law 419 = .ok (.iload_n 3, 1) := by decide +kernel
theorem dL_law_420 : decode cL_law 420 = .ok (.iconst 4, 1) := by decide +kernel
theorem dL_law_421 : decode cL_law 421 = .ok (.iadd, 1) := by decide +kernel
theorem dL_law_422 : decode cL_law 422 = .ok (.iaload, 1) := by decide +kernel
theorem dL_law_423 : decode cL_law 423 = .ok (.invokevirtual 46, 3) := by decide +kernel
theorem dL_law_426 : decode cL_law 426 = .ok (.aload_n 2, 1) := by decide +kernel
theorem dL_law_427 : decode cL_law 427 = .ok (.aload_n 0, 1) := by decide +kernel
theorem dL_law_428 : decode cL_law 428 = .ok (.iload_n 3, 1) := by decide +kernel
theorem dL_law_429 : decode cL_law 429 = .ok (.iconst 1, 1) := by decide +kernel
theorem dL_law_430 : decode cL_law 430 = .ok (.iadd, 1) := by decide +kernel
theorem dL_law_431 : decode cL_law 431 = .ok (.iaload, 1) := by decide +kernel
theorem dL_law_432 : decode cL_law 432 = .ok (.aload_n 0, 1) := by decide +kernel
theorem dL_law_433 : decode cL_law 433 = .ok (.iload_n 3, 1) := by decide +kernel
theorem dL_law_434 : decode cL_law 434 = .ok (.iconst 2, 1) := by decide +kernel
theorem dL_law_435 : decode cL_law 435 = .ok (.iadd, 1) := by decide +kernel
theorem dL_law_436 : decode cL_law 436 = .ok (.iaload, 1) := by decide +kernel
theorem dL_law_437 : decode cL_law 437 = .ok (.aload_n 0, 1) := by decide +kernel
theorem dL_law_438 : decode cL_law 438 = .ok (.iload_n 3, 1) := by decide +kernel
theorem dL_law_439 : decode cL_law 439 = .ok (.iconst 3, 1) := by decide +kernel
theorem dL_law_440 : decode cL_law 440 = .ok (.iadd, 1) := by decide +kernel
theorem dL_law_441 : decode cL_law 441 = .ok (.iaload, 1) := by decide +kernel
theorem dL_law_442 : decode cL_law 442 = .ok (.aload_n 0, 1) := by decide +kernel
theorem dL_law_443 : decode cL_law 443 = .ok (.iload_n 3, 1) := by decide +kernel
theorem dL_law_444 : decode cL_law 444 = .ok (.iconst 4, 1) := by decide +kernel
theorem dL_law_445 : decode cL_law 445 = .ok (.iadd, 1) := by decide +kernel
theorem dL_law_446 : decode cL_law 446 = .ok (.iaload, 1) := by decide +kernel
theorem dL_law_447 : decode cL_law 447 = .ok (.invokevirtual 49, 3) := by decide +kernel
theorem dL_law_450 : decode cL_law 450 = .ok (.if_icmp .eq 331, 3) := by decide +kernel
theorem dL_law_453 : decode cL_law 453 = .ok (.iconst 0, 1) := by decide +kernel
theorem dL_law_454 : decode cL_law 454 = .ok (.ireturn, 1) := by decide +kernel
theorem dL_law_455 : decode cL_law 455 = .ok (.aload_n 1, 1) := by decide +kernel
theorem dL_law_456 : decode cL_law 456 = .ok (.aload_n 0, 1) := by decide +kernel
theorem dL_law_457 : decode cL_law 457 = .ok (.iload_n 3, 1) := by decide +kernel
theorem dL_law_458 : decode cL_law 458 = .ok (.iconst 1, 1) := by decide +kernel
theorem dL_law_459 : decode cL_law 459 = .ok (.iadd, 1) := by decide +kernel
theorem dL_law_460 : decode cL_law 460 = .ok (.iaload, 1) := by decide +kernel
theorem dL_law_461 : decode cL_law 461 = .ok (.aload_n 0, 1) := by decide +kernel
theorem dL_law_462 : decode cL_law 462 = .ok (.iload_n 3, 1) := by decide +kernel
theorem dL_law_463 : decode cL_law 463 = .ok (.iconst 2, 1) := by decide +kernel
theorem dL_law_464 : decode cL_law 464 = .ok (.iadd, 1) := by decide +kernel
theorem dL_law_465 : decode cL_law 465 = .ok (.iaload, 1) := by decide +kernel
theorem dL_law_466 : decode cL_law 466 = .ok (.invokevirtual 50, 3) := by decide +kernel
theorem dL_law_469 : decode cL_law 469 = .ok (.aload_n 2, 1) := by decide +kernel
theorem dL_law_470 : decode cL_law 470 = .ok (.aload_n 0, 1) := by decide +kernel
theorem dL_law_471 : decode cL_law 471 = .ok (.iload_n 3, 1) := by decide +kernel
theorem dL_law_472 : decode cL_law 472 = .ok (.iconst 1, 1) := by decide +kernel
theorem dL_law_473 : decode cL_law 473 = .ok (.iadd, 1) := by decide +kernel
theorem dL_law_474 : decode cL_law 474 = .ok (.iaload, 1) := by decide +kernel
theorem dL_law_475 : decode cL_law 475 = .ok (.aload_n 0, 1) := by decide +kernel
theorem dL_law_476 : decode cL_law 476 = .ok (.iload_n 3, 1) := by decide +kernel
theorem dL_law_477 : decode cL_law 477 = .ok (.iconst 2, 1) := by decide +kernel
theorem dL_law_478 : decode cL_law 478 = .ok (.iadd, 1) := by decide +kernel
theorem dL_law_479 : decode cL_law 479 = .ok (.iaload, 1) := by decide +kernel
theorem dL_law_480 : decode cL_law 480 = .ok (.invokevirtual 53, 3) := by decide +kernel
theorem dL_law_483 : decode cL_law 483 = .ok (.if_icmp .eq 298, 3) := by decide +kernel
theorem dL_law_486 : decode cL_law 486 = .ok (.iconst 0, 1) := by decide +kernel
theorem dL_law_487 : decode cL_law 487 = .ok (.ireturn, 1) := by decide +kernel
theorem dL_law_488 : decode cL_law 488 = .ok (.aload_n 1, 1) := by decide +kernel
theorem dL_law_489 : decode cL_law 489 = .ok (.aload_n 0, 1) := by decide +kernel
theorem dL_law_490 : decode cL_law 490 = .ok (.iload_n 3, 1) := by decide +kernel
theorem dL_law_491 : decode cL_law 491 = .ok (.iconst 1, 1) := by decide +kernel
theorem dL_law_492 : decode cL_law 492 = .ok (.iadd, 1) := by decide +kernel
theorem dL_law_493 : decode cL_law 493 = .ok (.iaload, 1) := by decide +kernel
theorem dL_law_494 : decode cL_law 494 = .ok (.aload_n 0, 1) := by decide +kernel
theorem dL_law_495 : decode cL_law 495 = .ok (.iload_n 3, 1) := by decide +kernel
theorem dL_law_496 : decode cL_law 496 = .ok (.iconst 2, 1) := by decide +kernel
theorem dL_law_497 : decode cL_law 497 = .ok (.iadd, 1) := by decide +kernel
theorem dL_law_498 : decode cL_law 498 = .ok (.iaload, 1) := by decide +kernel
theorem dL_law_499 : decode cL_law 499 = .ok (.aload_n 0, 1) := by decide +kernel
theorem dL_law_500 : decode cL_law 500 = .ok (.iload_n 3, 1) := by decide +kernel
theorem dL_law_501 : decode cL_law 501 = .ok (.iconst 3, 1) := by decide +kernel
theorem dL_law_502 : decode cL_law 502 = .ok (.iadd, 1) := by decide +kernel
theorem dL_law_503 : decode cL_law 503 = .ok (.iaload, 1) := by decide +kernel
theorem dL_law_504 : decode cL_law 504 = .ok (.invokevirtual 54, 3) := by decide +kernel
theorem dL_law_507 : decode cL_law 507 = .ok (.aload_n 2, 1) := by decide +kernel
theorem dL_law_508 : decode cL_law 508 = .ok (.aload_n 0, 1) := by decide +kernel
theorem dL_law_509 : decode cL_law 509 = .ok (.iload_n 3, 1) := by decide +kernel
theorem dL_law_510 : decode cL_law 510 = .ok (.iconst 1, 1) := by decide +kernel
theorem dL_law_511 : decode cL_law 511 = .ok (.iadd, 1) := by decide +kernel
theorem dL_law_512 : decode cL_law 512 = .ok (.iaload, 1) := by decide +kernel
theorem dL_law_513 : decode cL_law 513 = .ok (.aload_n 0, 1) := by decide +kernel
theorem dL_law_514 : decode cL_law 514 = .ok (.iload_n 3, 1) := by decide +kernel
theorem dL_law_515 : decode cL_law 515 = .ok (.iconst 2, 1) := by decide +kernel
theorem dL_law_516 : decode cL_law 516 = .ok (.iadd, 1) := by decide +kernel
theorem dL_law_517 : decode cL_law 517 = .ok (.iaload, 1) := by decide +kernel
theorem dL_law_518 : decode cL_law 518 = .ok (.aload_n 0, 1) := by decide +kernel
theorem dL_law_519 : decode cL_law 519 = .ok (.iload_n 3, 1) := by decide +kernel
theorem dL_law_520 : decode cL_law 520 = .ok (.iconst 3, 1) := by decide +kernel
theorem dL_law_521 : decode cL_law 521 = .ok (.iadd, 1) := by decide +kernel
theorem dL_law_522 : decode cL_law 522 = .ok (.iaload, 1) := by decide +kernel
theorem dL_law_523 : decode cL_law 523 = .ok (.invokevirtual 57, 3) := by decide +kernel
theorem dL_law_526 : decode cL_law 526 = .ok (.if_icmp .eq 255, 3) := by decide +kernel
theorem dL_law_529 : decode cL_law 529 = .ok (.iconst 0, 1) := by decide +kernel
theorem dL_law_530 : decode cL_law 530 = .ok (.ireturn, 1) := by decide +kernel
theorem dL_law_531 : decode cL_law 531 = .ok (.aload_n 1, 1) := by decide +kernel
theorem dL_law_532 : decode cL_law 532 = .ok (.invokevirtual 58, 3) := by decide +kernel
theorem dL_law_535 : decode cL_law 535 = .ok (.aload_n 2, 1) := by decide +kernel
theorem dL_law_536 : decode cL_law 536 = .ok (.invokevirtual 62, 3) := by decide +kernel
theorem dL_law_539 : decode cL_law 539 = .ok (.if_icmp .eq 242, 3) := by decide +kernel
theorem dL_law_542 : decode cL_law 542 = .ok (.iconst 0, 1) := by decide +kernel
theorem dL_law_543 : decode cL_law 543 = .ok (.ireturn, 1) := by decide +kernel
theorem dL_law_544 : decode cL_law 544 = .ok (.aload_n 1, 1) := by decide +kernel
theorem dL_law_545 : decode cL_law 545 = .ok (.aload_n 0, 1) := by decide +kernel
theorem dL_law_546 : decode cL_law 546 = .ok (.iload_n 3, 1) := by decide +kernel
theorem dL_law_547 : decode cL_law 547 = .ok (.iconst 1, 1) := by decide +kernel
theorem dL_law_548 : decode cL_law 548 = .ok (.iadd, 1) := by decide +kernel
theorem dL_law_549 : decode cL_law 549 = .ok (.iaload, 1) := by decide +kernel
theorem dL_law_550 : decode cL_law 550 = .ok (.aload_n 0, 1) := by decide +kernel
theorem dL_law_551 : decode cL_law 551 = .ok (.iload_n 3, 1) := by decide +kernel
theorem dL_law_552 : decode cL_law 552 = .ok (.iconst 2, 1) := by decide +kernel
theorem dL_law_553 : decode cL_law 553 = .ok (.iadd, 1) := by decide +kernel
theorem dL_law_554 : decode cL_law 554 = .ok (.iaload, 1) := by decide +kernel
theorem dL_law_555 : decode cL_law 555 = .ok (.invokevirtual 63, 3) := by decide +kernel
theorem dL_law_558 : decode cL_law 558 = .ok (.aload_n 2, 1) := by decide +kernel
theorem dL_law_559 : decode cL_law 559 = .ok (.aload_n 0, 1) := by decide +kernel
theorem dL_law_560 : decode cL_law 560 = .ok (.iload_n 3, 1) := by decide +kernel
theorem dL_law_561 : decode cL_law 561 = .ok (.iconst 1, 1) := by decide +kernel
theorem dL_law_562 : decode cL_law 562 = .ok (.iadd, 1) := by decide +kernel
theorem dL_law_563 : decode cL_law 563 = .ok (.iaload, 1) := by decide +kernel
theorem dL_law_564 : decode cL_law 564 = .ok (.aload_n 0, 1) := by decide +kernel
theorem dL_law_565 : decode cL_law 565 = .ok (.iload_n 3, 1) := by decide +kernel
theorem dL_law_566 : decode cL_law 566 = .ok (.iconst 2, 1) := by decide +kernel
theorem dL_law_567 : decode cL_law 567 = .ok (.iadd, 1) := by decide +kernel
theorem dL_law_568 : decode cL_law 568 = .ok (.iaload, 1) := by decide +kernel
theorem dL_law_569 : decode cL_law 569 = .ok (.invokevirtual 66, 3) := by decide +kernel
theorem dL_law_572 : decode cL_law 572 = .ok (.if_icmp .eq 209, 3) := by decide +kernel
theorem dL_law_575 : decode cL_law 575 = .ok (.iconst 0, 1) := by decide +kernel
theorem dL_law_576 : decode cL_law 576 = .ok (.ireturn, 1) := by decide +kernel
theorem dL_law_577 : decode cL_law 577 = .ok (.aload_n 1, 1) := by decide +kernel
theorem dL_law_578 : decode cL_law 578 = .ok (.aload_n 0, 1) := by decide +kernel
theorem dL_law_579 : decode cL_law 579 = .ok (.iload_n 3, 1) := by decide +kernel
theorem dL_law_580 : decode cL_law 580 = .ok (.iconst 1, 1) := by decide +kernel
theorem dL_law_581 : decode cL_law 581 = .ok (.iadd, 1) := by decide +kernel
theorem dL_law_582 : decode cL_law 582 = .ok (.iaload, 1) := by decide +kernel
theorem dL_law_583 : decode cL_law 583 = .ok (.invokevirtual 67, 3) := by decide +kernel
theorem dL_law_586 : decode cL_law 586 = .ok (.aload_n 2, 1) := by decide +kernel
theorem dL_law_587 : decode cL_law 587 = .ok (.aload_n 0, 1) := by decide +kernel
theorem dL_law_588 : decode cL_law 588 = .ok (.iload_n 3, 1) := by decide +kernel
theorem dL_law_589 : decode cL_law 589 = .ok (.iconst 1, 1) := by decide +kernel
theorem dL_law_590 : decode cL_law 590 = .ok (.iadd, 1) := by decide +kernel
theorem dL_law_591 : decode cL_law 591 = .ok (.iaload, 1) := by decide +kernel
theorem dL_law_592 : decode cL_law 592 = .ok (.invokevirtual 70, 3) := by decide +kernel
theorem dL_law_595 : decode cL_law 595 = .ok (.if_icmp .eq 186, 3) := by decide +kernel
theorem dL_law_598 : decode cL_law 598 = .ok (.iconst 0, 1) := by decide +kernel
theorem dL_law_599 : decode cL_law 599 = .ok (.ireturn, 1) := by decide +kernel
theorem dL_law_600 : decode cL_law 600 = .ok (.aload_n 1, 1) := by decide +kernel
theorem dL_law_601 : decode cL_law 601 = .ok (.invokevirtual 71, 3) := by decide +kernel
theorem dL_law_604 : decode cL_law 604 = .ok (.aload_n 2, 1) := by decide +kernel
theorem dL_law_605 : decode cL_law 605 = .ok (.invokevirtual 74, 3) := by decide +kernel
theorem dL_law_608 : decode cL_law 608 = .ok (.if_icmp .eq 173, 3) := by decide +kernel
theorem dL_law_611 : decode cL_law 611 = .ok (.iconst 0, 1) := by decide +kernel
theorem dL_law_612 : decode cL_law 612 = .ok (.ireturn, 1) := by decide +kernel
theorem dL_law_613 : decode cL_law 613 = .ok (.aload_n 1, 1) := by decide +kernel
theorem dL_law_614 : decode cL_law 614 = .ok (.aload_n 0, 1) := by decide +kernel
theorem dL_law_615 : decode cL_law 615 = .ok (.iload_n 3, 1) := by decide +kernel
theorem dL_law_616 : decode cL_law 616 = .ok (.iconst 1, 1) := by decide +kernel
theorem dL_law_617 : decode cL_law 617 = .ok (.iadd, 1) := by decide +kernel
theorem dL_law_618 : decode cL_law 618 = .ok (.iaload, 1) := by decide +kernel
theorem dL_law_619 : decode cL_law 619 = .ok (.invokevirtual 75, 3) := by decide +kernel
theorem dL_law_622 : decode cL_law 622 = .ok (.aload_n 2, 1) := by decide +kernel
theorem dL_law_623 : decode cL_law 623 = .ok (.aload_n 0, 1) := by decide +kernel
theorem dL_law_624 : decode cL_law 624 = .ok (.iload_n 3, 1) := by decide +kernel
theorem dL_law_625 : decode cL_law 625 = .ok (.iconst 1, 1) := by decide +kernel
theorem dL_law_626 : decode cL_law 626 = .ok (.iadd, 1) := by decide +kernel
theorem dL_law_627 : decode cL_law 627 = .ok (.iaload, 1) := by decide +kernel
theorem dL_law_628 : decode cL_law 628 = .ok (.invokevirtual 78, 3) := by decide +kernel
theorem dL_law_631 : decode cL_law 631 = .ok (.if_icmp .eq 150, 3) := by decide +kernel
theorem dL_law_634 : decode cL_law 634 = .ok (.iconst 0, 1) := by decide +kernel
theorem dL_law_635 : decode cL_law 635 = .ok (.ireturn, 1) := by decide +kernel
theorem dL_law_636 : decode cL_law 636 = .ok (.aload_n 1, 1) := by decide +kernel
theorem dL_law_637 : decode cL_law 637 = .ok (.aload_n 0, 1) := by decide +kernel
theorem dL_law_638 : decode cL_law 638 = .ok (.iload_n 3, 1) := by decide +kernel
theorem dL_law_639 : decode cL_law 639 = .ok (.iconst 1, 1) := by decide +kernel
theorem dL_law_640 : decode cL_law 640 = .ok (.iadd, 1) := by decide +kernel
theorem dL_law_641 : decode cL_law 641 = .ok (.iaload, 1) := by decide +kernel
theorem dL_law_642 : decode cL_law 642 = .ok (.invokevirtual 79, 3) := by decide +kernel
theorem dL_law_645 : decode cL_law 645 = .ok (.aload_n 2, 1) := by decide +kernel
theorem dL_law_646 : decode cL_law 646 = .ok (.aload_n 0, 1) := by decide +kernel
theorem dL_law_647 : decode cL_law 647 = .ok (.iload_n 3, 1) := by decide +kernel
theorem dL_law_648 : decode cL_law 648 = .ok (.iconst 1, 1) := by decide +kernel
theorem dL_law_649 : decode cL_law 649 = .ok (.iadd, 1) := by decide +kernel
theorem dL_law_650 : decode cL_law 650 = .ok (.iaload, 1) := by decide +kernel
theorem dL_law_651 : decode cL_law 651 = .ok (.invokevirtual 82, 3) := by decide +kernel
theorem dL_law_654 : decode cL_law 654 = .ok (.if_icmp .eq 127, 3) := by decide +kernel
theorem dL_law_657 : decode cL_law 657 = .ok (.iconst 0, 1) := by decide +kernel
theorem dL_law_658 : decode cL_law 658 = .ok (.ireturn, 1) := by decide +kernel
theorem dL_law_659 : decode cL_law 659 = .ok (.aload_n 1, 1) := by decide +kernel
theorem dL_law_660 : decode cL_law 660 = .ok (.aload_n 0, 1) := by decide +kernel
theorem dL_law_661 : decode cL_law 661 = .ok (.iload_n 3, 1) := by decide +kernel
theorem dL_law_662 : decode cL_law 662 = .ok (.iconst 1, 1) := by decide +kernel
theorem dL_law_663 : decode cL_law 663 = .ok (.iadd, 1) := by decide +kernel
theorem dL_law_664 : decode cL_law 664 = .ok (.iaload, 1) := by decide +kernel
theorem dL_law_665 : decode cL_law 665 = .ok (.invokevirtual 83, 3) := by decide +kernel
theorem dL_law_668 : decode cL_law 668 = .ok (.aload_n 2, 1) := by decide +kernel
theorem dL_law_669 : decode cL_law 669 = .ok (.aload_n 0, 1) := by decide +kernel
theorem dL_law_670 : decode cL_law 670 = .ok (.iload_n 3, 1) := by decide +kernel
theorem dL_law_671 : decode cL_law 671 = .ok (.iconst 1, 1) := by decide +kernel
theorem dL_law_672 : decode cL_law 672 = .ok (.iadd, 1) := by decide +kernel
theorem dL_law_673 : decode cL_law 673 = .ok (.iaload, 1) := by decide +kernel
theorem dL_law_674 : decode cL_law 674 = .ok (.invokevirtual 86, 3) := by decide +kernel
theorem dL_law_677 : decode cL_law 677 = .ok (.if_icmp .eq 104, 3) := by decide +kernel
theorem dL_law_680 : decode cL_law 680 = .ok (.iconst 0, 1) := by decide +kernel
theorem dL_law_681 : decode cL_law 681 = .ok (.ireturn, 1) := by decide +kernel
theorem dL_law_682 : decode cL_law 682 = .ok (.aload_n 1, 1) := by decide +kernel
theorem dL_law_683 : decode cL_law 683 = .ok (.aload_n 0, 1) := by decide +kernel
theorem dL_law_684 : decode cL_law 684 = .ok (.iload_n 3, 1) := by decide +kernel
theorem dL_law_685 : decode cL_law 685 = .ok (.iconst 1, 1) := by decide +kernel
theorem dL_law_686 : decode cL_law 686 = .ok (.iadd, 1) := by decide +kernel
theorem dL_law_687 : decode cL_law 687 = .ok (.iaload, 1) := by decide +kernel
theorem dL_law_688 : decode cL_law 688 = .ok (.invokevirtual 87, 3) := by decide +kernel
theorem dL_law_691 : decode cL_law 691 = .ok (.aload_n 2, 1) := by decide +kernel
theorem dL_law_692 : decode cL_law 692 = .ok (.aload_n 0, 1) := by decide +kernel
theorem dL_law_693 : decode cL_law 693 = .ok (.iload_n 3, 1) := by decide +kernel
theorem dL_law_694 : decode cL_law 694 = .ok (.iconst 1, 1) := by decide +kernel
theorem dL_law_695 : decode cL_law 695 = .ok (.iadd, 1) := by decide +kernel
theorem dL_law_696 : decode cL_law 696 = .ok (.iaload, 1) := by decide +kernel
theorem dL_law_697 : decode cL_law 697 = .ok (.invokevirtual 90, 3) := by decide +kernel
theorem dL_law_700 : decode cL_law 700 = .ok (.if_icmp .eq 81, 3) := by decide +kernel
theorem dL_law_703 : decode cL_law 703 = .ok (.iconst 0, 1) := by decide +kernel
theorem dL_law_704 : decode cL_law 704 = .ok (.ireturn, 1) := by decide +kernel
theorem dL_law_705 : decode cL_law 705 = .ok (.aload_n 1, 1) := by decide +kernel
theorem dL_law_706 : decode cL_law 706 = .ok (.invokevirtual 91, 3) := by decide +kernel
theorem dL_law_709 : decode cL_law 709 = .ok (.aload_n 2, 1) := by decide +kernel
theorem dL_law_710 : decode cL_law 710 = .ok (.invokevirtual 94, 3) := by decide +kernel
theorem dL_law_713 : decode cL_law 713 = .ok (.if_icmp .eq 68, 3) := by decide +kernel
theorem dL_law_716 : decode cL_law 716 = .ok (.iconst 0, 1) := by decide +kernel
theorem dL_law_717 : decode cL_law 717 = .ok (.ireturn, 1) := by decide +kernel
theorem dL_law_718 : decode cL_law 718 = .ok (.aload_n 1, 1) := by decide +kernel
theorem dL_law_719 : decode cL_law 719 = .ok (.invokevirtual 95, 3) := by decide +kernel
theorem dL_law_722 : decode cL_law 722 = .ok (.aload_n 2, 1) := by decide +kernel
theorem dL_law_723 : decode cL_law 723 = .ok (.invokevirtual 98, 3) := by decide +kernel
theorem dL_law_726 : decode cL_law 726 = .ok (.if_icmp .eq 55, 3) := by decide +kernel
theorem dL_law_729 : decode cL_law 729 = .ok (.iconst 0, 1) := by decide +kernel
theorem dL_law_730 : decode cL_law 730 = .ok (.ireturn, 1) := by decide +kernel
theorem dL_law_731 : decode cL_law 731 = .ok (.aload_n 1, 1) := by decide +kernel
theorem dL_law_732 : decode cL_law 732 = .ok (.invokevirtual 99, 3) := by decide +kernel
theorem dL_law_735 : decode cL_law 735 = .ok (.aload_n 2, 1) := by decide +kernel
theorem dL_law_736 : decode cL_law 736 = .ok (.invokevirtual 102, 3) := by decide +kernel
theorem dL_law_739 : decode cL_law 739 = .ok (.if_icmp .eq 42, 3) := by decide +kernel
theorem dL_law_742 : decode cL_law 742 = .ok (.iconst 0, 1) := by decide +kernel
theorem dL_law_743 : decode cL_law 743 = .ok (.ireturn, 1) := by decide +kernel
theorem dL_law_744 : decode cL_law 744 = .ok (.aload_n 1, 1) := by decide +kernel
theorem dL_law_745 : decode cL_law 745 = .ok (.aload_n 0, 1) := by decide +kernel
theorem dL_law_746 : decode cL_law 746 = .ok (.iload_n 3, 1) := by decide +kernel
theorem dL_law_747 : decode cL_law 747 = .ok (.iconst 1, 1) := by decide +kernel
theorem dL_law_748 : decode cL_law 748 = .ok (.iadd, 1) := by decide +kernel
theorem dL_law_749 : decode cL_law 749 = .ok (.iaload, 1) := by decide +kernel
theorem dL_law_750 : decode cL_law 750 = .ok (.invokevirtual 103, 3) := by decide +kernel
theorem dL_law_753 : decode cL_law 753 = .ok (.aload_n 2, 1) := by decide +kernel
theorem dL_law_754 : decode cL_law 754 = .ok (.aload_n 0, 1) := by decide +kernel
theorem dL_law_755 : decode cL_law 755 = .ok (.iload_n 3, 1) := by decide +kernel
theorem dL_law_756 : decode cL_law 756 = .ok (.iconst 1, 1) := by decide +kernel
theorem dL_law_757 : decode cL_law 757 = .ok (.iadd, 1) := by decide +kernel
theorem dL_law_758 : decode cL_law 758 = .ok (.iaload, 1) := by decide +kernel
theorem dL_law_759 : decode cL_law 759 = .ok (.invokevirtual 106, 3) := by decide +kernel
theorem dL_law_762 : decode cL_law 762 = .ok (.if_icmp .eq 19, 3) := by decide +kernel
theorem dL_law_765 : decode cL_law 765 = .ok (.iconst 0, 1) := by decide +kernel
theorem dL_law_766 : decode cL_law 766 = .ok (.ireturn, 1) := by decide +kernel
theorem dL_law_767 : decode cL_law 767 = .ok (.aload_n 1, 1) := by decide +kernel
theorem dL_law_768 : decode cL_law 768 = .ok (.invokevirtual 107, 3) := by decide +kernel
theorem dL_law_771 : decode cL_law 771 = .ok (.aload_n 2, 1) := by decide +kernel
theorem dL_law_772 : decode cL_law 772 = .ok (.invokevirtual 111, 3) := by decide +kernel
theorem dL_law_775 : decode cL_law 775 = .ok (.lcmp, 1) := by decide +kernel
theorem dL_law_776 : decode cL_law 776 = .ok (.ifCond .eq 5, 3) := by decide +kernel
theorem dL_law_779 : decode cL_law 779 = .ok (.iconst 0, 1) := by decide +kernel
theorem dL_law_780 : decode cL_law 780 = .ok (.ireturn, 1) := by decide +kernel
theorem dL_law_781 : decode cL_law 781 = .ok (.iinc 3 5, 3) := by decide +kernel
theorem dL_law_784 : decode cL_law 784 = .ok (.goto (-766), 3) := by decide +kernel
theorem dL_law_787 : decode cL_law 787 = .ok (.iconst 1, 1) := by decide +kernel
theorem dL_law_788 : decode cL_law 788 = .ok (.ireturn, 1) := by decide +kernel
abbrev vwCl : List vw_C := [(RX0, TX0, 14), (RX1, TX1, 4), (RX2, TX2, 6), (RX3, TX3, 2), (RX4, TX4, 2), (RX5, TX5, 10), (RX6, TX6, 15)]
end
section
/-! The layer between the kit's rows and the walks: roles (the order in which the cells are made), memory as functions, the judgement G. -/
abbrev ET : Type := Nat × (Nat → ClassId) × (Nat → Nat → Nat) × (Nat → ClassId)
abbrev eD (E : ET) : va_G := (E.2.1, E.2.2.1)
abbrev eT (E : ET) : List (ClassId × FieldType) := [(E.2.2.2 0, .int), (E.2.2.2 1, .byte), (E.2.2.2 2, .long), (E.2.2.2 3, .object RX0)]
abbrev MI : Type := Nat → Nat → Int32
abbrev ML : Type := Nat → Nat → Int64
abbrev MK : Type := Nat → Nat → Option Nat
def shpL : List (Nat × Nat) := [(5, 10), (0, 14), (7, 10), (7, 10), (7, 16), (7, 16), (7, 16), (7, 16), (7, 12), (7, 12), (7, 12), (7, 10), (7, 16), (3, 2), (10, 6), (0, 14), (7, 10), (7, 10), (7, 16), (7, 16), (7, 16), (7, 16), (7, 12), (7, 12), (7, 12), (7, 10), (7, 16), (0, 14), (7, 10), (7, 10), (7, 16), (7, 16), (7, 16), (7, 16), (7, 12), (7, 12), (7, 12), (7, 10), (7, 16), (0, 14), (7, 10), (7, 10), (7, 16), (7, 16), (7, 16), (7, 16), (7, 12), (7, 12), (7, 12), (7, 10), (7, 16), (0, 14), (7, 10), (7, 10), (7, 16), (7, 16), (7, 16), (7, 16), (7, 12), (7, 12), (7, 12), (7, 10), (7, 16), (0, 14), (7, 10), (7, 10), (7, 16), (7, 16), (7, 16), (7, 16), (7, 12), (7, 12), (7, 12), (7, 10), (7, 16), (0, 14), (7, 10), (7, 10), (7, 16), (7, 16), (7, 16), (7, 16), (7, 12), (7, 12), (7, 12), (7, 10), (7, 16), (1, 4), (9, 10), (7, 10), (4, 2), (7, 45), (2, 6), (7, 40), (7, 160), (8, 120), (6, 15), (7, 123), (7, 123), (7, 615), (7, 3), (9, 10), (7, 10), (7, 120), (7, 40), (7, 160)]
def shp (r : Nat) : Nat × Nat := shpL.getD r (7, 0)
def fkL (ci : Nat) : List Nat := match ci with
  | 0 => [0, 2, 2, 0, 2, 2, 2, 2, 0, 2, 2, 2, 2, 2]
  | 1 => [2, 2, 2, 0]
  | 2 => [2, 2, 0, 0, 0, 0]
  | 3 => [2, 0]
  | 4 => [2, 0]
  | 5 => [2, 2, 2, 2, 2, 2, 0, 0, 0, 0]
  | 6 => [2, 2, 2, 0, 2, 2, 2, 2, 0, 0, 0, 0, 2, 2, 1]
  | _ => []
def fv (b : Nat) (f : Nat → Int32) (g : Nat → Int64) (h : Nat → Option Nat) (t k : Nat) : Value := match t with
  | 0 => .int (f k)
  | 1 => .long (g k)
  | _ => va_rf ((h k).map (fun r => b + r))
def flds (b : Nat) (f : Nat → Int32) (g : Nat → Int64) (h : Nat → Option Nat) : Nat → List Nat → List Value
  | _, [] => []
  | k, t :: ts => fv b f g h t k :: flds b f g h (k + 1) ts
def cellK (E : ET) (f : Nat → Int32) (g : Nat → Int64) (h : Nat → Option Nat) (q : Nat × Nat) : va_E :=
  if q.1 < 7 then .inr (q.1, flds E.1 f g h 0 (fkL q.1))
  else match q.1 with
  | 7 => .inl (E.2.2.2 0, q.2, .inl f)
  | 8 => .inl (E.2.2.2 1, q.2, .inl f)
  | 9 => .inl (E.2.2.2 2, q.2, .inr (.inl g))
  | _ => .inl (E.2.2.2 3, q.2, .inr (.inr (.inr (.inr (fun k => (h k).map (fun r => E.1 + r))))))
def cellE (E : ET) (I : MI) (L : ML) (K : MK) (r : Nat) : va_E := cellK E (I r) (L r) (K r) (shp r)
def wl (E : ET) (n : Nat) (I : MI) (L : ML) (K : MK) : va_W := (List.range n).map (fun r => (E.1 + r, cellE E I L K r))
def HW (E : ET) (n : Nat) (I : MI) (L : ML) (K : MK) (H : Heap) : Prop := va_P (eD E) vwCl (wl E n I L K) H
/-- as HW, while cells are made: the heap's size is known -/
def HC (E : ET) (n : Nat) (I : MI) (L : ML) (K : MK) (H : Heap) : Prop := HW E n I L K H ∧ H.size = E.1 + n
def eA (E : ET) : Nat → Prop := fun q => E.1 ≤ q
theorem wl_get {E : ET} {n : Nat} {I : MI} {L : ML} {K : MK} {r : Nat} (h : r < n) : (wl E n I L K)[r]? = some (E.1 + r, cellE E I L K r) := by
  simp [wl, h]
theorem wl_some {E : ET} {n : Nat} {I : MI} {L : ML} {K : MK} {r : Nat} {q : Nat × va_E} (h : (wl E n I L K)[r]? = some q) : r < n ∧ q = (E.1 + r, cellE E I L K r) := by
  by_cases hr : r < n
  · rw [wl_get hr] at h
    exact ⟨hr, (Option.some.inj h).symm⟩
  · simp [wl, hr] at h
theorem wl_D (E : ET) (n : Nat) (I : MI) (L : ML) (K : MK) : va_D (eA E) (wl E n I L K) := by
  refine ⟨fun i j p q hi hj h => ?_, fun k q hk => ?_⟩
  · obtain ⟨-, rfl⟩ := wl_some hi
    obtain ⟨-, rfl⟩ := wl_some hj
    exact Nat.add_left_cancel h
  · obtain ⟨-, rfl⟩ := wl_some hk
    exact Nat.le_add_right _ _
theorem wl_ext {E : ET} {n : Nat} {I I' : MI} {L L' : ML} {K K' : MK} (h : ∀ r, r < n → cellE E I L K r = cellE E I' L' K' r) : wl E n I L K = wl E n I' L' K' := by
  unfold wl
  refine List.map_congr_left fun r hr => ?_
  rw [h r (List.mem_range.mp hr)]
theorem wl_set {E : ET} {n : Nat} {I I' : MI} {L L' : ML} {K K' : MK} {r : Nat} {x : va_E} (h0 : x = cellE E I' L' K' r) (h : ∀ q, q ≠ r → cellE E I L K q = cellE E I' L' K' q) : (wl E n I L K).set r (E.1 + r, x) = wl E n I' L' K' := by
  refine List.ext_getElem? fun k => ?_
  rw [List.getElem?_set]
  by_cases hk : k < n
  · rw [wl_get hk]
    by_cases e : r = k
    · subst e
      simp [wl, hk, h0]
    · rw [if_neg e, wl_get hk, h k (Ne.symm e)]
  · have e1 : (wl E n I' L' K')[k]? = none := by simp [wl, hk]
    have e2 : (wl E n I L K)[k]? = none := by simp [wl, hk]
    rw [e1, e2]
    by_cases e : r = k
    · subst e
      simp [wl, hk]
    · simp [e]
theorem HW.ext {E : ET} {n : Nat} {I I' : MI} {L L' : ML} {K K' : MK} {H : Heap} (h : HW E n I L K H) (he : ∀ r, r < n → cellE E I L K r = cellE E I' L' K' r) : HW E n I' L' K' H := by
  unfold HW
  rw [← wl_ext he]
  exact h
theorem HW.at {E : ET} {n : Nat} {I : MI} {L : ML} {K : MK} {H : Heap} (h : HW E n I L K H) {r : Nat} (hr : r < n) : va_at (eD E) vwCl (E.1 + r, cellE E I L K r) H := h r _ (wl_get hr)
theorem HW.of {E : ET} {n : Nat} {I : MI} {L : ML} {K : MK} {H : Heap} (h : ∀ r, r < n → va_at (eD E) vwCl (E.1 + r, cellE E I L K r) H) : HW E n I L K H := fun k q hk => by
  obtain ⟨h1, rfl⟩ := wl_some hk
  exact h k h1
-- fields
theorem flds_get {b : Nat} {f : Nat → Int32} {g : Nat → Int64} {h : Nat → Option Nat} : ∀ (l : List Nat) (j k t : Nat), l[k]? = some t → (flds b f g h j l)[k]? = some (fv b f g h t (j + k))
  | [], j, k, t, hk => by simp at hk
  | x :: xs, j, 0, t, hk => by
    simp at hk
    subst hk
    rfl
  | x :: xs, j, k + 1, t, hk => by
    have := flds_get (b := b) (f := f) (g := g) (h := h) xs (j + 1) k t (by simpa using hk)
    show (flds b f g h (j + 1) xs)[k]? = _
    rw [this, Nat.add_right_comm, Nat.add_assoc]
theorem flds_len {b : Nat} {f : Nat → Int32} {g : Nat → Int64} {h : Nat → Option Nat} : ∀ (l : List Nat) (j : Nat), (flds b f g h j l).length = l.length
  | [], _ => rfl
  | _ :: xs, j => by
    show (flds b f g h (j + 1) xs).length + 1 = xs.length + 1
    rw [flds_len xs (j + 1)]
theorem flds_set {b : Nat} {f f' : Nat → Int32} {g g' : Nat → Int64} {h h' : Nat → Option Nat} {v : Value} : ∀ (l : List Nat) (j k t : Nat), l[k]? = some t → v = fv b f' g' h' t (j + k) → (∀ t i, i ≠ j + k → fv b f g h t i = fv b f' g' h' t i) → (flds b f g h j l).set k v = flds b f' g' h' j l
  | [], j, k, t, hk, _, _ => by simp at hk
  | x :: xs, j, 0, t, hk, hv, ho => by
    simp at hk
    subst hk
    show v :: flds b f g h (j + 1) xs = fv b f' g' h' x j :: flds b f' g' h' (j + 1) xs
    rw [hv, Nat.add_zero, flds_same xs (j + 1) (fun t i hi => ho t i (by omega))]
  | x :: xs, j, k + 1, t, hk, hv, ho => by
    show fv b f g h x j :: (flds b f g h (j + 1) xs).set k v = fv b f' g' h' x j :: flds b f' g' h' (j + 1) xs
    rw [flds_set xs (j + 1) k t (by simpa using hk) (by rw [hv]; congr 1; omega) (fun t i hi => ho t i (by omega)), ho x j (by omega)]
where
  flds_same {b : Nat} {f f' : Nat → Int32} {g g' : Nat → Int64} {h h' : Nat → Option Nat} : ∀ (l : List Nat) (j : Nat), (∀ t i, j ≤ i → fv b f g h t i = fv b f' g' h' t i) → flds b f g h j l = flds b f' g' h' j l
    | [], _, _ => rfl
    | x :: xs, j, ho => by
      show fv b f g h x j :: flds b f g h (j + 1) xs = fv b f' g' h' x j :: flds b f' g' h' (j + 1) xs
      rw [ho x j (Nat.le_refl _), flds_same xs (j + 1) (fun t i hi => ho t i (by omega))]
-- updates of the memory
def upI (I : MI) (r k : Nat) (x : Int32) : MI := fun q j => if q = r ∧ j = k then x else I q j
def upL (L : ML) (r k : Nat) (x : Int64) : ML := fun q j => if q = r ∧ j = k then x else L q j
def upK (K : MK) (r k : Nat) (x : Option Nat) : MK := fun q j => if q = r ∧ j = k then x else K q j
theorem upI_s (I : MI) (r k : Nat) (x : Int32) : upI I r k x r k = x := by simp [upI]
theorem upI_r {I : MI} {r k q j : Nat} {x : Int32} (h : q ≠ r) : upI I r k x q j = I q j := by simp [upI, h]
theorem upI_k {I : MI} {r k q j : Nat} {x : Int32} (h : j ≠ k) : upI I r k x q j = I q j := by simp [upI, h]
theorem upI_R {I : MI} {r k q : Nat} {x : Int32} (h : q ≠ r) : upI I r k x q = I q := by funext j; simp [upI, h]
theorem upL_s (I : ML) (r k : Nat) (x : Int64) : upL I r k x r k = x := by simp [upL]
theorem upL_r {I : ML} {r k q j : Nat} {x : Int64} (h : q ≠ r) : upL I r k x q j = I q j := by simp [upL, h]
theorem upL_k {I : ML} {r k q j : Nat} {x : Int64} (h : j ≠ k) : upL I r k x q j = I q j := by simp [upL, h]
theorem upL_R {I : ML} {r k q : Nat} {x : Int64} (h : q ≠ r) : upL I r k x q = I q := by funext j; simp [upL, h]
theorem upK_R {I : MK} {r k q : Nat} {x : Option Nat} (h : q ≠ r) : upK I r k x q = I q := by funext j; simp [upK, h]
theorem upI_row (I : MI) (r k : Nat) (x : Int32) : upI I r k x r = upd (I r) k x := by funext j; simp [upI, upd]
theorem upL_row (I : ML) (r k : Nat) (x : Int64) : upL I r k x r = vp_updL (I r) k x := by funext j; simp [upL, vp_updL]
theorem upK_row (I : MK) (r k : Nat) (x : Option Nat) : upK I r k x r = va_up (I r) k x := by funext j; simp [upK, va_up]
-- values: a reference is a role
def cv (b : Nat) (v : Value) : Value := match v with
  | .ref r => .ref (b + r)
  | v => v
theorem cv_cat (b : Nat) (v : Value) : (cv b v).category = v.category := by cases v <;> rfl
def cl2 (b : Nat) (q : Nat × Value) : Nat × Value := (q.1, cv b q.2)
def lset (ls : List (Nat × Value)) (i : Nat) (v : Value) : List (Nat × Value) :=
  ls.filter (fun q => Nat.blt q.1 i && !(q.1 + 1 == i && q.2.category == 2)) ++ (i, v) :: ls.filter (fun q => Nat.ble (i + v.category) q.1)
theorem lset_in {ls : List (Nat × Value)} {i : Nat} {v : Value} {q : Nat × Value} (h : q ∈ lset ls i v) : q = (i, v) ∨ q ∈ ls ∧ ((!(q.1 == i) && (!(v.category == 2 && q.1 == i + 1) && !(q.1 + 1 == i && q.2.category == 2))) = true) := by
  have hcat : v.category = 1 ∨ v.category = 2 := lv_cat v
  simp only [lset, List.mem_append, List.mem_filter, List.mem_cons] at h
  rcases h with ⟨h1, h2⟩ | h | ⟨h1, h2⟩
  · refine Or.inr ⟨h1, ?_⟩
    simp only [Bool.and_eq_true, Nat.blt_eq] at h2
    have hlt := h2.1
    have e1 : (q.1 == i) = false := by simp; omega
    have e2 : (q.1 == i + 1) = false := by simp; omega
    rw [e1, e2]
    simpa using h2.2
  · exact Or.inl h
  · refine Or.inr ⟨h1, ?_⟩
    have h3 : i + v.category ≤ q.1 := Nat.ble_eq.mp h2
    have e1 : (q.1 == i) = false := by simp; omega
    have e2 : (q.1 + 1 == i) = false := by simp; omega
    rw [e1, e2]
    rcases hcat with hc | hc
    · rw [hc]; rfl
    · have e3 : (q.1 == i + 1) = false := by simp; omega
      rw [e3]; simp
theorem lv_less {la : Array Slot} {n : Nat} {l l' : List (Nat × Value)} (h : lv_has la n l) (hs : ∀ q ∈ l', q ∈ l) : lv_has la n l' := ⟨h.1, h.2.1, fun q hq => h.2.2 q (hs q hq)⟩
theorem lset_has1 {la : Array Slot} {n b i : Nat} {ls : List (Nat × Value)} {v : Value} (hc : v.category = 1) (h : lv_has la n ((i, cv b v) :: (ls.map (cl2 b)).filter (fun q => !(q.1 == i) && !(q.1 + 1 == i && q.2.category == 2)))) : lv_has la n ((lset ls i v).map (cl2 b)) := by
  refine lv_less h fun q hq => ?_
  obtain ⟨z, hz, rfl⟩ := List.mem_map.mp hq
  rcases lset_in hz with rfl | ⟨h1, h2⟩
  · exact List.mem_cons_self
  · refine List.mem_cons_of_mem _ (List.mem_filter.mpr ⟨List.mem_map.mpr ⟨z, h1, rfl⟩, ?_⟩)
    rw [hc] at h2
    simpa [cl2, cv_cat] using h2
theorem lset_has2 {la : Array Slot} {n b i : Nat} {ls : List (Nat × Value)} {v : Value} (hc : v.category = 2) (h : lv_has la n ((i, cv b v) :: (ls.map (cl2 b)).filter (fun q => !(q.1 == i) && (!(q.1 == i + 1) && !(q.1 + 1 == i && q.2.category == 2))))) : lv_has la n ((lset ls i v).map (cl2 b)) := by
  refine lv_less h fun q hq => ?_
  obtain ⟨z, hz, rfl⟩ := List.mem_map.mp hq
  rcases lset_in hz with rfl | ⟨h1, h2⟩
  · exact List.mem_cons_self
  · refine List.mem_cons_of_mem _ (List.mem_filter.mpr ⟨List.mem_map.mpr ⟨z, h1, rfl⟩, ?_⟩)
    rw [hc] at h2
    simpa [cl2, cv_cat] using h2
-- the launch
def nestW : List Cond := [.methodLinkNest RX5 13 yX0_init RX5, .methodLinkNest RX5 36 yX4_init RX5, .methodLinkNest RX5 43 yX2_init RX5, .methodLinkNest RX0 49 yX5_within RX5, .methodLinkNest RX2 58 yX5_within RX5, .methodLinkNest RX3 17 yX0_init RX5]
def KW (E : ET) (U : State) : Prop := va_K (eD E) vwCl (eT E) U ∧ (∀ w ∈ nestW, va_Nw w U) ∧ va_AO RX0 U
theorem nestW_warm {s U : State} (hW : s.WarmedH U.vm) (h : ∀ w ∈ nestW, va_Nw w s) : ∀ w ∈ nestW, va_Nw w U := by
  intro w hw
  have h1 := h w hw
  simp only [nestW, List.mem_cons, List.not_mem_nil, or_false] at hw
  rcases hw with rfl | rfl | rfl | rfl | rfl | rfl <;> exact va_Nw.warmM hW h1
theorem KW.warm {E : ET} {s U : State} (hW : s.WarmedH U.vm) (h : KW E s) : KW E U := ⟨va_K.moved hW.alike h.1, nestW_warm hW h.2.1, va_AO.moved hW.alike h.2.2⟩
theorem nestW_same {s U : State} (hv : s.vm = U.vm) (h : ∀ w ∈ nestW, va_Nw w s) : ∀ w ∈ nestW, va_Nw w U := by
  intro w hw
  have h1 := h w hw
  simp only [nestW, List.mem_cons, List.not_mem_nil, or_false] at hw
  rcases hw with rfl | rfl | rfl | rfl | rfl | rfl <;> exact va_Nw.same rfl hv h1
theorem KW.same {E : ET} {s U : State} (hv : s.vm = U.vm) (h : KW E s) : KW E U := ⟨va_K.moved (by rw [hv]; exact Vm.Alike.refl _) h.1, nestW_same hv h.2.1, va_AO.moved (by rw [hv]; exact Vm.Alike.refl _) h.2.2⟩
-- the context of a walk
abbrev XT : Type := Program × Launch × Env × Room × State × MethodId × Array Value × List Frame × Method × Code × (State → Prop) × ET × Nat
abbrev xp (X : XT) : Program := X.1
abbrev xl (X : XT) : Launch := X.2.1
abbrev xe (X : XT) : Env := X.2.2.1
abbrev xR (X : XT) : Room := X.2.2.2.1
abbrev xs (X : XT) : State := X.2.2.2.2.1
abbrev xm (X : XT) : MethodId := X.2.2.2.2.2.1
abbrev xa (X : XT) : Array Value := X.2.2.2.2.2.2.1
abbrev xb (X : XT) : List Frame := X.2.2.2.2.2.2.2.1
abbrev xM (X : XT) : Method := X.2.2.2.2.2.2.2.2.1
abbrev xc (X : XT) : Code := X.2.2.2.2.2.2.2.2.2.1
abbrev xQ (X : XT) : State → Prop := X.2.2.2.2.2.2.2.2.2.2.1
abbrev xE (X : XT) : ET := X.2.2.2.2.2.2.2.2.2.2.2.1
abbrev xn (X : XT) : Nat := X.2.2.2.2.2.2.2.2.2.2.2.2
def G (X : XT) (cs sl pc : Nat) (ls : List (Nat × Value)) (st : List Value) (P : Heap → Prop) : Prop :=
  ∀ (H : Heap) (locs : List Loc) (la : Array Slot), lv_has la (xn X) (ls.map (cl2 (xE X).1)) → P H → va_S (eA (xE X)) (xs X).heap H locs →
    W (xp X) (xl X) (xe X) (xR X) (xs X) (xm X) (xa X) (xb X) (xM X) (xc X) H locs cs sl (xQ X) (F0 (xm X) pc la (st.map (cv (xE X).1)))
def Cx (X : XT) (cc : ByteArray) (nL : Nat) (own : String) (Ts : List Cond) : Prop :=
  (xp X).tables.exec = Jvm.exec ∧ (xc X).code = cc ∧ xn X = nL ∧ (xc X).maxLocals = nL ∧ (xs X).vm.findClass own = some (xm X).cls ∧ (∀ w ∈ Ts, w.before (xa X) (xs X) = true) ∧ KW (xE X) (xs X)
section
variable {X : XT} {cc : ByteArray} {nL : Nat} {own : String} {Ts : List Cond} {cs sl pc : Nat} {ls ls' : List (Nat × Value)} {st : List Value} {P : Heap → Prop}
theorem g_at {la : Array Slot} {j i : Nat} {v : Value} (hl : lv_has la (xn X) (ls.map (cl2 (xE X).1))) (hk : ls[j]? = some (i, v)) : la[i]? = some (.val (cv (xE X).1 v)) := lv_at hl j (by rw [List.getElem?_map, hk]; rfl)
/-- fewer locals are named -/
theorem G.less (hs : ∀ q ∈ ls', q ∈ ls) (k : G X cs sl pc ls' st P) : G X cs sl pc ls st P := fun H locs la hl hP hS => k H locs la (lv_less hl (fun q hq => by
  obtain ⟨z, hz, rfl⟩ := List.mem_map.mp hq
  exact List.mem_map.mpr ⟨z, hs z hz, rfl⟩)) hP hS
theorem G.heap {P' : Heap → Prop} (hs : ∀ H, P H → P' H) (k : G X cs sl pc ls st P') : G X cs sl pc ls st P := fun H locs la hl hP hS => k H locs la hl (hs H hP) hS
theorem g_iconst (hX : Cx X cc nL own Ts) {n : Int} {v : Int32} (hd : decode cc pc = .ok (.iconst n, 1)) (hv : Int32.ofInt n = v) (k : G X cs sl (pc + 1) ls (.int v :: st) P) : G X cs sl pc ls (st) P := fun H locs la hl hP hS => lv_iconst hX.1 hX.2.1 hd hv (k H locs la hl hP hS)
theorem g_bipush (hX : Cx X cc nL own Ts) {n : Int} {v : Int32} (hd : decode cc pc = .ok (.bipush n, 2)) (hv : (Int8.ofInt n).toInt32 = v) (k : G X cs sl (pc + 2) ls (.int v :: st) P) : G X cs sl pc ls (st) P := fun H locs la hl hP hS => lv_bipush hX.1 hX.2.1 hd hv (k H locs la hl hP hS)
theorem g_sipush (hX : Cx X cc nL own Ts) {n : Int} {v : Int32} (hd : decode cc pc = .ok (.sipush n, 3)) (hv : (Int16.ofInt n).toInt32 = v) (k : G X cs sl (pc + 3) ls (.int v :: st) P) : G X cs sl pc ls (st) P := fun H locs la hl hP hS => lv_sipush hX.1 hX.2.1 hd hv (k H locs la hl hP hS)
theorem g_lconst (hX : Cx X cc nL own Ts) {n : Fin 2} {v : Int64} (hd : decode cc pc = .ok (.lconst n, 1)) (hv : Int64.ofNat (n : Nat) = v) (k : G X cs sl (pc + 1) ls (.long v :: st) P) : G X cs sl pc ls (st) P := fun H locs la hl hP hS => lv_lconst hX.1 hX.2.1 hd hv (k H locs la hl hP hS)
theorem g_iload_n (hX : Cx X cc nL own Ts) {k4 : Fin 4} {i : Nat} {x : Int32} (j : Nat) (hj : ls[j]? = some (i, .int x)) (hi : (k4 : Nat) = i) (hd : decode cc pc = .ok (.iload_n k4, 1))  (k : G X cs sl (pc + 1) ls (.int x :: st) P) : G X cs sl pc ls (st) P := fun H locs la hl hP hS => lv_iload_n hX.1 hX.2.1 hd hi (g_at hl hj) (k H locs la hl hP hS)
theorem g_iload (hX : Cx X cc nL own Ts) {i : Nat} {x : Int32} (j : Nat) (hj : ls[j]? = some (i, .int x)) (hd : decode cc pc = .ok (.iload i, 2))  (k : G X cs sl (pc + 2) ls (.int x :: st) P) : G X cs sl pc ls (st) P := fun H locs la hl hP hS => lv_iload hX.1 hX.2.1 hd (g_at hl hj) (k H locs la hl hP hS)
theorem g_istore_n (hX : Cx X cc nL own Ts) {k4 : Fin 4} {i : Nat} {x : Int32} (hd : decode cc pc = .ok (.istore_n k4, 1)) (hi : (k4 : Nat) = i) (hn : i < nL) (hl2 : lset ls i (.int x) = ls') (k : G X cs sl (pc + 1) ls' st P) : G X cs sl pc ls (.int x :: st) P := fun H locs la hl hP hS => lv_istore_n hX.1 hX.2.1 hd hi (hl) (by rw [hX.2.2.1]; exact hn) rfl (fun la2 h2 => k H locs la2 (by rw [← hl2]; exact lset_has1 (v := .int x) rfl h2) hP hS)
theorem g_istore (hX : Cx X cc nL own Ts) {i : Nat} {x : Int32} (hd : decode cc pc = .ok (.istore i, 2)) (hn : i < nL) (hl2 : lset ls i (.int x) = ls') (k : G X cs sl (pc + 2) ls' st P) : G X cs sl pc ls (.int x :: st) P := fun H locs la hl hP hS => lv_istore hX.1 hX.2.1 hd (hl) (by rw [hX.2.2.1]; exact hn) rfl (fun la2 h2 => k H locs la2 (by rw [← hl2]; exact lset_has1 (v := .int x) rfl h2) hP hS)
theorem g_lload_n (hX : Cx X cc nL own Ts) {k4 : Fin 4} {i : Nat} {x : Int64} (j : Nat) (hj : ls[j]? = some (i, .long x)) (hi : (k4 : Nat) = i) (hd : decode cc pc = .ok (.lload_n k4, 1))  (k : G X cs sl (pc + 1) ls (.long x :: st) P) : G X cs sl pc ls (st) P := fun H locs la hl hP hS => lv_lload_n hX.1 hX.2.1 hd hi (g_at hl hj) (k H locs la hl hP hS)
theorem g_lload (hX : Cx X cc nL own Ts) {i : Nat} {x : Int64} (j : Nat) (hj : ls[j]? = some (i, .long x)) (hd : decode cc pc = .ok (.lload i, 2))  (k : G X cs sl (pc + 2) ls (.long x :: st) P) : G X cs sl pc ls (st) P := fun H locs la hl hP hS => lv_lload hX.1 hX.2.1 hd (g_at hl hj) (k H locs la hl hP hS)
theorem g_lstore_n (hX : Cx X cc nL own Ts) {k4 : Fin 4} {i : Nat} {x : Int64} (hd : decode cc pc = .ok (.lstore_n k4, 1)) (hi : (k4 : Nat) = i) (hn : i + 1 < nL) (hl2 : lset ls i (.long x) = ls') (k : G X cs sl (pc + 1) ls' st P) : G X cs sl pc ls (.long x :: st) P := fun H locs la hl hP hS => lv_lstore_n hX.1 hX.2.1 hd hi (hl) (by rw [hX.2.2.1]; exact hn) rfl (fun la2 h2 => k H locs la2 (by rw [← hl2]; exact lset_has2 (v := .long x) rfl h2) hP hS)
theorem g_lstore (hX : Cx X cc nL own Ts) {i : Nat} {x : Int64} (hd : decode cc pc = .ok (.lstore i, 2)) (hn : i + 1 < nL) (hl2 : lset ls i (.long x) = ls') (k : G X cs sl (pc + 2) ls' st P) : G X cs sl pc ls (.long x :: st) P := fun H locs la hl hP hS => lv_lstore hX.1 hX.2.1 hd (hl) (by rw [hX.2.2.1]; exact hn) rfl (fun la2 h2 => k H locs la2 (by rw [← hl2]; exact lset_has2 (v := .long x) rfl h2) hP hS)
theorem g_aload_n (hX : Cx X cc nL own Ts) {k4 : Fin 4} {i : Nat} {x : Nat} (j : Nat) (hj : ls[j]? = some (i, .ref x)) (hi : (k4 : Nat) = i) (hd : decode cc pc = .ok (.aload_n k4, 1))  (k : G X cs sl (pc + 1) ls (.ref x :: st) P) : G X cs sl pc ls (st) P := fun H locs la hl hP hS => lv_aload_n hX.1 hX.2.1 hd hi (g_at hl hj) (k H locs la hl hP hS)
theorem g_aload (hX : Cx X cc nL own Ts) {i : Nat} {x : Nat} (j : Nat) (hj : ls[j]? = some (i, .ref x)) (hd : decode cc pc = .ok (.aload i, 2))  (k : G X cs sl (pc + 2) ls (.ref x :: st) P) : G X cs sl pc ls (st) P := fun H locs la hl hP hS => lv_aload hX.1 hX.2.1 hd (g_at hl hj) (k H locs la hl hP hS)
theorem g_astore_n (hX : Cx X cc nL own Ts) {k4 : Fin 4} {i : Nat} {x : Nat} (hd : decode cc pc = .ok (.astore_n k4, 1)) (hi : (k4 : Nat) = i) (hn : i < nL) (hl2 : lset ls i (.ref x) = ls') (k : G X cs sl (pc + 1) ls' st P) : G X cs sl pc ls (.ref x :: st) P := fun H locs la hl hP hS => lv_astore_n hX.1 hX.2.1 hd hi (hl) (by rw [hX.2.2.1]; exact hn) rfl (fun la2 h2 => k H locs la2 (by rw [← hl2]; exact lset_has1 (v := .ref x) rfl h2) hP hS)
theorem g_astore (hX : Cx X cc nL own Ts) {i : Nat} {x : Nat} (hd : decode cc pc = .ok (.astore i, 2)) (hn : i < nL) (hl2 : lset ls i (.ref x) = ls') (k : G X cs sl (pc + 2) ls' st P) : G X cs sl pc ls (.ref x :: st) P := fun H locs la hl hP hS => lv_astore hX.1 hX.2.1 hd (hl) (by rw [hX.2.2.1]; exact hn) rfl (fun la2 h2 => k H locs la2 (by rw [← hl2]; exact lset_has1 (v := .ref x) rfl h2) hP hS)
theorem g_iinc (hX : Cx X cc nL own Ts) {i : Nat} {n : Int} {x v : Int32} (j : Nat) (hj : ls[j]? = some (i, .int x)) (hd : decode cc pc = .ok (.iinc i n, 3)) (hv : x + Int32.ofInt n = v) (hn : i < nL) (hl2 : lset ls i (.int v) = ls') (k : G X cs sl (pc + 3) ls' st P) : G X cs sl pc ls st P := fun H locs la hl hP hS => lv_iinc (k := j) hX.1 hX.2.1 hd hl (by rw [List.getElem?_map, hj]; rfl) hv (by rw [hX.2.2.1]; exact hn) rfl (fun la2 h2 => k H locs la2 (by rw [← hl2]; exact lset_has1 (v := .int v) rfl h2) hP hS)
theorem g_iadd (hX : Cx X cc nL own Ts) {x y : Int32} (hd : decode cc pc = .ok (.iadd, 1))  (k : G X cs sl (pc + 1) ls (.int (x + y) :: st) P) : G X cs sl pc ls (.int y :: .int x :: st) P := fun H locs la hl hP hS => lv_iadd hX.1 hX.2.1 hd (k H locs la hl hP hS)
theorem g_isub (hX : Cx X cc nL own Ts) {x y : Int32} (hd : decode cc pc = .ok (.isub, 1))  (k : G X cs sl (pc + 1) ls (.int (x - y) :: st) P) : G X cs sl pc ls (.int y :: .int x :: st) P := fun H locs la hl hP hS => lv_isub hX.1 hX.2.1 hd (k H locs la hl hP hS)
theorem g_imul (hX : Cx X cc nL own Ts) {x y : Int32} (hd : decode cc pc = .ok (.imul, 1))  (k : G X cs sl (pc + 1) ls (.int (x * y) :: st) P) : G X cs sl pc ls (.int y :: .int x :: st) P := fun H locs la hl hP hS => lv_imul hX.1 hX.2.1 hd (k H locs la hl hP hS)
theorem g_iand (hX : Cx X cc nL own Ts) {x y : Int32} (hd : decode cc pc = .ok (.iand, 1))  (k : G X cs sl (pc + 1) ls (.int (x &&& y) :: st) P) : G X cs sl pc ls (.int y :: .int x :: st) P := fun H locs la hl hP hS => lv_iand hX.1 hX.2.1 hd (k H locs la hl hP hS)
theorem g_ior (hX : Cx X cc nL own Ts) {x y : Int32} (hd : decode cc pc = .ok (.ior, 1))  (k : G X cs sl (pc + 1) ls (.int (x ||| y) :: st) P) : G X cs sl pc ls (.int y :: .int x :: st) P := fun H locs la hl hP hS => lv_ior hX.1 hX.2.1 hd (k H locs la hl hP hS)
theorem g_ixor (hX : Cx X cc nL own Ts) {x y : Int32} (hd : decode cc pc = .ok (.ixor, 1))  (k : G X cs sl (pc + 1) ls (.int (x ^^^ y) :: st) P) : G X cs sl pc ls (.int y :: .int x :: st) P := fun H locs la hl hP hS => lv_ixor hX.1 hX.2.1 hd (k H locs la hl hP hS)
theorem g_ladd (hX : Cx X cc nL own Ts) {x y : Int64} (hd : decode cc pc = .ok (.ladd, 1))  (k : G X cs sl (pc + 1) ls (.long (x + y) :: st) P) : G X cs sl pc ls (.long y :: .long x :: st) P := fun H locs la hl hP hS => lv_ladd hX.1 hX.2.1 hd (k H locs la hl hP hS)
theorem g_lsub (hX : Cx X cc nL own Ts) {x y : Int64} (hd : decode cc pc = .ok (.lsub, 1))  (k : G X cs sl (pc + 1) ls (.long (x - y) :: st) P) : G X cs sl pc ls (.long y :: .long x :: st) P := fun H locs la hl hP hS => lv_lsub hX.1 hX.2.1 hd (k H locs la hl hP hS)
theorem g_lmul (hX : Cx X cc nL own Ts) {x y : Int64} (hd : decode cc pc = .ok (.lmul, 1))  (k : G X cs sl (pc + 1) ls (.long (x * y) :: st) P) : G X cs sl pc ls (.long y :: .long x :: st) P := fun H locs la hl hP hS => lv_lmul hX.1 hX.2.1 hd (k H locs la hl hP hS)
theorem g_land (hX : Cx X cc nL own Ts) {x y : Int64} (hd : decode cc pc = .ok (.land, 1))  (k : G X cs sl (pc + 1) ls (.long (x &&& y) :: st) P) : G X cs sl pc ls (.long y :: .long x :: st) P := fun H locs la hl hP hS => lv_land hX.1 hX.2.1 hd (k H locs la hl hP hS)
theorem g_lor (hX : Cx X cc nL own Ts) {x y : Int64} (hd : decode cc pc = .ok (.lor, 1))  (k : G X cs sl (pc + 1) ls (.long (x ||| y) :: st) P) : G X cs sl pc ls (.long y :: .long x :: st) P := fun H locs la hl hP hS => lv_lor hX.1 hX.2.1 hd (k H locs la hl hP hS)
theorem g_lxor (hX : Cx X cc nL own Ts) {x y : Int64} (hd : decode cc pc = .ok (.lxor, 1))  (k : G X cs sl (pc + 1) ls (.long (x ^^^ y) :: st) P) : G X cs sl pc ls (.long y :: .long x :: st) P := fun H locs la hl hP hS => lv_lxor hX.1 hX.2.1 hd (k H locs la hl hP hS)
def jshl (x y : Int32) : Int32 := x <<< (y &&& 31)
def jshr (x y : Int32) : Int32 := x >>> (y &&& 31)
def jushr (x y : Int32) : Int32 := (x.toUInt32 >>> (y.toUInt32 &&& Int32.toUInt32 31)).toInt32
def jlshl (x : Int64) (y : Int32) : Int64 := x <<< (y.toInt64 &&& 63)
def jlshr (x : Int64) (y : Int32) : Int64 := x >>> (y.toInt64 &&& 63)
def jlushr (x : Int64) (y : Int32) : Int64 := (x.toUInt64 >>> (y.toInt64.toUInt64 &&& Int64.toUInt64 63)).toInt64
def jrem (x y : Int32) : Int32 := x - x / y * y
def jcmp (x y : Int64) : Int32 := lg_cmp x y
theorem g_ishl (hX : Cx X cc nL own Ts) {x y : Int32} (hd : decode cc pc = .ok (.ishl, 1))  (k : G X cs sl (pc + 1) ls (.int (jshl x y) :: st) P) : G X cs sl pc ls (.int y :: .int x :: st) P := fun H locs la hl hP hS => lv_ishl hX.1 hX.2.1 hd (k H locs la hl hP hS)
theorem g_ishr (hX : Cx X cc nL own Ts) {x y : Int32} (hd : decode cc pc = .ok (.ishr, 1))  (k : G X cs sl (pc + 1) ls (.int (jshr x y) :: st) P) : G X cs sl pc ls (.int y :: .int x :: st) P := fun H locs la hl hP hS => lv_ishr hX.1 hX.2.1 hd (k H locs la hl hP hS)
theorem g_iushr (hX : Cx X cc nL own Ts) {x y : Int32} (hd : decode cc pc = .ok (.iushr, 1))  (k : G X cs sl (pc + 1) ls (.int (jushr x y) :: st) P) : G X cs sl pc ls (.int y :: .int x :: st) P := fun H locs la hl hP hS => lv_iushr hX.1 hX.2.1 hd rfl (k H locs la hl hP hS)
theorem g_lshl (hX : Cx X cc nL own Ts) {x : Int64} {y : Int32} (hd : decode cc pc = .ok (.lshl, 1))  (k : G X cs sl (pc + 1) ls (.long (jlshl x y) :: st) P) : G X cs sl pc ls (.int y :: .long x :: st) P := fun H locs la hl hP hS => lv_lshl hX.1 hX.2.1 hd rfl (k H locs la hl hP hS)
theorem g_lshr (hX : Cx X cc nL own Ts) {x : Int64} {y : Int32} (hd : decode cc pc = .ok (.lshr, 1))  (k : G X cs sl (pc + 1) ls (.long (jlshr x y) :: st) P) : G X cs sl pc ls (.int y :: .long x :: st) P := fun H locs la hl hP hS => lv_lshr hX.1 hX.2.1 hd rfl (k H locs la hl hP hS)
theorem g_lushr (hX : Cx X cc nL own Ts) {x : Int64} {y : Int32} (hd : decode cc pc = .ok (.lushr, 1))  (k : G X cs sl (pc + 1) ls (.long (jlushr x y) :: st) P) : G X cs sl pc ls (.int y :: .long x :: st) P := fun H locs la hl hP hS => lv_lushr hX.1 hX.2.1 hd rfl (k H locs la hl hP hS)
theorem g_idiv (hX : Cx X cc nL own Ts) {x y : Int32} (hd : decode cc pc = .ok (.idiv, 1)) (hne : ¬ y = 0) (k : G X cs sl (pc + 1) ls (.int (x / y) :: st) P) : G X cs sl pc ls (.int y :: .int x :: st) P := fun H locs la hl hP hS => lv_idiv hX.1 hX.2.1 hd hne (k H locs la hl hP hS)
theorem g_irem (hX : Cx X cc nL own Ts) {x y : Int32} (hd : decode cc pc = .ok (.irem, 1)) (hne : ¬ y = 0) (k : G X cs sl (pc + 1) ls (.int (jrem x y) :: st) P) : G X cs sl pc ls (.int y :: .int x :: st) P := fun H locs la hl hP hS => lv_irem hX.1 hX.2.1 hd hne (k H locs la hl hP hS)
theorem g_i2l (hX : Cx X cc nL own Ts) {x : Int32} (hd : decode cc pc = .ok (.i2l, 1))  (k : G X cs sl (pc + 1) ls (.long x.toInt64 :: st) P) : G X cs sl pc ls (.int x :: st) P := fun H locs la hl hP hS => lv_i2l hX.1 hX.2.1 hd rfl (k H locs la hl hP hS)
theorem g_l2i (hX : Cx X cc nL own Ts) {x : Int64} (hd : decode cc pc = .ok (.l2i, 1))  (k : G X cs sl (pc + 1) ls (.int x.toInt32 :: st) P) : G X cs sl pc ls (.long x :: st) P := fun H locs la hl hP hS => lv_l2i hX.1 hX.2.1 hd rfl (k H locs la hl hP hS)
theorem g_i2b (hX : Cx X cc nL own Ts) {x : Int32} (hd : decode cc pc = .ok (.i2b, 1))  (k : G X cs sl (pc + 1) ls (.int x.toInt8.toInt32 :: st) P) : G X cs sl pc ls (.int x :: st) P := fun H locs la hl hP hS => lv_i2b hX.1 hX.2.1 hd rfl (k H locs la hl hP hS)
theorem g_dup (hX : Cx X cc nL own Ts) {v : Value} (hd : decode cc pc = .ok (.dup, 1)) (hc : v.category = 1) (k : G X cs sl (pc + 1) ls (v :: v :: st) P) : G X cs sl pc ls (v :: st) P := fun H locs la hl hP hS => lv_dup hX.1 hX.2.1 hd (by rw [cv_cat]; exact hc) (k H locs la hl hP hS)
theorem g_pop (hX : Cx X cc nL own Ts) {v : Value} (hd : decode cc pc = .ok (.pop, 1)) (hc : v.category = 1) (k : G X cs sl (pc + 1) ls (st) P) : G X cs sl pc ls (v :: st) P := fun H locs la hl hP hS => lv_pop hX.1 hX.2.1 hd (by rw [cv_cat]; exact hc) (k H locs la hl hP hS)
theorem g_dup2 (hX : Cx X cc nL own Ts) {v u : Value} (hd : decode cc pc = .ok (.dup2, 1)) (hc : v.category = 1) (hc2 : u.category = 1) (k : G X cs sl (pc + 1) ls (v :: u :: v :: u :: st) P) : G X cs sl pc ls (v :: u :: st) P := fun H locs la hl hP hS => lv_dup2_11 hX.1 hX.2.1 hd (by rw [cv_cat]; exact hc) (by rw [cv_cat]; exact hc2) (k H locs la hl hP hS)
theorem g_dup2L (hX : Cx X cc nL own Ts) {v : Value} (hd : decode cc pc = .ok (.dup2, 1)) (hc : v.category = 2) (k : G X cs sl (pc + 1) ls (v :: v :: st) P) : G X cs sl pc ls (v :: st) P := fun H locs la hl hP hS => lv_dup2_2 hX.1 hX.2.1 hd (by rw [cv_cat]; exact hc) (k H locs la hl hP hS)
theorem g_dup_x1 (hX : Cx X cc nL own Ts) {v u : Value} (hd : decode cc pc = .ok (.dup_x1, 1)) (hc : v.category = 1) (hc2 : u.category = 1) (k : G X cs sl (pc + 1) ls (v :: u :: v :: st) P) : G X cs sl pc ls (v :: u :: st) P := fun H locs la hl hP hS => lv_dup_x1 hX.1 hX.2.1 hd (by rw [cv_cat]; exact hc) (by rw [cv_cat]; exact hc2) (k H locs la hl hP hS)
theorem g_dup_x2 (hX : Cx X cc nL own Ts) {v u z : Value} (hd : decode cc pc = .ok (.dup_x2, 1)) (hc : v.category = 1) (hc2 : u.category = 1) (hc3 : z.category = 1) (k : G X cs sl (pc + 1) ls (v :: u :: z :: v :: st) P) : G X cs sl pc ls (v :: u :: z :: st) P := fun H locs la hl hP hS => lv_dup_x2 hX.1 hX.2.1 hd (by rw [cv_cat]; exact hc) (by rw [cv_cat]; exact hc2) (by rw [cv_cat]; exact hc3) (k H locs la hl hP hS)
theorem g_lcmp (hX : Cx X cc nL own Ts) {x y : Int64} (hd : decode cc pc = .ok (.lcmp, 1))  (k : G X cs sl (pc + 1) ls (.int (jcmp x y) :: st) P) : G X cs sl pc ls (.long y :: .long x :: st) P := fun H locs la hl hP hS => W.lcmp hX.1 hX.2.1 hd (k H locs la hl hP hS)
theorem g_if_eq (hX : Cx X cc nL own Ts) {x : Int32} {off : Int} {tgt : Nat} (hd : decode cc pc = .ok (.ifCond .eq off, 3)) (ht : (pc : Int) + off = (tgt : Int)) (kt : x = 0 → G X cs sl tgt ls st P) (kf : ¬ x = 0 → G X cs sl (pc + 3) ls st P) : G X cs sl pc ls (.int x :: st) P := fun H locs la hl hP hS => lv_if_eq hX.1 hX.2.1 hd ht (fun h => kt h H locs la hl hP hS) (fun h => kf h H locs la hl hP hS)
theorem g_if_ne (hX : Cx X cc nL own Ts) {x : Int32} {off : Int} {tgt : Nat} (hd : decode cc pc = .ok (.ifCond .ne off, 3)) (ht : (pc : Int) + off = (tgt : Int)) (kt : ¬ x = 0 → G X cs sl tgt ls st P) (kf : x = 0 → G X cs sl (pc + 3) ls st P) : G X cs sl pc ls (.int x :: st) P := fun H locs la hl hP hS => lv_if_ne hX.1 hX.2.1 hd ht (fun h => kt h H locs la hl hP hS) (fun h => kf h H locs la hl hP hS)
theorem g_if_lt (hX : Cx X cc nL own Ts) {x : Int32} {off : Int} {tgt : Nat} (hd : decode cc pc = .ok (.ifCond .lt off, 3)) (ht : (pc : Int) + off = (tgt : Int)) (kt : x < 0 → G X cs sl tgt ls st P) (kf : ¬ x < 0 → G X cs sl (pc + 3) ls st P) : G X cs sl pc ls (.int x :: st) P := fun H locs la hl hP hS => lv_if_lt hX.1 hX.2.1 hd ht (fun h => kt h H locs la hl hP hS) (fun h => kf h H locs la hl hP hS)
theorem g_if_ge (hX : Cx X cc nL own Ts) {x : Int32} {off : Int} {tgt : Nat} (hd : decode cc pc = .ok (.ifCond .ge off, 3)) (ht : (pc : Int) + off = (tgt : Int)) (kt : 0 ≤ x → G X cs sl tgt ls st P) (kf : ¬ 0 ≤ x → G X cs sl (pc + 3) ls st P) : G X cs sl pc ls (.int x :: st) P := fun H locs la hl hP hS => lv_if_ge hX.1 hX.2.1 hd ht (fun h => kt h H locs la hl hP hS) (fun h => kf h H locs la hl hP hS)
theorem g_if_gt (hX : Cx X cc nL own Ts) {x : Int32} {off : Int} {tgt : Nat} (hd : decode cc pc = .ok (.ifCond .gt off, 3)) (ht : (pc : Int) + off = (tgt : Int)) (kt : 0 < x → G X cs sl tgt ls st P) (kf : ¬ 0 < x → G X cs sl (pc + 3) ls st P) : G X cs sl pc ls (.int x :: st) P := fun H locs la hl hP hS => lv_if_gt hX.1 hX.2.1 hd ht (fun h => kt h H locs la hl hP hS) (fun h => kf h H locs la hl hP hS)
theorem g_if_le (hX : Cx X cc nL own Ts) {x : Int32} {off : Int} {tgt : Nat} (hd : decode cc pc = .ok (.ifCond .le off, 3)) (ht : (pc : Int) + off = (tgt : Int)) (kt : x ≤ 0 → G X cs sl tgt ls st P) (kf : ¬ x ≤ 0 → G X cs sl (pc + 3) ls st P) : G X cs sl pc ls (.int x :: st) P := fun H locs la hl hP hS => lv_if_le hX.1 hX.2.1 hd ht (fun h => kt h H locs la hl hP hS) (fun h => kf h H locs la hl hP hS)
theorem g_icmp_eq (hX : Cx X cc nL own Ts) {x y : Int32} {off : Int} {tgt : Nat} (hd : decode cc pc = .ok (.if_icmp .eq off, 3)) (ht : (pc : Int) + off = (tgt : Int)) (kt : x = y → G X cs sl tgt ls st P) (kf : ¬ x = y → G X cs sl (pc + 3) ls st P) : G X cs sl pc ls (.int y :: .int x :: st) P := fun H locs la hl hP hS => lv_icmp_eq hX.1 hX.2.1 hd ht (fun h => kt h H locs la hl hP hS) (fun h => kf h H locs la hl hP hS)
theorem g_icmp_ne (hX : Cx X cc nL own Ts) {x y : Int32} {off : Int} {tgt : Nat} (hd : decode cc pc = .ok (.if_icmp .ne off, 3)) (ht : (pc : Int) + off = (tgt : Int)) (kt : ¬ x = y → G X cs sl tgt ls st P) (kf : x = y → G X cs sl (pc + 3) ls st P) : G X cs sl pc ls (.int y :: .int x :: st) P := fun H locs la hl hP hS => lv_icmp_ne hX.1 hX.2.1 hd ht (fun h => kt h H locs la hl hP hS) (fun h => kf h H locs la hl hP hS)
theorem g_icmp_lt (hX : Cx X cc nL own Ts) {x y : Int32} {off : Int} {tgt : Nat} (hd : decode cc pc = .ok (.if_icmp .lt off, 3)) (ht : (pc : Int) + off = (tgt : Int)) (kt : x < y → G X cs sl tgt ls st P) (kf : ¬ x < y → G X cs sl (pc + 3) ls st P) : G X cs sl pc ls (.int y :: .int x :: st) P := fun H locs la hl hP hS => lv_icmp_lt hX.1 hX.2.1 hd ht (fun h => kt h H locs la hl hP hS) (fun h => kf h H locs la hl hP hS)
theorem g_icmp_ge (hX : Cx X cc nL own Ts) {x y : Int32} {off : Int} {tgt : Nat} (hd : decode cc pc = .ok (.if_icmp .ge off, 3)) (ht : (pc : Int) + off = (tgt : Int)) (kt : y ≤ x → G X cs sl tgt ls st P) (kf : ¬ y ≤ x → G X cs sl (pc + 3) ls st P) : G X cs sl pc ls (.int y :: .int x :: st) P := fun H locs la hl hP hS => lv_icmp_ge hX.1 hX.2.1 hd ht (fun h => kt h H locs la hl hP hS) (fun h => kf h H locs la hl hP hS)
theorem g_icmp_gt (hX : Cx X cc nL own Ts) {x y : Int32} {off : Int} {tgt : Nat} (hd : decode cc pc = .ok (.if_icmp .gt off, 3)) (ht : (pc : Int) + off = (tgt : Int)) (kt : y < x → G X cs sl tgt ls st P) (kf : ¬ y < x → G X cs sl (pc + 3) ls st P) : G X cs sl pc ls (.int y :: .int x :: st) P := fun H locs la hl hP hS => lv_icmp_gt hX.1 hX.2.1 hd ht (fun h => kt h H locs la hl hP hS) (fun h => kf h H locs la hl hP hS)
theorem g_icmp_le (hX : Cx X cc nL own Ts) {x y : Int32} {off : Int} {tgt : Nat} (hd : decode cc pc = .ok (.if_icmp .le off, 3)) (ht : (pc : Int) + off = (tgt : Int)) (kt : x ≤ y → G X cs sl tgt ls st P) (kf : ¬ x ≤ y → G X cs sl (pc + 3) ls st P) : G X cs sl pc ls (.int y :: .int x :: st) P := fun H locs la hl hP hS => lv_icmp_le hX.1 hX.2.1 hd ht (fun h => kt h H locs la hl hP hS) (fun h => kf h H locs la hl hP hS)
theorem g_goto (hX : Cx X cc nL own Ts) {off : Int} {tgt : Nat} (hd : decode cc pc = .ok (.goto off, 3)) (ht : (pc : Int) + off = (tgt : Int)) (k : G X cs sl tgt ls st P) : G X cs sl pc ls st P := fun H locs la hl hP hS => lv_goto hX.1 hX.2.1 hd ht (k H locs la hl hP hS)
theorem g_ldc (hX : Cx X cc nL own Ts) {i : Nat} {v : Int32} (hc : Jvm.Cond.constant own i v ∈ Ts) (hd : decode cc pc = .ok (.ldc i, 2)) (k : G X cs sl (pc + 2) ls (.int v :: st) P) : G X cs sl pc ls st P := fun H locs la hl hP hS => lv_ldc hX.1 hX.2.1 hX.2.2.2.2.1 (hX.2.2.2.2.2.1 _ hc) hd (k H locs la hl hP hS)
theorem g_ldcw (hX : Cx X cc nL own Ts) {i : Nat} {v : Int32} (hc : Jvm.Cond.constant own i v ∈ Ts) (hd : decode cc pc = .ok (.ldc_w i, 3)) (k : G X cs sl (pc + 3) ls (.int v :: st) P) : G X cs sl pc ls st P := fun H locs la hl hP hS => lv_ldcw hX.1 hX.2.1 hX.2.2.2.2.1 (hX.2.2.2.2.2.1 _ hc) hd (k H locs la hl hP hS)
theorem g_ldc2 (hX : Cx X cc nL own Ts) {i : Nat} {v : Int64} (hc : Jvm.Cond.constantLong own i v ∈ Ts) (hd : decode cc pc = .ok (.ldc2_w i, 3)) (k : G X cs sl (pc + 3) ls (.long v :: st) P) : G X cs sl pc ls st P := fun H locs la hl hP hS => lv_ldc2 hX.1 hX.2.1 hX.2.2.2.2.1 (hX.2.2.2.2.2.1 _ hc) hd (k H locs la hl hP hS)
theorem g_lookup (hX : Cx X cc nL own Ts) {dflt : Int} {ps : Array (Int × Int)} {len : Nat} {x : Int32} {off : Int} {tgt : Nat} (hd : decode cc pc = .ok (.lookupswitch dflt ps, len)) (hp : (ps.toList.zip (ps.toList.drop 1)).all (fun (a, next) => a.1 < next.1) = true) (ho : Op.lookupswitch.offset ps.toList dflt x.toInt = off) (ht : (pc : Int) + off = (tgt : Int)) (k : G X cs sl tgt ls st P) : G X cs sl pc ls (.int x :: st) P := fun H locs la hl hP hS => lv_lookup hX.1 hX.2.1 hd hp ho ht (k H locs la hl hP hS)
theorem g_tableOut (hX : Cx X cc nL own Ts) {dflt lo hi : Int} {offs : Array Int} {len : Nat} {x : Int32} {tgt : Nat} (hd : decode cc pc = .ok (.tableswitch dflt lo hi offs, len)) (h : x.toInt < lo ∨ hi < x.toInt) (ht : (pc : Int) + dflt = (tgt : Int)) (k : G X cs sl tgt ls st P) : G X cs sl pc ls (.int x :: st) P := fun H locs la hl hP hS => lv_tableOut hX.1 hX.2.1 hd h ht (k H locs la hl hP hS)
theorem g_tableIn (hX : Cx X cc nL own Ts) {dflt lo hi : Int} {offs : Array Int} {len : Nat} {x : Int32} {off : Int} {tgt : Nat} (hd : decode cc pc = .ok (.tableswitch dflt lo hi offs, len)) (h1 : ¬ x.toInt < lo) (h2 : ¬ hi < x.toInt) (ho : offs[(x.toInt - lo).toNat]? = some off) (ht : (pc : Int) + off = (tgt : Int)) (k : G X cs sl tgt ls st P) : G X cs sl pc ls (.int x :: st) P := fun H locs la hl hP hS => lv_tableIn hX.1 hX.2.1 hd h1 h2 ho ht (k H locs la hl hP hS)
end
end
