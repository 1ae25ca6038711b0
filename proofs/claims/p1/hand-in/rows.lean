section
-- ===== PART A: goes FIRST, ahead of the names: the tables' words, and 'selects' of the private methods out of them =====
/-- a private method of a class that the tables say can be made, by its rows of tables_1 -/
def lw_okq (q : MethodName × Nat) : Prop := (q.1.cls ≠ "java/lang/invoke/MethodHandle" ∧ q.1.cls ≠ "java/lang/invoke/VarHandle") ∧ Cond.instantiable q.1.cls q.2 ∈ tables_1 ∧ Cond.privateMethod q.1 ∈ tables_1 ∧ Cond.instanceMethod q.1 ∈ tables_1
theorem lw_p0 : lw_okq (⟨"TheOtherRoom", "shelfOf", "(I)LTheOtherRoom$Shelf;"⟩, 13) := ⟨⟨by decide +kernel, by decide +kernel⟩, List.mem_of_getElem? (i := 19) (by decide +kernel), List.mem_of_getElem? (i := 350) (by decide +kernel), List.mem_of_getElem? (i := 351) (by decide +kernel)⟩
theorem lw_p1 : lw_okq (⟨"TheOtherRoom", "refuse", "(I)I"⟩, 13) := ⟨⟨by decide +kernel, by decide +kernel⟩, List.mem_of_getElem? (i := 19) (by decide +kernel), List.mem_of_getElem? (i := 354) (by decide +kernel), List.mem_of_getElem? (i := 355) (by decide +kernel)⟩
theorem lw_p2 : lw_okq (⟨"TheOtherRoom", "wrongForMoveIn", "(II)I"⟩, 13) := ⟨⟨by decide +kernel, by decide +kernel⟩, List.mem_of_getElem? (i := 19) (by decide +kernel), List.mem_of_getElem? (i := 432) (by decide +kernel), List.mem_of_getElem? (i := 433) (by decide +kernel)⟩
theorem lw_p3 : lw_okq (⟨"TheOtherRoom", "flatFor", "(I)LTheOtherRoom$Flat;"⟩, 13) := ⟨⟨by decide +kernel, by decide +kernel⟩, List.mem_of_getElem? (i := 19) (by decide +kernel), List.mem_of_getElem? (i := 436) (by decide +kernel), List.mem_of_getElem? (i := 437) (by decide +kernel)⟩
theorem lw_p4 : lw_okq (⟨"TheOtherRoom", "stepsOfMove", "(LTheOtherRoom$Flat;LTheOtherRoom$Shelf;)I"⟩, 13) := ⟨⟨by decide +kernel, by decide +kernel⟩, List.mem_of_getElem? (i := 19) (by decide +kernel), List.mem_of_getElem? (i := 440) (by decide +kernel), List.mem_of_getElem? (i := 441) (by decide +kernel)⟩
theorem lw_p5 : lw_okq (⟨"TheOtherRoom$Walk", "beside", "(J)J"⟩, 17) := ⟨⟨by decide +kernel, by decide +kernel⟩, List.mem_of_getElem? (i := 58) (by decide +kernel), List.mem_of_getElem? (i := 519) (by decide +kernel), List.mem_of_getElem? (i := 520) (by decide +kernel)⟩
theorem lw_p6 : lw_okq (⟨"TheOtherRoom$Walk", "isFresh", "(I)Z"⟩, 17) := ⟨⟨by decide +kernel, by decide +kernel⟩, List.mem_of_getElem? (i := 58) (by decide +kernel), List.mem_of_getElem? (i := 523) (by decide +kernel), List.mem_of_getElem? (i := 524) (by decide +kernel)⟩
theorem lw_p7 : lw_okq (⟨"TheOtherRoom$Tape", "advance", "()V"⟩, 6) := ⟨⟨by decide +kernel, by decide +kernel⟩, List.mem_of_getElem? (i := 31) (by decide +kernel), List.mem_of_getElem? (i := 565) (by decide +kernel), List.mem_of_getElem? (i := 566) (by decide +kernel)⟩
theorem lw_p8 : lw_okq (⟨"TheOtherRoom$Tape", "byteAt", "(I)I"⟩, 6) := ⟨⟨by decide +kernel, by decide +kernel⟩, List.mem_of_getElem? (i := 31) (by decide +kernel), List.mem_of_getElem? (i := 569) (by decide +kernel), List.mem_of_getElem? (i := 570) (by decide +kernel)⟩
theorem lw_p9 : lw_okq (⟨"TheOtherRoom$Tape", "kindAt", "(I)I"⟩, 6) := ⟨⟨by decide +kernel, by decide +kernel⟩, List.mem_of_getElem? (i := 31) (by decide +kernel), List.mem_of_getElem? (i := 573) (by decide +kernel), List.mem_of_getElem? (i := 574) (by decide +kernel)⟩
theorem lw_p10 : lw_okq (⟨"TheOtherRoom$Tape", "readBoard", "(LTheOtherRoom$Flat;)V"⟩, 6) := ⟨⟨by decide +kernel, by decide +kernel⟩, List.mem_of_getElem? (i := 31) (by decide +kernel), List.mem_of_getElem? (i := 577) (by decide +kernel), List.mem_of_getElem? (i := 578) (by decide +kernel)⟩
theorem lw_p11 : lw_okq (⟨"TheOtherRoom$Tape", "expect", "(Ljava/lang/String;)V"⟩, 6) := ⟨⟨by decide +kernel, by decide +kernel⟩, List.mem_of_getElem? (i := 31) (by decide +kernel), List.mem_of_getElem? (i := 582) (by decide +kernel), List.mem_of_getElem? (i := 583) (by decide +kernel)⟩
theorem lw_p12 : lw_okq (⟨"TheOtherRoom$Tape", "accept", "(Ljava/lang/String;)Z"⟩, 6) := ⟨⟨by decide +kernel, by decide +kernel⟩, List.mem_of_getElem? (i := 31) (by decide +kernel), List.mem_of_getElem? (i := 586) (by decide +kernel), List.mem_of_getElem? (i := 587) (by decide +kernel)⟩
theorem lw_p13 : lw_okq (⟨"TheOtherRoom$Tape", "fail", "(I)V"⟩, 6) := ⟨⟨by decide +kernel, by decide +kernel⟩, List.mem_of_getElem? (i := 31) (by decide +kernel), List.mem_of_getElem? (i := 638) (by decide +kernel), List.mem_of_getElem? (i := 639) (by decide +kernel)⟩
theorem lw_p14 : lw_okq (⟨"TheOtherRoom$Tape", "number", "(II)I"⟩, 6) := ⟨⟨by decide +kernel, by decide +kernel⟩, List.mem_of_getElem? (i := 31) (by decide +kernel), List.mem_of_getElem? (i := 642) (by decide +kernel), List.mem_of_getElem? (i := 643) (by decide +kernel)⟩
theorem lw_p15 : lw_okq (⟨"TheOtherRoom$Tape", "readStatement", "(LTheOtherRoom$Flat;)V"⟩, 6) := ⟨⟨by decide +kernel, by decide +kernel⟩, List.mem_of_getElem? (i := 31) (by decide +kernel), List.mem_of_getElem? (i := 665) (by decide +kernel), List.mem_of_getElem? (i := 666) (by decide +kernel)⟩
def lw_privs_1 : List (MethodName × Nat) := [(⟨"TheOtherRoom", "shelfOf", "(I)LTheOtherRoom$Shelf;"⟩, 13), (⟨"TheOtherRoom", "refuse", "(I)I"⟩, 13), (⟨"TheOtherRoom", "wrongForMoveIn", "(II)I"⟩, 13), (⟨"TheOtherRoom", "flatFor", "(I)LTheOtherRoom$Flat;"⟩, 13), (⟨"TheOtherRoom", "stepsOfMove", "(LTheOtherRoom$Flat;LTheOtherRoom$Shelf;)I"⟩, 13), (⟨"TheOtherRoom$Walk", "beside", "(J)J"⟩, 17), (⟨"TheOtherRoom$Walk", "isFresh", "(I)Z"⟩, 17), (⟨"TheOtherRoom$Tape", "advance", "()V"⟩, 6), (⟨"TheOtherRoom$Tape", "byteAt", "(I)I"⟩, 6), (⟨"TheOtherRoom$Tape", "kindAt", "(I)I"⟩, 6), (⟨"TheOtherRoom$Tape", "readBoard", "(LTheOtherRoom$Flat;)V"⟩, 6), (⟨"TheOtherRoom$Tape", "expect", "(Ljava/lang/String;)V"⟩, 6), (⟨"TheOtherRoom$Tape", "accept", "(Ljava/lang/String;)Z"⟩, 6), (⟨"TheOtherRoom$Tape", "fail", "(I)V"⟩, 6), (⟨"TheOtherRoom$Tape", "number", "(II)I"⟩, 6), (⟨"TheOtherRoom$Tape", "readStatement", "(LTheOtherRoom$Flat;)V"⟩, 6)]
theorem lw_r1 : ∀ q ∈ lw_privs_1, lw_okq q := List.forall_mem_cons.mpr ⟨lw_p0, List.forall_mem_cons.mpr ⟨lw_p1, List.forall_mem_cons.mpr ⟨lw_p2, List.forall_mem_cons.mpr ⟨lw_p3, List.forall_mem_cons.mpr ⟨lw_p4, List.forall_mem_cons.mpr ⟨lw_p5, List.forall_mem_cons.mpr ⟨lw_p6, List.forall_mem_cons.mpr ⟨lw_p7, List.forall_mem_cons.mpr ⟨lw_p8, List.forall_mem_cons.mpr ⟨lw_p9, List.forall_mem_cons.mpr ⟨lw_p10, List.forall_mem_cons.mpr ⟨lw_p11, List.forall_mem_cons.mpr ⟨lw_p12, List.forall_mem_cons.mpr ⟨lw_p13, List.forall_mem_cons.mpr ⟨lw_p14, List.forall_mem_cons.mpr ⟨lw_p15, fun _ h => absurd h List.not_mem_nil⟩⟩⟩⟩⟩⟩⟩⟩⟩⟩⟩⟩⟩⟩⟩⟩
theorem lw_p16 : lw_okq (⟨"TheOtherRoom$Tape", "readWall", "(LTheOtherRoom$Flat;)V"⟩, 6) := ⟨⟨by decide +kernel, by decide +kernel⟩, List.mem_of_getElem? (i := 31) (by decide +kernel), List.mem_of_getElem? (i := 670) (by decide +kernel), List.mem_of_getElem? (i := 671) (by decide +kernel)⟩
theorem lw_p17 : lw_okq (⟨"TheOtherRoom$Tape", "readThing", "(LTheOtherRoom$Flat;)V"⟩, 6) := ⟨⟨by decide +kernel, by decide +kernel⟩, List.mem_of_getElem? (i := 31) (by decide +kernel), List.mem_of_getElem? (i := 681) (by decide +kernel), List.mem_of_getElem? (i := 682) (by decide +kernel)⟩
theorem lw_p18 : lw_okq (⟨"TheOtherRoom", "wrongForCarries", "(III)I"⟩, 13) := ⟨⟨by decide +kernel, by decide +kernel⟩, List.mem_of_getElem? (i := 19) (by decide +kernel), List.mem_of_getElem? (i := 767) (by decide +kernel), List.mem_of_getElem? (i := 768) (by decide +kernel)⟩
theorem lw_p19 : lw_okq (⟨"TheOtherRoom", "carriesThatCan", "(LTheOtherRoom$Flat;LTheOtherRoom$Shelf;IZ)I"⟩, 13) := ⟨⟨by decide +kernel, by decide +kernel⟩, List.mem_of_getElem? (i := 19) (by decide +kernel), List.mem_of_getElem? (i := 771) (by decide +kernel), List.mem_of_getElem? (i := 772) (by decide +kernel)⟩
theorem lw_p20 : lw_okq (⟨"TheOtherRoom", "flatWithDrawing", "(II)LTheOtherRoom$Flat;"⟩, 13) := ⟨⟨by decide +kernel, by decide +kernel⟩, List.mem_of_getElem? (i := 19) (by decide +kernel), List.mem_of_getElem? (i := 784) (by decide +kernel), List.mem_of_getElem? (i := 785) (by decide +kernel)⟩
theorem lw_p21 : lw_okq (⟨"TheOtherRoom", "inRings", "(LTheOtherRoom$Flat;I)I"⟩, 13) := ⟨⟨by decide +kernel, by decide +kernel⟩, List.mem_of_getElem? (i := 19) (by decide +kernel), List.mem_of_getElem? (i := 829) (by decide +kernel), List.mem_of_getElem? (i := 830) (by decide +kernel)⟩
theorem lw_p22 : lw_okq (⟨"TheOtherRoom$Flat", "hangingTogether", "(JJ)J"⟩, 17) := ⟨⟨by decide +kernel, by decide +kernel⟩, List.mem_of_getElem? (i := 181) (by decide +kernel), List.mem_of_getElem? (i := 845) (by decide +kernel), List.mem_of_getElem? (i := 846) (by decide +kernel)⟩
theorem lw_p23 : lw_okq (⟨"TheOtherRoom$Search", "slotOf", "(J)I"⟩, 15) := ⟨⟨by decide +kernel, by decide +kernel⟩, List.mem_of_getElem? (i := 119) (by decide +kernel), List.mem_of_getElem? (i := 877) (by decide +kernel), List.mem_of_getElem? (i := 878) (by decide +kernel)⟩
theorem lw_p24 : lw_okq (⟨"TheOtherRoom$Search", "lookAtLayer", "(LTheOtherRoom$Flat;)V"⟩, 15) := ⟨⟨by decide +kernel, by decide +kernel⟩, List.mem_of_getElem? (i := 119) (by decide +kernel), List.mem_of_getElem? (i := 882) (by decide +kernel), List.mem_of_getElem? (i := 883) (by decide +kernel)⟩
theorem lw_p25 : lw_okq (⟨"TheOtherRoom$Search", "spread", "(J)V"⟩, 15) := ⟨⟨by decide +kernel, by decide +kernel⟩, List.mem_of_getElem? (i := 119) (by decide +kernel), List.mem_of_getElem? (i := 886) (by decide +kernel), List.mem_of_getElem? (i := 887) (by decide +kernel)⟩
theorem lw_p26 : lw_okq (⟨"TheOtherRoom$Search", "carryFrom", "(LTheOtherRoom$Flat;I)V"⟩, 15) := ⟨⟨by decide +kernel, by decide +kernel⟩, List.mem_of_getElem? (i := 119) (by decide +kernel), List.mem_of_getElem? (i := 898) (by decide +kernel), List.mem_of_getElem? (i := 899) (by decide +kernel)⟩
theorem lw_p27 : lw_okq (⟨"TheOtherRoom$Search", "meetAll", "(IIJII)V"⟩, 15) := ⟨⟨by decide +kernel, by decide +kernel⟩, List.mem_of_getElem? (i := 119) (by decide +kernel), List.mem_of_getElem? (i := 905) (by decide +kernel), List.mem_of_getElem? (i := 906) (by decide +kernel)⟩
theorem lw_p28 : lw_okq (⟨"TheOtherRoom$Search", "meet", "(IIII)V"⟩, 15) := ⟨⟨by decide +kernel, by decide +kernel⟩, List.mem_of_getElem? (i := 119) (by decide +kernel), List.mem_of_getElem? (i := 916) (by decide +kernel), List.mem_of_getElem? (i := 917) (by decide +kernel)⟩
theorem lw_p29 : lw_okq (⟨"TheOtherRoom$Search", "addState", "(IJII)V"⟩, 15) := ⟨⟨by decide +kernel, by decide +kernel⟩, List.mem_of_getElem? (i := 119) (by decide +kernel), List.mem_of_getElem? (i := 920) (by decide +kernel), List.mem_of_getElem? (i := 921) (by decide +kernel)⟩
theorem lw_p30 : lw_okq (⟨"TheOtherRoom", "shelvesThatHold", "()I"⟩, 13) := ⟨⟨by decide +kernel, by decide +kernel⟩, List.mem_of_getElem? (i := 19) (by decide +kernel), List.mem_of_getElem? (i := 996) (by decide +kernel), List.mem_of_getElem? (i := 997) (by decide +kernel)⟩
theorem lw_p31 : lw_okq (⟨"TheOtherRoomModel", "refuse", "(I)I"⟩, 43) := ⟨⟨by decide +kernel, by decide +kernel⟩, List.mem_of_getElem? (i := 1000) (by decide +kernel), List.mem_of_getElem? (i := 1153) (by decide +kernel), List.mem_of_getElem? (i := 1154) (by decide +kernel)⟩
def lw_privs_2 : List (MethodName × Nat) := [(⟨"TheOtherRoom$Tape", "readWall", "(LTheOtherRoom$Flat;)V"⟩, 6), (⟨"TheOtherRoom$Tape", "readThing", "(LTheOtherRoom$Flat;)V"⟩, 6), (⟨"TheOtherRoom", "wrongForCarries", "(III)I"⟩, 13), (⟨"TheOtherRoom", "carriesThatCan", "(LTheOtherRoom$Flat;LTheOtherRoom$Shelf;IZ)I"⟩, 13), (⟨"TheOtherRoom", "flatWithDrawing", "(II)LTheOtherRoom$Flat;"⟩, 13), (⟨"TheOtherRoom", "inRings", "(LTheOtherRoom$Flat;I)I"⟩, 13), (⟨"TheOtherRoom$Flat", "hangingTogether", "(JJ)J"⟩, 17), (⟨"TheOtherRoom$Search", "slotOf", "(J)I"⟩, 15), (⟨"TheOtherRoom$Search", "lookAtLayer", "(LTheOtherRoom$Flat;)V"⟩, 15), (⟨"TheOtherRoom$Search", "spread", "(J)V"⟩, 15), (⟨"TheOtherRoom$Search", "carryFrom", "(LTheOtherRoom$Flat;I)V"⟩, 15), (⟨"TheOtherRoom$Search", "meetAll", "(IIJII)V"⟩, 15), (⟨"TheOtherRoom$Search", "meet", "(IIII)V"⟩, 15), (⟨"TheOtherRoom$Search", "addState", "(IJII)V"⟩, 15), (⟨"TheOtherRoom", "shelvesThatHold", "()I"⟩, 13), (⟨"TheOtherRoomModel", "refuse", "(I)I"⟩, 43)]
theorem lw_r2 : ∀ q ∈ lw_privs_2, lw_okq q := List.forall_mem_cons.mpr ⟨lw_p16, List.forall_mem_cons.mpr ⟨lw_p17, List.forall_mem_cons.mpr ⟨lw_p18, List.forall_mem_cons.mpr ⟨lw_p19, List.forall_mem_cons.mpr ⟨lw_p20, List.forall_mem_cons.mpr ⟨lw_p21, List.forall_mem_cons.mpr ⟨lw_p22, List.forall_mem_cons.mpr ⟨lw_p23, List.forall_mem_cons.mpr ⟨lw_p24, List.forall_mem_cons.mpr ⟨lw_p25, List.forall_mem_cons.mpr ⟨lw_p26, List.forall_mem_cons.mpr ⟨lw_p27, List.forall_mem_cons.mpr ⟨lw_p28, List.forall_mem_cons.mpr ⟨lw_p29, List.forall_mem_cons.mpr ⟨lw_p30, List.forall_mem_cons.mpr ⟨lw_p31, fun _ h => absurd h List.not_mem_nil⟩⟩⟩⟩⟩⟩⟩⟩⟩⟩⟩⟩⟩⟩⟩⟩
theorem lw_p32 : lw_okq (⟨"TheOtherRoomModel", "noMove", "(II)I"⟩, 43) := ⟨⟨by decide +kernel, by decide +kernel⟩, List.mem_of_getElem? (i := 1000) (by decide +kernel), List.mem_of_getElem? (i := 1194) (by decide +kernel), List.mem_of_getElem? (i := 1195) (by decide +kernel)⟩
theorem lw_p33 : lw_okq (⟨"TheOtherRoomModel", "isFlat", "(I)Z"⟩, 43) := ⟨⟨by decide +kernel, by decide +kernel⟩, List.mem_of_getElem? (i := 1000) (by decide +kernel), List.mem_of_getElem? (i := 1198) (by decide +kernel), List.mem_of_getElem? (i := 1199) (by decide +kernel)⟩
theorem lw_p34 : lw_okq (⟨"TheOtherRoomModel", "moveSteps", "(II)I"⟩, 43) := ⟨⟨by decide +kernel, by decide +kernel⟩, List.mem_of_getElem? (i := 1000) (by decide +kernel), List.mem_of_getElem? (i := 1202) (by decide +kernel), List.mem_of_getElem? (i := 1203) (by decide +kernel)⟩
theorem lw_p35 : lw_okq (⟨"TheOtherRoomModel", "mayBeCarried", "(II)Z"⟩, 43) := ⟨⟨by decide +kernel, by decide +kernel⟩, List.mem_of_getElem? (i := 1000) (by decide +kernel), List.mem_of_getElem? (i := 1206) (by decide +kernel), List.mem_of_getElem? (i := 1207) (by decide +kernel)⟩
theorem lw_p36 : lw_okq (⟨"TheOtherRoomModel", "ofThing", "(III)I"⟩, 43) := ⟨⟨by decide +kernel, by decide +kernel⟩, List.mem_of_getElem? (i := 1000) (by decide +kernel), List.mem_of_getElem? (i := 1210) (by decide +kernel), List.mem_of_getElem? (i := 1211) (by decide +kernel)⟩
theorem lw_p37 : lw_okq (⟨"TheOtherRoomModel", "coveredBut", "(II[I)J"⟩, 43) := ⟨⟨by decide +kernel, by decide +kernel⟩, List.mem_of_getElem? (i := 1000) (by decide +kernel), List.mem_of_getElem? (i := 1214) (by decide +kernel), List.mem_of_getElem? (i := 1215) (by decide +kernel)⟩
theorem lw_p38 : lw_okq (⟨"TheOtherRoomModel", "coverOf", "(III)J"⟩, 43) := ⟨⟨by decide +kernel, by decide +kernel⟩, List.mem_of_getElem? (i := 1000) (by decide +kernel), List.mem_of_getElem? (i := 1218) (by decide +kernel), List.mem_of_getElem? (i := 1219) (by decide +kernel)⟩
theorem lw_p39 : lw_okq (⟨"TheOtherRoomModel", "cells", "(I)I"⟩, 43) := ⟨⟨by decide +kernel, by decide +kernel⟩, List.mem_of_getElem? (i := 1000) (by decide +kernel), List.mem_of_getElem? (i := 1222) (by decide +kernel), List.mem_of_getElem? (i := 1223) (by decide +kernel)⟩
theorem lw_p40 : lw_okq (⟨"TheOtherRoomModel", "besides", "(III)I"⟩, 43) := ⟨⟨by decide +kernel, by decide +kernel⟩, List.mem_of_getElem? (i := 1000) (by decide +kernel), List.mem_of_getElem? (i := 1226) (by decide +kernel), List.mem_of_getElem? (i := 1227) (by decide +kernel)⟩
theorem lw_p41 : lw_okq (⟨"TheOtherRoomModel", "fitsIn", "(IIIJ)Z"⟩, 43) := ⟨⟨by decide +kernel, by decide +kernel⟩, List.mem_of_getElem? (i := 1000) (by decide +kernel), List.mem_of_getElem? (i := 1230) (by decide +kernel), List.mem_of_getElem? (i := 1231) (by decide +kernel)⟩
theorem lw_p42 : lw_okq (⟨"TheOtherRoomModel", "mayTurn", "(II)Z"⟩, 43) := ⟨⟨by decide +kernel, by decide +kernel⟩, List.mem_of_getElem? (i := 1000) (by decide +kernel), List.mem_of_getElem? (i := 1235) (by decide +kernel), List.mem_of_getElem? (i := 1236) (by decide +kernel)⟩
theorem lw_p43 : lw_okq (⟨"TheOtherRoomModel", "stepsTo", "(II[II)I"⟩, 43) := ⟨⟨by decide +kernel, by decide +kernel⟩, List.mem_of_getElem? (i := 1000) (by decide +kernel), List.mem_of_getElem? (i := 1239) (by decide +kernel), List.mem_of_getElem? (i := 1240) (by decide +kernel)⟩
theorem lw_p44 : lw_okq (⟨"TheOtherRoomModel", "findCarries", "(II[I)V"⟩, 43) := ⟨⟨by decide +kernel, by decide +kernel⟩, List.mem_of_getElem? (i := 1000) (by decide +kernel), List.mem_of_getElem? (i := 1243) (by decide +kernel), List.mem_of_getElem? (i := 1244) (by decide +kernel)⟩
theorem lw_p45 : lw_okq (⟨"TheOtherRoomModel", "landedBut", "(II[I)I"⟩, 43) := ⟨⟨by decide +kernel, by decide +kernel⟩, List.mem_of_getElem? (i := 1000) (by decide +kernel), List.mem_of_getElem? (i := 1247) (by decide +kernel), List.mem_of_getElem? (i := 1248) (by decide +kernel)⟩
theorem lw_p46 : lw_okq (⟨"TheOtherRoomModel", "findFar", "(IIIJI)V"⟩, 43) := ⟨⟨by decide +kernel, by decide +kernel⟩, List.mem_of_getElem? (i := 1000) (by decide +kernel), List.mem_of_getElem? (i := 1251) (by decide +kernel), List.mem_of_getElem? (i := 1252) (by decide +kernel)⟩
theorem lw_p47 : lw_okq (⟨"TheOtherRoomModel", "comes", "(II)V"⟩, 43) := ⟨⟨by decide +kernel, by decide +kernel⟩, List.mem_of_getElem? (i := 1000) (by decide +kernel), List.mem_of_getElem? (i := 1255) (by decide +kernel), List.mem_of_getElem? (i := 1256) (by decide +kernel)⟩
def lw_privs_3 : List (MethodName × Nat) := [(⟨"TheOtherRoomModel", "noMove", "(II)I"⟩, 43), (⟨"TheOtherRoomModel", "isFlat", "(I)Z"⟩, 43), (⟨"TheOtherRoomModel", "moveSteps", "(II)I"⟩, 43), (⟨"TheOtherRoomModel", "mayBeCarried", "(II)Z"⟩, 43), (⟨"TheOtherRoomModel", "ofThing", "(III)I"⟩, 43), (⟨"TheOtherRoomModel", "coveredBut", "(II[I)J"⟩, 43), (⟨"TheOtherRoomModel", "coverOf", "(III)J"⟩, 43), (⟨"TheOtherRoomModel", "cells", "(I)I"⟩, 43), (⟨"TheOtherRoomModel", "besides", "(III)I"⟩, 43), (⟨"TheOtherRoomModel", "fitsIn", "(IIIJ)Z"⟩, 43), (⟨"TheOtherRoomModel", "mayTurn", "(II)Z"⟩, 43), (⟨"TheOtherRoomModel", "stepsTo", "(II[II)I"⟩, 43), (⟨"TheOtherRoomModel", "findCarries", "(II[I)V"⟩, 43), (⟨"TheOtherRoomModel", "landedBut", "(II[I)I"⟩, 43), (⟨"TheOtherRoomModel", "findFar", "(IIIJI)V"⟩, 43), (⟨"TheOtherRoomModel", "comes", "(II)V"⟩, 43)]
theorem lw_r3 : ∀ q ∈ lw_privs_3, lw_okq q := List.forall_mem_cons.mpr ⟨lw_p32, List.forall_mem_cons.mpr ⟨lw_p33, List.forall_mem_cons.mpr ⟨lw_p34, List.forall_mem_cons.mpr ⟨lw_p35, List.forall_mem_cons.mpr ⟨lw_p36, List.forall_mem_cons.mpr ⟨lw_p37, List.forall_mem_cons.mpr ⟨lw_p38, List.forall_mem_cons.mpr ⟨lw_p39, List.forall_mem_cons.mpr ⟨lw_p40, List.forall_mem_cons.mpr ⟨lw_p41, List.forall_mem_cons.mpr ⟨lw_p42, List.forall_mem_cons.mpr ⟨lw_p43, List.forall_mem_cons.mpr ⟨lw_p44, List.forall_mem_cons.mpr ⟨lw_p45, List.forall_mem_cons.mpr ⟨lw_p46, List.forall_mem_cons.mpr ⟨lw_p47, fun _ h => absurd h List.not_mem_nil⟩⟩⟩⟩⟩⟩⟩⟩⟩⟩⟩⟩⟩⟩⟩⟩
theorem lw_p48 : lw_okq (⟨"TheOtherRoomModel", "mayComeIn", "(IIIJ)Z"⟩, 43) := ⟨⟨by decide +kernel, by decide +kernel⟩, List.mem_of_getElem? (i := 1000) (by decide +kernel), List.mem_of_getElem? (i := 1259) (by decide +kernel), List.mem_of_getElem? (i := 1260) (by decide +kernel)⟩
theorem lw_p49 : lw_okq (⟨"TheOtherRoomModel", "read", "(I)Z"⟩, 43) := ⟨⟨by decide +kernel, by decide +kernel⟩, List.mem_of_getElem? (i := 1000) (by decide +kernel), List.mem_of_getElem? (i := 1279) (by decide +kernel), List.mem_of_getElem? (i := 1280) (by decide +kernel)⟩
theorem lw_p50 : lw_okq (⟨"TheOtherRoomModel", "look", "()V"⟩, 43) := ⟨⟨by decide +kernel, by decide +kernel⟩, List.mem_of_getElem? (i := 1000) (by decide +kernel), List.mem_of_getElem? (i := 1283) (by decide +kernel), List.mem_of_getElem? (i := 1284) (by decide +kernel)⟩
theorem lw_p51 : lw_okq (⟨"TheOtherRoomModel", "board", "(I)Z"⟩, 43) := ⟨⟨by decide +kernel, by decide +kernel⟩, List.mem_of_getElem? (i := 1000) (by decide +kernel), List.mem_of_getElem? (i := 1296) (by decide +kernel), List.mem_of_getElem? (i := 1297) (by decide +kernel)⟩
theorem lw_p52 : lw_okq (⟨"TheOtherRoomModel", "word", "(Ljava/lang/String;)Z"⟩, 43) := ⟨⟨by decide +kernel, by decide +kernel⟩, List.mem_of_getElem? (i := 1000) (by decide +kernel), List.mem_of_getElem? (i := 1301) (by decide +kernel), List.mem_of_getElem? (i := 1302) (by decide +kernel)⟩
theorem lw_p53 : lw_okq (⟨"TheOtherRoomModel", "isWord", "(Ljava/lang/String;)Z"⟩, 43) := ⟨⟨by decide +kernel, by decide +kernel⟩, List.mem_of_getElem? (i := 1000) (by decide +kernel), List.mem_of_getElem? (i := 1305) (by decide +kernel), List.mem_of_getElem? (i := 1306) (by decide +kernel)⟩
theorem lw_p54 : lw_okq (⟨"TheOtherRoomModel", "wrong", "()Z"⟩, 43) := ⟨⟨by decide +kernel, by decide +kernel⟩, List.mem_of_getElem? (i := 1000) (by decide +kernel), List.mem_of_getElem? (i := 1311) (by decide +kernel), List.mem_of_getElem? (i := 1312) (by decide +kernel)⟩
theorem lw_p55 : lw_okq (⟨"TheOtherRoomModel", "number", "(II)Z"⟩, 43) := ⟨⟨by decide +kernel, by decide +kernel⟩, List.mem_of_getElem? (i := 1000) (by decide +kernel), List.mem_of_getElem? (i := 1315) (by decide +kernel), List.mem_of_getElem? (i := 1316) (by decide +kernel)⟩
theorem lw_p56 : lw_okq (⟨"TheOtherRoomModel", "statement", "(I)Z"⟩, 43) := ⟨⟨by decide +kernel, by decide +kernel⟩, List.mem_of_getElem? (i := 1000) (by decide +kernel), List.mem_of_getElem? (i := 1320) (by decide +kernel), List.mem_of_getElem? (i := 1321) (by decide +kernel)⟩
theorem lw_p57 : lw_okq (⟨"TheOtherRoomModel", "thingTold", "(II)Z"⟩, 43) := ⟨⟨by decide +kernel, by decide +kernel⟩, List.mem_of_getElem? (i := 1000) (by decide +kernel), List.mem_of_getElem? (i := 1329) (by decide +kernel), List.mem_of_getElem? (i := 1330) (by decide +kernel)⟩
theorem lw_p58 : lw_okq (⟨"TheOtherRoomModel", "isThing", "(II)Z"⟩, 43) := ⟨⟨by decide +kernel, by decide +kernel⟩, List.mem_of_getElem? (i := 1000) (by decide +kernel), List.mem_of_getElem? (i := 1347) (by decide +kernel), List.mem_of_getElem? (i := 1348) (by decide +kernel)⟩
theorem lw_p59 : lw_okq (⟨"TheOtherRoomModel", "isPlace", "(III)Z"⟩, 43) := ⟨⟨by decide +kernel, by decide +kernel⟩, List.mem_of_getElem? (i := 1000) (by decide +kernel), List.mem_of_getElem? (i := 1376) (by decide +kernel), List.mem_of_getElem? (i := 1377) (by decide +kernel)⟩
theorem lw_p60 : lw_okq (⟨"TheOtherRoomModel", "isDrawing", "(II)Z"⟩, 43) := ⟨⟨by decide +kernel, by decide +kernel⟩, List.mem_of_getElem? (i := 1000) (by decide +kernel), List.mem_of_getElem? (i := 1396) (by decide +kernel), List.mem_of_getElem? (i := 1397) (by decide +kernel)⟩
theorem lw_p61 : lw_okq (⟨"TheOtherRoomModel", "toldOf", "(III)I"⟩, 43) := ⟨⟨by decide +kernel, by decide +kernel⟩, List.mem_of_getElem? (i := 1000) (by decide +kernel), List.mem_of_getElem? (i := 1404) (by decide +kernel), List.mem_of_getElem? (i := 1405) (by decide +kernel)⟩
theorem lw_p62 : lw_okq (⟨"TheOtherRoomModel", "offIn", "(II[I)I"⟩, 43) := ⟨⟨by decide +kernel, by decide +kernel⟩, List.mem_of_getElem? (i := 1000) (by decide +kernel), List.mem_of_getElem? (i := 1416) (by decide +kernel), List.mem_of_getElem? (i := 1417) (by decide +kernel)⟩
theorem lw_p63 : lw_okq (⟨"TheOtherRoomModel", "noRow", "(III)I"⟩, 43) := ⟨⟨by decide +kernel, by decide +kernel⟩, List.mem_of_getElem? (i := 1000) (by decide +kernel), List.mem_of_getElem? (i := 1428) (by decide +kernel), List.mem_of_getElem? (i := 1429) (by decide +kernel)⟩
def lw_privs_4 : List (MethodName × Nat) := [(⟨"TheOtherRoomModel", "mayComeIn", "(IIIJ)Z"⟩, 43), (⟨"TheOtherRoomModel", "read", "(I)Z"⟩, 43), (⟨"TheOtherRoomModel", "look", "()V"⟩, 43), (⟨"TheOtherRoomModel", "board", "(I)Z"⟩, 43), (⟨"TheOtherRoomModel", "word", "(Ljava/lang/String;)Z"⟩, 43), (⟨"TheOtherRoomModel", "isWord", "(Ljava/lang/String;)Z"⟩, 43), (⟨"TheOtherRoomModel", "wrong", "()Z"⟩, 43), (⟨"TheOtherRoomModel", "number", "(II)Z"⟩, 43), (⟨"TheOtherRoomModel", "statement", "(I)Z"⟩, 43), (⟨"TheOtherRoomModel", "thingTold", "(II)Z"⟩, 43), (⟨"TheOtherRoomModel", "isThing", "(II)Z"⟩, 43), (⟨"TheOtherRoomModel", "isPlace", "(III)Z"⟩, 43), (⟨"TheOtherRoomModel", "isDrawing", "(II)Z"⟩, 43), (⟨"TheOtherRoomModel", "toldOf", "(III)I"⟩, 43), (⟨"TheOtherRoomModel", "offIn", "(II[I)I"⟩, 43), (⟨"TheOtherRoomModel", "noRow", "(III)I"⟩, 43)]
theorem lw_r4 : ∀ q ∈ lw_privs_4, lw_okq q := List.forall_mem_cons.mpr ⟨lw_p48, List.forall_mem_cons.mpr ⟨lw_p49, List.forall_mem_cons.mpr ⟨lw_p50, List.forall_mem_cons.mpr ⟨lw_p51, List.forall_mem_cons.mpr ⟨lw_p52, List.forall_mem_cons.mpr ⟨lw_p53, List.forall_mem_cons.mpr ⟨lw_p54, List.forall_mem_cons.mpr ⟨lw_p55, List.forall_mem_cons.mpr ⟨lw_p56, List.forall_mem_cons.mpr ⟨lw_p57, List.forall_mem_cons.mpr ⟨lw_p58, List.forall_mem_cons.mpr ⟨lw_p59, List.forall_mem_cons.mpr ⟨lw_p60, List.forall_mem_cons.mpr ⟨lw_p61, List.forall_mem_cons.mpr ⟨lw_p62, List.forall_mem_cons.mpr ⟨lw_p63, fun _ h => absurd h List.not_mem_nil⟩⟩⟩⟩⟩⟩⟩⟩⟩⟩⟩⟩⟩⟩⟩⟩
theorem lw_p64 : lw_okq (⟨"TheOtherRoomModel", "tryRow", "(III)I"⟩, 43) := ⟨⟨by decide +kernel, by decide +kernel⟩, List.mem_of_getElem? (i := 1000) (by decide +kernel), List.mem_of_getElem? (i := 1433) (by decide +kernel), List.mem_of_getElem? (i := 1434) (by decide +kernel)⟩
theorem lw_p65 : lw_okq (⟨"TheOtherRoomModel", "waitsOf", "(III)I"⟩, 43) := ⟨⟨by decide +kernel, by decide +kernel⟩, List.mem_of_getElem? (i := 1000) (by decide +kernel), List.mem_of_getElem? (i := 1446) (by decide +kernel), List.mem_of_getElem? (i := 1447) (by decide +kernel)⟩
theorem lw_p66 : lw_okq (⟨"TheOtherRoomModel", "ringsOf", "(II)I"⟩, 43) := ⟨⟨by decide +kernel, by decide +kernel⟩, List.mem_of_getElem? (i := 1000) (by decide +kernel), List.mem_of_getElem? (i := 1454) (by decide +kernel), List.mem_of_getElem? (i := 1455) (by decide +kernel)⟩
theorem lw_p67 : lw_okq (⟨"TheOtherRoomModel", "fewestOf", "(III)I"⟩, 43) := ⟨⟨by decide +kernel, by decide +kernel⟩, List.mem_of_getElem? (i := 1000) (by decide +kernel), List.mem_of_getElem? (i := 1466) (by decide +kernel), List.mem_of_getElem? (i := 1467) (by decide +kernel)⟩
theorem lw_p68 : lw_okq (⟨"TheOtherRoomModel", "search", "(III)V"⟩, 43) := ⟨⟨by decide +kernel, by decide +kernel⟩, List.mem_of_getElem? (i := 1000) (by decide +kernel), List.mem_of_getElem? (i := 1470) (by decide +kernel), List.mem_of_getElem? (i := 1471) (by decide +kernel)⟩
theorem lw_p69 : lw_okq (⟨"TheOtherRoomModel", "beginSearch", "(LTheOtherRoomModel;III)V"⟩, 43) := ⟨⟨by decide +kernel, by decide +kernel⟩, List.mem_of_getElem? (i := 1000) (by decide +kernel), List.mem_of_getElem? (i := 1474) (by decide +kernel), List.mem_of_getElem? (i := 1475) (by decide +kernel)⟩
theorem lw_p70 : lw_okq (⟨"TheOtherRoomModel", "stateOf", "(J)I"⟩, 43) := ⟨⟨by decide +kernel, by decide +kernel⟩, List.mem_of_getElem? (i := 1000) (by decide +kernel), List.mem_of_getElem? (i := 1481) (by decide +kernel), List.mem_of_getElem? (i := 1482) (by decide +kernel)⟩
theorem lw_p71 : lw_okq (⟨"TheOtherRoomModel", "endLayer", "(LTheOtherRoomModel;II)V"⟩, 43) := ⟨⟨by decide +kernel, by decide +kernel⟩, List.mem_of_getElem? (i := 1000) (by decide +kernel), List.mem_of_getElem? (i := 1486) (by decide +kernel), List.mem_of_getElem? (i := 1487) (by decide +kernel)⟩
theorem lw_p72 : lw_okq (⟨"TheOtherRoomModel", "takeKey", "(J)V"⟩, 43) := ⟨⟨by decide +kernel, by decide +kernel⟩, List.mem_of_getElem? (i := 1000) (by decide +kernel), List.mem_of_getElem? (i := 1490) (by decide +kernel), List.mem_of_getElem? (i := 1491) (by decide +kernel)⟩
theorem lw_p73 : lw_okq (⟨"TheOtherRoomModel", "nextLayer", "(LTheOtherRoomModel;II)I"⟩, 43) := ⟨⟨by decide +kernel, by decide +kernel⟩, List.mem_of_getElem? (i := 1000) (by decide +kernel), List.mem_of_getElem? (i := 1495) (by decide +kernel), List.mem_of_getElem? (i := 1496) (by decide +kernel)⟩
theorem lw_p74 : lw_okq (⟨"TheOtherRoomModel", "carryAll", "(LTheOtherRoomModel;IIII)V"⟩, 43) := ⟨⟨by decide +kernel, by decide +kernel⟩, List.mem_of_getElem? (i := 1000) (by decide +kernel), List.mem_of_getElem? (i := 1499) (by decide +kernel), List.mem_of_getElem? (i := 1500) (by decide +kernel)⟩
theorem lw_p75 : lw_okq (⟨"TheOtherRoomModel", "isTold", "(II)Z"⟩, 43) := ⟨⟨by decide +kernel, by decide +kernel⟩, List.mem_of_getElem? (i := 1000) (by decide +kernel), List.mem_of_getElem? (i := 1519) (by decide +kernel), List.mem_of_getElem? (i := 1520) (by decide +kernel)⟩
theorem lw_p76 : lw_okq (⟨"TheOtherRoomModel", "fixedBut", "(II)J"⟩, 43) := ⟨⟨by decide +kernel, by decide +kernel⟩, List.mem_of_getElem? (i := 1000) (by decide +kernel), List.mem_of_getElem? (i := 1539) (by decide +kernel), List.mem_of_getElem? (i := 1540) (by decide +kernel)⟩
theorem lw_p77 : lw_okq (⟨"TheOtherRoomModel", "fixedOut", "(II)I"⟩, 43) := ⟨⟨by decide +kernel, by decide +kernel⟩, List.mem_of_getElem? (i := 1000) (by decide +kernel), List.mem_of_getElem? (i := 1547) (by decide +kernel), List.mem_of_getElem? (i := 1548) (by decide +kernel)⟩
theorem lw_p78 : lw_okq (⟨"TheOtherRoomModel", "takeFlat", "(LTheOtherRoomModel;II)V"⟩, 43) := ⟨⟨by decide +kernel, by decide +kernel⟩, List.mem_of_getElem? (i := 1000) (by decide +kernel), List.mem_of_getElem? (i := 1555) (by decide +kernel), List.mem_of_getElem? (i := 1556) (by decide +kernel)⟩
theorem lw_p79 : lw_okq (⟨"TheOtherRoomModel", "takeFrom", "(LTheOtherRoomModel;)V"⟩, 43) := ⟨⟨by decide +kernel, by decide +kernel⟩, List.mem_of_getElem? (i := 1000) (by decide +kernel), List.mem_of_getElem? (i := 1575) (by decide +kernel), List.mem_of_getElem? (i := 1576) (by decide +kernel)⟩
def lw_privs_5 : List (MethodName × Nat) := [(⟨"TheOtherRoomModel", "tryRow", "(III)I"⟩, 43), (⟨"TheOtherRoomModel", "waitsOf", "(III)I"⟩, 43), (⟨"TheOtherRoomModel", "ringsOf", "(II)I"⟩, 43), (⟨"TheOtherRoomModel", "fewestOf", "(III)I"⟩, 43), (⟨"TheOtherRoomModel", "search", "(III)V"⟩, 43), (⟨"TheOtherRoomModel", "beginSearch", "(LTheOtherRoomModel;III)V"⟩, 43), (⟨"TheOtherRoomModel", "stateOf", "(J)I"⟩, 43), (⟨"TheOtherRoomModel", "endLayer", "(LTheOtherRoomModel;II)V"⟩, 43), (⟨"TheOtherRoomModel", "takeKey", "(J)V"⟩, 43), (⟨"TheOtherRoomModel", "nextLayer", "(LTheOtherRoomModel;II)I"⟩, 43), (⟨"TheOtherRoomModel", "carryAll", "(LTheOtherRoomModel;IIII)V"⟩, 43), (⟨"TheOtherRoomModel", "isTold", "(II)Z"⟩, 43), (⟨"TheOtherRoomModel", "fixedBut", "(II)J"⟩, 43), (⟨"TheOtherRoomModel", "fixedOut", "(II)I"⟩, 43), (⟨"TheOtherRoomModel", "takeFlat", "(LTheOtherRoomModel;II)V"⟩, 43), (⟨"TheOtherRoomModel", "takeFrom", "(LTheOtherRoomModel;)V"⟩, 43)]
theorem lw_r5 : ∀ q ∈ lw_privs_5, lw_okq q := List.forall_mem_cons.mpr ⟨lw_p64, List.forall_mem_cons.mpr ⟨lw_p65, List.forall_mem_cons.mpr ⟨lw_p66, List.forall_mem_cons.mpr ⟨lw_p67, List.forall_mem_cons.mpr ⟨lw_p68, List.forall_mem_cons.mpr ⟨lw_p69, List.forall_mem_cons.mpr ⟨lw_p70, List.forall_mem_cons.mpr ⟨lw_p71, List.forall_mem_cons.mpr ⟨lw_p72, List.forall_mem_cons.mpr ⟨lw_p73, List.forall_mem_cons.mpr ⟨lw_p74, List.forall_mem_cons.mpr ⟨lw_p75, List.forall_mem_cons.mpr ⟨lw_p76, List.forall_mem_cons.mpr ⟨lw_p77, List.forall_mem_cons.mpr ⟨lw_p78, List.forall_mem_cons.mpr ⟨lw_p79, fun _ h => absurd h List.not_mem_nil⟩⟩⟩⟩⟩⟩⟩⟩⟩⟩⟩⟩⟩⟩⟩⟩
def lw_privs : List (MethodName × Nat) := lw_privs_1 ++ (lw_privs_2 ++ (lw_privs_3 ++ (lw_privs_4 ++ (lw_privs_5))))
def lw_tbl : List Cond := k2_sels lw_privs ++ tables_1
theorem lw_privs_ok : ∀ q ∈ lw_privs, lw_okq q := by
  show ∀ q ∈ lw_privs_1 ++ (lw_privs_2 ++ (lw_privs_3 ++ (lw_privs_4 ++ (lw_privs_5)))), lw_okq q
  exact List.forall_mem_append.mpr ⟨lw_r1, List.forall_mem_append.mpr ⟨lw_r2, List.forall_mem_append.mpr ⟨lw_r3, List.forall_mem_append.mpr ⟨lw_r4, lw_r5⟩⟩⟩⟩

/-- the words of the tables that a callee keeps -/
def ww_ok : List Cond := lw_tbl.filter goodWord
theorem ww_in {w : Cond} (h : w ∈ ww_ok) : w ∈ lw_tbl := (List.mem_filter.mp h).1
theorem ww_good : ∀ w ∈ ww_ok, goodWord w = true := fun _ h => (List.mem_filter.mp h).2
/-- a word by its place -/
theorem ww_at {w : Cond} (i : Nat) (h : (lw_tbl[i]? == some w && goodWord w) = true) : w ∈ ww_ok := by
  rw [Bool.and_eq_true] at h
  exact List.mem_filter.mpr ⟨List.mem_of_getElem? (eq_of_beq h.1), h.2⟩
theorem ww_t {w : Cond} (i : Nat) (h : (tables_1[i]? == some w && goodWord w) = true) : w ∈ ww_ok := by
  rw [Bool.and_eq_true] at h
  exact List.mem_filter.mpr ⟨List.mem_append_right _ (List.mem_of_getElem? (eq_of_beq h.1)), h.2⟩
theorem ww_p {w : Cond} (i : Nat) (h : ((k2_sels lw_privs)[i]? == some w && goodWord w) = true) : w ∈ ww_ok := by
  rw [Bool.and_eq_true] at h
  exact List.mem_filter.mpr ⟨List.mem_append_left _ (List.mem_of_getElem? (eq_of_beq h.1)), h.2⟩
theorem lw_t {w : Cond} (i : Nat) (h : (tables_1[i]? == some w) = true) : w ∈ lw_tbl := List.mem_append_right _ (List.mem_of_getElem? (eq_of_beq h))
/-- words by their places, many at once -/
theorem ww_ts (ws : List Cond) (is : List Nat) (h : (ws.map some == is.map (fun i => tables_1[i]?) && ws.all goodWord) = true) : ∀ w ∈ ws, w ∈ ww_ok := by
  rw [Bool.and_eq_true] at h
  have h1 := eq_of_beq h.1
  intro w hw
  have h2 : some w ∈ is.map (fun i => tables_1[i]?) := by rw [← h1]; exact List.mem_map.mpr ⟨w, hw, rfl⟩
  obtain ⟨i, -, hi⟩ := List.mem_map.mp h2
  exact List.mem_filter.mpr ⟨List.mem_append_right _ (List.mem_of_getElem? hi), List.all_eq_true.mp h.2 w hw⟩
def RR_0 : String := "TheOtherRoom"
def FF_0 : u_T := fun k => match k with
  | 0 => ("TheOtherRoom", "flats", "[LTheOtherRoom$Flat;", true)
  | 1 => ("TheOtherRoom", "kept", "[LTheOtherRoom$Flat;", true)
  | 2 => ("TheOtherRoom", "shelves", "[LTheOtherRoom$Shelf;", true)
  | 3 => ("TheOtherRoom", "tape", "LTheOtherRoom$Tape;", true)
  | 4 => ("TheOtherRoom", "walk", "LTheOtherRoom$Walk;", true)
  | 5 => ("TheOtherRoom", "asked", "LTheOtherRoom$Search;", true)
  | 6 => ("TheOtherRoom", "underWay", "LTheOtherRoom$Search;", true)
  | 7 => ("TheOtherRoom", "begun", "LTheOtherRoom$Flat;", true)
  | 8 => ("TheOtherRoom", "scratch", "[I", true)
  | 9 => ("TheOtherRoom", "refusals", "[I", true)
  | 10 => ("TheOtherRoom", "flatCount", "I", false)
  | 11 => ("TheOtherRoom", "keptCount", "I", false)
  | _ => ("TheOtherRoom", "searching", "Z", false)
def tt_0 : Nat → FieldType := fun k => match k with
  | 0 => .array (.object "TheOtherRoom$Flat")
  | 1 => .array (.object "TheOtherRoom$Flat")
  | 2 => .array (.object "TheOtherRoom$Shelf")
  | 3 => .object "TheOtherRoom$Tape"
  | 4 => .object "TheOtherRoom$Walk"
  | 5 => .object "TheOtherRoom$Search"
  | 6 => .object "TheOtherRoom$Search"
  | 7 => .object "TheOtherRoom$Flat"
  | 8 => .array .int
  | 9 => .array .int
  | 10 => .int
  | 11 => .int
  | _ => .boolean
theorem nn_0 : ∀ a, a < 13 → ∀ b, b < 13 → a ≠ b → (FF_0 a).2.1 ≠ (FF_0 b).2.1 := by decide +kernel
theorem tk_0 : ∀ k, k < 13 → parseFieldDescriptor (FF_0 k).2.2.1 = some (tt_0 k) := by decide +kernel
theorem ii_0 : ∀ w ∈ u_ws RR_0 FF_0 13, w ∈ ww_ok := ww_ts _ [318, 320, 322, 324, 326, 328, 330, 332, 334, 336, 338, 340, 342] (by decide +kernel)
theorem in_0 : Cond.instantiable RR_0 13 ∈ ww_ok := ww_t 19 (by decide +kernel)
theorem iz_0 : Cond.initialized RR_0 ∈ ww_ok := ww_t 1 (by decide +kernel)
def RR_1 : String := "TheOtherRoom$Flat"
def FF_1 : u_T := fun k => match k with
  | 0 => ("TheOtherRoom$Flat", "width", "I", false)
  | 1 => ("TheOtherRoom$Flat", "height", "I", false)
  | 2 => ("TheOtherRoom$Flat", "floor", "J", false)
  | 3 => ("TheOtherRoom$Flat", "count", "I", false)
  | 4 => ("TheOtherRoom$Flat", "hands", "I", false)
  | 5 => ("TheOtherRoom$Flat", "landing", "I", false)
  | 6 => ("TheOtherRoom$Flat", "door", "I", false)
  | 7 => ("TheOtherRoom$Flat", "carriesMade", "I", false)
  | 8 => ("TheOtherRoom$Flat", "stepsMade", "I", false)
  | 9 => ("TheOtherRoom$Flat", "wide", "[I", true)
  | 10 => ("TheOtherRoom$Flat", "high", "[I", true)
  | 11 => ("TheOtherRoom$Flat", "heavy", "[I", true)
  | 12 => ("TheOtherRoom$Flat", "fixed", "[Z", true)
  | 13 => ("TheOtherRoom$Flat", "plain", "[Z", true)
  | 14 => ("TheOtherRoom$Flat", "turnedAtFirst", "[I", true)
  | 15 => ("TheOtherRoom$Flat", "stands", "[I", true)
  | _ => ("TheOtherRoom$Flat", "drawings", "[[I", true)
def tt_1 : Nat → FieldType := fun k => match k with
  | 0 => .int
  | 1 => .int
  | 2 => .long
  | 3 => .int
  | 4 => .int
  | 5 => .int
  | 6 => .int
  | 7 => .int
  | 8 => .int
  | 9 => .array .int
  | 10 => .array .int
  | 11 => .array .int
  | 12 => .array .boolean
  | 13 => .array .boolean
  | 14 => .array .int
  | 15 => .array .int
  | _ => .array (.array .int)
theorem nn_1 : ∀ a, a < 17 → ∀ b, b < 17 → a ≠ b → (FF_1 a).2.1 ≠ (FF_1 b).2.1 := by decide +kernel
theorem tk_1 : ∀ k, k < 17 → parseFieldDescriptor (FF_1 k).2.2.1 = some (tt_1 k) := by decide +kernel
theorem ii_1 : ∀ w ∈ u_ws RR_1 FF_1 17, w ∈ ww_ok := ww_ts _ [243, 245, 247, 249, 251, 253, 255, 257, 259, 261, 263, 265, 267, 269, 271, 273, 275] (by decide +kernel)
theorem in_1 : Cond.instantiable RR_1 17 ∈ ww_ok := ww_t 181 (by decide +kernel)
theorem iz_1 : Cond.initialized RR_1 ∈ ww_ok := ww_t 5 (by decide +kernel)
def RR_2 : String := "TheOtherRoom$Search"
def FF_2 : u_T := fun k => match k with
  | 0 => ("TheOtherRoom$Search", "flatNumber", "I", false)
  | 1 => ("TheOtherRoom$Search", "drawing", "I", false)
  | 2 => ("TheOtherRoom$Search", "layer", "I", false)
  | 3 => ("TheOtherRoom$Search", "count", "I", false)
  | 4 => ("TheOtherRoom$Search", "outcome", "I", false)
  | 5 => ("TheOtherRoom$Search", "leastSteps", "I", false)
  | 6 => ("TheOtherRoom$Search", "firstCarry", "I", false)
  | 7 => ("TheOtherRoom$Search", "layerStart", "I", false)
  | 8 => ("TheOtherRoom$Search", "things", "I", false)
  | 9 => ("TheOtherRoom$Search", "states", "[J", true)
  | 10 => ("TheOtherRoom$Search", "costs", "[I", true)
  | 11 => ("TheOtherRoom$Search", "firsts", "[I", true)
  | 12 => ("TheOtherRoom$Search", "table", "[I", true)
  | 13 => ("TheOtherRoom$Search", "places", "[I", true)
  | _ => ("TheOtherRoom$Search", "walk", "LTheOtherRoom$Walk;", true)
def tt_2 : Nat → FieldType := fun k => match k with
  | 0 => .int
  | 1 => .int
  | 2 => .int
  | 3 => .int
  | 4 => .int
  | 5 => .int
  | 6 => .int
  | 7 => .int
  | 8 => .int
  | 9 => .array .long
  | 10 => .array .int
  | 11 => .array .int
  | 12 => .array .int
  | 13 => .array .int
  | _ => .object "TheOtherRoom$Walk"
theorem nn_2 : ∀ a, a < 15 → ∀ b, b < 15 → a ≠ b → (FF_2 a).2.1 ≠ (FF_2 b).2.1 := by decide +kernel
theorem tk_2 : ∀ k, k < 15 → parseFieldDescriptor (FF_2 k).2.2.1 = some (tt_2 k) := by decide +kernel
theorem ii_2 : ∀ w ∈ u_ws RR_2 FF_2 15, w ∈ ww_ok := ww_ts _ [148, 150, 152, 154, 156, 158, 160, 162, 164, 166, 168, 170, 172, 174, 176] (by decide +kernel)
theorem in_2 : Cond.instantiable RR_2 15 ∈ ww_ok := ww_t 119 (by decide +kernel)
theorem iz_2 : Cond.initialized RR_2 ∈ ww_ok := ww_t 4 (by decide +kernel)
def RR_3 : String := "TheOtherRoom$Shelf"
def FF_3 : u_T := fun k => match k with
  | 0 => ("TheOtherRoom$Shelf", "holds", "I", false)
  | 1 => ("TheOtherRoom$Shelf", "size", "I", false)
  | 2 => ("TheOtherRoom$Shelf", "elements", "[J", true)
  | 3 => ("TheOtherRoom$Shelf", "thing", "I", false)
  | _ => ("TheOtherRoom$Shelf", "told", "I", false)
def tt_3 : Nat → FieldType := fun k => match k with
  | 0 => .int
  | 1 => .int
  | 2 => .array .long
  | 3 => .int
  | _ => .int
theorem nn_3 : ∀ a, a < 5 → ∀ b, b < 5 → a ≠ b → (FF_3 a).2.1 ≠ (FF_3 b).2.1 := by decide +kernel
theorem tk_3 : ∀ k, k < 5 → parseFieldDescriptor (FF_3 k).2.2.1 = some (tt_3 k) := by decide +kernel
theorem ii_3 : ∀ w ∈ u_ws RR_3 FF_3 5, w ∈ ww_ok := ww_ts _ [294, 296, 298, 300, 302] (by decide +kernel)
theorem in_3 : Cond.instantiable RR_3 5 ∈ ww_ok := ww_t 279 (by decide +kernel)
theorem iz_3 : Cond.initialized RR_3 ∈ ww_ok := ww_t 6 (by decide +kernel)
def RR_4 : String := "TheOtherRoom$Tape"
def FF_4 : u_T := fun k => match k with
  | 0 => ("TheOtherRoom$Tape", "size", "I", false)
  | 1 => ("TheOtherRoom$Tape", "bytes", "[B", true)
  | 2 => ("TheOtherRoom$Tape", "token", "I", false)
  | 3 => ("TheOtherRoom$Tape", "start", "I", false)
  | 4 => ("TheOtherRoom$Tape", "end", "I", false)
  | _ => ("TheOtherRoom$Tape", "fault", "I", false)
def tt_4 : Nat → FieldType := fun k => match k with
  | 0 => .int
  | 1 => .array .byte
  | 2 => .int
  | 3 => .int
  | 4 => .int
  | _ => .int
theorem nn_4 : ∀ a, a < 6 → ∀ b, b < 6 → a ≠ b → (FF_4 a).2.1 ≠ (FF_4 b).2.1 := by decide +kernel
theorem tk_4 : ∀ k, k < 6 → parseFieldDescriptor (FF_4 k).2.2.1 = some (tt_4 k) := by decide +kernel
theorem ii_4 : ∀ w ∈ u_ws RR_4 FF_4 6, w ∈ ww_ok := ww_ts _ [43, 45, 47, 49, 51, 53] (by decide +kernel)
theorem in_4 : Cond.instantiable RR_4 6 ∈ ww_ok := ww_t 31 (by decide +kernel)
theorem iz_4 : Cond.initialized RR_4 ∈ ww_ok := ww_t 2 (by decide +kernel)
def RR_5 : String := "TheOtherRoom$Walk"
def FF_5 : u_T := fun k => match k with
  | 0 => ("TheOtherRoom$Walk", "width", "I", false)
  | 1 => ("TheOtherRoom$Walk", "notFirst", "J", false)
  | 2 => ("TheOtherRoom$Walk", "notLast", "J", false)
  | 3 => ("TheOtherRoom$Walk", "legal", "J", false)
  | 4 => ("TheOtherRoom$Walk", "legalTurned", "J", false)
  | 5 => ("TheOtherRoom$Walk", "doors", "J", false)
  | 6 => ("TheOtherRoom$Walk", "doorsTurned", "J", false)
  | 7 => ("TheOtherRoom$Walk", "comeIn", "J", false)
  | 8 => ("TheOtherRoom$Walk", "comeInTurned", "J", false)
  | 9 => ("TheOtherRoom$Walk", "mayTurn", "Z", false)
  | 10 => ("TheOtherRoom$Walk", "room", "Z", false)
  | 11 => ("TheOtherRoom$Walk", "seen", "J", false)
  | 12 => ("TheOtherRoom$Walk", "seenTurned", "J", false)
  | 13 => ("TheOtherRoom$Walk", "seenLanding", "Z", false)
  | 14 => ("TheOtherRoom$Walk", "fresh", "J", false)
  | 15 => ("TheOtherRoom$Walk", "freshTurned", "J", false)
  | _ => ("TheOtherRoom$Walk", "freshLanding", "Z", false)
def tt_5 : Nat → FieldType := fun k => match k with
  | 0 => .int
  | 1 => .long
  | 2 => .long
  | 3 => .long
  | 4 => .long
  | 5 => .long
  | 6 => .long
  | 7 => .long
  | 8 => .long
  | 9 => .boolean
  | 10 => .boolean
  | 11 => .long
  | 12 => .long
  | 13 => .boolean
  | 14 => .long
  | 15 => .long
  | _ => .boolean
theorem nn_5 : ∀ a, a < 17 → ∀ b, b < 17 → a ≠ b → (FF_5 a).2.1 ≠ (FF_5 b).2.1 := by decide +kernel
theorem tk_5 : ∀ k, k < 17 → parseFieldDescriptor (FF_5 k).2.2.1 = some (tt_5 k) := by decide +kernel
theorem ii_5 : ∀ w ∈ u_ws RR_5 FF_5 17, w ∈ ww_ok := ww_ts _ [83, 85, 87, 89, 91, 93, 95, 97, 99, 101, 103, 105, 107, 109, 111, 113, 115] (by decide +kernel)
theorem in_5 : Cond.instantiable RR_5 17 ∈ ww_ok := ww_t 58 (by decide +kernel)
theorem iz_5 : Cond.initialized RR_5 ∈ ww_ok := ww_t 3 (by decide +kernel)
def RR_6 : String := "TheOtherRoomModel"
def FF_6 : u_T := fun k => match k with
  | 0 => ("TheOtherRoomModel", "shelf", "[I", true)
  | 1 => ("TheOtherRoomModel", "rowSort", "[I", true)
  | 2 => ("TheOtherRoomModel", "rowSize", "[I", true)
  | 3 => ("TheOtherRoomModel", "rows", "[[J", true)
  | 4 => ("TheOtherRoomModel", "moved", "[J", true)
  | 5 => ("TheOtherRoomModel", "moveKind", "[I", true)
  | 6 => ("TheOtherRoomModel", "moveOf", "[I", true)
  | 7 => ("TheOtherRoomModel", "moveTold", "[I", true)
  | 8 => ("TheOtherRoomModel", "tape", "[I", true)
  | 9 => ("TheOtherRoomModel", "tapeSize", "I", false)
  | 10 => ("TheOtherRoomModel", "refused", "[I", true)
  | 11 => ("TheOtherRoomModel", "flats", "I", false)
  | 12 => ("TheOtherRoomModel", "flat", "[[I", true)
  | 13 => ("TheOtherRoomModel", "floor", "[J", true)
  | 14 => ("TheOtherRoomModel", "thing", "[[I", true)
  | 15 => ("TheOtherRoomModel", "place", "[[I", true)
  | 16 => ("TheOtherRoomModel", "drawings", "[[I", true)
  | 17 => ("TheOtherRoomModel", "kept", "LTheOtherRoomModel;", false)
  | 18 => ("TheOtherRoomModel", "keys", "[J", true)
  | 19 => ("TheOtherRoomModel", "leastOf", "[I", true)
  | 20 => ("TheOtherRoomModel", "firstOf", "[I", true)
  | 21 => ("TheOtherRoomModel", "hashed", "[I", true)
  | 22 => ("TheOtherRoomModel", "many", "I", false)
  | 23 => ("TheOtherRoomModel", "layerFrom", "I", false)
  | 24 => ("TheOtherRoomModel", "layer", "I", false)
  | 25 => ("TheOtherRoomModel", "state", "I", false)
  | 26 => ("TheOtherRoomModel", "foundLeast", "I", false)
  | 27 => ("TheOtherRoomModel", "foundFirst", "I", false)
  | 28 => ("TheOtherRoomModel", "searchFlat", "I", false)
  | 29 => ("TheOtherRoomModel", "searchDrawing", "I", false)
  | 30 => ("TheOtherRoomModel", "own", "LTheOtherRoomModel;", true)
  | 31 => ("TheOtherRoomModel", "far", "[I", true)
  | 32 => ("TheOtherRoomModel", "queue", "[I", true)
  | 33 => ("TheOtherRoomModel", "queued", "I", false)
  | 34 => ("TheOtherRoomModel", "at", "I", false)
  | 35 => ("TheOtherRoomModel", "token", "I", false)
  | 36 => ("TheOtherRoomModel", "from", "I", false)
  | 37 => ("TheOtherRoomModel", "figures", "J", false)
  | 38 => ("TheOtherRoomModel", "fault", "I", false)
  | 39 => ("TheOtherRoomModel", "number", "I", false)
  | 40 => ("TheOtherRoomModel", "tried", "[I", true)
  | 41 => ("TheOtherRoomModel", "triedSteps", "I", false)
  | _ => ("TheOtherRoomModel", "where", "[I", true)
def tt_6 : Nat → FieldType := fun k => match k with
  | 0 => .array .int
  | 1 => .array .int
  | 2 => .array .int
  | 3 => .array (.array .long)
  | 4 => .array .long
  | 5 => .array .int
  | 6 => .array .int
  | 7 => .array .int
  | 8 => .array .int
  | 9 => .int
  | 10 => .array .int
  | 11 => .int
  | 12 => .array (.array .int)
  | 13 => .array .long
  | 14 => .array (.array .int)
  | 15 => .array (.array .int)
  | 16 => .array (.array .int)
  | 17 => .object "TheOtherRoomModel"
  | 18 => .array .long
  | 19 => .array .int
  | 20 => .array .int
  | 21 => .array .int
  | 22 => .int
  | 23 => .int
  | 24 => .int
  | 25 => .int
  | 26 => .int
  | 27 => .int
  | 28 => .int
  | 29 => .int
  | 30 => .object "TheOtherRoomModel"
  | 31 => .array .int
  | 32 => .array .int
  | 33 => .int
  | 34 => .int
  | 35 => .int
  | 36 => .int
  | 37 => .long
  | 38 => .int
  | 39 => .int
  | 40 => .array .int
  | 41 => .int
  | _ => .array .int
theorem nn_6 : ∀ a, a < 43 → ∀ b, b < 43 → a ≠ b → (FF_6 a).2.1 ≠ (FF_6 b).2.1 := by decide +kernel
theorem tk_6 : ∀ k, k < 43 → parseFieldDescriptor (FF_6 k).2.2.1 = some (tt_6 k) := by decide +kernel
theorem ii_6 : ∀ w ∈ u_ws RR_6 FF_6 43, w ∈ ww_ok := ww_ts _ [1055, 1057, 1059, 1061, 1063, 1065, 1067, 1069, 1071, 1073, 1075, 1077, 1079, 1081, 1083, 1085, 1087, 1089, 1091, 1093, 1095, 1097, 1099, 1101, 1103, 1105, 1107, 1109, 1111, 1113, 1115, 1117, 1119, 1121, 1123, 1125, 1127, 1129, 1131, 1133, 1135, 1137, 1139] (by decide +kernel)
theorem in_6 : Cond.instantiable RR_6 43 ∈ ww_ok := ww_t 1000 (by decide +kernel)
theorem iz_6 : Cond.initialized RR_6 ∈ ww_ok := ww_t 7 (by decide +kernel)
abbrev classes : List vw_C := [(RR_0, FF_0, 13), (RR_1, FF_1, 17), (RR_2, FF_2, 15), (RR_3, FF_3, 5), (RR_4, FF_4, 6), (RR_5, FF_5, 17), (RR_6, FF_6, 43)]
def cn_of (k : Nat) : String := ["TheOtherRoom", "TheOtherRoom$Flat", "TheOtherRoom$Search", "TheOtherRoom$Shelf", "TheOtherRoom$Tape", "TheOtherRoom$Walk", "TheOtherRoomModel", "java/util/Arrays", "TheOtherRoomLaw"].getD k ""
end
section
/-! ===== abstract runs: an int or a long is known to lie between two bounds, a cell is known by its place in the world ===== -/
abbrev ai_V : Type := Option Nat ⊕ ((Int × Int) ⊕ (Int × Int))
abbrev ai_C : Type := Nat × List ai_V
abbrev ai_W : Type := List ai_C
abbrev ai_Ls : Type := List (Nat × ai_V)
def ai_le : Int → Int → Bool
  | .ofNat a, .ofNat b => Nat.ble a b
  | .negSucc a, .negSucc b => Nat.ble b a
  | .negSucc _, .ofNat _ => true
  | .ofNat _, .negSucc _ => false
theorem ai_le_iff (a b : Int) : ai_le a b = true ↔ a ≤ b := by
  cases a with
  | ofNat a =>
    cases b with
    | ofNat b =>
      show Nat.ble a b = true ↔ ((a : Nat) : Int) ≤ ((b : Nat) : Int)
      rw [Nat.ble_eq]
      omega
    | negSucc b =>
      show false = true ↔ ((a : Nat) : Int) ≤ Int.negSucc b
      rw [Int.negSucc_eq]
      constructor
      · intro h; cases h
      · intro h; omega
  | negSucc a =>
    cases b with
    | ofNat b =>
      show true = true ↔ Int.negSucc a ≤ ((b : Nat) : Int)
      rw [Int.negSucc_eq]
      constructor
      · intro _; omega
      · intro _; rfl
    | negSucc b =>
      show Nat.ble b a = true ↔ Int.negSucc a ≤ Int.negSucc b
      rw [Nat.ble_eq, Int.negSucc_eq, Int.negSucc_eq]
      omega
def ai_lt (a b : Int) : Bool := !(ai_le b a)
theorem ai_lt_iff (a b : Int) : ai_lt a b = true ↔ a < b := by
  unfold ai_lt
  have h := ai_le_iff b a
  cases hb : ai_le b a with
  | true =>
    have := h.mp hb
    constructor
    · intro q; cases q
    · intro q; omega
  | false =>
    constructor
    · intro _
      by_cases q : b ≤ a
      · rw [h.mpr q] at hb; cases hb
      · omega
    · intro _; rfl
def ai_tI : Int × Int := (-2147483648, 2147483647)
def ai_tL : Int × Int := (-9223372036854775808, 9223372036854775807)
/-- what a computed int lies between, when it may go round -/
def ai_nm (lo hi : Int) : Int × Int :=
  bif ai_le (-2147483648) lo && ai_le hi 2147483647 then (lo, hi) else
  bif ai_le (-2147483648) (lo + 4294967296) && ai_le (hi + 4294967296) 2147483647 then (lo + 4294967296, hi + 4294967296) else
  bif ai_le (-2147483648) (lo - 4294967296) && ai_le (hi - 4294967296) 2147483647 then (lo - 4294967296, hi - 4294967296) else ai_tI
theorem ai_bmod (v : Int) : v.bmod (2 ^ 32) = if v % 4294967296 < 2147483648 then v % 4294967296 else v % 4294967296 - 4294967296 := by
  unfold Int.bmod
  rfl
theorem ai_nm_ok {lo hi v : Int} (h1 : lo ≤ v) (h2 : v ≤ hi) : (ai_nm lo hi).1 ≤ v.bmod (2 ^ 32) ∧ v.bmod (2 ^ 32) ≤ (ai_nm lo hi).2 := by
  rw [ai_bmod]
  unfold ai_nm
  cases h3 : (ai_le (-2147483648) lo && ai_le hi 2147483647) with
  | true =>
    rw [Bool.and_eq_true, ai_le_iff, ai_le_iff] at h3
    simp only [cond_true]
    split <;> omega
  | false =>
    simp only [cond_false]
    cases h4 : (ai_le (-2147483648) (lo + 4294967296) && ai_le (hi + 4294967296) 2147483647) with
    | true =>
      rw [Bool.and_eq_true, ai_le_iff, ai_le_iff] at h4
      simp only [cond_true]
      split <;> omega
    | false =>
      simp only [cond_false]
      cases h5 : (ai_le (-2147483648) (lo - 4294967296) && ai_le (hi - 4294967296) 2147483647) with
      | true =>
        rw [Bool.and_eq_true, ai_le_iff, ai_le_iff] at h5
        simp only [cond_true]
        split <;> omega
      | false =>
        simp only [cond_false]
        show (-2147483648 : Int) ≤ _ ∧ _ ≤ (2147483647 : Int)
        split <;> omega
theorem ai_tI_ok (x : Int32) : ai_tI.1 ≤ x.toInt ∧ x.toInt ≤ ai_tI.2 := by
  have h1 := Int32.le_toInt x
  have h2 := Int32.toInt_lt x
  show (-2147483648 : Int) ≤ _ ∧ _ ≤ (2147483647 : Int)
  omega
theorem ai_tL_ok (x : Int64) : ai_tL.1 ≤ x.toInt ∧ x.toInt ≤ ai_tL.2 := by
  have h1 := Int64.le_toInt x
  have h2 := Int64.toInt_lt x
  show (-9223372036854775808 : Int) ≤ _ ∧ _ ≤ (9223372036854775807 : Int)
  omega
/-- an exact int that is an index -/
def ai_ix (q : Int × Int) : Option Nat := match q.1 with
  | .ofNat n => bif ai_le q.2 (.ofNat n) && Nat.ble n 100000 then some n else none
  | .negSucc _ => none
theorem ai_ix_ok {q : Int × Int} {n : Nat} {x : Int32} (h : ai_ix q = some n) (h1 : q.1 ≤ x.toInt) (h2 : x.toInt ≤ q.2) : x.toInt = (n : Int) ∧ x.toNatClampNeg = n ∧ ¬ x < 0 ∧ n ≤ 100000 := by
  obtain ⟨a, z⟩ := q
  cases a with
  | negSucc a => cases h
  | ofNat a =>
    unfold ai_ix at h
    simp only at h h1 h2
    cases hc : (ai_le z (.ofNat a) && Nat.ble a 100000) with
    | false => rw [hc] at h; cases h
    | true =>
      rw [hc] at h
      have hn : a = n := Option.some.inj h
      subst hn
      rw [Bool.and_eq_true, ai_le_iff, Nat.ble_eq] at hc
      have h1' : (a : Int) ≤ x.toInt := h1
      have h3 : z ≤ (a : Int) := hc.1
      have e : x.toInt = (a : Int) := by omega
      refine ⟨e, ?_, ?_, hc.2⟩
      · show x.toInt.toNat = a
        rw [e]; rfl
      · rw [Int32.lt_iff_toInt_lt, e]
        show ¬ (a : Int) < 0
        omega
theorem ai_in {x : Int32} {n N : Nat} (h : x.toNatClampNeg = n ∧ ¬ x < 0) (hn : n < N) : vp_in x N := by
  unfold vp_in
  rintro (q | q)
  · exact h.2 q
  · omega
/-- a value of the machine, and what is known of it: 0 the script, 1 some cell, k + 2 the world's cell k -/
def ai_RV (b : Nat) (ad : List Nat) : ai_V → Value → Prop
  | .inl none, v => v = .null
  | .inl (some 0), v => v = .ref b
  | .inl (some 1), v => ∃ a : Nat, v = .ref a
  | .inl (some (k + 2)), v => ∃ a : Nat, ad[k]? = some a ∧ v = .ref a
  | .inr (.inl q), v => ∃ x : Int32, v = .int x ∧ q.1 ≤ x.toInt ∧ x.toInt ≤ q.2
  | .inr (.inr q), v => ∃ x : Int64, v = .long x ∧ q.1 ≤ x.toInt ∧ x.toInt ≤ q.2
def ai_RS (b : Nat) (ad : List Nat) : List ai_V → List Value → Prop
  | [], [] => True
  | x :: S, v :: st => ai_RV b ad x v ∧ ai_RS b ad S st
  | _, _ => False
theorem ai_get_pre {ad t : List Nat} {k a : Nat} (h : ad[k]? = some a) : (ad ++ t)[k]? = some a := by
  rw [List.getElem?_append_left (List.getElem?_eq_some_iff.mp h).1]
  exact h
theorem ai_RV.mono {b : Nat} {ad : List Nat} (t : List Nat) {x : ai_V} {v : Value} (h : ai_RV b ad x v) : ai_RV b (ad ++ t) x v := by
  match x, h with
  | .inl none, h => exact h
  | .inl (some 0), h => exact h
  | .inl (some 1), h => exact h
  | .inl (some (k + 2)), h =>
    obtain ⟨a, h1, h2⟩ := h
    exact ⟨a, ai_get_pre h1, h2⟩
  | .inr (.inl q), h => exact h
  | .inr (.inr q), h => exact h
theorem ai_RS.mono {b : Nat} {ad : List Nat} (t : List Nat) : ∀ {S : List ai_V} {st : List Value}, ai_RS b ad S st → ai_RS b (ad ++ t) S st
  | [], [], _ => trivial
  | _ :: _, _ :: _, h => ⟨h.1.mono t, ai_RS.mono t h.2⟩
  | [], _ :: _, h => h.elim
  | _ :: _, [], h => h.elim
theorem ai_RS.get {b : Nat} {ad : List Nat} : ∀ {S : List ai_V} {st : List Value} {j : Nat} {x : ai_V}, ai_RS b ad S st → S[j]? = some x → ∃ v, st[j]? = some v ∧ ai_RV b ad x v
  | [], _, j, x, _, h => by simp at h
  | _ :: _, [], _, _, h, _ => h.elim
  | y :: S, v :: st, 0, x, h, hj => by
    rw [List.getElem?_cons_zero] at hj
    cases hj
    exact ⟨v, rfl, h.1⟩
  | y :: S, v :: st, j + 1, x, h, hj => by
    rw [List.getElem?_cons_succ] at hj
    obtain ⟨u, h1, h2⟩ := ai_RS.get h.2 hj
    exact ⟨u, by rw [List.getElem?_cons_succ]; exact h1, h2⟩
theorem ai_RS.set {b : Nat} {ad : List Nat} : ∀ {S : List ai_V} {st : List Value} (j : Nat) {x : ai_V} {v : Value}, ai_RS b ad S st → ai_RV b ad x v → ai_RS b ad (S.set j x) (st.set j v)
  | [], [], _, _, _, _, _ => trivial
  | [], _ :: _, _, _, _, h, _ => h.elim
  | _ :: _, [], _, _, _, h, _ => h.elim
  | y :: S, u :: st, 0, x, v, h, hx => ⟨hx, h.2⟩
  | y :: S, u :: st, j + 1, x, v, h, hx => ⟨h.1, ai_RS.set j h.2 hx⟩
theorem ai_RS.len {b : Nat} {ad : List Nat} : ∀ {S : List ai_V} {st : List Value}, ai_RS b ad S st → S.length = st.length
  | [], [], _ => rfl
  | [], _ :: _, h => h.elim
  | _ :: _, [], h => h.elim
  | _ :: S, _ :: st, h => congrArg (· + 1) (ai_RS.len h.2)
def ai_cat : ai_V → Nat
  | .inr (.inr _) => 2
  | _ => 1
theorem ai_RV.cat {b : Nat} {ad : List Nat} {x : ai_V} {v : Value} (h : ai_RV b ad x v) : v.category = ai_cat x := by
  match x, h with
  | .inl none, h => cases h; rfl
  | .inl (some 0), h => cases h; rfl
  | .inl (some 1), h => obtain ⟨a, rfl⟩ := h; rfl
  | .inl (some (k + 2)), h => obtain ⟨a, -, rfl⟩ := h; rfl
  | .inr (.inl q), h => obtain ⟨a, rfl, -⟩ := h; rfl
  | .inr (.inr q), h => obtain ⟨a, rfl, -⟩ := h; rfl
/-- locals -/
def ai_RL (b : Nat) (ad : List Nat) (nL : Nat) (L : ai_Ls) (ls : Array Slot) : Prop := ∃ lv : List (Nat × Value), lv_has ls nL lv ∧ ∀ q ∈ L, ∃ v, (q.1, v) ∈ lv ∧ ai_RV b ad q.2 v
theorem ai_RL.mono {b : Nat} {ad : List Nat} (t : List Nat) {nL : Nat} {L : ai_Ls} {ls : Array Slot} (h : ai_RL b ad nL L ls) : ai_RL b (ad ++ t) nL L ls := by
  obtain ⟨lv, h1, h2⟩ := h
  refine ⟨lv, h1, fun q hq => ?_⟩
  obtain ⟨v, h3, h4⟩ := h2 q hq
  exact ⟨v, h3, h4.mono t⟩
def ai_lk : ai_Ls → Nat → Option ai_V
  | [], _ => none
  | q :: r, i => bif Nat.beq q.1 i then some q.2 else ai_lk r i
theorem ai_lk_mem : ∀ {L : ai_Ls} {i : Nat} {x : ai_V}, ai_lk L i = some x → (i, x) ∈ L
  | [], _, _, h => by cases h
  | q :: r, i, x, h => by
    unfold ai_lk at h
    cases hc : Nat.beq q.1 i with
    | true =>
      rw [hc] at h
      cases h
      have := Nat.eq_of_beq_eq_true hc
      subst this
      exact List.mem_cons_self
    | false =>
      rw [hc] at h
      exact List.mem_cons_of_mem _ (ai_lk_mem h)
theorem ai_RL.at {b : Nat} {ad : List Nat} {nL : Nat} {L : ai_Ls} {ls : Array Slot} {i : Nat} {x : ai_V} (h : ai_RL b ad nL L ls) (hi : ai_lk L i = some x) : ∃ v, ls[i]? = some (.val v) ∧ ai_RV b ad x v := by
  obtain ⟨lv, h1, h2⟩ := h
  obtain ⟨v, h3, h4⟩ := h2 _ (ai_lk_mem hi)
  exact ⟨v, h1.2.2 _ h3, h4⟩
def ai_st (L : ai_Ls) (i : Nat) (x : ai_V) : ai_Ls := (i, x) :: L.filter (fun q => !(Nat.beq q.1 i) && !(Nat.beq (q.1 + 1) i && Nat.beq (ai_cat q.2) 2))
theorem ai_beq (a b : Nat) : Nat.beq a b = (a == b) := by
  rw [Bool.eq_iff_iff, Nat.beq_eq]
  simp
theorem ai_RL.st {b : Nat} {ad : List Nat} {nL : Nat} {L : ai_Ls} {lv : List (Nat × Value)} {ls' : Array Slot} {i : Nat} {x : ai_V} {v : Value} (h2 : ∀ q ∈ L, ∃ v, (q.1, v) ∈ lv ∧ ai_RV b ad q.2 v) (hx : ai_RV b ad x v)
    (h1 : lv_has ls' nL ((i, v) :: lv.filter (fun q => !(q.1 == i) && !(q.1 + 1 == i && q.2.category == 2)))) : ai_RL b ad nL (ai_st L i x) ls' := by
  refine ⟨_, h1, fun q hq => ?_⟩
  unfold ai_st at hq
  rcases List.mem_cons.mp hq with rfl | hq
  · exact ⟨v, List.mem_cons_self, hx⟩
  · obtain ⟨hq1, hq2⟩ := List.mem_filter.mp hq
    obtain ⟨u, h3, h4⟩ := h2 q hq1
    refine ⟨u, List.mem_cons_of_mem _ (List.mem_filter.mpr ⟨h3, ?_⟩), h4⟩
    simp only [ai_beq] at hq2
    rw [h4.cat]
    exact hq2
def ai_len : Instr → Nat
  | .iload _ | .lload _ | .aload _ | .istore _ | .lstore _ | .astore _ | .bipush _ | .ldc _ | .newarray _ => 2
  | .sipush _ | .ldc2_w _ | .iinc _ _ | .ifCond _ _ | .if_icmp _ _ | .ifnull _ | .ifnonnull _ | .goto _ | .getfield _ | .putfield _ | .new _ | .anewarray _ | .invokevirtual _ | .invokestatic _ | .invokespecial _ => 3
  | .multianewarray _ _ => 4
  | _ => 1
/-- constants, locals, the stack -/
def ai_ldI (L : ai_Ls) (i : Nat) (S : List ai_V) : Option (ai_Ls × List ai_V) := match ai_lk L i with
  | some (.inr (.inl q)) => some (L, .inr (.inl q) :: S)
  | _ => none
def ai_ldL (L : ai_Ls) (i : Nat) (S : List ai_V) : Option (ai_Ls × List ai_V) := match ai_lk L i with
  | some (.inr (.inr q)) => some (L, .inr (.inr q) :: S)
  | _ => none
def ai_ldA (L : ai_Ls) (i : Nat) (S : List ai_V) : Option (ai_Ls × List ai_V) := match ai_lk L i with
  | some (.inl q) => some (L, .inl q :: S)
  | _ => none
def ai_stI (nL : Nat) (L : ai_Ls) (i : Nat) (S : List ai_V) : Option (ai_Ls × List ai_V) := match S with
  | .inr (.inl q) :: r => bif Nat.blt i nL then some (ai_st L i (.inr (.inl q)), r) else none
  | _ => none
def ai_stA (nL : Nat) (L : ai_Ls) (i : Nat) (S : List ai_V) : Option (ai_Ls × List ai_V) := match S with
  | .inl q :: r => bif Nat.blt i nL then some (ai_st L i (.inl q), r) else none
  | _ => none
def ai_gL (ins : Instr) (nL : Nat) (z : Int) (L : ai_Ls) (S : List ai_V) : Option (ai_Ls × List ai_V) := match ins with
  | .iconst n => bif ai_le (-1) n && ai_le n 5 then some (L, .inr (.inl (n, n)) :: S) else none
  | .bipush n => bif ai_le (-128) n && ai_le n 127 then some (L, .inr (.inl (n, n)) :: S) else none
  | .sipush n => bif ai_le (-32768) n && ai_le n 32767 then some (L, .inr (.inl (n, n)) :: S) else none
  | .lconst n => some (L, .inr (.inr (.ofNat n.val, .ofNat n.val)) :: S)
  | .ldc2_w _ => some (L, .inr (.inr (z, z)) :: S)
  | .ldc _ => some (L, .inl (some 1) :: S)
  | .aconst_null => some (L, .inl none :: S)
  | .iload_n k => ai_ldI L k.val S
  | .iload i => ai_ldI L i S
  | .lload_n k => ai_ldL L k.val S
  | .lload i => ai_ldL L i S
  | .aload_n k => ai_ldA L k.val S
  | .aload i => ai_ldA L i S
  | .istore_n k => ai_stI nL L k.val S
  | .istore i => ai_stI nL L i S
  | .astore_n k => ai_stA nL L k.val S
  | .astore i => ai_stA nL L i S
  | .iinc i n => (match ai_lk L i with
    | some (.inr (.inl q)) => bif Nat.blt i nL && (ai_le (-32768) n && ai_le n 32767) then some (ai_st L i (.inr (.inl (ai_nm (q.1 + n) (q.2 + n)))), S) else none
    | _ => none)
  | .dup => (match S with
    | x :: r => bif Nat.beq (ai_cat x) 1 then some (L, x :: x :: r) else none
    | _ => none)
  | .dup2 => (match S with
    | x :: r => bif Nat.beq (ai_cat x) 2 then some (L, x :: x :: r) else (match r with
      | y :: r' => bif Nat.beq (ai_cat x) 1 && Nat.beq (ai_cat y) 1 then some (L, x :: y :: x :: y :: r') else none
      | _ => none)
    | _ => none)
  | .dup_x1 => (match S with
    | x :: y :: r => bif Nat.beq (ai_cat x) 1 && Nat.beq (ai_cat y) 1 then some (L, x :: y :: x :: r) else none
    | _ => none)
  | .pop => (match S with
    | x :: r => bif Nat.beq (ai_cat x) 1 then some (L, r) else none
    | _ => none)
  | _ => none
theorem ai_bif {α : Type} {c : Bool} {x y : α} (h : (bif c then some x else none) = some y) : c = true ∧ x = y := by
  cases c with
  | true => exact ⟨rfl, Option.some.inj h⟩
  | false => cases h
section AIL
variable {p : Program} {l : Launch} {e : Env} {R : Room} {s : State} {m : MethodId} {args : Array Value} {below : List Frame} {meth : Method} {c : Code} {H : Heap} {locs : List Loc} {cells slots : Nat} {Q : State → Prop}
variable {cc : ByteArray} {pc : Nat} {ls : Array Slot} {st : List Value} {b nL : Nat} {ad : List Nat} {L L' : ai_Ls} {S S' : List ai_V}
theorem ai_ldI_ok {i : Nat} (h : ai_ldI L i S = some (L', S')) (hL : ai_RL b ad nL L ls) (hS : ai_RS b ad S st) : ∃ x : Int32, ls[i]? = some (.val (.int x)) ∧ ai_RL b ad nL L' ls ∧ ai_RS b ad S' (.int x :: st) := by
  unfold ai_ldI at h
  split at h
  · next q hq =>
    cases h
    obtain ⟨v, h1, x, rfl, h2⟩ := hL.at hq
    exact ⟨x, h1, hL, ⟨x, rfl, h2⟩, hS⟩
  · cases h
theorem ai_ldL_ok {i : Nat} (h : ai_ldL L i S = some (L', S')) (hL : ai_RL b ad nL L ls) (hS : ai_RS b ad S st) : ∃ x : Int64, ls[i]? = some (.val (.long x)) ∧ ai_RL b ad nL L' ls ∧ ai_RS b ad S' (.long x :: st) := by
  unfold ai_ldL at h
  split at h
  · next q hq =>
    cases h
    obtain ⟨v, h1, x, rfl, h2⟩ := hL.at hq
    exact ⟨x, h1, hL, ⟨x, rfl, h2⟩, hS⟩
  · cases h
theorem ai_RV.ref {q : Option Nat} {v : Value} (h : ai_RV b ad (.inl q) v) : v = .null ∨ ∃ a : Nat, v = .ref a := by
  match q, h with
  | none, h => exact Or.inl h
  | some 0, h => exact Or.inr ⟨_, h⟩
  | some 1, h => exact Or.inr h
  | some (k + 2), h => obtain ⟨a, -, h⟩ := h; exact Or.inr ⟨a, h⟩
theorem ai_ldA_ok {i : Nat} (h : ai_ldA L i S = some (L', S')) (hL : ai_RL b ad nL L ls) (hS : ai_RS b ad S st) : ∃ v : Value, (v = .null ∨ ∃ a : Nat, v = .ref a) ∧ ls[i]? = some (.val v) ∧ ai_RL b ad nL L' ls ∧ ai_RS b ad S' (v :: st) := by
  unfold ai_ldA at h
  split at h
  · next q hq =>
    cases h
    obtain ⟨v, h1, h2⟩ := hL.at hq
    exact ⟨v, h2.ref, h1, hL, h2, hS⟩
  · cases h
theorem ai_stI_ok {i : Nat} (h : ai_stI nL L i S = some (L', S')) (hL : ai_RL b ad nL L ls) (hS : ai_RS b ad S st) : ∃ (x : Int32) (st' : List Value) (lv : List (Nat × Value)), st = .int x :: st' ∧ i < nL ∧ lv_has ls nL lv ∧ ai_RS b ad S' st' ∧ ∀ ls' : Array Slot, lv_has ls' nL ((i, .int x) :: lv.filter (fun q => !(q.1 == i) && !(q.1 + 1 == i && q.2.category == 2))) → ai_RL b ad nL L' ls' := by
  unfold ai_stI at h
  split at h
  · next q r =>
    obtain ⟨h1, h2⟩ := ai_bif h
    cases h2
    match st, hS with
    | v :: st', hS =>
      obtain ⟨x, rfl, hx⟩ := hS.1
      obtain ⟨lv, h3, h4⟩ := hL
      exact ⟨x, st', lv, rfl, by simpa using h1, h3, hS.2, fun ls' h5 => ai_RL.st h4 ⟨x, rfl, hx⟩ h5⟩
  · cases h
theorem ai_stA_ok {i : Nat} (h : ai_stA nL L i S = some (L', S')) (hL : ai_RL b ad nL L ls) (hS : ai_RS b ad S st) : ∃ (v : Value) (st' : List Value) (lv : List (Nat × Value)), (v = .null ∨ ∃ a : Nat, v = .ref a) ∧ st = v :: st' ∧ i < nL ∧ lv_has ls nL lv ∧ ai_RS b ad S' st' ∧ ∀ ls' : Array Slot, lv_has ls' nL ((i, v) :: lv.filter (fun q => !(q.1 == i) && !(q.1 + 1 == i && q.2.category == 2))) → ai_RL b ad nL L' ls' := by
  unfold ai_stA at h
  split at h
  · next q r =>
    obtain ⟨h1, h2⟩ := ai_bif h
    cases h2
    match st, hS with
    | v :: st', hS =>
      obtain ⟨lv, h3, h4⟩ := hL
      exact ⟨v, st', lv, hS.1.ref, rfl, by simpa using h1, h3, hS.2, fun ls' h5 => ai_RL.st h4 hS.1 h5⟩
  · cases h
end AIL
end
section
/-! ===== one instruction of an abstract run: constants, locals, the stack; numbers; branches ===== -/
theorem ai_toI {n : Int} (h1 : -2147483648 ≤ n) (h2 : n ≤ 2147483647) : (Int32.ofInt n).toInt = n := Int32.toInt_ofInt_of_le (by omega) (by omega)
theorem ai_RV.rsm {b : Nat} {ad : List Nat} {k : Nat} {v : Value} (h : ai_RV b ad (.inl (some k)) v) : ∃ a : Nat, v = .ref a := by
  match k, h with
  | 0, v => exact ⟨_, v⟩
  | 1, v => exact v
  | k + 2, v => obtain ⟨a, -, v⟩ := v; exact ⟨a, v⟩
section AIG
variable {p : Program} {l : Launch} {e : Env} {R : Room} {s : State} {m : MethodId} {args : Array Value} {below : List Frame} {meth : Method} {c : Code} {H : Heap} {locs : List Loc} {cells slots : Nat} {Q : State → Prop}
variable {cc : ByteArray} {pc : Nat} {ls : Array Slot} {st : List Value} {b nL : Nat} {ad : List Nat} {L L' : ai_Ls} {S S' : List ai_V}
theorem ai_gL_ok (hx : p.tables.exec = Jvm.exec) (hb : c.code = cc) {own : String} (hown : s.vm.findClass own = some m.cls) {ins : Instr} {z : Int} (hd : decode cc pc = .ok (ins, ai_len ins))
    (hc2 : ∀ i, ins = .ldc2_w i → ∃ v : Int64, v.toInt = z ∧ (Cond.constantLong own i v).before args s = true)
    (hcS : ∀ i, ins = .ldc i → ∃ (tx : String) (q : Nat), vk_R own i tx q s)
    (h : ai_gL ins nL z L S = some (L', S')) (hL : ai_RL b ad nL L ls) (hS : ai_RS b ad S st)
    (kk : ∀ (ls' : Array Slot) (st' : List Value), ai_RL b ad nL L' ls' → ai_RS b ad S' st' → W p l e R s m args below meth c H locs cells slots Q (F0 m (pc + ai_len ins) ls' st')) : W p l e R s m args below meth c H locs cells slots Q (F0 m pc ls st) := by
  unfold ai_gL at h
  split at h
  · next n =>
    obtain ⟨h1, h2⟩ := ai_bif h
    cases h2
    rw [Bool.and_eq_true, ai_le_iff, ai_le_iff] at h1
    have e1 := ai_toI (n := n) (by omega) (by omega)
    exact lv_iconst hx hb hd rfl (kk _ _ hL ⟨⟨_, rfl, by rw [e1]; exact Int.le_refl _, by rw [e1]; exact Int.le_refl _⟩, hS⟩)
  · next n =>
    obtain ⟨h1, h2⟩ := ai_bif h
    cases h2
    rw [Bool.and_eq_true, ai_le_iff, ai_le_iff] at h1
    have e1 : (Int8.ofInt n).toInt32.toInt = n := by rw [Int8.toInt_toInt32]; exact Int8.toInt_ofInt_of_le (by omega) (by omega)
    exact lv_bipush hx hb hd rfl (kk _ _ hL ⟨⟨_, rfl, by rw [e1]; exact Int.le_refl _, by rw [e1]; exact Int.le_refl _⟩, hS⟩)
  · next n =>
    obtain ⟨h1, h2⟩ := ai_bif h
    cases h2
    rw [Bool.and_eq_true, ai_le_iff, ai_le_iff] at h1
    have e1 : (Int16.ofInt n).toInt32.toInt = n := by rw [Int16.toInt_toInt32]; exact Int16.toInt_ofInt_of_le (by omega) (by omega)
    exact lv_sipush hx hb hd rfl (kk _ _ hL ⟨⟨_, rfl, by rw [e1]; exact Int.le_refl _, by rw [e1]; exact Int.le_refl _⟩, hS⟩)
  · next n =>
    cases h
    have e1 : (Int64.ofNat n.val).toInt = (n.val : Int) := Int64.toInt_ofNat_of_lt (by have := n.isLt; omega)
    exact lv_lconst hx hb hd rfl (kk _ _ hL ⟨⟨_, rfl, by rw [e1]; exact Int.le_refl _, by rw [e1]; exact Int.le_refl _⟩, hS⟩)
  · next i =>
    cases h
    obtain ⟨v, hv, hc⟩ := hc2 i rfl
    exact lv_ldc2 hx hb hown hc hd (kk _ _ hL ⟨⟨_, rfl, by rw [hv]; exact Int.le_refl _, by rw [hv]; exact Int.le_refl _⟩, hS⟩)
  · next i =>
    cases h
    obtain ⟨tx, q, hc⟩ := hcS i rfl
    exact va_ldcS hx hb hown hc hd (kk _ _ hL ⟨⟨_, rfl⟩, hS⟩)
  · cases h
    exact lv_null hx hb hd (kk _ _ hL ⟨rfl, hS⟩)
  · next k =>
    obtain ⟨x, h1, h2, h3⟩ := ai_ldI_ok h hL hS
    exact lv_iload_n hx hb hd rfl h1 (kk _ _ h2 h3)
  · next k =>
    obtain ⟨x, h1, h2, h3⟩ := ai_ldI_ok h hL hS
    exact lv_iload hx hb hd h1 (kk _ _ h2 h3)
  · next k =>
    obtain ⟨x, h1, h2, h3⟩ := ai_ldL_ok h hL hS
    exact lv_lload_n hx hb hd rfl h1 (kk _ _ h2 h3)
  · next k =>
    obtain ⟨x, h1, h2, h3⟩ := ai_ldL_ok h hL hS
    exact lv_lload hx hb hd h1 (kk _ _ h2 h3)
  · next k =>
    obtain ⟨x, h0, h1, h2, h3⟩ := ai_ldA_ok h hL hS
    rcases h0 with rfl | ⟨a, rfl⟩
    · exact lv_aload_nN hx hb hd rfl h1 (kk _ _ h2 h3)
    · exact lv_aload_n hx hb hd rfl h1 (kk _ _ h2 h3)
  · next k =>
    obtain ⟨x, h0, h1, h2, h3⟩ := ai_ldA_ok h hL hS
    rcases h0 with rfl | ⟨a, rfl⟩
    · exact lv_aloadN hx hb hd h1 (kk _ _ h2 h3)
    · exact lv_aload hx hb hd h1 (kk _ _ h2 h3)
  · next k =>
    obtain ⟨x, st', lv, rfl, h1, h2, h3, h4⟩ := ai_stI_ok h hL hS
    exact lv_istore_n hx hb hd rfl h2 h1 rfl (fun ls' h5 => kk _ _ (h4 _ h5) h3)
  · next k =>
    obtain ⟨x, st', lv, rfl, h1, h2, h3, h4⟩ := ai_stI_ok h hL hS
    exact lv_istore hx hb hd h2 h1 rfl (fun ls' h5 => kk _ _ (h4 _ h5) h3)
  · next k =>
    obtain ⟨x, st', lv, h0, rfl, h1, h2, h3, h4⟩ := ai_stA_ok h hL hS
    rcases h0 with rfl | ⟨a, rfl⟩
    · exact lv_astore_nN hx hb hd rfl h2 h1 rfl (fun ls' h5 => kk _ _ (h4 _ h5) h3)
    · exact lv_astore_n hx hb hd rfl h2 h1 rfl (fun ls' h5 => kk _ _ (h4 _ h5) h3)
  · next k =>
    obtain ⟨x, st', lv, h0, rfl, h1, h2, h3, h4⟩ := ai_stA_ok h hL hS
    rcases h0 with rfl | ⟨a, rfl⟩
    · exact lv_astoreN hx hb hd h2 h1 rfl (fun ls' h5 => kk _ _ (h4 _ h5) h3)
    · exact lv_astore hx hb hd h2 h1 rfl (fun ls' h5 => kk _ _ (h4 _ h5) h3)
  · next i n =>
    split at h
    · next q hq =>
      obtain ⟨h1, h2⟩ := ai_bif h
      cases h2
      rw [Bool.and_eq_true, Bool.and_eq_true, ai_le_iff, ai_le_iff] at h1
      obtain ⟨h1, h1a, h1b⟩ := h1
      have hi : i < nL := by simpa using h1
      obtain ⟨lv, g1, g2⟩ := hL
      obtain ⟨v, g3, x, rfl, g4, g5⟩ := g2 _ (ai_lk_mem hq)
      obtain ⟨k, hk⟩ := List.getElem?_of_mem g3
      have e1 : (x + Int32.ofInt n).toInt = (x.toInt + n).bmod (2 ^ 32) := by
        rw [Int32.toInt_add, ai_toI (n := n) (by omega) (by omega)]
      exact lv_iinc hx hb hd g1 hk rfl hi rfl (fun ls' h5 => kk _ _ (ai_RL.st g2 ⟨_, rfl, by rw [e1]; exact ai_nm_ok (by omega) (by omega)⟩ h5) hS)
    · cases h
  · split at h
    · next x r =>
      obtain ⟨h1, h2⟩ := ai_bif h
      cases h2
      match st, hS with
      | v :: st', hS => exact lv_dup hx hb hd (by rw [hS.1.cat]; exact Nat.eq_of_beq_eq_true h1) (kk _ _ hL ⟨hS.1, hS⟩)
    · cases h
  · split at h
    · next x r =>
      cases hc : Nat.beq (ai_cat x) 2 with
      | true =>
        rw [hc] at h
        cases h
        match st, hS with
        | v :: st', hS => exact lv_dup2_2 hx hb hd (by rw [hS.1.cat]; exact Nat.eq_of_beq_eq_true hc) (kk _ _ hL ⟨hS.1, hS⟩)
      | false =>
        rw [hc] at h
        simp only [cond_false] at h
        split at h
        · next y r' =>
          obtain ⟨h1, h2⟩ := ai_bif h
          cases h2
          rw [Bool.and_eq_true] at h1
          match st, hS with
          | v :: u :: st', hS => exact lv_dup2_11 hx hb hd (by rw [hS.1.cat]; exact Nat.eq_of_beq_eq_true h1.1) (by rw [hS.2.1.cat]; exact Nat.eq_of_beq_eq_true h1.2) (kk _ _ hL ⟨hS.1, hS.2.1, hS⟩)
          | [_], hS => exact hS.2.elim
        · cases h
    · cases h
  · split at h
    · next x y r =>
      obtain ⟨h1, h2⟩ := ai_bif h
      cases h2
      rw [Bool.and_eq_true] at h1
      match st, hS with
      | v :: u :: st', hS => exact lv_dup_x1 hx hb hd (by rw [hS.1.cat]; exact Nat.eq_of_beq_eq_true h1.1) (by rw [hS.2.1.cat]; exact Nat.eq_of_beq_eq_true h1.2) (kk _ _ hL ⟨hS.1, hS.2.1, hS.1, hS.2.2⟩)
      | [_], hS => exact hS.2.elim
    · cases h
  · split at h
    · next x r =>
      obtain ⟨h1, h2⟩ := ai_bif h
      cases h2
      match st, hS with
      | v :: st', hS => exact lv_pop hx hb hd (by rw [hS.1.cat]; exact Nat.eq_of_beq_eq_true h1) (kk _ _ hL hS.2)
    · cases h
  · cases h
/-- numbers -/
def ai_01 (q : Int × Int) : Option Bool := bif ai_le 0 q.1 && ai_le q.2 0 then some false else bif ai_le 1 q.1 && ai_le q.2 1 then some true else none
def ai_gI (ins : Instr) (S : List ai_V) : Option (List ai_V) := match ins with
  | .iadd => (match S with
    | .inr (.inl y) :: .inr (.inl x) :: r => some (.inr (.inl (ai_nm (x.1 + y.1) (x.2 + y.2))) :: r)
    | _ => none)
  | .isub => (match S with
    | .inr (.inl y) :: .inr (.inl x) :: r => some (.inr (.inl (ai_nm (x.1 - y.2) (x.2 - y.1))) :: r)
    | _ => none)
  | .imul => (match S with
    | .inr (.inl y) :: .inr (.inl x) :: r => some (.inr (.inl (bif ai_le x.2 x.1 && ai_le y.2 y.1 then ai_nm (x.1 * y.1) (x.1 * y.1) else ai_tI)) :: r)
    | _ => none)
  | .iand => (match S with
    | .inr (.inl y) :: .inr (.inl x) :: r => some (.inr (.inl (match ai_01 x, ai_01 y with
      | some u, some v => bif u && v then (1, 1) else (0, 0)
      | _, _ => ai_tI)) :: r)
    | _ => none)
  | .ineg => (match S with
    | .inr (.inl x) :: r => some (.inr (.inl (ai_nm (-x.2) (-x.1))) :: r)
    | _ => none)
  | .ishr => (match S with
    | .inr (.inl _) :: .inr (.inl _) :: r => some (.inr (.inl ai_tI) :: r)
    | _ => none)
  | .i2b => (match S with
    | .inr (.inl _) :: r => some (.inr (.inl ai_tI) :: r)
    | _ => none)
  | .i2l => (match S with
    | .inr (.inl x) :: r => some (.inr (.inr x) :: r)
    | _ => none)
  | .land => (match S with
    | .inr (.inr _) :: .inr (.inr _) :: r => some (.inr (.inr ai_tL) :: r)
    | _ => none)
  | .lor => (match S with
    | .inr (.inr _) :: .inr (.inr _) :: r => some (.inr (.inr ai_tL) :: r)
    | _ => none)
  | .lshl => (match S with
    | .inr (.inl _) :: .inr (.inr _) :: r => some (.inr (.inr ai_tL) :: r)
    | _ => none)
  | .lcmp => (match S with
    | .inr (.inr y) :: .inr (.inr x) :: r => some (.inr (.inl (bif ai_lt y.2 x.1 then 1 else bif ai_le y.2 x.1 then 0 else -1, bif ai_lt x.2 y.1 then -1 else bif ai_le x.2 y.1 then 0 else 1)) :: r)
    | _ => none)
  | _ => none
theorem ai_01_ok {q : Int × Int} {t : Bool} {x : Int32} (h : ai_01 q = some t) (h1 : q.1 ≤ x.toInt) (h2 : x.toInt ≤ q.2) : x = if t then 1 else 0 := by
  unfold ai_01 at h
  cases hc : (ai_le 0 q.1 && ai_le q.2 0) with
  | true =>
    rw [hc] at h
    cases h
    rw [Bool.and_eq_true, ai_le_iff, ai_le_iff] at hc
    exact Int32.toInt_inj.mp (by show x.toInt = 0; omega)
  | false =>
    rw [hc] at h
    simp only [cond_false] at h
    obtain ⟨hc, h⟩ := ai_bif h
    cases h
    rw [Bool.and_eq_true, ai_le_iff, ai_le_iff] at hc
    exact Int32.toInt_inj.mp (by show x.toInt = 1; omega)
theorem ai_lcmp_ok {q r : Int × Int} {x y : Int64} (h1 : q.1 ≤ x.toInt) (h2 : x.toInt ≤ q.2) (h3 : r.1 ≤ y.toInt) (h4 : y.toInt ≤ r.2) :
    (bif ai_lt r.2 q.1 then (1 : Int) else bif ai_le r.2 q.1 then 0 else -1) ≤ (lg_cmp x y).toInt ∧ (lg_cmp x y).toInt ≤ (bif ai_lt q.2 r.1 then (-1 : Int) else bif ai_le q.2 r.1 then 0 else 1) := by
  have e : (lg_cmp x y).toInt = if y.toInt < x.toInt then 1 else if x.toInt = y.toInt then 0 else -1 := by
    unfold lg_cmp
    simp only [gt_iff_lt, Int64.lt_iff_toInt_lt, ← Int64.toInt_inj]
    split
    · rfl
    · split <;> rfl
  rw [e]
  have k1 := ai_lt_iff r.2 q.1
  have k2 := ai_le_iff r.2 q.1
  have k3 := ai_lt_iff q.2 r.1
  have k4 := ai_le_iff q.2 r.1
  constructor
  · cases c1 : ai_lt r.2 q.1 with
    | true =>
      have := k1.mp c1
      simp only [cond_true]
      split <;> omega
    | false =>
      simp only [cond_false]
      cases c2 : ai_le r.2 q.1 with
      | true =>
        have := k2.mp c2
        simp only [cond_true]
        split
        · omega
        · split <;> omega
      | false =>
        simp only [cond_false]
        split
        · omega
        · split <;> omega
  · cases c1 : ai_lt q.2 r.1 with
    | true =>
      have := k3.mp c1
      simp only [cond_true]
      split
      · omega
      · split <;> omega
    | false =>
      simp only [cond_false]
      cases c2 : ai_le q.2 r.1 with
      | true =>
        have := k4.mp c2
        simp only [cond_true]
        split
        · omega
        · split <;> omega
      | false =>
        simp only [cond_false]
        split
        · omega
        · split <;> omega
theorem ai_gI_ok (hx : p.tables.exec = Jvm.exec) (hb : c.code = cc) {ins : Instr} (hd : decode cc pc = .ok (ins, ai_len ins)) (h : ai_gI ins S = some S') (hS : ai_RS b ad S st)
    (kk : ∀ st' : List Value, ai_RS b ad S' st' → W p l e R s m args below meth c H locs cells slots Q (F0 m (pc + ai_len ins) ls st')) : W p l e R s m args below meth c H locs cells slots Q (F0 m pc ls st) := by
  unfold ai_gI at h
  split at h
  · split at h
    · next y x r =>
      cases h
      match st, hS with
      | _ :: _ :: st', ⟨⟨v, rfl, a1, a2⟩, ⟨u, rfl, b1, b2⟩, hS⟩ => exact lv_iadd hx hb hd (kk _ ⟨⟨_, rfl, by rw [Int32.toInt_add]; exact ai_nm_ok (by omega) (by omega)⟩, hS⟩)
      | [_], hS => exact hS.2.elim
    · cases h
  · split at h
    · next y x r =>
      cases h
      match st, hS with
      | _ :: _ :: st', ⟨⟨v, rfl, a1, a2⟩, ⟨u, rfl, b1, b2⟩, hS⟩ => exact lv_isub hx hb hd (kk _ ⟨⟨_, rfl, by rw [Int32.toInt_sub]; exact ai_nm_ok (by omega) (by omega)⟩, hS⟩)
      | [_], hS => exact hS.2.elim
    · cases h
  · split at h
    · next y x r =>
      cases h
      match st, hS with
      | _ :: _ :: st', ⟨⟨v, rfl, a1, a2⟩, ⟨u, rfl, b1, b2⟩, hS⟩ =>
        refine lv_imul hx hb hd (kk _ ⟨⟨_, rfl, ?_⟩, hS⟩)
        cases hc : (ai_le x.2 x.1 && ai_le y.2 y.1) with
        | true =>
          simp only [cond_true]
          rw [Bool.and_eq_true, ai_le_iff, ai_le_iff] at hc
          have e1 : u.toInt = x.1 := by omega
          have e2 : v.toInt = y.1 := by omega
          rw [Int32.toInt_mul, e1, e2]
          exact ai_nm_ok (Int.le_refl _) (Int.le_refl _)
        | false =>
          simp only [cond_false]
          exact ai_tI_ok _
      | [_], hS => exact hS.2.elim
    · cases h
  · split at h
    · next y x r =>
      cases h
      match st, hS with
      | _ :: _ :: st', ⟨⟨v, rfl, a1, a2⟩, ⟨u, rfl, b1, b2⟩, hS⟩ =>
        refine lv_iand hx hb hd (kk _ ⟨⟨_, rfl, ?_⟩, hS⟩)
        split
        · next t1 t2 e1 e2 =>
          rw [ai_01_ok e1 b1 b2, ai_01_ok e2 a1 a2]
          cases t1 <;> cases t2 <;> decide
        · exact ai_tI_ok _
      | [_], hS => exact hS.2.elim
    · cases h
  · split at h
    · next x r =>
      cases h
      match st, hS with
      | _ :: st', ⟨⟨v, rfl, a1, a2⟩, hS⟩ => exact lv_ineg hx hb hd (kk _ ⟨⟨_, rfl, by rw [Int32.toInt_neg]; exact ai_nm_ok (by omega) (by omega)⟩, hS⟩)
    · cases h
  · split at h
    · next y x r =>
      cases h
      match st, hS with
      | _ :: _ :: st', ⟨⟨v, rfl, a1, a2⟩, ⟨u, rfl, b1, b2⟩, hS⟩ => exact lv_ishr hx hb hd (kk _ ⟨⟨_, rfl, ai_tI_ok _⟩, hS⟩)
      | [_], hS => exact hS.2.elim
    · cases h
  · split at h
    · next x r =>
      cases h
      match st, hS with
      | _ :: st', ⟨⟨v, rfl, a1, a2⟩, hS⟩ => exact lv_i2b hx hb hd rfl (kk _ ⟨⟨_, rfl, ai_tI_ok _⟩, hS⟩)
    · cases h
  · split at h
    · next x r =>
      cases h
      match st, hS with
      | _ :: st', ⟨⟨v, rfl, a1, a2⟩, hS⟩ => exact lv_i2l hx hb hd rfl (kk _ ⟨⟨_, rfl, by rw [Int32.toInt_toInt64]; exact ⟨a1, a2⟩⟩, hS⟩)
    · cases h
  · split at h
    · next y x r =>
      cases h
      match st, hS with
      | _ :: _ :: st', ⟨⟨v, rfl, a1, a2⟩, ⟨u, rfl, b1, b2⟩, hS⟩ => exact lv_land hx hb hd (kk _ ⟨⟨_, rfl, ai_tL_ok _⟩, hS⟩)
      | [_], hS => exact hS.2.elim
    · cases h
  · split at h
    · next y x r =>
      cases h
      match st, hS with
      | _ :: _ :: st', ⟨⟨v, rfl, a1, a2⟩, ⟨u, rfl, b1, b2⟩, hS⟩ => exact lv_lor hx hb hd (kk _ ⟨⟨_, rfl, ai_tL_ok _⟩, hS⟩)
      | [_], hS => exact hS.2.elim
    · cases h
  · split at h
    · next y x r =>
      cases h
      match st, hS with
      | _ :: _ :: st', ⟨⟨v, rfl, a1, a2⟩, ⟨u, rfl, b1, b2⟩, hS⟩ => exact lv_lshl hx hb hd rfl (kk _ ⟨⟨_, rfl, ai_tL_ok _⟩, hS⟩)
      | [_], hS => exact hS.2.elim
    · cases h
  · split at h
    · next y x r =>
      cases h
      match st, hS with
      | _ :: _ :: st', ⟨⟨v, rfl, a1, a2⟩, ⟨u, rfl, b1, b2⟩, hS⟩ => exact W.lcmp hx hb hd (kk _ ⟨⟨_, rfl, ai_lcmp_ok b1 b2 a1 a2⟩, hS⟩)
      | [_], hS => exact hS.2.elim
    · cases h
  · cases h
/-- branches: where to, none: on -/
def ai_ceq (x y : Int × Int) : Option Bool := bif ai_le x.2 y.1 && ai_le y.2 x.1 then some true else bif ai_lt x.2 y.1 || ai_lt y.2 x.1 then some false else none
def ai_clt (x y : Int × Int) : Option Bool := bif ai_lt x.2 y.1 then some true else bif ai_le y.2 x.1 then some false else none
def ai_cmp (k : ClassFile.Cond) (x y : Int × Int) : Option Bool := match k with
  | .eq => ai_ceq x y
  | .ne => (ai_ceq x y).map (fun t => !t)
  | .lt => ai_clt x y
  | .ge => (ai_clt x y).map (fun t => !t)
  | .gt => ai_clt y x
  | .le => (ai_clt y x).map (fun t => !t)
theorem ai_ceq_ok {x y : Int × Int} {t : Bool} {u v : Int32} (h : ai_ceq x y = some t) (h1 : x.1 ≤ u.toInt) (h2 : u.toInt ≤ x.2) (h3 : y.1 ≤ v.toInt) (h4 : v.toInt ≤ y.2) : (u = v) ↔ t = true := by
  rw [← Int32.toInt_inj]
  unfold ai_ceq at h
  cases hc : (ai_le x.2 y.1 && ai_le y.2 x.1) with
  | true =>
    rw [hc] at h
    cases h
    rw [Bool.and_eq_true, ai_le_iff, ai_le_iff] at hc
    exact ⟨fun _ => rfl, fun _ => by omega⟩
  | false =>
    rw [hc] at h
    simp only [cond_false] at h
    obtain ⟨hc, h⟩ := ai_bif h
    cases h
    rw [Bool.or_eq_true, ai_lt_iff, ai_lt_iff] at hc
    exact ⟨fun q => by omega, fun q => by cases q⟩
theorem ai_clt_ok {x y : Int × Int} {t : Bool} {u v : Int32} (h : ai_clt x y = some t) (h1 : x.1 ≤ u.toInt) (h2 : u.toInt ≤ x.2) (h3 : y.1 ≤ v.toInt) (h4 : v.toInt ≤ y.2) : (u < v) ↔ t = true := by
  rw [Int32.lt_iff_toInt_lt]
  unfold ai_clt at h
  cases hc : (ai_lt x.2 y.1) with
  | true =>
    rw [hc] at h
    cases h
    rw [ai_lt_iff] at hc
    exact ⟨fun _ => rfl, fun _ => by omega⟩
  | false =>
    rw [hc] at h
    simp only [cond_false] at h
    obtain ⟨hc, h⟩ := ai_bif h
    cases h
    rw [ai_le_iff] at hc
    exact ⟨fun q => by omega, fun q => by cases q⟩
theorem ai_nle {u v : Int32} : (v ≤ u) ↔ ¬ (u < v) := by
  rw [Int32.le_iff_toInt_le, Int32.lt_iff_toInt_lt]
  omega
theorem ai_mapn {o : Option Bool} {t : Bool} (h : o.map (fun t => !t) = some t) : o = some (!t) := by
  cases o with
  | none => cases h
  | some u =>
    have := Option.some.inj h
    rw [← this, Bool.not_not]
def ai_gJ (pc : Nat) (ins : Instr) (a : Nat) (S : List ai_V) : Option (Option Nat × List ai_V) := match ins with
  | .goto _ => some (some a, S)
  | .ifCond k _ => (match S with
    | .inr (.inl x) :: r => (match ai_cmp k x (0, 0) with
      | some t => some (bif t then some a else none, r)
      | none => none)
    | _ => none)
  | .if_icmp k _ => (match S with
    | .inr (.inl y) :: .inr (.inl x) :: r => (match ai_cmp k x y with
      | some t => some (bif t then some a else none, r)
      | none => none)
    | _ => none)
  | .ifnull _ => (match S with
    | .inl none :: r => some (some a, r)
    | .inl (some _) :: r => some (none, r)
    | _ => none)
  | .ifnonnull _ => (match S with
    | .inl none :: r => some (none, r)
    | .inl (some _) :: r => some (some a, r)
    | _ => none)
  | .tableswitch d lo hi offs => (match S with
    | .inr (.inl x) :: r => bif ai_lt x.2 lo || ai_lt hi x.1 then some (some (Int.toNat (pc + d)), r) else bif ai_le x.2 x.1 && (ai_le lo x.1 && ai_le x.1 hi) then (match offs[(x.1 - lo).toNat]? with
      | some o => some (some (Int.toNat (pc + o)), r)
      | none => none) else none
    | _ => none)
  | _ => none
/-- what is to be known of a branch: its target -/
def ai_tg (pc : Nat) (ins : Instr) (a : Nat) : Prop := match ins with
  | .goto o | .ifCond _ o | .if_icmp _ o | .ifnull o | .ifnonnull o => (pc : Int) + o = (a : Int)
  | .tableswitch d _ _ offs => 0 ≤ (pc : Int) + d ∧ ∀ o ∈ offs.toList, 0 ≤ (pc : Int) + o
  | _ => True
theorem ai_gJ_ok (hx : p.tables.exec = Jvm.exec) (hb : c.code = cc) {ins : Instr} {len a : Nat} (hd : decode cc pc = .ok (ins, len)) (hlen : ai_len ins = len ∨ ∃ d lo hi offs, ins = .tableswitch d lo hi offs) (ht : ai_tg pc ins a) {o : Option Nat} (h : ai_gJ pc ins a S = some (o, S')) (hS : ai_RS b ad S st)
    (kk : ∀ st' : List Value, ai_RS b ad S' st' → W p l e R s m args below meth c H locs cells slots Q (F0 m (o.getD (pc + 3)) ls st')) : W p l e R s m args below meth c H locs cells slots Q (F0 m pc ls st) := by
  unfold ai_gJ at h
  split at h
  · next off =>
    cases h
    have e : len = 3 := by rcases hlen with q | ⟨_, _, _, _, q⟩; exact q.symm; cases q
    subst e
    exact lv_goto hx hb hd ht (kk _ hS)
  · next k off =>
    have e : len = 3 := by rcases hlen with q | ⟨_, _, _, _, q⟩; exact q.symm; cases q
    subst e
    split at h
    · next x r =>
      split at h
      · next t hq =>
        cases h
        match st, hS with
        | _ :: st', ⟨⟨v, rfl, a1, a2⟩, hS⟩ =>
          have z1 : ((0 : Int), (0 : Int)).1 ≤ (0 : Int32).toInt := Int.le_refl _
          have z2 : (0 : Int32).toInt ≤ ((0 : Int), (0 : Int)).2 := Int.le_refl _
          have kt : t = true → W p l e R s m args below meth c H locs cells slots Q (F0 m a ls st') := fun q => by subst q; exact kk _ hS
          have kf : t = false → W p l e R s m args below meth c H locs cells slots Q (F0 m (pc + 3) ls st') := fun q => by subst q; exact kk _ hS
          cases k with
          | eq =>
            have g := ai_ceq_ok hq a1 a2 z1 z2
            exact lv_if_eq hx hb hd ht (fun q => kt (g.mp q)) (fun q => kf (Bool.eq_false_iff.mpr (fun y => q (g.mpr y))))
          | ne =>
            have g := ai_ceq_ok (ai_mapn hq) a1 a2 z1 z2
            exact lv_if_ne hx hb hd ht (fun q => kt (by cases t with | true => rfl | false => exact absurd (g.mpr rfl) q)) (fun q => kf (by cases t with | false => rfl | true => exact absurd (g.mp q) (by decide)))
          | lt =>
            have g := ai_clt_ok hq a1 a2 z1 z2
            exact lv_if_lt hx hb hd ht (fun q => kt (g.mp q)) (fun q => kf (Bool.eq_false_iff.mpr (fun y => q (g.mpr y))))
          | ge =>
            have g := ai_clt_ok (ai_mapn hq) a1 a2 z1 z2
            exact lv_if_ge hx hb hd ht (fun q => kt (by cases t with | true => rfl | false => exact absurd (g.mpr rfl) (ai_nle.mp q))) (fun q => kf (by cases t with | false => rfl | true => exact absurd (ai_nle.mpr (fun y => absurd (g.mp y) (by decide))) q))
          | gt =>
            have g := ai_clt_ok hq z1 z2 a1 a2
            exact lv_if_gt hx hb hd ht (fun q => kt (g.mp q)) (fun q => kf (Bool.eq_false_iff.mpr (fun y => q (g.mpr y))))
          | le =>
            have g := ai_clt_ok (ai_mapn hq) z1 z2 a1 a2
            exact lv_if_le hx hb hd ht (fun q => kt (by cases t with | true => rfl | false => exact absurd (g.mpr rfl) (ai_nle.mp q))) (fun q => kf (by cases t with | false => rfl | true => exact absurd (ai_nle.mpr (fun y => absurd (g.mp y) (by decide))) q))
      · cases h
    · cases h
  · next k off =>
    have e : len = 3 := by rcases hlen with q | ⟨_, _, _, _, q⟩; exact q.symm; cases q
    subst e
    split at h
    · next y x r =>
      split at h
      · next t hq =>
        cases h
        match st, hS with
        | _ :: _ :: st', ⟨⟨v, rfl, z1, z2⟩, ⟨u, rfl, a1, a2⟩, hS⟩ =>
          have kt : t = true → W p l e R s m args below meth c H locs cells slots Q (F0 m a ls st') := fun q => by subst q; exact kk _ hS
          have kf : t = false → W p l e R s m args below meth c H locs cells slots Q (F0 m (pc + 3) ls st') := fun q => by subst q; exact kk _ hS
          cases k with
          | eq =>
            have g := ai_ceq_ok hq a1 a2 z1 z2
            exact lv_icmp_eq hx hb hd ht (fun q => kt (g.mp q)) (fun q => kf (Bool.eq_false_iff.mpr (fun y => q (g.mpr y))))
          | ne =>
            have g := ai_ceq_ok (ai_mapn hq) a1 a2 z1 z2
            exact lv_icmp_ne hx hb hd ht (fun q => kt (by cases t with | true => rfl | false => exact absurd (g.mpr rfl) q)) (fun q => kf (by cases t with | false => rfl | true => exact absurd (g.mp q) (by decide)))
          | lt =>
            have g := ai_clt_ok hq a1 a2 z1 z2
            exact lv_icmp_lt hx hb hd ht (fun q => kt (g.mp q)) (fun q => kf (Bool.eq_false_iff.mpr (fun y => q (g.mpr y))))
          | ge =>
            have g := ai_clt_ok (ai_mapn hq) a1 a2 z1 z2
            exact lv_icmp_ge hx hb hd ht (fun q => kt (by cases t with | true => rfl | false => exact absurd (g.mpr rfl) (ai_nle.mp q))) (fun q => kf (by cases t with | false => rfl | true => exact absurd (ai_nle.mpr (fun y => absurd (g.mp y) (by decide))) q))
          | gt =>
            have g := ai_clt_ok hq z1 z2 a1 a2
            exact lv_icmp_gt hx hb hd ht (fun q => kt (g.mp q)) (fun q => kf (Bool.eq_false_iff.mpr (fun y => q (g.mpr y))))
          | le =>
            have g := ai_clt_ok (ai_mapn hq) z1 z2 a1 a2
            exact lv_icmp_le hx hb hd ht (fun q => kt (by cases t with | true => rfl | false => exact absurd (g.mpr rfl) (ai_nle.mp q))) (fun q => kf (by cases t with | false => rfl | true => exact absurd (ai_nle.mpr (fun y => absurd (g.mp y) (by decide))) q))
        | [_], hS => exact hS.2.elim
      · cases h
    · cases h
  · next off =>
    have e : len = 3 := by rcases hlen with q | ⟨_, _, _, _, q⟩; exact q.symm; cases q
    subst e
    split at h
    · next r =>
      cases h
      match st, hS with
      | _ :: st', ⟨v, hS⟩ => cases v; exact lv_ifnullN hx hb hd ht (kk _ hS)
    · next k r =>
      cases h
      match st, hS with
      | _ :: st', ⟨v, hS⟩ =>
        obtain ⟨a, rfl⟩ := ai_RV.rsm v
        exact lv_ifnull hx hb hd (kk _ hS)
    · cases h
  · next off =>
    have e : len = 3 := by rcases hlen with q | ⟨_, _, _, _, q⟩; exact q.symm; cases q
    subst e
    split at h
    · next r =>
      cases h
      match st, hS with
      | _ :: st', ⟨v, hS⟩ => cases v; exact lv_ifnonnullN hx hb hd (kk _ hS)
    · next k r =>
      cases h
      match st, hS with
      | _ :: st', ⟨v, hS⟩ =>
        obtain ⟨a, rfl⟩ := ai_RV.rsm v
        exact lv_ifnonnull hx hb hd ht (kk _ hS)
    · cases h
  · next d lo hi offs =>
    split at h
    · next x r =>
      match st, hS with
      | _ :: st', ⟨⟨v, rfl, a1, a2⟩, hS⟩ =>
        cases hc : (ai_lt x.2 lo || ai_lt hi x.1) with
        | true =>
          rw [hc] at h
          cases h
          rw [Bool.or_eq_true, ai_lt_iff, ai_lt_iff] at hc
          exact lv_tableOut hx hb hd (by omega) (by have := ht.1; show (pc : Int) + d = ((Int.toNat (pc + d) : Nat) : Int); omega) (kk _ hS)
        | false =>
          rw [hc] at h
          simp only [cond_false] at h
          cases hc2 : (ai_le x.2 x.1 && (ai_le lo x.1 && ai_le x.1 hi)) with
          | false => rw [hc2] at h; cases h
          | true =>
            rw [hc2] at h
            simp only [cond_true] at h
            rw [Bool.and_eq_true, Bool.and_eq_true, ai_le_iff, ai_le_iff, ai_le_iff] at hc2
            have ev : v.toInt = x.1 := by omega
            split at h
            · next off ho =>
              cases h
              have hm : off ∈ offs.toList := by
                rw [← Array.getElem?_toList] at ho
                exact List.mem_of_getElem? ho
              exact lv_tableIn hx hb hd (by omega) (by omega) (by rw [ev]; exact ho) (by have := ht.2 _ hm; show (pc : Int) + off = ((Int.toNat (pc + off) : Nat) : Int); omega) (kk _ hS)
            · cases h
    · cases h
  · cases h
end AIG
end
section
/-! ===== the world of an abstract run: tags 0 to 6 the objects of a class, 10 and on the arrays ===== -/
def ai_it : Nat → Option FieldType
  | 10 => some .int
  | 12 => some .byte
  | 13 => some .boolean
  | _ => none
def ai_rt : Nat → Option FieldType
  | 14 => some (.object RR_1)
  | 15 => some (.object RR_3)
  | 16 => some (.array .int)
  | 17 => some (.array .long)
  | _ => none
theorem ai_it_ge {t : Nat} {ty : FieldType} (h : ai_it t = some ty) : 10 ≤ t ∧ t ≠ 11 ∧ ai_rt t = none := by
  unfold ai_it at h
  split at h
  · exact ⟨by decide, by decide, rfl⟩
  · exact ⟨by decide, by decide, rfl⟩
  · exact ⟨by decide, by decide, rfl⟩
  · cases h
theorem ai_rt_ge {t : Nat} {ty : FieldType} (h : ai_rt t = some ty) : 10 ≤ t ∧ t ≠ 11 ∧ ty.isReference = true := by
  unfold ai_rt at h
  split at h <;> first | (cases h; exact ⟨by decide, by decide, rfl⟩) | cases h
def ai_RE (b : Nat) (ad : List Nat) (tys : List (ClassId × FieldType)) (ac : ai_C) (e : va_E) : Prop :=
  (ac.1 < 10 ∧ ∃ fs, e = .inr (ac.1, fs) ∧ ai_RS b ad ac.2 fs) ∨
  (∃ (ty : FieldType) (cA : ClassId) (f : Nat → Int32) (t0 : Nat), ai_it ac.1 = some ty ∧ e = .inl (cA, ac.2.length, .inl f) ∧ tys[t0]? = some (cA, ty) ∧ ∀ (j : Nat) (v : ai_V), ac.2[j]? = some v → ai_RV b ad v (.int (f j))) ∨
  (∃ (cA : ClassId) (f : Nat → Int64) (t0 : Nat), ac.1 = 11 ∧ e = .inl (cA, ac.2.length, .inr (.inl f)) ∧ tys[t0]? = some (cA, .long) ∧ ∀ (j : Nat) (v : ai_V), ac.2[j]? = some v → ai_RV b ad v (.long (f j))) ∨
  (∃ (ty : FieldType) (cA : ClassId) (f : Nat → Option Nat) (t0 : Nat), ai_rt ac.1 = some ty ∧ e = .inl (cA, ac.2.length, .inr (.inr (.inr (.inr f)))) ∧ tys[t0]? = some (cA, ty) ∧ ∀ (j : Nat) (v : ai_V), ac.2[j]? = some v → ai_RV b ad v (va_rf (f j)))
theorem ai_tys_pre {tys tx : List (ClassId × FieldType)} {k : Nat} {a : ClassId × FieldType} (h : tys[k]? = some a) : (tys ++ tx)[k]? = some a := by
  rw [List.getElem?_append_left (List.getElem?_eq_some_iff.mp h).1]
  exact h
theorem ai_RE.mono {b : Nat} {ad : List Nat} (t : List Nat) {tys : List (ClassId × FieldType)} (tx : List (ClassId × FieldType)) {ac : ai_C} {e : va_E} (h : ai_RE b ad tys ac e) : ai_RE b (ad ++ t) (tys ++ tx) ac e := by
  rcases h with ⟨h0, fs, h1, h2⟩ | ⟨ty, cA, f, t0, h0, h1, h2, h3⟩ | ⟨cA, f, t0, h0, h1, h2, h3⟩ | ⟨ty, cA, f, t0, h0, h1, h2, h3⟩
  · exact Or.inl ⟨h0, fs, h1, h2.mono t⟩
  · exact Or.inr (Or.inl ⟨ty, cA, f, t0, h0, h1, ai_tys_pre h2, fun j v hj => (h3 j v hj).mono t⟩)
  · exact Or.inr (Or.inr (Or.inl ⟨cA, f, t0, h0, h1, ai_tys_pre h2, fun j v hj => (h3 j v hj).mono t⟩))
  · exact Or.inr (Or.inr (Or.inr ⟨ty, cA, f, t0, h0, h1, ai_tys_pre h2, fun j v hj => (h3 j v hj).mono t⟩))
theorem ai_RE.obj {b : Nat} {ad : List Nat} {tys : List (ClassId × FieldType)} {ac : ai_C} {e : va_E} (h : ai_RE b ad tys ac e) (hl : ac.1 < 10) : ∃ fs, e = .inr (ac.1, fs) ∧ ai_RS b ad ac.2 fs := by
  rcases h with ⟨h0, h⟩ | ⟨ty, cA, f, t0, h0, h1, h2, h3⟩ | ⟨cA, f, t0, h0, h1, h2, h3⟩ | ⟨ty, cA, f, t0, h0, h1, h2, h3⟩
  · exact h
  · have := (ai_it_ge h0).1; omega
  · omega
  · have := (ai_rt_ge h0).1; omega
theorem ai_RE.ints {b : Nat} {ad : List Nat} {tys : List (ClassId × FieldType)} {ac : ai_C} {e : va_E} {ty : FieldType} (h : ai_RE b ad tys ac e) (hl : ai_it ac.1 = some ty) : ∃ (cA : ClassId) (f : Nat → Int32) (t0 : Nat), e = .inl (cA, ac.2.length, .inl f) ∧ tys[t0]? = some (cA, ty) ∧ ∀ (j : Nat) (v : ai_V), ac.2[j]? = some v → ai_RV b ad v (.int (f j)) := by
  have hg := ai_it_ge hl
  rcases h with ⟨h0, h⟩ | ⟨ty, cA, f, t0, h0, h1, h2, h3⟩ | ⟨cA, f, t0, h0, h1, h2, h3⟩ | ⟨ty, cA, f, t0, h0, h1, h2, h3⟩
  · omega
  · cases hl.symm.trans h0
    exact ⟨cA, f, t0, h1, h2, h3⟩
  · exact absurd h0 hg.2.1
  · rw [hg.2.2] at h0; cases h0
theorem ai_RE.longs {b : Nat} {ad : List Nat} {tys : List (ClassId × FieldType)} {ac : ai_C} {e : va_E} (h : ai_RE b ad tys ac e) (hl : ac.1 = 11) : ∃ (cA : ClassId) (f : Nat → Int64) (t0 : Nat), e = .inl (cA, ac.2.length, .inr (.inl f)) ∧ tys[t0]? = some (cA, .long) ∧ ∀ (j : Nat) (v : ai_V), ac.2[j]? = some v → ai_RV b ad v (.long (f j)) := by
  rcases h with ⟨h0, h⟩ | ⟨ty, cA, f, t0, h0, h1, h2, h3⟩ | ⟨cA, f, t0, h0, h1, h2, h3⟩ | ⟨ty, cA, f, t0, h0, h1, h2, h3⟩
  · omega
  · exact absurd hl (ai_it_ge h0).2.1
  · exact ⟨cA, f, t0, h1, h2, h3⟩
  · exact absurd hl (ai_rt_ge h0).2.1
theorem ai_RE.refs {b : Nat} {ad : List Nat} {tys : List (ClassId × FieldType)} {ac : ai_C} {e : va_E} {ty : FieldType} (h : ai_RE b ad tys ac e) (hl : ai_rt ac.1 = some ty) : ∃ (cA : ClassId) (f : Nat → Option Nat) (t0 : Nat), e = .inl (cA, ac.2.length, .inr (.inr (.inr (.inr f)))) ∧ tys[t0]? = some (cA, ty) ∧ ∀ (j : Nat) (v : ai_V), ac.2[j]? = some v → ai_RV b ad v (va_rf (f j)) := by
  rcases h with ⟨h0, h⟩ | ⟨ty, cA, f, t0, h0, h1, h2, h3⟩ | ⟨cA, f, t0, h0, h1, h2, h3⟩ | ⟨ty, cA, f, t0, h0, h1, h2, h3⟩
  · have := (ai_rt_ge hl).1; omega
  · rw [(ai_it_ge h0).2.2] at hl; cases hl
  · exact absurd h0 (ai_rt_ge hl).2.1
  · cases hl.symm.trans h0
    exact ⟨cA, f, t0, h1, h2, h3⟩
def ai_RW (D : va_G) (U : State) (A : Nat → Prop) (b : Nat) (ad : List Nat) (w : ai_W) (H : Heap) : Prop :=
  ∃ (ws : va_W) (tys : List (ClassId × FieldType)), va_K D classes tys U ∧ va_P D classes ws H ∧ va_D A ws ∧ ad = ws.map Prod.fst ∧ w.length = ws.length ∧ ∀ (k : Nat) (ac : ai_C), w[k]? = some ac → ∃ q, ws[k]? = some q ∧ ai_RE b ad tys ac q.2
theorem ai_adr {ws : va_W} {k a : Nat} {q : Nat × va_E} (h : (ws.map Prod.fst)[k]? = some a) (hq : ws[k]? = some q) : q = (a, q.2) := by
  rw [List.getElem?_map, hq] at h
  have : q.1 = a := Option.some.inj h
  rw [← this]
theorem ai_map_set {ws : va_W} {k a : Nat} {e0 e : va_E} (h : ws[k]? = some (a, e0)) : (ws.set k (a, e)).map Prod.fst = ws.map Prod.fst := by
  apply List.ext_getElem?
  intro i
  rw [List.getElem?_map, List.getElem?_map]
  by_cases hi : i = k
  · subst hi
    rw [List.getElem?_set_self (List.getElem?_eq_some_iff.mp h).1, h]
    rfl
  · rw [List.getElem?_set_ne (Ne.symm hi)]
theorem ai_cell_set {b : Nat} {ad : List Nat} {tys : List (ClassId × FieldType)} {ws : va_W} {w : ai_W} {k a : Nat} {e0 e : va_E} {ac : ai_C} (hk : ws[k]? = some (a, e0)) (hR : ∀ (k : Nat) (ac : ai_C), w[k]? = some ac → ∃ q, ws[k]? = some q ∧ ai_RE b ad tys ac q.2) (he : ai_RE b ad tys ac e) :
    ∀ (j : Nat) (bc : ai_C), (w.set k ac)[j]? = some bc → ∃ q, (ws.set k (a, e))[j]? = some q ∧ ai_RE b ad tys bc q.2 := by
  intro j bc hj
  have hl := (List.getElem?_eq_some_iff.mp hk).1
  by_cases hi : j = k
  · subst hi
    by_cases h2 : j < w.length
    · rw [List.getElem?_set_self h2] at hj
      cases hj
      exact ⟨_, List.getElem?_set_self hl, he⟩
    · rw [List.getElem?_eq_none (by rw [List.length_set]; omega)] at hj
      cases hj
  · rw [List.getElem?_set_ne (Ne.symm hi)] at hj
    rw [List.getElem?_set_ne (Ne.symm hi)]
    exact hR j bc hj
theorem ai_arr_set {b : Nat} {ad : List Nat} {vs : List ai_V} {g : Nat → Value} {i : Nat} {x : ai_V} {y : Value} (h : ∀ (j : Nat) (v : ai_V), vs[j]? = some v → ai_RV b ad v (g j)) (hx : ai_RV b ad x y) : ∀ (j : Nat) (v : ai_V), (vs.set i x)[j]? = some v → ai_RV b ad v (if j = i then y else g j) := by
  intro j v hj
  by_cases hi : j = i
  · subst hi
    rw [if_pos rfl]
    by_cases h2 : j < vs.length
    · rw [List.getElem?_set_self h2] at hj
      cases hj
      exact hx
    · rw [List.getElem?_eq_none (by rw [List.length_set]; omega)] at hj
      cases hj
  · rw [if_neg hi]
    rw [List.getElem?_set_ne (Ne.symm hi)] at hj
    exact h j v hj
theorem ai_cell_push {b : Nat} {ad : List Nat} {tys tx : List (ClassId × FieldType)} {ws wx : va_W} {w : ai_W} {wa : ai_W} (hlen : w.length = ws.length) (had : ad = ws.map Prod.fst) (hR : ∀ (k : Nat) (ac : ai_C), w[k]? = some ac → ∃ q, ws[k]? = some q ∧ ai_RE b ad tys ac q.2)
    (he : ∀ (k : Nat) (ac : ai_C), wa[k]? = some ac → ∃ q, wx[k]? = some q ∧ ai_RE b (ad ++ wx.map Prod.fst) (tys ++ tx) ac q.2) :
    ∀ (j : Nat) (bc : ai_C), (w ++ wa)[j]? = some bc → ∃ q, (ws ++ wx)[j]? = some q ∧ ai_RE b (ad ++ wx.map Prod.fst) (tys ++ tx) bc q.2 := by
  intro j bc hj
  by_cases hl : j < w.length
  · rw [List.getElem?_append_left hl] at hj
    obtain ⟨q, h1, h2⟩ := hR j bc hj
    exact ⟨q, by rw [List.getElem?_append_left (by omega)]; exact h1, h2.mono _ _⟩
  · rw [List.getElem?_append_right (by omega)] at hj
    obtain ⟨q, h1, h2⟩ := he _ bc hj
    exact ⟨q, by rw [List.getElem?_append_right (by omega), ← hlen]; exact h1, h2⟩
/-- the classes' fields -/
def ai_tt (ci k : Nat) : FieldType := match ci with
  | 0 => tt_0 k
  | 1 => tt_1 k
  | 2 => tt_2 k
  | 3 => tt_3 k
  | 4 => tt_4 k
  | 5 => tt_5 k
  | _ => tt_6 k
def ai_nf (ci : Nat) : Nat := match ci with
  | 0 => 13
  | 1 => 17
  | 2 => 15
  | 3 => 5
  | 4 => 6
  | 5 => 17
  | _ => 43
def ai_fin (ci k : Nat) : Bool := match ci with
  | 0 => (FF_0 k).2.2.2
  | 1 => (FF_1 k).2.2.2
  | 2 => (FF_2 k).2.2.2
  | 3 => (FF_3 k).2.2.2
  | 4 => (FF_4 k).2.2.2
  | 5 => (FF_5 k).2.2.2
  | _ => (FF_6 k).2.2.2
def ai_okT : FieldType → Bool
  | .int | .boolean | .long | .object _ | .array _ => true
  | _ => false
def ai_dv : FieldType → ai_V
  | .long => .inr (.inr (0, 0))
  | .object _ | .array _ => .inl none
  | _ => .inr (.inl (0, 0))
theorem ai_dv_ok {b : Nat} {ad : List Nat} {ty : FieldType} (h : ai_okT ty = true) : ai_RV b ad (ai_dv ty) (defaultValue ty) := by
  cases ty <;> first | exact ⟨0, rfl, by decide, by decide⟩ | exact rfl | cases h
def ai_CK (ci : Nat) (C : String) (T : u_T) (N : Nat) : Prop := N = ai_nf ci ∧ (∀ w ∈ u_ws C T N, w ∈ ww_ok) ∧ (∀ k, k < N → parseFieldDescriptor (T k).2.2.1 = some (ai_tt ci k)) ∧ (∀ a, a < N → ∀ b, b < N → a ≠ b → (T a).2.1 ≠ (T b).2.1) ∧ Cond.instantiable C N ∈ ww_ok ∧ Cond.initialized C ∈ ww_ok ∧ (∀ k, k < N → (T k).1 = C) ∧ (∀ k, (T k).2.2.2 = ai_fin ci k) ∧ (∀ k, k < N → ai_okT (ai_tt ci k) = true)
theorem ai_ck {ci : Nat} {q : vw_C} (h : classes[ci]? = some q) : ci < 7 ∧ ai_CK ci q.1 q.2.1 q.2.2 := by
  match ci, h with
  | 0, h => cases h; exact ⟨by decide, rfl, ii_0, tk_0, nn_0, in_0, iz_0, by decide +kernel, fun _ => rfl, by decide +kernel⟩
  | 1, h => cases h; exact ⟨by decide, rfl, ii_1, tk_1, nn_1, in_1, iz_1, by decide +kernel, fun _ => rfl, by decide +kernel⟩
  | 2, h => cases h; exact ⟨by decide, rfl, ii_2, tk_2, nn_2, in_2, iz_2, by decide +kernel, fun _ => rfl, by decide +kernel⟩
  | 3, h => cases h; exact ⟨by decide, rfl, ii_3, tk_3, nn_3, in_3, iz_3, by decide +kernel, fun _ => rfl, by decide +kernel⟩
  | 4, h => cases h; exact ⟨by decide, rfl, ii_4, tk_4, nn_4, in_4, iz_4, by decide +kernel, fun _ => rfl, by decide +kernel⟩
  | 5, h => cases h; exact ⟨by decide, rfl, ii_5, tk_5, nn_5, in_5, iz_5, by decide +kernel, fun _ => rfl, by decide +kernel⟩
  | 6, h => cases h; exact ⟨by decide, rfl, ii_6, tk_6, nn_6, in_6, iz_6, by decide +kernel, fun _ => rfl, by decide +kernel⟩
  | k + 7, h => exact absurd (List.getElem?_eq_some_iff.mp h).1 (by show ¬ k + 7 < 7; omega)
/-- what a field may take -/
def ai_okf (ty : FieldType) (x : ai_V) : Bool := match ty with
  | .int => (match x with
    | .inr (.inl _) => true
    | _ => false)
  | .boolean => (match x with
    | .inr (.inl q) => ai_le 0 q.1 && ai_le q.2 1
    | _ => false)
  | .long => (match x with
    | .inr (.inr _) => true
    | _ => false)
  | .object _ | .array _ => (match x with
    | .inl _ => true
    | _ => false)
  | _ => false
theorem ai_okf_ok {b : Nat} {ad : List Nat} {ty : FieldType} {x : ai_V} {v : Value} (h : ai_okf ty x = true) (hv : ai_RV b ad x v) : narrow ty v = v ∧ fits ty v = true := by
  unfold ai_okf at h
  split at h
  · split at h
    · obtain ⟨y, rfl, -⟩ := hv
      exact ⟨rfl, rfl⟩
    · cases h
  · split at h
    · next q =>
      obtain ⟨y, rfl, h1, h2⟩ := hv
      rw [Bool.and_eq_true, ai_le_iff, ai_le_iff] at h
      have hy : y = 0 ∨ y = 1 := by
        rcases (show y.toInt = 0 ∨ y.toInt = 1 by omega) with q | q
        · exact Or.inl (Int32.toInt_inj.mp q)
        · exact Or.inr (Int32.toInt_inj.mp q)
      rcases hy with rfl | rfl <;> exact ⟨by decide, by decide⟩
    · cases h
  · split at h
    · obtain ⟨y, rfl, -⟩ := hv
      exact ⟨rfl, rfl⟩
    · cases h
  · split at h
    · rcases ai_RV.ref hv with rfl | ⟨a, rfl⟩ <;> exact ⟨rfl, rfl⟩
    · cases h
  · split at h
    · rcases ai_RV.ref hv with rfl | ⟨a, rfl⟩ <;> exact ⟨rfl, rfl⟩
    · cases h
  · cases h
end
section
/-! ===== new T[n][m]: the outer array, behind it the inner ones (began as the printed names' rows vr_outer and va_mna) ===== -/
theorem ai_outer (c : ClassId) (N h0 : Nat) : ∀ i : Nat, Jvm.Free.Multi.outerC c N h0 i = arrV c N (fun j => va_rf (if j < i then some (h0 + 1 + j) else none))
  | 0 => by
    show ({ cls := c, slots := Array.replicate N .null, vm := .none } : Cell) = _
    rw [arrV_new]
    refine congrArg (arrV c N) (funext fun j => ?_)
    simp [va_rf]
  | i + 1 => by
    show (Jvm.Free.Multi.outerC c N h0 i).setSlot i (.ref (h0 + 1 + i)) = _
    rw [ai_outer c N h0 i, arrV_store]
    refine congrArg (arrV c N) (funext fun j => ?_)
    by_cases e : j = i
    · subst e
      simp [updV, va_rf]
    · by_cases h : j < i
      · simp [updV, e, h, Nat.lt_succ_of_lt h]
      · simp [updV, e, h, show ¬ j < i + 1 by omega]
section AIM
variable {p : Program} {l : Launch} {e : Env} {R : Room} {s : State} {m : MethodId} {args : Array Value} {below : List Frame} {meth : Method} {c : Code} {H : Heap} {locs : List Loc} {cells slots : Nat} {Q : State → Prop}
variable {cc : ByteArray} {pc : Nat} {ls : Array Slot} {rest : List Value} {D : va_G} {cl : List vw_C} {A : Nat → Prop} {tys : List (ClassId × FieldType)} {ws : va_W} {H0 : Heap}
def ai_grid (q N : Nat) (cA cy : ClassId) (z : vp_A) : va_W := (q, .inl (cA, N, .inr (.inr (.inr (.inr (fun i => if i < N then some (q + 1 + i) else none)))))) :: (List.range N).map (fun i => (q + 1 + i, .inl (cy, z)))
theorem ai_grid_adr {q N : Nat} {cA cy : ClassId} {z : vp_A} {k : Nat} {x : Nat × va_E} (h : (ai_grid q N cA cy z)[k]? = some x) : x.1 = q + k := by
  match k, h with
  | 0, h => cases h; rfl
  | k + 1, h =>
    unfold ai_grid at h
    rw [List.getElem?_cons_succ, List.getElem?_map] at h
    by_cases h9 : k < N
    · rw [List.getElem?_range h9] at h
      cases h
      show q + 1 + k = q + (k + 1)
      omega
    · have hn0 : (List.range N)[k]? = none := List.getElem?_eq_none (by rw [List.length_range]; omega)
      rw [hn0] at h
      cases h
theorem ai_mna (hexec : p.tables.exec = Jvm.exec) (hb : c.code = cc) {own : String} {index : Nat} {ty : FieldType} (hown : s.vm.findClass own = some m.cls) (hclink : (Cond.classLink own index ("[" ++ (FieldType.array ty).toString)).before args s = true) (hover : (Cond.arrayOver (.array ty)).before args s = true) (harr : (Cond.arrayClass ty).before args s = true)
    (hRA : ∀ cy : ClassId, s.vm.findClass (FieldType.array ty).toString = some cy → va_RA s cy ty)
    (hK : va_K D cl tys s) (hP : va_P D cl ws H) (hD : va_D A ws) (hS : va_S A H0 H locs) (hA : ∀ q, H0.size ≤ q → A q) {n k : Int32} {N' K' : Nat} {z : vp_A} (hn : ¬ n < 0) (hk : ¬ k < 0) (hN : n.toNatClampNeg = N') (hM : k.toNatClampNeg = K')
    (hb1 : N' * 4 ≤ 536870912) (hb2 : K' * componentBytes ty ≤ 536870912) (hb3 : K' ≤ 536870912) (hdf : fits ty (defaultValue ty) = true) (hdd : (defaultValue ty).isDefault = true) (hcells : cells + (1 + N') ≤ R.cells) (hslots : slots + (N' + N' * K') ≤ R.slots) (hz : ∀ c : ClassId, Jvm.Free.Multi.innerC c K' (defaultValue ty) = vp_cell c z) (hdg : decode cc pc = .ok (.multianewarray index 2, 4))
    (kk : ∀ (q : Nat) (cA cy : ClassId) (H1 : Heap), va_K D cl (tys ++ [(cA, .array ty), (cy, ty)]) s → va_P D cl (ws ++ ai_grid q N' cA cy z) H1 → va_D A (ws ++ ai_grid q N' cA cy z) → va_S A H0 H1 locs →
      W p l e R s m args below meth c H1 locs (cells + 1 + N') (slots + N' + N' * K') Q (F0 m (pc + 4) ls (.ref q :: rest))) : W p l e R s m args below meth c H locs cells slots Q (F0 m pc ls (.int k :: .int n :: rest)) := by
  subst hN
  subst hM
  intro T hT Xs
  obtain ⟨vm₁, cA, cy, -, fA, fC, hO, hI, X', step⟩ := Xs.multianewarray2F hexec hown hclink hover harr (g := F0 m pc ls (.int k :: .int n :: rest)) rfl (by rw [hb]; exact hdg) rfl hn hk hb1 hb2 hb3 hdf hdd hcells hslots
  generalize hF : Jvm.Free.Multi.fill (T.setVm vm₁) cA cy n.toNatClampNeg k.toNatClampNeg (defaultValue ty) n.toNatClampNeg = F at X' step
  have hTh : (T.setVm vm₁).heap = H := hT
  obtain ⟨f1, f2, -, -⟩ := Jvm.Free.Multi.fill_facts (T.setVm vm₁) cA cy n.toNatClampNeg k.toNatClampNeg (defaultValue ty) n.toNatClampNeg
  rw [hF, hTh] at f1 f2
  have hold : ∀ x : Nat, x < H.size → F.heap[x]? = H[x]? := fun x hx => by
    have := Jvm.Free.Multi.fill_old (T.setVm vm₁) cA cy n.toNatClampNeg k.toNatClampNeg (defaultValue ty) (a := x) (by rw [hTh]; exact hx) n.toNatClampNeg
    rw [hF, hTh] at this
    exact this
  have hrow : ∀ j : Nat, j < n.toNatClampNeg → F.heap[H.size + 1 + j]? = some (vp_cell cy z) := fun j hj => by
    have := Jvm.Free.Multi.fill_inner (T.setVm vm₁) cA cy n.toNatClampNeg k.toNatClampNeg (defaultValue ty) n.toNatClampNeg j hj
    rw [hF, hTh, hz] at this
    exact this
  have hout : Jvm.Free.Multi.outerC cA n.toNatClampNeg H.size n.toNatClampNeg = vp_cell cA (n.toNatClampNeg, .inr (.inr (.inr (.inr (fun i => if i < n.toNatClampNeg then some (H.size + 1 + i) else none))))) := by
    rw [vp_cell_q]
    exact ai_outer cA n.toNatClampNeg H.size n.toNatClampNeg
  rw [hout] at f2
  have hP0 : va_P D cl ws F.heap := hP.kept (fun k9 x hx => hold x.1 ((hP k9 x hx).lt))
  have hP2 : va_P D cl (ws ++ ai_grid H.size n.toNatClampNeg cA cy z) F.heap := hP0.app (fun k9 x hx => by
    match k9, hx with
    | 0, hx => cases hx; exact f2
    | k9 + 1, hx =>
      unfold ai_grid at hx
      rw [List.getElem?_cons_succ] at hx
      obtain ⟨i, hi, rfl⟩ := List.mem_map.mp (List.mem_of_getElem? hx)
      exact hrow i (List.mem_range.mp hi))
  have hD2 : va_D A (ws ++ ai_grid H.size n.toNatClampNeg cA cy z) := by
    refine hD.app ⟨fun i j x y hi hj hxy => ?_, fun k9 x hx => ?_⟩ (fun i j x y hi hj hxy => ?_)
    · have h1 := ai_grid_adr hi
      have h2 := ai_grid_adr hj
      omega
    · have h1 := ai_grid_adr hx
      exact hA _ (by have := hS.1; omega)
    · have h1 := (hP i x hi).lt
      have h2 := ai_grid_adr hj
      omega
  have hAr : ArrOfT s cA (.array ty) := fun N9 z9 => by
    obtain ⟨-, k9, hk9, cm9, hkk9⟩ := (hO 0 0 0).1
    exact ⟨(fun q hq => by cases hq), k9, hk9, cm9, hkk9⟩
  have hAi : ArrOfT s cy ty := fun N9 z9 => by
    obtain ⟨-, k9, hk9, cm9, hkk9⟩ := (hI 0 .null).1
    exact ⟨(fun q hq => by cases hq), k9, hk9, cm9, hkk9⟩
  have hK2 : va_K D cl (tys ++ [(cA, .array ty), (cy, ty)]) s := ⟨hK.1, fun k9 x hx => by
    by_cases hl : k9 < tys.length
    · rw [List.getElem?_append_left hl] at hx
      exact hK.2 k9 x hx
    · rw [List.getElem?_append_right (by omega)] at hx
      generalize k9 - tys.length = i at hx
      match i, hx with
      | 0, hx => cases hx; exact ⟨hAr, fA⟩
      | 1, hx => cases hx; exact ⟨hAi, hRA _ fC⟩⟩
  obtain ⟨t, a1, b1⟩ := kk H.size cA cy F.heap hK2 hP2 hD2 ⟨by rw [f1]; have := hS.1; omega, fun x h1 h2 => (hold x (Nat.lt_of_lt_of_le h1 hS.1)).trans (hS.2.1 x h1 h2), hS.2.2⟩ F rfl X'
  refine ⟨t, step t ?_, b1⟩
  have e : T.heap.size = H.size := by rw [hT]
  rw [e]
  exact a1
end AIM
end
section
/-! ===== one instruction of an abstract run: fields, arrays, new cells ===== -/
def ai_nt : ArrayType → Nat
  | .int => 10
  | .long => 11
  | .byte => 12
  | .boolean => 13
  | _ => 99
def ai_zv (t : Nat) : ai_V := bif Nat.beq t 11 then .inr (.inr (0, 0)) else bif Nat.blt t 14 then .inr (.inl (0, 0)) else .inl none
def ai_frc {α : Type} (n : Nat) (f : Nat → α) : α := match n with
  | 0 => f 0
  | k + 1 => f (k + 1)
theorem ai_frc_eq {α : Type} (n : Nat) (f : Nat → α) : ai_frc n f = f n := by cases n <;> rfl
def ai_gH (ini : Bool) (oc : Nat) (scr : List ai_V) (ins : Instr) (a b : Nat) (S : List ai_V) (w : ai_W) : Option (List ai_V × ai_W × Nat × Nat) := match ins with
  | .getfield _ => (match S with
    | .inl (some (k + 2)) :: r => (match w[k]? with
      | some ac => bif Nat.beq ac.1 a then (match ac.2[b]? with
        | some v => some (v :: r, w, 0, 0)
        | none => none) else none
      | none => none)
    | _ => none)
  | .putfield _ => (match S with
    | v :: .inl (some (k + 2)) :: r => (match w[k]? with
      | some ac => bif Nat.beq ac.1 a && (ai_okf (ai_tt a b) v && (!(ai_fin a b) || (ini && Nat.beq a oc))) then (match ac.2[b]? with
        | some _ => some (r, w.set k (ac.1, ac.2.set b v), 0, 0)
        | none => none) else none
      | none => none)
    | _ => none)
  | .iaload => (match S with
    | .inr (.inl q) :: .inl (some 0) :: r => (match ai_ix q with
      | some j => (match scr[j]? with
        | some v => some (v :: r, w, 0, 0)
        | none => none)
      | none => none)
    | .inr (.inl q) :: .inl (some (k + 2)) :: r => (match ai_ix q with
      | some j => (match w[k]? with
        | some ac => bif Nat.beq ac.1 10 then (match ac.2[j]? with
          | some v => some (v :: r, w, 0, 0)
          | none => none) else none
        | none => none)
      | none => none)
    | _ => none)
  | .baload => (match S with
    | .inr (.inl q) :: .inl (some (k + 2)) :: r => (match ai_ix q with
      | some j => (match w[k]? with
        | some ac => bif Nat.beq ac.1 12 || Nat.beq ac.1 13 then (match ac.2[j]? with
          | some v => some (v :: r, w, 0, 0)
          | none => none) else none
        | none => none)
      | none => none)
    | _ => none)
  | .laload => (match S with
    | .inr (.inl q) :: .inl (some (k + 2)) :: r => (match ai_ix q with
      | some j => (match w[k]? with
        | some ac => bif Nat.beq ac.1 11 then (match ac.2[j]? with
          | some v => some (v :: r, w, 0, 0)
          | none => none) else none
        | none => none)
      | none => none)
    | _ => none)
  | .aaload => (match S with
    | .inr (.inl q) :: .inl (some (k + 2)) :: r => (match ai_ix q with
      | some j => (match w[k]? with
        | some ac => (match ai_rt ac.1 with
          | some _ => (match ac.2[j]? with
            | some v => some (v :: r, w, 0, 0)
            | none => none)
          | none => none)
        | none => none)
      | none => none)
    | _ => none)
  | .iastore => (match S with
    | .inr (.inl v) :: .inr (.inl q) :: .inl (some (k + 2)) :: r => (match ai_ix q with
      | some j => (match w[k]? with
        | some ac => bif Nat.beq ac.1 10 then (match ac.2[j]? with
          | some _ => some (r, w.set k (ac.1, ac.2.set j (.inr (.inl v))), 0, 0)
          | none => none) else none
        | none => none)
      | none => none)
    | _ => none)
  | .bastore => (match S with
    | .inr (.inl _) :: .inr (.inl q) :: .inl (some (k + 2)) :: r => (match ai_ix q with
      | some j => (match w[k]? with
        | some ac => bif Nat.beq ac.1 12 || Nat.beq ac.1 13 then (match ac.2[j]? with
          | some _ => some (r, w.set k (ac.1, ac.2.set j (.inr (.inl ai_tI))), 0, 0)
          | none => none) else none
        | none => none)
      | none => none)
    | _ => none)
  | .lastore => (match S with
    | .inr (.inr v) :: .inr (.inl q) :: .inl (some (k + 2)) :: r => (match ai_ix q with
      | some j => (match w[k]? with
        | some ac => bif Nat.beq ac.1 11 then (match ac.2[j]? with
          | some _ => some (r, w.set k (ac.1, ac.2.set j (.inr (.inr v))), 0, 0)
          | none => none) else none
        | none => none)
      | none => none)
    | _ => none)
  | .aastore => (match S with
    | .inl (some (kv + 2)) :: .inr (.inl q) :: .inl (some (k + 2)) :: r => (match ai_ix q with
      | some j => (match w[k]? with
        | some ac => (match w[kv]? with
          | some vc => bif (Nat.beq ac.1 14 && Nat.beq vc.1 1) || (Nat.beq ac.1 15 && Nat.beq vc.1 3) then (match ac.2[j]? with
            | some _ => some (r, w.set k (ac.1, ac.2.set j (.inl (some (kv + 2)))), 0, 0)
            | none => none) else none
          | none => none)
        | none => none)
      | none => none)
    | _ => none)
  | .arraylength => (match S with
    | .inl (some 0) :: r => bif Nat.blt 0 scr.length && Nat.ble scr.length 100000 then some (.inr (.inl (.ofNat scr.length, .ofNat scr.length)) :: r, w, 0, 0) else none
    | .inl (some (k + 2)) :: r => (match w[k]? with
      | some ac => bif Nat.ble 10 ac.1 && Nat.ble ac.2.length 100000 then some (.inr (.inl (.ofNat ac.2.length, .ofNat ac.2.length)) :: r, w, 0, 0) else none
      | none => none)
    | _ => none)
  | .newarray ty => (match S with
    | .inr (.inl q) :: r => (match ai_ix q with
      | some n => bif Nat.blt (ai_nt ty) 14 && Nat.ble n 10000 then some (.inl (some (ai_frc w.length (fun z => z + 2))) :: r, w ++ [(ai_nt ty, List.replicate n (ai_zv (ai_nt ty)))], 1, n) else none
      | none => none)
    | _ => none)
  | .anewarray _ => (match S with
    | .inr (.inl q) :: r => (match ai_ix q with
      | some n => bif Nat.ble n 10000 then some (.inl (some (ai_frc w.length (fun z => z + 2))) :: r, w ++ [(a, List.replicate n (.inl none))], 1, n) else none
      | none => none)
    | _ => none)
  | .multianewarray _ _ => (match S with
    | .inr (.inl q2) :: .inr (.inl q) :: r => (match ai_ix q2 with
      | some k => (match ai_ix q with
        | some n => bif Nat.ble n 10000 && (Nat.ble k 10000 && (Nat.beq a 16 || Nat.beq a 17)) then ai_frc w.length (fun z => some (.inl (some (z + 2)) :: r, w ++ ((a, (List.range n).map (fun i => .inl (some (z + 3 + i)))) :: List.replicate n (a - 6, List.replicate k (ai_zv (a - 6)))), 1 + n, n + n * k)) else none
        | none => none)
      | none => none)
    | _ => none)
  | .new _ => some (.inl (some (ai_frc w.length (fun z => z + 2))) :: S, w ++ [(a, (List.range (ai_nf a)).map (fun k => ai_dv (ai_tt a k)))], 1, ai_nf a)
  | _ => none
/-- what an instruction links -/
def ai_hf (own : String) (ins : Instr) (a b : Nat) : Prop := match ins with
  | .getfield i | .putfield i => ∃ (C : String) (T : u_T) (N : Nat), classes[a]? = some (C, T, N) ∧ b < N ∧ Cond.fieldLink own i C (T b).2.1 (T b).2.2.1 ∈ ww_ok
  | .new i => ∃ (C : String) (T : u_T) (N : Nat), classes[a]? = some (C, T, N) ∧ Cond.classLink own i C ∈ ww_ok
  | .anewarray i => (a = 14 ∧ Cond.classLink own i RR_1 ∈ ww_ok) ∨ (a = 15 ∧ Cond.classLink own i RR_3 ∈ ww_ok)
  | .multianewarray i d => d = 2 ∧ ((a = 16 ∧ Cond.classLink own i "[[I" ∈ ww_ok) ∨ (a = 17 ∧ Cond.classLink own i "[[J" ∈ ww_ok))
  | _ => True
/-- the script, where the frame is the law's -/
def ai_SC (scr : List ai_V) (b : Nat) (A : Nat → Prop) (H0 : Heap) (s : State) : Prop := scr = [] ∨ ∃ xs : Nat → Int32, va_X b scr.length xs s H0 ∧ b < H0.size ∧ ¬ A b ∧ ∀ (j : Nat) (x : ai_V), scr[j]? = some x → ai_RV b [] x (.int (xs j))
def ai_AV (U : State) : Prop := va_AO RR_1 U ∧ va_AO RR_3 U ∧ (Cond.arrayOver (.array .int)).before #[] U = true ∧ (Cond.arrayOver (.array .long)).before #[] U = true
section AIH
variable {p : Program} {l : Launch} {e : Env} {R : Room} {s : State} {m : MethodId} {args : Array Value} {below : List Frame} {meth : Method} {c : Code} {H : Heap} {locs : List Loc} {cells slots : Nat} {Q : State → Prop}
variable {cc : ByteArray} {pc : Nat} {ls : Array Slot} {st : List Value} {bs nL : Nat} {ad : List Nat} {S S' : List ai_V} {D : va_G} {A : Nat → Prop} {H0 : Heap} {w w' : ai_W} {dc ds : Nat}
theorem ai_obj {k : Nat} {v : Value} {ws : va_W} {tys : List (ClassId × FieldType)} {ac : ai_C} (hv : ai_RV bs (ws.map Prod.fst) (.inl (some (k + 2))) v) (hR : ∀ (k : Nat) (ac : ai_C), w[k]? = some ac → ∃ q, ws[k]? = some q ∧ ai_RE bs (ws.map Prod.fst) tys ac q.2) (hk : w[k]? = some ac) :
    ∃ (a : Nat) (e : va_E), v = .ref a ∧ ws[k]? = some (a, e) ∧ ai_RE bs (ws.map Prod.fst) tys ac e := by
  obtain ⟨a, h1, rfl⟩ := hv
  obtain ⟨q, h2, h3⟩ := hR k ac hk
  have := ai_adr h1 h2
  exact ⟨a, q.2, rfl, by rw [h2, ← this], h3⟩
theorem ai_same {α : Prop} {ad : List Nat} (h : ∀ ad' : List Nat, (∃ t, ad' = ad ++ t) → ad' = ad → α) : α := h ad ⟨[], (List.append_nil _).symm⟩ rfl
end AIH
end
section
/-! ===== the heap's instructions hold ===== -/
theorem ai_bif2 {α : Type} {c : Bool} {x : Option α} {y : α} (h : (bif c then x else none) = some y) : c = true ∧ x = some y := by
  cases c with
  | true => exact ⟨rfl, h⟩
  | false => cases h
theorem ac_int : Cond.arrayClass .int ∈ ww_ok := ww_t 180 (by decide +kernel)
theorem ac_long : Cond.arrayClass .long ∈ ww_ok := ww_t 179 (by decide +kernel)
theorem ac_byte : Cond.arrayClass .byte ∈ ww_ok := ww_t 56 (by decide +kernel)
theorem ac_bool : Cond.arrayClass .boolean ∈ ww_ok := ww_t 278 (by decide +kernel)
theorem ai_upd {b : Nat} {ad : List Nat} {vs : List ai_V} {f : Nat → Int32} {i : Nat} {x : ai_V} {y : Int32} (h : ∀ (j : Nat) (v : ai_V), vs[j]? = some v → ai_RV b ad v (.int (f j))) (hx : ai_RV b ad x (.int y)) : ∀ (j : Nat) (v : ai_V), (vs.set i x)[j]? = some v → ai_RV b ad v (.int (upd f i y j)) := by
  intro j v hj
  have h9 := ai_arr_set h hx j v hj
  by_cases q : j = i
  · rw [if_pos q] at h9
    rw [show upd f i y j = y from if_pos q]
    exact h9
  · rw [if_neg q] at h9
    rw [show upd f i y j = f j from if_neg q]
    exact h9
theorem ai_updL {b : Nat} {ad : List Nat} {vs : List ai_V} {f : Nat → Int64} {i : Nat} {x : ai_V} {y : Int64} (h : ∀ (j : Nat) (v : ai_V), vs[j]? = some v → ai_RV b ad v (.long (f j))) (hx : ai_RV b ad x (.long y)) : ∀ (j : Nat) (v : ai_V), (vs.set i x)[j]? = some v → ai_RV b ad v (.long (vp_updL f i y j)) := by
  intro j v hj
  have h9 := ai_arr_set h hx j v hj
  by_cases q : j = i
  · rw [if_pos q] at h9
    rw [show vp_updL f i y j = y from if_pos q]
    exact h9
  · rw [if_neg q] at h9
    rw [show vp_updL f i y j = f j from if_neg q]
    exact h9
theorem ai_updR {b : Nat} {ad : List Nat} {vs : List ai_V} {f : Nat → Option Nat} {i : Nat} {x : ai_V} {y : Option Nat} (h : ∀ (j : Nat) (v : ai_V), vs[j]? = some v → ai_RV b ad v (va_rf (f j))) (hx : ai_RV b ad x (va_rf y)) : ∀ (j : Nat) (v : ai_V), (vs.set i x)[j]? = some v → ai_RV b ad v (va_rf (va_up f i y j)) := by
  intro j v hj
  have h9 := ai_arr_set (g := fun j => va_rf (f j)) h hx j v hj
  by_cases q : j = i
  · rw [if_pos q] at h9
    rw [show va_up f i y j = y from if_pos q]
    exact h9
  · rw [if_neg q] at h9
    rw [show va_up f i y j = f j from if_neg q]
    exact h9
theorem ai_dvs {b : Nat} {ad : List Nat} {f : Nat → FieldType} : ∀ (l : List Nat), (∀ k ∈ l, ai_okT (f k) = true) → ai_RS b ad (l.map (fun k => ai_dv (f k))) (l.map (fun k => defaultValue (f k)))
  | [], _ => trivial
  | k :: l, h => ⟨ai_dv_ok (h k List.mem_cons_self), ai_dvs l (fun j hj => h j (List.mem_cons_of_mem _ hj))⟩
theorem ai_last {q n : Nat} {ws : va_W} {w : ai_W} {e : va_E} (hlen : w.length = ws.length) : ((ws ++ [(q, e)]).map Prod.fst)[w.length]? = some q := by
  rw [List.map_append, hlen, List.getElem?_append_right (by rw [List.length_map]; exact Nat.le_refl _), List.length_map, Nat.sub_self]
  rfl
theorem ai_one {b : Nat} {ad : List Nat} {tys tx : List (ClassId × FieldType)} {ws : va_W} {w : ai_W} {q : Nat} {e : va_E} {ac : ai_C} (hlen : w.length = ws.length) (had : ad = ws.map Prod.fst) (hR : ∀ (k : Nat) (ac : ai_C), w[k]? = some ac → ∃ q, ws[k]? = some q ∧ ai_RE b ad tys ac q.2)
    (he : ai_RE b (ad ++ [q]) (tys ++ tx) ac e) : ∀ (j : Nat) (bc : ai_C), (w ++ [ac])[j]? = some bc → ∃ q', (ws ++ [(q, e)])[j]? = some q' ∧ ai_RE b (ad ++ [q]) (tys ++ tx) bc q'.2 :=
  ai_cell_push (wx := [(q, e)]) hlen had hR (fun k bc hk => by
    match k, hk with
    | 0, hk => cases hk; exact ⟨_, rfl, he⟩)
section AIH2
variable {p : Program} {l : Launch} {e : Env} {R : Room} {s : State} {m : MethodId} {args : Array Value} {below : List Frame} {meth : Method} {c : Code} {H : Heap} {locs : List Loc} {cells slots : Nat} {Q : State → Prop}
variable {cc : ByteArray} {pc : Nat} {ls : Array Slot} {st : List Value} {bs nL : Nat} {ad : List Nat} {S S' : List ai_V} {D : va_G} {A : Nat → Prop} {H0 : Heap} {w w' : ai_W} {dc ds : Nat}
variable {cl : List vw_C} {tys : List (ClassId × FieldType)} {ws : va_W} {rest : List Value} {a : Nat}
theorem ai_aald (hexec : p.tables.exec = Jvm.exec) (hb : c.code = cc) (hK : va_K D cl tys s) (hP : va_P D cl ws H) (q0 t0 : Nat) {cA : ClassId} {ty : FieldType} {n : Nat} {f : Nat → Option Nat} (ha : ws[q0]? = some (a, .inl (cA, n, .inr (.inr (.inr (.inr f)))))) (ht : tys[t0]? = some (cA, ty)) (hty : ty.isReference = true) {i : Int32} (hin : vp_in i n) (hdg : decode cc pc = .ok (.aaload, 1))
    (kk : W p l e R s m args below meth c H locs cells slots Q (F0 m (pc + 1) ls (va_rf (f i.toNatClampNeg) :: rest))) : W p l e R s m args below meth c H locs cells slots Q (F0 m pc ls (.int i :: .ref a :: rest)) := by
  have hlt : i.toNatClampNeg < n := Nat.not_le.mp fun q => hin (Or.inr q)
  exact W.aald (v := va_rf (f i.toNatClampNeg)) (ty := ty) hexec hb (hP q0 _ ha) ((hK.2 t0 _ ht).1 n (fun j => va_rf (f j))) hty (fun q => by cases q) (by show ¬ (i < 0 ∨ (arrV _ _ _).slots.size ≤ _); rw [arrV_size]; exact hin) (by show (arrV _ _ _).slots[_]? = _; rw [arrV_read _ _ hlt]) rfl rfl hdg kk
theorem ai_gH_ok (hx : p.tables.exec = Jvm.exec) (hb : c.code = cc) {own : String} (hown : s.vm.findClass own = some m.cls) (hts : ∀ w ∈ ww_ok, w.before args s = true) (hEV : ai_AV s) {ini : Bool} (hini : ini = true → meth.name = "<init>") {oc : Nat} (hoc : ∀ q, classes[oc]? = some q → own = q.1)
    {ins : Instr} {a b : Nat} (hd : decode cc pc = .ok (ins, ai_len ins)) (hf : ai_hf own ins a b) {scr : List ai_V} (hSC : ai_SC scr bs A H0 s) (h : ai_gH ini oc scr ins a b S w = some (S', w', dc, ds))
    (hW : ai_RW D s A bs ad w H) (hV : va_S A H0 H locs) (hA : ∀ q, H0.size ≤ q → A q) (hS : ai_RS bs ad S st) (hcells : cells + dc ≤ R.cells) (hslots : slots + ds ≤ R.slots)
    (kk : ∀ (H1 : Heap) (locs1 : List Loc) (ad' : List Nat) (st' : List Value), (∃ t, ad' = ad ++ t) → ai_RW D s A bs ad' w' H1 → va_S A H0 H1 locs1 → ai_RS bs ad' S' st' → W p l e R s m args below meth c H1 locs1 (cells + dc) (slots + ds) Q (F0 m (pc + ai_len ins) ls st')) : W p l e R s m args below meth c H locs cells slots Q (F0 m pc ls st) := by
  unfold ai_gH at h
  split at h
  · next i =>
    split at h
    · next k r =>
      split at h
      · next ac hk =>
        obtain ⟨h1, h⟩ := ai_bif2 h
        split at h
        · next v hv =>
          cases h
          have ht := Nat.eq_of_beq_eq_true h1
          obtain ⟨C, T, N, hc, hbN, hlk⟩ := hf
          obtain ⟨ha7, ck⟩ := ai_ck hc
          match st, hS with
          | u :: st', ⟨hu, hS⟩ =>
            obtain ⟨ws, tys, hK, hP, hD, had, hlen, hR⟩ := id hW
            subst had
            obtain ⟨a', e', rfl, he, hre⟩ := ai_obj hu hR hk
            obtain ⟨fs, rfl, hfs⟩ := hre.obj (by omega)
            obtain ⟨x, hx1, hx2⟩ := hfs.get hv
            rw [ht] at he
            exact va_get hx hb hts ck.2.1 hown hK hP k he hc b hbN (hts _ hlk) (fun x9 h9 => by rw [ck.2.2.2.2.2.2.1 b hbN] at h9; exact h9) hx1 hd (kk H locs _ _ ⟨[], (List.append_nil _).symm⟩ hW hV ⟨hx2, hS⟩)
        · cases h
      · cases h
    · cases h
  · next i =>
    split at h
    · next v k r =>
      split at h
      · next ac hk =>
        obtain ⟨h1, h⟩ := ai_bif2 h
        split at h
        · next v0 hv0 =>
          cases h
          rw [Bool.and_eq_true, Bool.and_eq_true, Bool.or_eq_true, Bool.and_eq_true] at h1
          obtain ⟨h1, h2, h3⟩ := h1
          have ht := Nat.eq_of_beq_eq_true h1
          obtain ⟨C, T, N, hc, hbN, hlk⟩ := hf
          obtain ⟨ha7, ck⟩ := ai_ck hc
          match st, hS with
          | [_], hS => exact hS.2.elim
          | y :: u :: st', ⟨hy, hu, hS⟩ =>
            obtain ⟨hn, hfit⟩ := ai_okf_ok h2 hy
            obtain ⟨ws, tys, hK, hP, hD, had, hlen, hR⟩ := id hW
            subst had
            obtain ⟨a', e', rfl, he, hre⟩ := ai_obj hu hR hk
            obtain ⟨fs, rfl, hfs⟩ := hre.obj (by omega)
            obtain ⟨x, hx1, hx2⟩ := hfs.get hv0
            have hlt : b < fs.length := (List.getElem?_eq_some_iff.mp hx1).1
            have hac : ac = (a, ac.2) := by rw [← ht]
            rw [ht] at he
            have fin : ∀ (H1 : Heap) (locs1 : List Loc), va_P D classes (ws.set k (a', .inr (a, fs.set b y))) H1 → va_D A (ws.set k (a', .inr (a, fs.set b y))) → va_S A H0 H1 locs1 → W p l e R s m args below meth c H1 locs1 cells slots Q (F0 m (pc + 3) ls st') := fun H1 locs1 hP1 hD1 hS1 =>
              kk H1 locs1 _ _ ⟨[], (List.append_nil _).symm⟩ ⟨ws.set k (a', .inr (a, fs.set b y)), tys, hK, hP1, hD1, (ai_map_set he).symm, by rw [List.length_set, List.length_set]; exact hlen, ai_cell_set he hR (Or.inl ⟨by show ac.1 < 10; omega, fs.set b y, by rw [ht], hfs.set b hy⟩)⟩ hS1 hS
            cases hfin : ai_fin a b with
            | false => exact va_put hx hb hts ck.2.1 (ai_tt a) ck.2.2.1 ck.2.2.2.1 hown hK hP hD hV k he hc b hbN (hts _ hlk) (fun x9 h9 => by rw [ck.2.2.2.2.2.2.1 b hbN] at h9; exact h9) (by rw [ck.2.2.2.2.2.2.2.1]; exact hfin) (ck.2.2.1 b hbN) hn hfit hlt hd fin
            | true =>
              rcases h3 with h3 | ⟨h3, h4⟩
              · rw [hfin] at h3; cases h3
              · have h4 := Nat.eq_of_beq_eq_true h4
                subst h4
                have hoc' := hoc _ hc
                exact va_putF hx hb hts ck.2.1 (ai_tt a) ck.2.2.1 ck.2.2.2.1 hown hK hP hD hV k he hc b hbN (hts _ hlk) (fun x9 h9 => by rw [ck.2.2.2.2.2.2.1 b hbN] at h9; exact h9) (by rw [ck.2.2.2.2.2.2.2.1]; exact hfin) (hini h3) (by rw [ck.2.2.2.2.2.2.1 b hbN, hoc']) (ck.2.2.1 b hbN) hn hfit hlt hd fin
        · cases h
      · cases h
    · cases h
  · split at h
    · next q r =>
      split at h
      · next j hj =>
        split at h
        · next v hv =>
          cases h
          match st, hS with
          | [_], hS => exact hS.2.elim
          | _ :: _ :: st', ⟨⟨x, rfl, x1, x2⟩, rfl, hS⟩ =>
            obtain ⟨e1, e2, e3, -⟩ := ai_ix_ok hj x1 x2
            rcases hSC with rfl | ⟨xs, hX, hbl, hbA, hxs⟩
            · cases hv
            · refine va_sld hx hb hX hbl hbA hV (ai_in ⟨e2, e3⟩ (List.getElem?_eq_some_iff.mp hv).1) hd (kk H locs _ _ ⟨[], (List.append_nil _).symm⟩ hW hV ⟨?_, hS⟩)
              rw [e2]
              have := (hxs j v hv).mono ad
              rw [List.nil_append] at this
              exact this
        · cases h
      · cases h
    · next q k r =>
      split at h
      · next j hj =>
        split at h
        · next ac hk =>
          obtain ⟨h1, h⟩ := ai_bif2 h
          split at h
          · next v hv =>
            cases h
            have ht := Nat.eq_of_beq_eq_true h1
            match st, hS with
            | [_], hS => exact hS.2.elim
            | _ :: u :: st', ⟨⟨x, rfl, x1, x2⟩, hu, hS⟩ =>
              obtain ⟨e1, e2, e3, -⟩ := ai_ix_ok hj x1 x2
              obtain ⟨ws, tys, hK, hP, hD, had, hlen, hR⟩ := id hW
              subst had
              obtain ⟨a', e', rfl, he, hre⟩ := ai_obj hu hR hk
              obtain ⟨cA, f, t0, rfl, g1, g2⟩ := hre.ints (ty := .int) (by rw [ht]; rfl)
              exact va_iald hx hb hK hP k t0 he g1 (ai_in ⟨e2, e3⟩ (List.getElem?_eq_some_iff.mp hv).1) hd (kk H locs _ _ ⟨[], (List.append_nil _).symm⟩ hW hV ⟨by rw [e2]; exact g2 j v hv, hS⟩)
          · cases h
        · cases h
      · cases h
    · cases h
  · split at h
    · next q k r =>
      split at h
      · next j hj =>
        split at h
        · next ac hk =>
          obtain ⟨h1, h⟩ := ai_bif2 h
          split at h
          · next v hv =>
            cases h
            match st, hS with
            | [_], hS => exact hS.2.elim
            | _ :: u :: st', ⟨⟨x, rfl, x1, x2⟩, hu, hS⟩ =>
              obtain ⟨e1, e2, e3, -⟩ := ai_ix_ok hj x1 x2
              obtain ⟨ws, tys, hK, hP, hD, had, hlen, hR⟩ := id hW
              subst had
              obtain ⟨a', e', rfl, he, hre⟩ := ai_obj hu hR hk
              rw [Bool.or_eq_true] at h1
              rcases h1 with h1 | h1
              · have ht := Nat.eq_of_beq_eq_true h1
                obtain ⟨cA, f, t0, rfl, g1, g2⟩ := hre.ints (ty := .byte) (by rw [ht]; rfl)
                exact va_bald hx hb hK hP k t0 he g1 (ai_in ⟨e2, e3⟩ (List.getElem?_eq_some_iff.mp hv).1) hd (kk H locs _ _ ⟨[], (List.append_nil _).symm⟩ hW hV ⟨by rw [e2]; exact g2 j v hv, hS⟩)
              · have ht := Nat.eq_of_beq_eq_true h1
                obtain ⟨cA, f, t0, rfl, g1, g2⟩ := hre.ints (ty := .boolean) (by rw [ht]; rfl)
                exact va_zald hx hb hK hP k t0 he g1 (ai_in ⟨e2, e3⟩ (List.getElem?_eq_some_iff.mp hv).1) hd (kk H locs _ _ ⟨[], (List.append_nil _).symm⟩ hW hV ⟨by rw [e2]; exact g2 j v hv, hS⟩)
          · cases h
        · cases h
      · cases h
    · cases h
  · split at h
    · next q k r =>
      split at h
      · next j hj =>
        split at h
        · next ac hk =>
          obtain ⟨h1, h⟩ := ai_bif2 h
          split at h
          · next v hv =>
            cases h
            have ht := Nat.eq_of_beq_eq_true h1
            match st, hS with
            | [_], hS => exact hS.2.elim
            | _ :: u :: st', ⟨⟨x, rfl, x1, x2⟩, hu, hS⟩ =>
              obtain ⟨e1, e2, e3, -⟩ := ai_ix_ok hj x1 x2
              obtain ⟨ws, tys, hK, hP, hD, had, hlen, hR⟩ := id hW
              subst had
              obtain ⟨a', e', rfl, he, hre⟩ := ai_obj hu hR hk
              obtain ⟨cA, f, t0, rfl, g1, g2⟩ := hre.longs ht
              exact va_lald hx hb hK hP k t0 he g1 (ai_in ⟨e2, e3⟩ (List.getElem?_eq_some_iff.mp hv).1) hd (kk H locs _ _ ⟨[], (List.append_nil _).symm⟩ hW hV ⟨by rw [e2]; exact g2 j v hv, hS⟩)
          · cases h
        · cases h
      · cases h
    · cases h
  · split at h
    · next q k r =>
      split at h
      · next j hj =>
        split at h
        · next ac hk =>
          split at h
          · next rty hrt =>
            split at h
            · next v hv =>
              cases h
              match st, hS with
              | [_], hS => exact hS.2.elim
              | _ :: u :: st', ⟨⟨x, rfl, x1, x2⟩, hu, hS⟩ =>
                obtain ⟨e1, e2, e3, -⟩ := ai_ix_ok hj x1 x2
                obtain ⟨ws, tys, hK, hP, hD, had, hlen, hR⟩ := id hW
                subst had
                obtain ⟨a', e', rfl, he, hre⟩ := ai_obj hu hR hk
                obtain ⟨cA, f, t0, rfl, g1, g2⟩ := hre.refs hrt
                exact ai_aald hx hb hK hP k t0 he g1 (ai_rt_ge hrt).2.2 (ai_in ⟨e2, e3⟩ (List.getElem?_eq_some_iff.mp hv).1) hd (kk H locs _ _ ⟨[], (List.append_nil _).symm⟩ hW hV ⟨by rw [e2]; exact g2 j v hv, hS⟩)
            · cases h
          · cases h
        · cases h
      · cases h
    · cases h
  · split at h
    · next v q k r =>
      split at h
      · next j hj =>
        split at h
        · next ac hk =>
          obtain ⟨h1, h⟩ := ai_bif2 h
          split at h
          · next v0 hv =>
            cases h
            have ht := Nat.eq_of_beq_eq_true h1
            match st, hS with
            | [_], hS => exact hS.2.elim
            | [_, _], hS => exact hS.2.2.elim
            | _ :: _ :: u :: st', ⟨⟨y, rfl, y1, y2⟩, ⟨x, rfl, x1, x2⟩, hu, hS⟩ =>
              obtain ⟨e1, e2, e3, -⟩ := ai_ix_ok hj x1 x2
              obtain ⟨ws, tys, hK, hP, hD, had, hlen, hR⟩ := id hW
              subst had
              obtain ⟨a', e', rfl, he, hre⟩ := ai_obj hu hR hk
              obtain ⟨cA, f, t0, rfl, g1, g2⟩ := hre.ints (ty := .int) (by rw [ht]; rfl)
              refine va_iast hx hb hK hP hD hV k t0 he g1 (ai_in ⟨e2, e3⟩ (List.getElem?_eq_some_iff.mp hv).1) hd (fun H1 locs1 hP1 hD1 hS1 => ?_)
              rw [e2] at hP1 hD1
              exact kk H1 locs1 _ _ ⟨[], (List.append_nil _).symm⟩ ⟨_, tys, hK, hP1, hD1, (ai_map_set he).symm, by rw [List.length_set, List.length_set]; exact hlen, ai_cell_set he hR (Or.inr (Or.inl ⟨.int, cA, _, t0, by rw [ht]; rfl, by rw [List.length_set], g1, ai_upd g2 ⟨y, rfl, y1, y2⟩⟩))⟩ hS1 hS
          · cases h
        · cases h
      · cases h
    · cases h
  · split at h
    · next v q k r =>
      split at h
      · next j hj =>
        split at h
        · next ac hk =>
          obtain ⟨h1, h⟩ := ai_bif2 h
          split at h
          · next v0 hv =>
            cases h
            match st, hS with
            | [_], hS => exact hS.2.elim
            | [_, _], hS => exact hS.2.2.elim
            | _ :: _ :: u :: st', ⟨⟨y, rfl, y1, y2⟩, ⟨x, rfl, x1, x2⟩, hu, hS⟩ =>
              obtain ⟨e1, e2, e3, -⟩ := ai_ix_ok hj x1 x2
              obtain ⟨ws, tys, hK, hP, hD, had, hlen, hR⟩ := id hW
              subst had
              obtain ⟨a', e', rfl, he, hre⟩ := ai_obj hu hR hk
              rw [Bool.or_eq_true] at h1
              rcases h1 with h1 | h1
              · have ht := Nat.eq_of_beq_eq_true h1
                obtain ⟨cA, f, t0, rfl, g1, g2⟩ := hre.ints (ty := .byte) (by rw [ht]; rfl)
                refine va_bast hx hb hK hP hD hV k t0 he g1 (ai_in ⟨e2, e3⟩ (List.getElem?_eq_some_iff.mp hv).1) hd (fun H1 locs1 hP1 hD1 hS1 => ?_)
                rw [e2] at hP1 hD1
                exact kk H1 locs1 _ _ ⟨[], (List.append_nil _).symm⟩ ⟨_, tys, hK, hP1, hD1, (ai_map_set he).symm, by rw [List.length_set, List.length_set]; exact hlen, ai_cell_set he hR (Or.inr (Or.inl ⟨.byte, cA, _, t0, by rw [ht]; rfl, by rw [List.length_set], g1, ai_upd g2 ⟨_, rfl, ai_tI_ok _⟩⟩))⟩ hS1 hS
              · have ht := Nat.eq_of_beq_eq_true h1
                obtain ⟨cA, f, t0, rfl, g1, g2⟩ := hre.ints (ty := .boolean) (by rw [ht]; rfl)
                refine va_zast hx hb hK hP hD hV k t0 he g1 (ai_in ⟨e2, e3⟩ (List.getElem?_eq_some_iff.mp hv).1) hd (fun H1 locs1 hP1 hD1 hS1 => ?_)
                rw [e2] at hP1 hD1
                exact kk H1 locs1 _ _ ⟨[], (List.append_nil _).symm⟩ ⟨_, tys, hK, hP1, hD1, (ai_map_set he).symm, by rw [List.length_set, List.length_set]; exact hlen, ai_cell_set he hR (Or.inr (Or.inl ⟨.boolean, cA, _, t0, by rw [ht]; rfl, by rw [List.length_set], g1, ai_upd g2 ⟨_, rfl, ai_tI_ok _⟩⟩))⟩ hS1 hS
          · cases h
        · cases h
      · cases h
    · cases h
  · split at h
    · next v q k r =>
      split at h
      · next j hj =>
        split at h
        · next ac hk =>
          obtain ⟨h1, h⟩ := ai_bif2 h
          split at h
          · next v0 hv =>
            cases h
            have ht := Nat.eq_of_beq_eq_true h1
            match st, hS with
            | [_], hS => exact hS.2.elim
            | [_, _], hS => exact hS.2.2.elim
            | _ :: _ :: u :: st', ⟨⟨y, rfl, y1, y2⟩, ⟨x, rfl, x1, x2⟩, hu, hS⟩ =>
              obtain ⟨e1, e2, e3, -⟩ := ai_ix_ok hj x1 x2
              obtain ⟨ws, tys, hK, hP, hD, had, hlen, hR⟩ := id hW
              subst had
              obtain ⟨a', e', rfl, he, hre⟩ := ai_obj hu hR hk
              obtain ⟨cA, f, t0, rfl, g1, g2⟩ := hre.longs ht
              refine va_last hx hb hK hP hD hV k t0 he g1 (ai_in ⟨e2, e3⟩ (List.getElem?_eq_some_iff.mp hv).1) hd (fun H1 locs1 hP1 hD1 hS1 => ?_)
              rw [e2] at hP1 hD1
              exact kk H1 locs1 _ _ ⟨[], (List.append_nil _).symm⟩ ⟨_, tys, hK, hP1, hD1, (ai_map_set he).symm, by rw [List.length_set, List.length_set]; exact hlen, ai_cell_set he hR (Or.inr (Or.inr (Or.inl ⟨cA, _, t0, ht, by rw [List.length_set], g1, ai_updL g2 ⟨y, rfl, y1, y2⟩⟩)))⟩ hS1 hS
          · cases h
        · cases h
      · cases h
    · cases h
  · split at h
    · next kv q k r =>
      split at h
      · next j hj =>
        split at h
        · next ac hk =>
          split at h
          · next vc hkv =>
            obtain ⟨h1, h⟩ := ai_bif2 h
            split at h
            · next v0 hv =>
              cases h
              match st, hS with
              | [_], hS => exact hS.2.elim
              | [_, _], hS => exact hS.2.2.elim
              | y :: _ :: u :: st', ⟨hy, ⟨x, rfl, x1, x2⟩, hu, hS⟩ =>
                obtain ⟨e1, e2, e3, -⟩ := ai_ix_ok hj x1 x2
                obtain ⟨ws, tys, hK, hP, hD, had, hlen, hR⟩ := id hW
                subst had
                obtain ⟨a', e', rfl, he, hre⟩ := ai_obj hu hR hk
                have hy' := hy
                obtain ⟨ay, ey, rfl, hey, hrey⟩ := ai_obj hy hR hkv
                have key : ∀ (ci : Nat) (q9 : vw_C), classes[ci]? = some q9 → vc.1 = ci → ai_rt ac.1 = some (.object q9.1) → W p l e R s m args below meth c H locs cells slots Q (F0 m pc ls (.ref ay :: .int x :: .ref a' :: st')) := by
                  intro ci q9 hq9 hvc hrt
                  have hci := (ai_ck hq9).1
                  obtain ⟨fs, rfl, hfs⟩ := hrey.obj (by omega)
                  rw [hvc] at hey
                  obtain ⟨cA, f, t0, rfl, g1, g2⟩ := hre.refs hrt
                  refine va_astq hx hb hK hP hD hV k t0 kv ci he g1 hey hq9 (ai_in ⟨e2, e3⟩ (List.getElem?_eq_some_iff.mp hv).1) hd (fun H1 locs1 hP1 hD1 hS1 => ?_)
                  rw [e2] at hP1 hD1
                  exact kk H1 locs1 _ _ ⟨[], (List.append_nil _).symm⟩ ⟨_, tys, hK, hP1, hD1, (ai_map_set he).symm, by rw [List.length_set, List.length_set]; exact hlen, ai_cell_set he hR (Or.inr (Or.inr (Or.inr ⟨_, cA, _, t0, hrt, by rw [List.length_set], g1, ai_updR (y := some ay) g2 hy'⟩)))⟩ hS1 hS
                rw [Bool.or_eq_true, Bool.and_eq_true, Bool.and_eq_true] at h1
                rcases h1 with ⟨z1, z2⟩ | ⟨z1, z2⟩
                · exact key 1 _ rfl (Nat.eq_of_beq_eq_true z2) (by rw [Nat.eq_of_beq_eq_true z1]; rfl)
                · exact key 3 _ rfl (Nat.eq_of_beq_eq_true z2) (by rw [Nat.eq_of_beq_eq_true z1]; rfl)
            · cases h
          · cases h
        · cases h
      · cases h
    · cases h
  · split at h
    · next r =>
      obtain ⟨h1, h⟩ := ai_bif2 h
      cases h
      rw [Bool.and_eq_true] at h1
      have hlt : scr.length ≤ 100000 := by simpa [Nat.ble_eq] using h1.2
      match st, hS with
      | _ :: st', ⟨rfl, hS⟩ =>
        rcases hSC with rfl | ⟨xs, hX, hbl, hbA, hxs⟩
        · exact absurd h1.1 (by decide)
        · have e1 : (Int32.ofNat scr.length).toInt = (scr.length : Int) := Int32.toInt_ofNat_of_lt (by omega)
          exact va_slen hx hb hX hbl hbA hV hd (kk H locs _ _ ⟨[], (List.append_nil _).symm⟩ hW hV ⟨⟨_, rfl, by rw [e1]; exact Int.le_refl _, by rw [e1]; exact Int.le_refl _⟩, hS⟩)
    · next k r =>
      split at h
      · next ac hk =>
        obtain ⟨h1, h⟩ := ai_bif2 h
        cases h
        rw [Bool.and_eq_true, Nat.ble_eq, Nat.ble_eq] at h1
        match st, hS with
        | u :: st', ⟨hu, hS⟩ =>
          obtain ⟨ws, tys, hK, hP, hD, had, hlen, hR⟩ := id hW
          subst had
          obtain ⟨a', e', rfl, he, hre⟩ := ai_obj hu hR hk
          have e1 : (Int32.ofNat ac.2.length).toInt = (ac.2.length : Int) := Int32.toInt_ofNat_of_lt (by omega)
          have fin := kk H locs _ (.int (Int32.ofNat ac.2.length) :: st') ⟨[], (List.append_nil _).symm⟩ hW hV ⟨⟨_, rfl, by rw [e1]; exact Int.le_refl _, by rw [e1]; exact Int.le_refl _⟩, hS⟩
          rcases hre with ⟨h0, -⟩ | ⟨ty, cA, f, t0, h0, rfl, g1, -⟩ | ⟨cA, f, t0, h0, rfl, g1, -⟩ | ⟨ty, cA, f, t0, h0, rfl, g1, -⟩
          · omega
          · exact va_alen hx hb hK hP k t0 he g1 rfl hd fin
          · exact va_alen hx hb hK hP k t0 he g1 rfl hd fin
          · exact va_alen hx hb hK hP k t0 he g1 rfl hd fin
      · cases h
    · cases h
  · next ty =>
    split at h
    · next q r =>
      split at h
      · next n hn =>
        obtain ⟨h1, h⟩ := ai_bif2 h
        simp only [Option.some.injEq, Prod.mk.injEq] at h
        obtain ⟨rfl, rfl, rfl, rfl⟩ := h
        rw [Bool.and_eq_true, Nat.ble_eq] at h1
        match st, hS with
        | _ :: st', ⟨⟨x, rfl, x1, x2⟩, hS⟩ =>
          obtain ⟨e1, e2, e3, -⟩ := ai_ix_ok hn x1 x2
          obtain ⟨ws, tys, hK, hP, hD, had, hlen, hR⟩ := id hW
          subst had
          have fin : ∀ (fty : FieldType) (a0 : vp_A), (∀ (cA : ClassId) (q : Nat), ai_RE bs (ws.map Prod.fst ++ [q]) (tys ++ [(cA, fty)]) (ai_nt ty, List.replicate n (ai_zv (ai_nt ty))) (.inl (cA, a0))) → ∀ (q : Nat) (cA : ClassId) (H1 : Heap), va_K D classes (tys ++ [(cA, fty)]) s → va_P D classes (ws ++ [(q, .inl (cA, a0))]) H1 → va_D A (ws ++ [(q, .inl (cA, a0))]) → va_S A H0 H1 locs →
              W p l e R s m args below meth c H1 locs (cells + 1) (slots + n) Q (F0 m (pc + 2) ls (.ref q :: st')) := fun fty a0 hz q cA H1 hK1 hP1 hD1 hS1 =>
            kk H1 locs _ _ ⟨[q], rfl⟩ ⟨_, _, hK1, hP1, hD1, by rw [List.map_append]; rfl, by rw [List.length_append, List.length_append, hlen]; rfl, ai_one hlen rfl hR (hz cA q)⟩ hS1 ⟨by rw [ai_frc_eq]; exact ⟨q, by have := ai_last (q := q) (n := 0) (e := .inl (cA, a0)) hlen; rw [List.map_append] at this; exact this, rfl⟩, hS.mono _⟩
          have rp : ∀ (j : Nat) (v : ai_V), (List.replicate n (ai_zv (ai_nt ty)))[j]? = some v → v = ai_zv (ai_nt ty) := fun j v hj => List.eq_of_mem_replicate (List.mem_of_getElem? hj)
          have tl : ∀ (cA : ClassId) (fty : FieldType), (tys ++ [(cA, fty)])[tys.length]? = some (cA, fty) := fun cA fty => by rw [List.getElem?_append_right (Nat.le_refl _), Nat.sub_self]; rfl
          cases ty with
          | int => exact va_newa (atype := .int) hx hb (hts _ ac_int) rfl hK hP hD hV hA (a0 := (n, .inl (fun _ => 0))) (fun _ => rfl) e3 e2 (by show n * 4 ≤ _; omega) hcells hslots hd (fin .int _ (fun cA q => Or.inr (Or.inl ⟨.int, cA, _, tys.length, rfl, by rw [List.length_replicate], tl _ _, fun j v hj => by rw [rp j v hj]; exact ⟨0, rfl, by decide, by decide⟩⟩)))
          | long => exact va_newa (atype := .long) hx hb (hts _ ac_long) rfl hK hP hD hV hA (a0 := (n, .inr (.inl (fun _ => 0)))) (fun _ => rfl) e3 e2 (by show n * 8 ≤ _; omega) hcells hslots hd (fin .long _ (fun cA q => Or.inr (Or.inr (Or.inl ⟨cA, _, tys.length, rfl, by rw [List.length_replicate], tl _ _, fun j v hj => by rw [rp j v hj]; exact ⟨0, rfl, by decide, by decide⟩⟩))))
          | byte => exact va_newa (atype := .byte) hx hb (hts _ ac_byte) rfl hK hP hD hV hA (a0 := (n, .inl (fun _ => 0))) (fun _ => rfl) e3 e2 (by show n * 1 ≤ _; omega) hcells hslots hd (fin .byte _ (fun cA q => Or.inr (Or.inl ⟨.byte, cA, _, tys.length, rfl, by rw [List.length_replicate], tl _ _, fun j v hj => by rw [rp j v hj]; exact ⟨0, rfl, by decide, by decide⟩⟩)))
          | boolean => exact va_newa (atype := .boolean) hx hb (hts _ ac_bool) rfl hK hP hD hV hA (a0 := (n, .inl (fun _ => 0))) (fun _ => rfl) e3 e2 (by show n * 1 ≤ _; omega) hcells hslots hd (fin .boolean _ (fun cA q => Or.inr (Or.inl ⟨.boolean, cA, _, tys.length, rfl, by rw [List.length_replicate], tl _ _, fun j v hj => by rw [rp j v hj]; exact ⟨0, rfl, by decide, by decide⟩⟩)))
          | _ => exact absurd h1.1 (by decide)
      · cases h
    · cases h
  · next i =>
    split at h
    · next q r =>
      split at h
      · next n hn =>
        obtain ⟨h1, h⟩ := ai_bif2 h
        simp only [Option.some.injEq, Prod.mk.injEq] at h
        obtain ⟨rfl, rfl, rfl, rfl⟩ := h
        rw [Nat.ble_eq] at h1
        match st, hS with
        | _ :: st', ⟨⟨x, rfl, x1, x2⟩, hS⟩ =>
          obtain ⟨e1, e2, e3, -⟩ := ai_ix_ok hn x1 x2
          obtain ⟨ws, tys, hK, hP, hD, had, hlen, hR⟩ := id hW
          subst had
          have key : ∀ C : String, ai_rt a = some (.object C) → (Cond.classLink own i C).before args s = true → va_AO C s → W p l e R s m args below meth c H locs cells slots Q (F0 m pc ls (.int x :: st')) := fun C hrt hlk hao =>
            va_newq hx hb hown hlk hao hK hP hD hV hA e3 e2 (by omega) hcells hslots hd (fun q cA H1 hK1 hP1 hD1 hS1 =>
              kk H1 locs _ _ ⟨[q], rfl⟩ ⟨_, _, hK1, hP1, hD1, by rw [List.map_append]; rfl, by rw [List.length_append, List.length_append, hlen]; rfl, ai_one hlen rfl hR (Or.inr (Or.inr (Or.inr ⟨_, cA, _, tys.length, hrt, by rw [List.length_replicate], by rw [List.getElem?_append_right (Nat.le_refl _), Nat.sub_self]; rfl, fun j v hj => by rw [List.eq_of_mem_replicate (List.mem_of_getElem? hj)]; rfl⟩)))⟩ hS1 ⟨by rw [ai_frc_eq]; exact ⟨q, by have := ai_last (q := q) (n := 0) (e := .inl (cA, n, .inr (.inr (.inr (.inr (fun _ => none)))))) hlen; rw [List.map_append] at this; exact this, rfl⟩, hS.mono _⟩)
          rcases hf with ⟨rfl, hlk⟩ | ⟨rfl, hlk⟩
          · exact key RR_1 rfl (hts _ hlk) hEV.1
          · exact key RR_3 rfl (hts _ hlk) hEV.2.1
      · cases h
    · cases h
  · next i dm =>
    split at h
    · next q2 q r =>
      split at h
      · next k hk =>
        split at h
        · next n hn =>
          obtain ⟨h1, h⟩ := ai_bif2 h
          rw [ai_frc_eq] at h
          cases h
          rw [Bool.and_eq_true, Bool.and_eq_true, Nat.ble_eq, Nat.ble_eq] at h1
          match st, hS with
          | [_], hS => exact hS.2.elim
          | _ :: _ :: st', ⟨⟨y, rfl, y1, y2⟩, ⟨x, rfl, x1, x2⟩, hS⟩ =>
            obtain ⟨e1, e2, e3, -⟩ := ai_ix_ok hn x1 x2
            obtain ⟨f1, f2, f3, -⟩ := ai_ix_ok hk y1 y2
            obtain ⟨ws, tys, hK, hP, hD, had, hlen, hR⟩ := id hW
            subst had
            have hnk : n * k ≤ 10000 * 10000 := Nat.mul_le_mul h1.1 h1.2.1
            obtain ⟨rfl, hf⟩ := hf
            have hb3 : cells + (1 + n) = cells + 1 + n := by omega
            have hb4 : slots + (n + n * k) = slots + n + n * k := by omega
            have key : ∀ (ty : FieldType) (z : vp_A), ai_rt a = some (.array ty) → (Cond.classLink own i ("[" ++ (FieldType.array ty).toString)).before args s = true → (Cond.arrayOver (.array ty)).before args s = true → (Cond.arrayClass ty).before args s = true → (∀ cy : ClassId, s.vm.findClass (FieldType.array ty).toString = some cy → va_RA s cy ty) → k * componentBytes ty ≤ 536870912 → fits ty (defaultValue ty) = true → (defaultValue ty).isDefault = true → (∀ c : ClassId, Jvm.Free.Multi.innerC c k (defaultValue ty) = vp_cell c z) →
                (∀ (ad : List Nat) (tz : List (ClassId × FieldType)) (cy : ClassId) (t0 : Nat), tz[t0]? = some (cy, ty) → ai_RE bs ad tz (a - 6, List.replicate k (ai_zv (a - 6))) (.inl (cy, z))) →
                W p l e R s m args below meth c H locs cells slots Q (F0 m pc ls (.int y :: .int x :: st')) := by
              intro ty z hrt g1 g2 g3 g4 g5 g6 g7 g8 g9
              refine ai_mna hx hb hown g1 g2 g3 g4 hK hP hD hV hA e3 f3 e2 f2 (by omega) g5 (by omega) g6 g7 hcells hslots g8 hd (fun q cA cy H1 hK1 hP1 hD1 hS1 => ?_)
              rw [← hb3, ← hb4]
              have hmap : (ai_grid q n cA cy z).map Prod.fst = q :: (List.range n).map (fun i => q + 1 + i) := by
                unfold ai_grid
                rw [List.map_cons, List.map_map]
                rfl
              have hadr : ∀ j, j < n → (ws.map Prod.fst ++ (ai_grid q n cA cy z).map Prod.fst)[w.length + 1 + j]? = some (q + 1 + j) := fun j hj => by
                rw [hmap, List.getElem?_append_right (by rw [List.length_map]; omega), List.length_map, show w.length + 1 + j - ws.length = j + 1 by omega, List.getElem?_cons_succ, List.getElem?_map, List.getElem?_range hj]
                rfl
              refine kk H1 locs (ws.map Prod.fst ++ (ai_grid q n cA cy z).map Prod.fst) _ ⟨_, rfl⟩ ⟨_, _, hK1, hP1, hD1, by rw [List.map_append], ?_, ai_cell_push hlen rfl hR ?_⟩ hS1 ⟨⟨q, ?_, rfl⟩, hS.mono _⟩
              · unfold ai_grid
                simp [hlen]
              · intro j bc hj
                match j, hj with
                | 0, hj =>
                  cases hj
                  refine ⟨_, rfl, Or.inr (Or.inr (Or.inr ⟨_, cA, _, tys.length, hrt, by rw [List.length_map, List.length_range], by rw [List.getElem?_append_right (Nat.le_refl _), Nat.sub_self]; rfl, fun j v hj => ?_⟩))⟩
                  rw [List.getElem?_map] at hj
                  by_cases hjn : j < n
                  · rw [List.getElem?_range hjn] at hj
                    cases hj
                    rw [if_pos hjn]
                    show ai_RV _ _ (.inl (some (w.length + 3 + j))) _
                    rw [show w.length + 3 + j = (w.length + 1 + j) + 2 by omega]
                    exact ⟨_, hadr j hjn, rfl⟩
                  · rw [List.getElem?_eq_none (by rw [List.length_range]; omega)] at hj
                    cases hj
                | j + 1, hj =>
                  rw [List.getElem?_cons_succ] at hj
                  have hbc := List.eq_of_mem_replicate (List.mem_of_getElem? hj)
                  have hjn : j < n := by
                    have := (List.getElem?_eq_some_iff.mp hj).1
                    rw [List.length_replicate] at this
                    exact this
                  refine ⟨(q + 1 + j, .inl (cy, z)), ?_, ?_⟩
                  · unfold ai_grid
                    rw [List.getElem?_cons_succ, List.getElem?_map, List.getElem?_range hjn]
                    rfl
                  · rw [hbc]
                    exact g9 _ _ cy (tys.length + 1) (by rw [List.getElem?_append_right (by omega), show tys.length + 1 - tys.length = 1 by omega]; rfl)
              · rw [hmap, List.getElem?_append_right (by rw [List.length_map]; omega), List.length_map, hlen, Nat.sub_self]
                rfl
            rcases hf with ⟨rfl, hlk⟩ | ⟨rfl, hlk⟩
            · exact key .int (k, .inl (fun _ => 0)) rfl (hts _ hlk) hEV.2.2.1 (hts _ ac_int) (fun _ h => h) (by show k * 4 ≤ _; omega) rfl rfl (fun c9 => by rw [vp_cell_i]; exact arrV_new _ _ _) (fun ad tz cy t0 ht0 => Or.inr (Or.inl ⟨.int, cy, _, t0, rfl, by rw [List.length_replicate], ht0, fun j v hj => by rw [List.eq_of_mem_replicate (List.mem_of_getElem? hj)]; exact ⟨0, rfl, by decide, by decide⟩⟩))
            · exact key .long (k, .inr (.inl (fun _ => 0))) rfl (hts _ hlk) hEV.2.2.2 (hts _ ac_long) (fun _ h => h) (by show k * 8 ≤ _; omega) rfl rfl (fun c9 => by rw [vp_cell_l]; exact arrV_new _ _ _) (fun ad tz cy t0 ht0 => Or.inr (Or.inr (Or.inl ⟨cy, _, t0, rfl, by rw [List.length_replicate], ht0, fun j v hj => by rw [List.eq_of_mem_replicate (List.mem_of_getElem? hj)]; exact ⟨0, rfl, by decide, by decide⟩⟩)))
        · cases h
      · cases h
    · cases h
  · next i =>
    cases h
    obtain ⟨C, T, N, hc, hlk⟩ := hf
    obtain ⟨ha7, ck⟩ := ai_ck hc
    obtain ⟨hN, ck1, ck2, ck3, ck4, ck5, ck6, ck7, ck8⟩ := ck
    dsimp only at hN
    rw [← hN] at hslots kk
    obtain ⟨ws, tys, hK, hP, hD, had, hlen, hR⟩ := id hW
    subst had
    refine va_new (ci := a) (fs := (List.range N).map (fun k => defaultValue (ai_tt a k))) hx hb hts ck1 (ai_tt a) ck2 hown (hts _ hlk) (hts _ ck4) (hts _ ck5) hK hP hD hV hA hc (fun j hj => ?_) hcells hslots hd (fun q H1 hP1 hD1 hS1 => ?_)
    · unfold vp_V
      rw [List.getD_eq_getElem?_getD, List.getElem?_map, List.getElem?_range hj]
      rfl
    · refine kk H1 locs _ _ ⟨[q], rfl⟩ ⟨_, tys ++ [], by rw [List.append_nil]; exact hK, hP1, hD1, by rw [List.map_append]; rfl, by rw [List.length_append, List.length_append, hlen]; rfl, ai_one hlen rfl hR (Or.inl ⟨by show a < 10; omega, _, rfl, ?_⟩)⟩ hS1 ⟨by rw [ai_frc_eq]; exact ⟨q, by have := ai_last (q := q) (n := 0) (e := .inr (a, (List.range N).map (fun k => defaultValue (ai_tt a k)))) hlen; rw [List.map_append] at this; exact this, rfl⟩, hS.mono _⟩
      exact ai_dvs _ (fun k hk => ck8 k (List.mem_range.mp hk))
  · cases h
end AIH2
end
section
/-! ===== abstract runs of whole methods ===== -/
abbrev ai_E : Type := Nat × Nat × Instr × Nat × Nat × Nat × Int
abbrev ai_M : Type := MethodName × ByteArray × Nat × Option FieldType × Nat × Bool × Nat × List ai_E
abbrev ai_y (M : ai_M) : MethodName := M.1
abbrev ai_by (M : ai_M) : ByteArray := M.2.1
abbrev ai_ml (M : ai_M) : Nat := M.2.2.1
abbrev ai_rt' (M : ai_M) : Option FieldType := M.2.2.2.1
abbrev ai_oc (M : ai_M) : Nat := M.2.2.2.2.1
abbrev ai_ii (M : ai_M) : Bool := M.2.2.2.2.2.1
abbrev ai_na (M : ai_M) : Nat := M.2.2.2.2.2.2.1
abbrev ai_cd (M : ai_M) : List ai_E := M.2.2.2.2.2.2.2
def ai_jm : List ai_E → Nat → List ai_E
  | [], _ => []
  | e :: r, t => bif Nat.beq e.1 t then e :: r else ai_jm r t
theorem ai_jm_sub : ∀ {cd : List ai_E} {t : Nat} {e : ai_E}, e ∈ ai_jm cd t → e ∈ cd
  | [], _, _, h => h
  | x :: r, t, e, h => by
    unfold ai_jm at h
    cases hc : Nat.beq x.1 t with
    | true => rw [hc] at h; exact h
    | false => rw [hc] at h; exact List.mem_cons_of_mem _ (ai_jm_sub h)
def ai_cs : List ai_V → Nat
  | [] => 0
  | x :: S => ai_cat x + ai_cs S
theorem ai_cs_ok {b : Nat} {ad : List Nat} : ∀ {S : List ai_V} {st : List Value}, ai_RS b ad S st → (st.map fun v => v.category).sum = ai_cs S
  | [], [], _ => rfl
  | x :: S, v :: st, h => by
    rw [List.map_cons, List.sum_cons, ai_cs_ok h.2, h.1.cat]
    rfl
  | [], _ :: _, h => h.elim
  | _ :: _, [], h => h.elim
def ai_lv0 : Nat → List ai_V → ai_Ls
  | _, [] => []
  | i, x :: S => (i, x) :: ai_lv0 (i + ai_cat x) S
theorem ai_cat12 (x : ai_V) : ai_cat x = 1 ∨ ai_cat x = 2 := by
  unfold ai_cat
  split
  · exact Or.inr rfl
  · exact Or.inl rfl
theorem ai_lv0_ok {b : Nat} {ad : List Nat} : ∀ {S : List ai_V} {st : List Value} (i : Nat), ai_RS b ad S st → ∀ q ∈ ai_lv0 i S, ∃ v, (q.1, v) ∈ lv_args i st ∧ ai_RV b ad q.2 v
  | [], [], _, _, _, h => by cases h
  | x :: S, v :: st, i, h, q, hq => by
    unfold ai_lv0 at hq
    unfold lv_args
    rcases List.mem_cons.mp hq with rfl | hq
    · exact ⟨v, List.mem_cons_self, h.1⟩
    · obtain ⟨u, h1, h2⟩ := ai_lv0_ok _ h.2 q hq
      refine ⟨u, List.mem_cons_of_mem _ ?_, h2⟩
      have e : (if v.category = 2 then i + 2 else i + 1) = i + ai_cat x := by
        rw [h.1.cat]
        rcases ai_cat12 x with q | q <;> rw [q] <;> rfl
      rw [e]
      exact h1
  | [], _ :: _, _, h, _, _ => h.elim
  | _ :: _, [], _, h, _, _ => h.elim
theorem ai_sl_ok {b : Nat} {ad : List Nat} : ∀ {S : List ai_V} {st : List Value}, ai_RS b ad S st → (lg_sl st).length = ai_cs S
  | [], [], _ => rfl
  | x :: S, v :: st, h => by
    have ih := ai_sl_ok h.2
    unfold lg_sl at ih ⊢
    rw [List.flatMap_cons, List.length_append, ih]
    show _ = ai_cat x + ai_cs S
    congr 1
    rw [h.1.cat]
    rcases ai_cat12 x with q | q <;> rw [q] <;> rfl
  | [], _ :: _, h => h.elim
  | _ :: _, [], h => h.elim
theorem ai_RS.app {b : Nat} {ad : List Nat} : ∀ {S T : List ai_V} {st tt : List Value}, ai_RS b ad S st → ai_RS b ad T tt → ai_RS b ad (S ++ T) (st ++ tt)
  | [], _, [], _, _, h => h
  | _ :: _, _, _ :: _, _, h1, h2 => ⟨h1.1, ai_RS.app h1.2 h2⟩
  | [], _, _ :: _, _, h, _ => h.elim
  | _ :: _, _, [], _, h, _ => h.elim
theorem ai_RS.rev {b : Nat} {ad : List Nat} : ∀ {S : List ai_V} {st : List Value}, ai_RS b ad S st → ai_RS b ad S.reverse st.reverse
  | [], [], _ => trivial
  | _ :: _, _ :: _, h => by
    rw [List.reverse_cons, List.reverse_cons]
    exact (ai_RS.rev h.2).app ⟨h.1, trivial⟩
  | [], _ :: _, h => h.elim
  | _ :: _, [], h => h.elim
theorem ai_RS.take {b : Nat} {ad : List Nat} : ∀ {S : List ai_V} {st : List Value} (n : Nat), ai_RS b ad S st → ai_RS b ad (S.take n) (st.take n) ∧ ai_RS b ad (S.drop n) (st.drop n)
  | _, _, 0, h => ⟨by rw [List.take_zero, List.take_zero]; trivial, h⟩
  | [], [], n + 1, _ => ⟨trivial, trivial⟩
  | _ :: _, _ :: _, n + 1, h => ⟨⟨h.1, (ai_RS.take n h.2).1⟩, (ai_RS.take n h.2).2⟩
  | [], _ :: _, n + 1, h => h.elim
  | _ :: _, [], n + 1, h => h.elim
/-- the returns -/
def ai_rc (rt : Option FieldType) (ins : Instr) (S : List ai_V) : Option (Option ai_V) := match ins with
  | .return_ => (match S with
    | [] => (match rt with
      | none => some none
      | some _ => none)
    | _ => none)
  | .ireturn => (match S with
    | [.inr (.inl q)] => (match rt with
      | some ty => bif ai_okf ty (.inr (.inl q)) then some (some (.inr (.inl q))) else none
      | none => none)
    | _ => none)
  | .lreturn => (match S with
    | [.inr (.inr q)] => (match rt with
      | some .long => some (some (.inr (.inr q)))
      | _ => none)
    | _ => none)
  | .areturn => (match S with
    | [.inl q] => (match rt with
      | some (.object _) => some (some (.inl q))
      | some (.array _) => some (some (.inl q))
      | _ => none)
    | _ => none)
  | _ => none
def ai_RR (b : Nat) (ad : List Nat) (r : Option ai_V) (v : Option Value) : Prop := match r, v with
  | none, none => True
  | some x, some u => ai_RV b ad x u
  | _, _ => False
theorem ai_rc_ok {p : Program} {l : Launch} {e : Env} {R : Room} {s : State} {m : MethodId} {args : Array Value} {below : List Frame} {meth : Method} {c : Code} {H : Heap} {locs : List Loc} {cells slots : Nat} {cc : ByteArray} {pc : Nat} {ls : Array Slot} {st : List Value} {bs : Nat} {ad : List Nat} {S : List ai_V} {free : Addr → Prop} {Qc : Array Value → State → Outcome → State → Prop}
    {rt : Option FieldType} {ins : Instr} {r : Option ai_V} (hx : p.tables.exec = Jvm.exec) (hb : c.code = cc) (hr : meth.sig.returnType = rt) (hlocks : meth.locks = false) (hd : decode cc pc = .ok (ins, 1)) (h : ai_rc rt ins S = some r) (hS : ai_RS bs ad S st)
    (hq : ∀ v : Option Value, ai_RR bs ad r v → ∀ t : State, t.heap = H → s.WarmedH t.vm → Qc args s (.returned v) t) (hf : ∀ q ∈ locs, free q.base) : W p l e R s m args below meth c H locs cells slots (MQ below Qc args s cells slots free) (F0 m pc ls st) := by
  unfold ai_rc at h
  split at h
  · split at h
    · split at h
      · cases h
        match st, hS with
        | [], _ => exact W.vret hx hb hr (hq none trivial) hf hd
      · cases h
    · cases h
  · split at h
    · split at h
      · next q ty =>
        obtain ⟨h1, h2⟩ := ai_bif h
        cases h2
        match st, hS with
        | [u], ⟨hu, _⟩ =>
          obtain ⟨hn, -⟩ := ai_okf_ok h1 hu
          obtain ⟨x, rfl, hx2⟩ := hu
          exact W.zret hx hb hr hn (hq (some (.int x)) ⟨x, rfl, hx2⟩) hf hd
        | _ :: _ :: _, hS => exact hS.2.elim
      · cases h
    · cases h
  · split at h
    · split at h
      · cases h
        match st, hS with
        | [u], ⟨hu, _⟩ =>
          obtain ⟨x, rfl, hx2⟩ := hu
          exact W.lret hx hb hr (hq (some (.long x)) ⟨x, rfl, hx2⟩) hf hd
        | _ :: _ :: _, hS => exact hS.2.elim
      · cases h
    · cases h
  · split at h
    · split at h
      · next q n =>
        cases h
        match st, hS with
        | [u], ⟨hu, _⟩ => exact W.aret hx hb hr (Or.inl ⟨_, rfl⟩) (ai_RV.ref hu) (hq (some u) hu) hf hd
        | _ :: _ :: _, hS => exact hS.2.elim
      · next q n =>
        cases h
        match st, hS with
        | [u], ⟨hu, _⟩ => exact W.aret hx hb hr (Or.inr ⟨_, rfl⟩) (ai_RV.ref hu) (hq (some u) hu) hf hd
        | _ :: _ :: _, hS => exact hS.2.elim
      · cases h
    · cases h
  · cases h
/-- a copy of a row of ints -/
def ai_cp (S : List ai_V) (w : ai_W) : Option (List ai_V × ai_W) := match S with
  | .inr (.inl n) :: .inr (.inl dp) :: .inl (some (k1 + 2)) :: .inr (.inl sp) :: .inl (some (k0 + 2)) :: r => (match ai_ix n, ai_ix dp with
    | some n, some dp => (match ai_ix sp with
      | some sp => (match w[k0]?, w[k1]? with
        | some a0, some a1 => bif Nat.beq a0.1 10 && (Nat.beq a1.1 10 && (Nat.ble (sp + n) a0.2.length && (Nat.ble (dp + n) a1.2.length && Nat.ble (ai_cs r) 8))) then some (r, w.set k1 (a1.1, List.replicate a1.2.length (.inr (.inl ai_tI)))) else none
        | _, _ => none)
      | none => none)
    | _, _ => none)
  | _ => none
/-- the receiver of a call -/
def ai_rv (AS : List ai_V) (b : Nat) (w : ai_W) (oc : Nat) : Bool := match AS with
  | .inl (some (k + 2)) :: _ => (match b with
    | 0 => (match w[k]? with
      | some ac => Nat.beq ac.1 oc
      | none => false)
    | _ => true)
  | _ => Nat.beq b 1
theorem ai_rv_ok {AS : List ai_V} {b : Nat} {w : ai_W} {oc : Nat} (h : ai_rv AS b w oc = true) (hb : b ≠ 1) : ∃ k AS', AS = .inl (some (k + 2)) :: AS' ∧ (b = 0 → ∃ ac, w[k]? = some ac ∧ ac.1 = oc) := by
  unfold ai_rv at h
  split at h
  · next k AS' =>
    refine ⟨k, AS', rfl, fun q => ?_⟩
    subst q
    simp only at h
    split at h
    · next ac hac => exact ⟨ac, hac, Nat.eq_of_beq_eq_true h⟩
    · cases h
  · exact absurd (Nat.eq_of_beq_eq_true h) hb
/-- a method's run: fuel, the script (the law's frame alone), the depth that is left, the method, what is left of its code, place, locals, stack, world, cells and slots that were made -/
def ai_ex (mt : List ai_M) : Nat → List ai_V → Nat → ai_M → List ai_E → Nat → ai_Ls → List ai_V → ai_W → Nat → Nat → Option (Option ai_V × ai_W × Nat × Nat)
  | 0, _, _, _, _, _, _, _, _, _, _ => none
  | f + 1, scr, d, M, cd, pc, L, S, w, c, s => match cd with
    | [] => none
    | (pc0, g, ins, len, a, b, z) :: cd' => bif Nat.beq pc0 pc then (match g with
      | 0 => (match ai_gL ins (ai_ml M) z L S with
        | some (L', S') => ai_ex mt f scr d M cd' (pc0 + len) L' S' w c s
        | none => none)
      | 1 => (match ai_gI ins S with
        | some S' => ai_ex mt f scr d M cd' (pc0 + len) L S' w c s
        | none => none)
      | 2 => (match ai_gJ pc0 ins a S with
        | some (some t, S') => ai_ex mt f scr d M (ai_jm (ai_cd M) t) t L S' w c s
        | some (none, S') => ai_ex mt f scr d M cd' (pc0 + 3) L S' w c s
        | none => none)
      | 3 => (match ai_gH (ai_ii M) (ai_oc M) scr ins a b S w with
        | some (S', w', dc, ds) => ai_ex mt f scr d M cd' (pc0 + len) L S' w' (c + dc) (s + ds)
        | none => none)
      | 4 => (match mt[a]?, d with
        | some N, d' + 1 => bif Nat.ble (ai_cs (S.drop (ai_na N))) 8 && (Nat.ble (ai_na N) S.length && (Nat.ble (ai_cs (S.take (ai_na N)).reverse) (ai_ml N) && ai_rv (S.take (ai_na N)).reverse b w (ai_oc N))) then
          (match ai_ex mt f [] d' N (ai_cd N) 0 (ai_lv0 0 (S.take (ai_na N)).reverse) [] w 0 0 with
          | some (r, w', mc, ms) => ai_ex mt f scr d M cd' (pc0 + 3) L (r.toList ++ S.drop (ai_na N)) w' (c + mc) (s + ms)
          | none => none) else none
        | _, _ => none)
      | 5 => (match S, d with
        | .inl (some _) :: r, _ + 1 => bif Nat.ble (ai_cs r) 8 then ai_ex mt f scr d M cd' (pc0 + 3) L r w c s else none
        | _, _ => none)
      | 6 => (match ai_rc (ai_rt' M) ins S with
        | some r => some (r, w, c, s)
        | none => none)
      | 7 => (match ai_cp S w, d with
        | some (S', w'), _ + 1 => ai_ex mt f scr d M cd' (pc0 + 3) L S' w' c s
        | _, _ => none)
      | _ => none) else none
end
section
/-- the private constructors that are called from outside, the text constants -/
def ai_nw : List (String × Nat × MethodName) := [("TheOtherRoom", 26, ⟨"TheOtherRoom$Tape", "<init>", "()V"⟩), ("TheOtherRoom", 33, ⟨"TheOtherRoom$Walk", "<init>", "()V"⟩), ("TheOtherRoom", 40, ⟨"TheOtherRoom$Search", "<init>", "()V"⟩), ("TheOtherRoom$Search", 58, ⟨"TheOtherRoom$Walk", "<init>", "()V"⟩), ("TheOtherRoom", 48, ⟨"TheOtherRoom$Flat", "<init>", "()V"⟩), ("TheOtherRoom", 71, ⟨"TheOtherRoom$Shelf", "<init>", "()V"⟩)]
def ai_sw : List (String × Nat × String) := [("TheOtherRoom$Tape", 45, "board"), ("TheOtherRoom$Tape", 55, "by"), ("TheOtherRoom$Tape", 63, "wall"), ("TheOtherRoom$Tape", 75, "thing"), ("TheOtherRoom$Tape", 113, "at"), ("TheOtherRoom$Tape", 118, "turned"), ("TheOtherRoom$Tape", 130, "heavy"), ("TheOtherRoom$Tape", 135, "fixed"), ("TheOtherRoom$Tape", 139, "plain"), ("TheOtherRoom$Tape", 80, "hands"), ("TheOtherRoom$Tape", 84, "landing"), ("TheOtherRoom$Tape", 88, "door"), ("TheOtherRoomModel", 248, "board"), ("TheOtherRoomModel", 255, "by"), ("TheOtherRoomModel", 257, "wall"), ("TheOtherRoomModel", 259, "hands"), ("TheOtherRoomModel", 261, "landing"), ("TheOtherRoomModel", 263, "door"), ("TheOtherRoomModel", 265, "thing"), ("TheOtherRoomModel", 269, "at"), ("TheOtherRoomModel", 270, "turned"), ("TheOtherRoomModel", 272, "heavy"), ("TheOtherRoomModel", 274, "fixed"), ("TheOtherRoomModel", 276, "plain")]
theorem ai_nw_in : ∀ q ∈ ai_nw, Cond.methodLinkNest q.1 q.2.1 q.2.2 "TheOtherRoom" ∈ lw_tbl := List.forall_mem_cons.mpr ⟨lw_t 32 (by decide +kernel), List.forall_mem_cons.mpr ⟨lw_t 59 (by decide +kernel), List.forall_mem_cons.mpr ⟨lw_t 120 (by decide +kernel), List.forall_mem_cons.mpr ⟨lw_t 125 (by decide +kernel), List.forall_mem_cons.mpr ⟨lw_t 182 (by decide +kernel), List.forall_mem_cons.mpr ⟨lw_t 280 (by decide +kernel), fun _ h => absurd h List.not_mem_nil⟩⟩⟩⟩⟩⟩
theorem ai_sw_in : ∀ q ∈ ai_sw, Cond.stringRef q.1 q.2.1 q.2.2 ∈ lw_tbl := List.forall_mem_cons.mpr ⟨lw_t 580 (by decide +kernel), List.forall_mem_cons.mpr ⟨lw_t 648 (by decide +kernel), List.forall_mem_cons.mpr ⟨lw_t 668 (by decide +kernel), List.forall_mem_cons.mpr ⟨lw_t 679 (by decide +kernel), List.forall_mem_cons.mpr ⟨lw_t 684 (by decide +kernel), List.forall_mem_cons.mpr ⟨lw_t 685 (by decide +kernel), List.forall_mem_cons.mpr ⟨lw_t 687 (by decide +kernel), List.forall_mem_cons.mpr ⟨lw_t 688 (by decide +kernel), List.forall_mem_cons.mpr ⟨lw_t 689 (by decide +kernel), List.forall_mem_cons.mpr ⟨lw_t 690 (by decide +kernel), List.forall_mem_cons.mpr ⟨lw_t 691 (by decide +kernel), List.forall_mem_cons.mpr ⟨lw_t 692 (by decide +kernel), List.forall_mem_cons.mpr ⟨lw_t 1299 (by decide +kernel), List.forall_mem_cons.mpr ⟨lw_t 1318 (by decide +kernel), List.forall_mem_cons.mpr ⟨lw_t 1323 (by decide +kernel), List.forall_mem_cons.mpr ⟨lw_t 1324 (by decide +kernel), List.forall_mem_cons.mpr ⟨lw_t 1325 (by decide +kernel), List.forall_mem_cons.mpr ⟨lw_t 1326 (by decide +kernel), List.forall_mem_cons.mpr ⟨lw_t 1327 (by decide +kernel), List.forall_mem_cons.mpr ⟨lw_t 1332 (by decide +kernel), List.forall_mem_cons.mpr ⟨lw_t 1333 (by decide +kernel), List.forall_mem_cons.mpr ⟨lw_t 1334 (by decide +kernel), List.forall_mem_cons.mpr ⟨lw_t 1335 (by decide +kernel), List.forall_mem_cons.mpr ⟨lw_t 1336 (by decide +kernel), fun _ h => absurd h List.not_mem_nil⟩⟩⟩⟩⟩⟩⟩⟩⟩⟩⟩⟩⟩⟩⟩⟩⟩⟩⟩⟩⟩⟩⟩⟩
theorem oi_inst : Cond.instanceMethod objectInit ∈ ww_ok := ww_t 24 (by decide +kernel)
theorem oi_code : Cond.code objectInit ⟨#[0xb1]⟩ 1 none ∈ ww_ok := ww_t 25 (by decide +kernel)
theorem ac_nat : Cond.native arraycopyName ∈ ww_ok := ww_t 387 (by decide +kernel)
theorem ac_stat : Cond.static arraycopyName ∈ ww_ok := ww_t 386 (by decide +kernel)
theorem ac_ini : Cond.initialized "java/lang/System" ∈ ww_ok := ww_t 9 (by decide +kernel)
/-- what holds of the tables in every frame, and isn't among the words that keep -/
def ai_EN (U : State) : Prop := ai_AV U ∧ (∀ q ∈ ai_nw, va_Nw (.methodLinkNest q.1 q.2.1 q.2.2 "TheOtherRoom") U) ∧ (∀ q ∈ ai_sw, ∃ a : Nat, vk_R q.1 q.2.1 q.2.2 a U)
theorem ai_over {ty : FieldType} {u U : State} (hvm : u.vm.Alike U.vm) (h : (Cond.arrayOver ty).before #[] u = true) : (Cond.arrayOver ty).before #[] U = true := by
  have h1 : (Cond.arrayOver ty).before #[] (u.setVm U.vm) = true := by rw [Cond.arrayOver_setVmC hvm]; exact h
  exact h1
theorem ai_AV.moved {u U : State} (hvm : u.vm.Alike U.vm) (h : ai_AV u) : ai_AV U := ⟨h.1.moved hvm, h.2.1.moved hvm, ai_over hvm h.2.2.1, ai_over hvm h.2.2.2⟩
theorem ai_EN.same {u U : State} (hv : U.vm = u.vm) (h : ai_EN u) : ai_EN U := by
  refine ⟨h.1.moved (by rw [hv]; exact Vm.Alike.refl _), fun q hq => va_Nw.same rfl hv.symm (h.2.1 q hq), fun q hq => ?_⟩
  obtain ⟨a, ha⟩ := h.2.2 q hq
  exact ⟨a, ha.same hv⟩
theorem ai_EN.warm {s U : State} (hW : s.WarmedH U.vm) (h : ai_EN s) : ai_EN U := by
  refine ⟨h.1.moved hW.alike, fun q hq => va_Nw.warmM hW (h.2.1 q hq), fun q hq => ?_⟩
  obtain ⟨a, ha⟩ := h.2.2 q hq
  exact ⟨a, ha.warm hW⟩
theorem ai_RW.moved {D : va_G} {u U : State} {A : Nat → Prop} {b : Nat} {ad : List Nat} {w : ai_W} {H : Heap} (hvm : u.vm.Alike U.vm) (h : ai_RW D u A b ad w H) : ai_RW D U A b ad w H := by
  obtain ⟨ws, tys, hK, hR⟩ := h
  exact ⟨ws, tys, va_K.moved hvm hK, hR⟩
theorem ai_RW.weaken {D : va_G} {u : State} {A B : Nat → Prop} {b : Nat} {ad : List Nat} {w : ai_W} {H : Heap} (h : ai_RW D u A b ad w H) (hAB : ∀ q, A q → B q) : ai_RW D u B b ad w H := by
  obtain ⟨ws, tys, hK, hP, hD, hR⟩ := h
  exact ⟨ws, tys, hK, hP, hD.weaken (fun _ q _ hq => hAB q.1 hq), hR⟩
theorem ai_RW.adA {D : va_G} {u : State} {A : Nat → Prop} {b : Nat} {ad : List Nat} {w : ai_W} {H : Heap} (h : ai_RW D u A b ad w H) : ∀ q ∈ ad, A q := by
  obtain ⟨ws, tys, hK, hP, hD, had, hR⟩ := h
  intro q hq
  rw [had] at hq
  obtain ⟨x, hx, rfl⟩ := List.mem_map.mp hq
  obtain ⟨k, hk⟩ := List.getElem?_of_mem hx
  exact hD.2 k x hk
/-- a method's own part of the heap: the world's cells, and those that it makes -/
def ai_FA (ad : List Nat) (sz : Nat) : Nat → Prop := fun q => q ∈ ad ∨ sz ≤ q
def ai_Qc (D : va_G) (bs : Nat) (ad : List Nat) (sz : Nat) (r : Option ai_V) (w' : ai_W) : Array Value → State → Outcome → State → Prop := fun _ st oc t =>
  (∃ (v : Option Value) (ad' : List Nat), oc = .returned v ∧ (∃ tl, ad' = ad ++ tl) ∧ ai_RR bs ad' r v ∧ ai_RW D t (ai_FA ad sz) bs ad' w' t.heap) ∧ va_F (ai_FA ad sz) st t
def ai_ws (N : ai_M) : List Cond := Cond.code (ai_y N) (ai_by N) (ai_ml N) (ai_rt' N) :: ww_ok
def ai_Pc (D : va_G) (bs : Nat) (ad : List Nat) (sz : Nat) (w : ai_W) (vs : List Value) : Array Value → State → Prop := va_Pc vs (fun U => U.heap.size = sz ∧ ai_EN U ∧ ai_RW D U (fun _ => True) bs ad w U.heap)
theorem ai_blind (D : va_G) (bs : Nat) (ad : List Nat) (sz : Nat) (w : ai_W) (vs : List Value) : FrameBlind (ai_Pc D bs ad sz w vs) := fun _ U _ _ q => ⟨q.1, q.2.1, q.2.2.1.same rfl, q.2.2.2.moved (Vm.Alike.refl U.vm)⟩
/-- what is known of an instruction beforehand -/
def ai_par (N : ai_M) : Option Nat := (parseMethodDescriptor (ai_y N).desc).map (fun d => d.parameters.length)
def ai_NV (own : String) (i : Nat) (N : ai_M) : Prop := Cond.methodLink own i (ai_y N) ∈ ww_ok ∧ Cond.instanceMethod (ai_y N) ∈ ww_ok ∧ Cond.selects (ai_y N).cls (ai_y N) (ai_y N) ∈ ww_ok ∧ (∃ k, ai_na N = k + 1 ∧ ai_par N = some k) ∧ ∃ q, classes[ai_oc N]? = some q ∧ q.1 = (ai_y N).cls
def ai_NS (own : String) (i : Nat) (N : ai_M) : Prop := Cond.methodLink own i (ai_y N) ∈ ww_ok ∧ Cond.static (ai_y N) ∈ ww_ok ∧ ai_par N = some (ai_na N)
def ai_NI (own : String) (i : Nat) (N : ai_M) : Prop := Cond.methodLink own i (ai_y N) ∈ ww_ok ∧ Cond.instanceMethod (ai_y N) ∈ ww_ok ∧ (ai_y N).name = "<init>" ∧ ai_rt' N = none ∧ ∃ k, ai_na N = k + 1 ∧ ai_par N = some k
def ai_NX (own : String) (i : Nat) (N : ai_M) : Prop := (own, i, ai_y N) ∈ ai_nw ∧ Cond.instanceMethod (ai_y N) ∈ ww_ok ∧ (ai_y N).name = "<init>" ∧ ai_rt' N = none ∧ ∃ k, ai_na N = k + 1 ∧ ai_par N = some k
def ai_CF (own : String) (N : ai_M) (ins : Instr) (b : Nat) : Prop := ∃ i : Nat, (b = 0 ∧ ins = .invokevirtual i ∧ ai_NV own i N) ∨ (b = 1 ∧ ins = .invokestatic i ∧ ai_NS own i N) ∨ (b = 2 ∧ ins = .invokespecial i ∧ ai_NI own i N) ∨ (b = 3 ∧ ins = .invokespecial i ∧ ai_NX own i N)
def ai_EK (mt : List ai_M) (M : ai_M) (x : ai_E) : Prop := decode (ai_by M) x.1 = .ok (x.2.2.1, x.2.2.2.1) ∧ match x.2.1 with
  | 0 => ai_len x.2.2.1 = x.2.2.2.1 ∧ (∀ i, x.2.2.1 = .ldc2_w i → ∃ v : Int64, v.toInt = x.2.2.2.2.2.2 ∧ Cond.constantLong (cn_of (ai_oc M)) i v ∈ ww_ok) ∧ (∀ i, x.2.2.1 = .ldc i → ∃ tx, (cn_of (ai_oc M), i, tx) ∈ ai_sw)
  | 1 => ai_len x.2.2.1 = x.2.2.2.1
  | 2 => (ai_len x.2.2.1 = x.2.2.2.1 ∨ ∃ d lo hi offs, x.2.2.1 = .tableswitch d lo hi offs) ∧ ai_tg x.1 x.2.2.1 x.2.2.2.2.1
  | 3 => ai_len x.2.2.1 = x.2.2.2.1 ∧ ai_hf (cn_of (ai_oc M)) x.2.2.1 x.2.2.2.2.1 x.2.2.2.2.2.1
  | 4 => x.2.2.2.1 = 3 ∧ ∀ N, mt[x.2.2.2.2.1]? = some N → ai_CF (cn_of (ai_oc M)) N x.2.2.1 x.2.2.2.2.2.1
  | 5 => x.2.2.2.1 = 3 ∧ ∃ i, x.2.2.1 = .invokespecial i ∧ Cond.methodLink (cn_of (ai_oc M)) i objectInit ∈ ww_ok
  | 6 => x.2.2.2.1 = 1
  | 7 => x.2.2.2.1 = 3 ∧ ∃ i, x.2.2.1 = .invokestatic i ∧ Cond.methodLink (cn_of (ai_oc M)) i arraycopyName ∈ ww_ok
  | _ => True
def ai_NK (mt : List ai_M) (N : ai_M) : Prop := Cond.code (ai_y N) (ai_by N) (ai_ml N) (ai_rt' N) ∈ ww_ok ∧ Cond.initialized (ai_y N).cls ∈ ww_ok ∧ plainName (ai_y N).cls = true ∧ ((ai_y N).cls ≠ "java/lang/invoke/MethodHandle" ∧ (ai_y N).cls ≠ "java/lang/invoke/VarHandle") ∧ (ai_y N).cls = cn_of (ai_oc N) ∧ ai_ml N ≤ 26 ∧ (ai_ii N = true → (ai_y N).name = "<init>") ∧ ∀ x ∈ ai_cd N, ai_EK mt N x
theorem cn_cl : ∀ {k : Nat} {q : vw_C}, classes[k]? = some q → cn_of k = q.1 := by
  intro k q h
  match k, h with
  | 0, h => cases h; rfl
  | 1, h => cases h; rfl
  | 2, h => cases h; rfl
  | 3, h => cases h; rfl
  | 4, h => cases h; rfl
  | 5, h => cases h; rfl
  | 6, h => cases h; rfl
  | k + 7, h => exact absurd (List.getElem?_eq_some_iff.mp h).1 (by show ¬ k + 7 < 7; omega)
/-- a frame's standing facts -/
def ai_FX (p : Program) (R : Room) (s : State) (m : MethodId) (args : Array Value) (meth : Method) (c : Code) (M : ai_M) (d C Z : Nat) (A : Nat → Prop) (H0 : Heap) (bs : Nat) (scr : List ai_V) : Prop :=
  p.tables.exec = Jvm.exec ∧ c.code = ai_by M ∧ c.maxLocals = ai_ml M ∧ s.vm.findClass (cn_of (ai_oc M)) = some m.cls ∧ (∀ w ∈ ww_ok, w.before args s = true) ∧ ai_EN s ∧ (ai_ii M = true → meth.name = "<init>") ∧ ai_SC scr bs A H0 s ∧ d ≤ R.frames ∧ 45 * d ≤ R.locals ∧ C ≤ R.cells ∧ Z ≤ R.slots ∧ ∀ q, H0.size ≤ q → A q
def ai_GO (l : Launch) (scr : List ai_V) (d : Nat) (M : ai_M) (pc : Nat) (L : ai_Ls) (S : List ai_V) (w : ai_W) (c0 s0 : Nat) (r : Option ai_V) (w' : ai_W) (C Z : Nat) : Prop :=
  ∀ (p : Program) (e : Env) (R : Room) (s : State) (m : MethodId) (args : Array Value) (below : List Frame) (meth : Method) (c : Code) (H : Heap) (locs : List Loc) (Q : State → Prop) (D : va_G) (A : Nat → Prop) (H0 : Heap) (bs : Nat) (ad : List Nat) (ls : Array Slot) (st : List Value),
    ai_FX p R s m args meth c M d C Z A H0 bs scr → ai_RW D s A bs ad w H → va_S A H0 H locs → ai_RL bs ad (ai_ml M) L ls → ai_RS bs ad S st →
    (∀ (pc' : Nat) (ls' : Array Slot) (st' : List Value) (H1 : Heap) (locs1 : List Loc) (ad' : List Nat) (ins : Instr) (S' : List ai_V), (∃ t, ad' = ad ++ t) → ai_RW D s A bs ad' w' H1 → va_S A H0 H1 locs1 → decode (ai_by M) pc' = .ok (ins, 1) → ai_rc (ai_rt' M) ins S' = some r → ai_RS bs ad' S' st' → W p l e R s m args below meth c H1 locs1 C Z Q (F0 m pc' ls' st')) →
    W p l e R s m args below meth c H locs c0 s0 Q (F0 m pc ls st)
theorem ai_pre_trans {a b c : List Nat} (h1 : ∃ t, b = a ++ t) (h2 : ∃ t, c = b ++ t) : ∃ t, c = a ++ t := by
  obtain ⟨t, rfl⟩ := h1
  obtain ⟨u, rfl⟩ := h2
  exact ⟨t ++ u, by rw [List.append_assoc]⟩
theorem ai_met {l : Launch} {mt : List ai_M} {N : ai_M} {d : Nat} {AS : List ai_V} {w w' : ai_W} {r : Option ai_V} {mc ms : Nat} (hN : ai_NK mt N) (hcs : ai_cs AS ≤ ai_ml N) (hg : ai_GO l [] d N 0 (ai_lv0 0 AS) [] w 0 0 r w' mc ms) (D : va_G) (bs : Nat) (ad : List Nat) (sz : Nat) (vs : List Value) (hAS : ai_RS bs ad AS vs) :
    Met l (ai_y N) (ai_ws N) ({ frames := d, cells := mc, slots := ms, locals := 45 * d }) (ai_Pc D bs ad sz w vs) (ai_Qc D bs ad sz r w') mc ms (ai_FA ad sz) := by
  obtain ⟨hN1, hN2, hN3, hN4, hN5, hN6, hN7, hN8⟩ := hN
  refine Met.ofW (cc := ai_by N) (maxL := ai_ml N) (ret := ai_rt' N) hN3 rfl ?_
  intro p e s m args below meth c s₁ B hml hv
  obtain ⟨rfl, hsz, hEN, hRW⟩ := hv
  have hts := atoms_spec (ws := ai_ws N) B.pre
  subst hsz
  obtain ⟨ws, tys, hK, hP, hD, had, hlen, hR⟩ := hRW
  have hD' : va_D (ai_FA ad s.heap.size) ws := ⟨hD.1, fun k q hq => Or.inl (by rw [had]; exact List.mem_map.mpr ⟨q, List.mem_of_getElem? hq, rfl⟩)⟩
  have hl := lv_entry vs (n := ai_ml N) (by rw [ai_sl_ok hAS]; exact hcs)
  rw [lg_entry_eq]
  exact hg p e _ s m _ below meth c s.heap [] _ D (ai_FA ad s.heap.size) s.heap bs ad _ [] ⟨B.exec, B.bytes, hml, by rw [← hN5]; exact findClass_of_methodNamed B.named, fun w hw => hts w (List.mem_cons_of_mem _ hw), hEN, fun h => by rw [(name_of_methodNamed B.named B.method).1]; exact hN7 h, Or.inl rfl, Nat.le_refl _, Nat.le_refl _, Nat.le_refl _, Nat.le_refl _, fun q h => Or.inr h⟩
    ⟨ws, tys, hK, hP, hD', had, hlen, hR⟩ va_S.rf ⟨_, hl, ai_lv0_ok 0 hAS⟩ trivial (fun pc' ls' st' H1 locs1 ad' ins S' hpre hRW1 hS1 hd hrc hRS => ai_rc_ok B.exec B.bytes B.returns B.notSynchronized hd hrc hRS (fun v hv t ht hW => ⟨⟨v, ad', rfl, hpre, hv, by rw [ht]; exact hRW1.moved hW.alike⟩, hS1.F ht⟩) hS1.2.2)
section AIB
variable {p : Program} {l : Launch} {e : Env} {R : Room} {s : State} {m : MethodId} {args : Array Value} {below : List Frame} {meth : Method} {c : Code} {H : Heap} {locs : List Loc} {cells slots mc ms : Nat} {Q : State → Prop}
variable {pc : Nat} {ls : Array Slot} {st0 rest : List Value} {D : va_G} {A : Nat → Prop} {H0 : Heap} {bs : Nat} {ad : List Nat} {w' : ai_W} {r : Option ai_V} {a : Array Value}
theorem ai_back (hr : va_Run p l e R s m args below meth c H locs cells slots mc ms (F0 m pc ls st0) rest (ai_Qc D bs ad H.size r w' a) (ai_FA ad H.size)) (hV : va_S A H0 H locs) (hFA : ∀ q, ai_FA ad H.size q → A q)
    (kk : ∀ (v : Option Value) (H1 : Heap) (locs1 : List Loc) (ad' : List Nat), (∃ tl, ad' = ad ++ tl) → ai_RR bs ad' r v → ai_RW D s A bs ad' w' H1 → va_S A H0 H1 locs1 → W p l e R s m args below meth c H1 locs1 (cells + mc) (slots + ms) Q (F0 m (pc + 3) ls (v.toList ++ rest))) : W p l e R s m args below meth c H locs cells slots Q (F0 m pc ls st0) := by
  intro T hT X
  obtain ⟨v, st₀, t, T', L, h0, X', hL, e1, e2, ⟨⟨v', ad', hv, hpre, hrr, hrw⟩, hz, hk⟩, st⟩ := hr T hT X
  cases hv
  rw [h0] at hz hk
  have hvm : s.vm.Alike t.vm := by rw [← e2]; exact X'.warmed.alike
  obtain ⟨t2, a1, b1⟩ := kk v T'.heap (locs ++ L) ad' hpre hrr (by rw [e1]; exact (hrw.moved hvm.symm).weaken hFA)
    ⟨Nat.le_trans hV.1 (by rw [e1]; exact hz), fun q h1 h2 => by rw [e1, hk q (Nat.lt_of_lt_of_le h1 hV.1) (fun z => h2 (hFA q z))]; exact hV.2.1 q h1 h2, fun q hq => by
      rcases List.mem_append.mp hq with h | h
      · exact hV.2.2 q h
      · exact hFA _ (hL q h)⟩ T' rfl X'
  exact ⟨t2, st t2 a1, b1⟩
end AIB
theorem ww_goodIn (N : ai_M) (h : Cond.code (ai_y N) (ai_by N) (ai_ml N) (ai_rt' N) ∈ ww_ok) : GoodIn ww_ok (ai_ws N) := by
  intro w hw
  rcases List.mem_cons.mp hw with rfl | hw
  · exact ⟨h, good_of_word (ww_good _ h)⟩
  · exact ⟨hw, good_of_word (ww_good _ hw)⟩
end
section
/-! ===== a call, and a whole run ===== -/
section AIC
variable {p : Program} {l : Launch} {e : Env} {R : Room} {s : State} {m : MethodId} {args : Array Value} {below : List Frame} {meth : Method} {c : Code} {H : Heap} {locs : List Loc} {cells slots mc ms : Nat} {Q : State → Prop}
variable {pc : Nat} {ls : Array Slot} {st : List Value} {D : va_G} {A : Nat → Prop} {H0 : Heap} {bs nL : Nat} {ad : List Nat} {w w' : ai_W} {r : Option ai_V} {mt : List ai_M}
theorem ai_call {cc : ByteArray} {own : String} (hx : p.tables.exec = Jvm.exec) (hb : c.code = cc) (hml : c.maxLocals = nL) (hown : s.vm.findClass own = some m.cls) (hts : ∀ w ∈ ww_ok, w.before args s = true) (hEN : ai_EN s)
    {N : ai_M} {d : Nat} {ins : Instr} {b : Nat} (hN : ai_NK mt N) (hCF : ai_CF own N ins b) (hd : decode cc pc = .ok (ins, 3)) {AS : List ai_V} {vs rest : List Value} (hAS : ai_RS bs ad AS vs) (hvl : vs.length = ai_na N) (hst : st = vs.reverse ++ rest) (hcat : (rest.map fun v => v.category).sum ≤ 8)
    (hrcv : ai_rv AS b w (ai_oc N) = true)
    (hls : ls.size = nL) (hW : ai_RW D s A bs ad w H) (hV : va_S A H0 H locs) (hA : ∀ q, H0.size ≤ q → A q)
    (hM : Met l (ai_y N) (ai_ws N) ({ frames := d, cells := mc, slots := ms, locals := 45 * d }) (ai_Pc D bs ad H.size w vs) (ai_Qc D bs ad H.size r w') mc ms (ai_FA ad H.size))
    (hfr : d + 1 ≤ R.frames) (hlo : 45 * (d + 1) ≤ R.locals) (hcells : cells + mc ≤ R.cells) (hslots : slots + ms ≤ R.slots)
    (kk : ∀ (v : Option Value) (H1 : Heap) (locs1 : List Loc) (ad' : List Nat), (∃ tl, ad' = ad ++ tl) → ai_RR bs ad' r v → ai_RW D s A bs ad' w' H1 → va_S A H0 H1 locs1 → W p l e R s m args below meth c H1 locs1 (cells + mc) (slots + ms) Q (F0 m (pc + 3) ls (v.toList ++ rest))) : W p l e R s m args below meth c H locs cells slots Q (F0 m pc ls st) := by
  obtain ⟨hN1, hN2, hN3, hN4, hN5, hN6, hN7, hN8⟩ := hN
  have hFA : ∀ q, ai_FA ad H.size q → A q := fun q hq => by
    rcases hq with hq | hq
    · exact hW.adA q hq
    · exact hA q (Nat.le_trans hV.1 hq)
  have fix : CallFix p m c cc nL s args ww_ok own := ⟨hx, hb, hml, hown, hts⟩
  have hroom : ({ frames := d, cells := mc, slots := ms, locals := 45 * d } : Room).frames + 1 ≤ R.frames ∧ 8 + (ai_ml N + 11) + ({ frames := d, cells := mc, slots := ms, locals := 45 * d } : Room).locals ≤ R.locals := ⟨hfr, by show 8 + (ai_ml N + 11) + 45 * d ≤ R.locals; omega⟩
  have hpre : ∀ U : State, U.heap = H → s.WarmedH U.vm → ai_Pc D bs ad H.size w vs vs.toArray U := fun U hU hWU => ⟨rfl, by rw [hU], hEN.warm hWU, by rw [hU]; exact (hW.moved hWU.alike).weaken (fun _ _ => trivial)⟩
  have hcb : ∀ (i n : Nat), Cond.methodLink own i (ai_y N) ∈ ww_ok → ai_par N = some n → CallB R s args own i (ai_y N) (ai_by N) (ai_ml N) (ai_rt' N) (ai_ws N) ({ frames := d, cells := mc, slots := ms, locals := 45 * d }) mc ms n := fun i n h1 h2 =>
    callB_of n hts (ww_goodIn N hN1) rfl rfl rfl (hts _ hN2) (hts _ h1) ⟨hN4.1, hN4.2, h2⟩ hroom
  obtain ⟨i, hCF⟩ := hCF
  rcases hCF with ⟨rfl, rfl, h1, h2, h3, ⟨k, hk1, hk2⟩, q, hq1, hq2⟩ | ⟨rfl, rfl, h1, h2, h3⟩ | ⟨rfl, rfl, h1, h2, h3, h4, k, hk1, hk2⟩ | ⟨rfl, rfl, h1, h2, h3, h4, k, hk1, hk2⟩
  · obtain ⟨k2, AS', rfl, hac⟩ := ai_rv_ok hrcv (by decide)
    obtain ⟨ac, hac, ht⟩ := hac rfl
    match vs, hAS with
    | u :: As, ⟨hu, hAS⟩ =>
      obtain ⟨ws, tys, hK, hP, hD, had, hlen, hR⟩ := id hW
      rw [had] at hu
      obtain ⟨a', e', rfl, he, hre⟩ := ai_obj hu (by rw [← had]; exact hR) hac
      have h7 := (ai_ck hq1).1
      obtain ⟨fs, rfl, -⟩ := hre.obj (by omega)
      have hrec := va_recv hK hP (ci := ac.1) (q := q) (by rw [ht]; exact hq1) he
      rw [hq2] at hrec
      exact ai_back (va_runV (As := As) (rest := rest) fix hM ⟨hcb i k h1 hk2, hts _ h2, hts _ h3⟩ ⟨ai_blind _ _ _ _ _ _, hrec, hpre⟩ rfl (by have := hvl; rw [List.length_cons] at this; omega) hls (by rw [hst, List.reverse_cons, List.append_assoc]; rfl) (lv_room hcat) hd ⟨hcells, hslots⟩) hV hFA kk
  · refine ai_back (va_runS (As := vs) (rest := rest) fix hM ⟨hcb i _ h1 h3, hts _ h2⟩ ⟨ai_blind _ _ _ _ _ _, hpre⟩ rfl hvl hls hst (lv_room hcat) hd ⟨hcells, hslots⟩) hV hFA kk
  · obtain ⟨k2, AS', rfl, -⟩ := ai_rv_ok hrcv (by decide)
    match vs, hAS with
    | u :: As, ⟨hu, hAS⟩ =>
      obtain ⟨a', h9, rfl⟩ := hu
      have hc2 := hcb i k h1 hk2
      rw [h4] at hc2
      exact ai_back (va_runI (As := As) (rest := rest) fix hM ⟨hc2, h3, hts _ h2⟩ ⟨ai_blind _ _ _ _ _ _, hpre⟩ rfl (by have := hvl; rw [List.length_cons] at this; omega) hls (by rw [hst, List.reverse_cons, List.append_assoc]; rfl) (lv_room hcat) hd ⟨hcells, hslots⟩) hV hFA kk
  · obtain ⟨k2, AS', rfl, -⟩ := ai_rv_ok hrcv (by decide)
    match vs, hAS with
    | u :: As, ⟨hu, hAS⟩ =>
      obtain ⟨a', h9, rfl⟩ := hu
      have hcn := va_cnB (host := "TheOtherRoom") k hts (ww_goodIn N hN1) rfl (rm := { frames := d, cells := mc, slots := ms, locals := 45 * d }) rfl rfl (hEN.2.1 _ h1) (hts _ hN2) ⟨hN4.1, hN4.2, hk2⟩ hroom
      rw [h4] at hcn
      exact ai_back (va_runIN (As := As) (rest := rest) fix hM ⟨hcn, h3, hts _ h2⟩ ⟨ai_blind _ _ _ _ _ _, hpre⟩ rfl (by have := hvl; rw [List.length_cons] at this; omega) hls (by rw [hst, List.reverse_cons, List.append_assoc]; rfl) (lv_room hcat) hd ⟨hcells, hslots⟩) hV hFA kk
theorem ai_cp_ok {cc : ByteArray} {own : String} (hx : p.tables.exec = Jvm.exec) (hb : c.code = cc) (hml : c.maxLocals = nL) (hls : ls.size = nL) (hown : s.vm.findClass own = some m.cls) (hts : ∀ w ∈ ww_ok, w.before args s = true) {i : Nat} (hlk : Cond.methodLink own i arraycopyName ∈ ww_ok) (hd : decode cc pc = .ok (.invokestatic i, 3))
    {S S' : List ai_V} (h : ai_cp S w = some (S', w')) (hW : ai_RW D s A bs ad w H) (hV : va_S A H0 H locs) (hS : ai_RS bs ad S st) (hfr : 1 ≤ R.frames) (hlo : 45 ≤ R.locals)
    (kk : ∀ (H1 : Heap) (locs1 : List Loc) (st' : List Value), ai_RW D s A bs ad w' H1 → va_S A H0 H1 locs1 → ai_RS bs ad S' st' → W p l e R s m args below meth c H1 locs1 cells slots Q (F0 m (pc + 3) ls st')) : W p l e R s m args below meth c H locs cells slots Q (F0 m pc ls st) := by
  unfold ai_cp at h
  split at h
  · next n dp k1 sp k0 rr =>
    split at h
    · next n' dp' hn hdp =>
      split at h
      · next sp' hsp =>
        split at h
        · next a0 a1 h0 h1 =>
          obtain ⟨hc, h⟩ := ai_bif h
          cases h
          rw [Bool.and_eq_true, Bool.and_eq_true, Bool.and_eq_true, Bool.and_eq_true, Nat.ble_eq, Nat.ble_eq, Nat.ble_eq] at hc
          obtain ⟨c1, c2, c3, c4, c5⟩ := hc
          have c1 := Nat.eq_of_beq_eq_true c1
          have c2 := Nat.eq_of_beq_eq_true c2
          match st, hS with
          | [_], hS => exact hS.2.elim
          | [_, _], hS => exact hS.2.2.elim
          | [_, _, _], hS => exact hS.2.2.2.elim
          | [_, _, _, _], hS => exact hS.2.2.2.2.elim
          | _ :: _ :: u1 :: _ :: u0 :: st', ⟨⟨x, rfl, x1, x2⟩, ⟨y, rfl, y1, y2⟩, hu1, ⟨z, rfl, z1, z2⟩, hu0, hS⟩ =>
            obtain ⟨-, e2, e3, -⟩ := ai_ix_ok hn x1 x2
            obtain ⟨-, f2, f3, -⟩ := ai_ix_ok hdp y1 y2
            obtain ⟨-, g2, g3, -⟩ := ai_ix_ok hsp z1 z2
            obtain ⟨ws, tys, hK, hP, hD, had, hlen, hR⟩ := id hW
            subst had
            obtain ⟨a1', e1', rfl, he1, hre1⟩ := ai_obj hu1 hR h1
            obtain ⟨a0', e0', rfl, he0, hre0⟩ := ai_obj hu0 hR h0
            obtain ⟨cA0, f0, t0, rfl, gt0, gf0⟩ := hre0.ints (ty := .int) (by rw [c1]; rfl)
            obtain ⟨cA1, f1, t1, rfl, gt1, gf1⟩ := hre1.ints (ty := .int) (by rw [c2]; rfl)
            have hnf : nativeFrameWords "java/lang/System" "arraycopy" 5 = 7 := by decide +kernel
            refine va_copyi hx hb (hml.trans hls.symm) hown (hts _ hlk) (hts _ ac_nat) (hts _ ac_stat) (hts _ ac_ini) hK hP hD hV k0 k1 t0 t1 he0 he1 gt0 gt1 rfl g3 f3 e3 (by rw [g2, e2]; exact c3) (by rw [f2, e2]; exact c4) (fun _ _ => rfl) hfr (by rw [ai_cs_ok hS, hnf]; omega) hd (fun H1 locs1 hP1 hD1 hS1 => ?_)
            exact kk H1 locs1 _ ⟨_, tys, hK, hP1, hD1, (ai_map_set he1).symm, by rw [List.length_set, List.length_set]; exact hlen, ai_cell_set he1 hR (Or.inr (Or.inl ⟨.int, cA1, _, t1, by rw [c2]; rfl, by rw [List.length_replicate], gt1, fun j v hj => by rw [List.eq_of_mem_replicate (List.mem_of_getElem? hj)]; exact ⟨_, rfl, ai_tI_ok _⟩⟩))⟩ hS1 hS
        · cases h
      · cases h
    · cases h
  · cases h
end AIC
set_option maxHeartbeats 1000000 in
theorem ai_ex_ok (l : Launch) (mt : List ai_M) (hmt : ∀ N ∈ mt, ai_NK mt N) : ∀ (f : Nat) (scr : List ai_V) (d : Nat) (M : ai_M) (cd : List ai_E) (pc : Nat) (L : ai_Ls) (S : List ai_V) (w : ai_W) (c0 s0 : Nat) (r : Option ai_V) (w' : ai_W) (C Z : Nat),
    ai_ex mt f scr d M cd pc L S w c0 s0 = some (r, w', C, Z) → (∀ x ∈ cd, x ∈ ai_cd M) → (∀ x ∈ ai_cd M, ai_EK mt M x) → c0 ≤ C ∧ s0 ≤ Z ∧ ai_GO l scr d M pc L S w c0 s0 r w' C Z := by
  intro f
  induction f with
  | zero =>
    intro scr d M cd pc L S w c0 s0 r w' C Z h
    cases h
  | succ f IH =>
    intro scr d M cd pc L S w c0 s0 r w' C Z h hsub hEK
    unfold ai_ex at h
    split at h
    · cases h
    · next pc0 g ins len a b z cd' =>
      have hq := ai_bif2 h
      clear h
      obtain ⟨hpc, h⟩ := hq
      have hpc2 := Nat.eq_of_beq_eq_true hpc
      clear hpc
      subst hpc2
      have hx := hEK _ (hsub _ List.mem_cons_self)
      have hsub' : ∀ x ∈ cd', x ∈ ai_cd M := fun x hx => hsub x (List.mem_cons_of_mem _ hx)
      obtain ⟨hdec, hx⟩ := hx
      dsimp only at hdec hx
      split at h
      · split at h
        · next L' S' hg =>
          have ih := IH _ _ _ _ _ _ _ _ _ _ _ _ _ _ h hsub' hEK
          obtain ⟨hl, hx1, hx2⟩ := hx
          refine ⟨ih.1, ih.2.1, ?_⟩
          intro p e R s m args below meth c H locs Q D A H0 bs ad ls st hF hW hV hL hS hret
          obtain ⟨g1, g2, g3, g4, g5, g6, g7⟩ := id hF
          exact ai_gL_ok g1 g2 g4 (by rw [hl]; exact hdec) (fun i hi => by obtain ⟨v, h1, h2⟩ := hx1 i hi; exact ⟨v, h1, g5 _ h2⟩) (fun i hi => by obtain ⟨tx, h1⟩ := hx2 i hi; obtain ⟨q, hq⟩ := g6.2.2 _ h1; exact ⟨tx, q, hq⟩) hg hL hS
            (fun ls' st' hL' hS' => by rw [hl]; exact ih.2.2 p e R s m args below meth c H locs Q D A H0 bs ad ls' st' hF hW hV hL' hS' hret)
        · cases h
      · split at h
        · next S' hg =>
          have ih := IH _ _ _ _ _ _ _ _ _ _ _ _ _ _ h hsub' hEK
          refine ⟨ih.1, ih.2.1, ?_⟩
          intro p e R s m args below meth c H locs Q D A H0 bs ad ls st hF hW hV hL hS hret
          obtain ⟨g1, g2, g3, g4, g5, g6, g7⟩ := id hF
          exact ai_gI_ok g1 g2 (by rw [hx]; exact hdec) hg hS (fun st' hS' => by rw [hx]; exact ih.2.2 p e R s m args below meth c H locs Q D A H0 bs ad ls st' hF hW hV hL hS' hret)
        · cases h
      · split at h
        · next t S' hg =>
          have ih := IH _ _ _ _ _ _ _ _ _ _ _ _ _ _ h (fun x hx => ai_jm_sub hx) hEK
          refine ⟨ih.1, ih.2.1, ?_⟩
          intro p e R s m args below meth c H locs Q D A H0 bs ad ls st hF hW hV hL hS hret
          obtain ⟨g1, g2, g3, g4, g5, g6, g7⟩ := id hF
          exact ai_gJ_ok g1 g2 hdec hx.1 hx.2 hg hS (fun st' hS' => ih.2.2 p e R s m args below meth c H locs Q D A H0 bs ad ls st' hF hW hV hL hS' hret)
        · next S' hg =>
          have ih := IH _ _ _ _ _ _ _ _ _ _ _ _ _ _ h hsub' hEK
          refine ⟨ih.1, ih.2.1, ?_⟩
          intro p e R s m args below meth c H locs Q D A H0 bs ad ls st hF hW hV hL hS hret
          obtain ⟨g1, g2, g3, g4, g5, g6, g7⟩ := id hF
          exact ai_gJ_ok g1 g2 hdec hx.1 hx.2 hg hS (fun st' hS' => ih.2.2 p e R s m args below meth c H locs Q D A H0 bs ad ls st' hF hW hV hL hS' hret)
        · cases h
      · split at h
        · next S' w1 dc ds hg =>
          have ih := IH _ _ _ _ _ _ _ _ _ _ _ _ _ _ h hsub' hEK
          obtain ⟨hl, hf⟩ := hx
          refine ⟨by have := ih.1; omega, by have := ih.2.1; omega, ?_⟩
          intro p e R s m args below meth c H locs Q D A H0 bs ad ls st hF hW hV hL hS hret
          obtain ⟨g1, g2, g3, g4, g5, g6, g7, g8, g9, g10, g11, g12, g13⟩ := id hF
          exact ai_gH_ok g1 g2 g4 g5 g6.1 g7 (fun q hq => cn_cl hq) (by rw [hl]; exact hdec) hf g8 hg hW hV g13 hS (by have := ih.1; omega) (by have := ih.2.1; omega)
            (fun H1 locs1 ad' st' hpre hW1 hV1 hS1 => by
              rw [hl]
              obtain ⟨t, rfl⟩ := hpre
              exact ih.2.2 p e R s m args below meth c H1 locs1 Q D A H0 bs _ ls st' hF hW1 hV1 (hL.mono t) hS1 (fun pc' ls' st' H1 locs1 ad' ins S' hpre' => hret pc' ls' st' H1 locs1 ad' ins S' (ai_pre_trans ⟨t, rfl⟩ hpre')))
        · cases h
      · split at h
        · next N d' hN =>
          obtain ⟨hc, h⟩ := ai_bif2 h
          rw [Bool.and_eq_true, Bool.and_eq_true, Bool.and_eq_true, Nat.ble_eq, Nat.ble_eq, Nat.ble_eq] at hc
          obtain ⟨hc1, hc2, hc3, hc4⟩ := hc
          split at h
          · next r1 w1 mc ms hin =>
            have hNK := hmt N (List.mem_of_getElem? hN)
            have ih := IH _ _ _ _ _ _ _ _ _ _ _ _ _ _ h hsub' hEK
            have ihN := IH _ _ _ _ _ _ _ _ _ _ _ _ _ _ hin (fun x hx => hx) hNK.2.2.2.2.2.2.2
            obtain ⟨hl, hcf⟩ := hx
            subst hl
            refine ⟨by have := ih.1; omega, by have := ih.2.1; omega, ?_⟩
            intro p e R s m args below meth c H locs Q D A H0 bs ad ls st hF hW hV hL hS hret
            obtain ⟨g1, g2, g3, g4, g5, g6, g7, g8, g9, g10, g11, g12, g13⟩ := id hF
            have hlsz : ls.size = ai_ml M := by obtain ⟨lv, h9, -⟩ := hL; exact h9.1
            have hT := hS.take (ai_na N)
            have hAS := hT.1.rev
            have hlen := hS.len
            refine ai_call g1 g2 g3 g4 g5 g6 hNK (hcf N hN) hdec hAS (by rw [List.length_reverse, List.length_take]; omega) (by rw [List.reverse_reverse, List.take_append_drop]) (by rw [ai_cs_ok hT.2]; exact hc1) hc4 hlsz hW hV g13
              (ai_met hNK hc3 ihN.2.2 D bs ad H.size _ hAS) (by omega) (by omega) (by have := ih.1; omega) (by have := ih.2.1; omega) (fun v H1 locs1 ad' hpre hrr hW1 hV1 => ?_)
            obtain ⟨t, rfl⟩ := hpre
            refine ih.2.2 p e R s m args below meth c H1 locs1 Q D A H0 bs _ ls _ hF hW1 hV1 (hL.mono t) ?_ (fun pc' ls' st' H1 locs1 ad' ins S' hpre' => hret pc' ls' st' H1 locs1 ad' ins S' (ai_pre_trans ⟨t, rfl⟩ hpre'))
            have hD := hT.2.mono t
            match r1, v, hrr with
            | none, none, _ => exact hD
            | some x, some u, hrr => exact ⟨hrr, hD⟩
          · cases h
        · cases h
      · split at h
        · next k rr d' =>
          obtain ⟨hc, h⟩ := ai_bif2 h
          rw [Nat.ble_eq] at hc
          have ih := IH _ _ _ _ _ _ _ _ _ _ _ _ _ _ h hsub' hEK
          obtain ⟨hl, i, rfl, hlk⟩ := hx
          subst hl
          refine ⟨ih.1, ih.2.1, ?_⟩
          intro p e R s m args below meth c H locs Q D A H0 bs ad ls st hF hW hV hL hS hret
          obtain ⟨g1, g2, g3, g4, g5, g6, g7, g8, g9, g10, g11, g12, g13⟩ := id hF
          have hlsz : ls.size = ai_ml M := by obtain ⟨lv, h9, -⟩ := hL; exact h9.1
          match st, hS with
          | u :: st', ⟨hu, hS⟩ =>
            obtain ⟨a', rfl⟩ := ai_RV.rsm hu
            refine W.objInit g1 g2 g4 (g5 _ hlk) (g5 _ oi_inst) (g5 _ oi_code) rfl (by rw [g3]; exact hlsz) rfl hdec (by omega) ?_ ?_
            · have := lv_room (m := m) (pc := pc0) (ls := ls) (rest := Value.ref a' :: st') (st := st') (by rw [ai_cs_ok hS]; exact hc)
              omega
            · exact ih.2.2 p e R s m args below meth c H locs Q D A H0 bs ad ls st' hF hW hV hL hS hret
        · cases h
      · split at h
        · next r1 hrc =>
          cases h
          refine ⟨Nat.le_refl _, Nat.le_refl _, ?_⟩
          intro p e R s m args below meth c H locs Q D A H0 bs ad ls st hF hW hV hL hS hret
          rw [hx] at hdec
          exact hret _ _ _ _ _ _ _ _ ⟨[], (List.append_nil _).symm⟩ hW hV hdec hrc hS
        · cases h
      · split at h
        · next S' w1 d' hcp =>
          have ih := IH _ _ _ _ _ _ _ _ _ _ _ _ _ _ h hsub' hEK
          obtain ⟨hl, i, rfl, hlk⟩ := hx
          subst hl
          refine ⟨ih.1, ih.2.1, ?_⟩
          intro p e R s m args below meth c H locs Q D A H0 bs ad ls st hF hW hV hL hS hret
          obtain ⟨g1, g2, g3, g4, g5, g6, g7, g8, g9, g10, g11, g12, g13⟩ := id hF
          have hlsz : ls.size = ai_ml M := by obtain ⟨lv, h9, -⟩ := hL; exact h9.1
          exact ai_cp_ok g1 g2 g3 hlsz g4 g5 hlk hdec hcp hW hV hS (by omega) (by omega) (fun H1 locs1 st' hW1 hV1 hS1 => ih.2.2 p e R s m args below meth c H1 locs1 Q D A H0 bs ad ls st' hF hW1 hV1 hL hS1 hret)
        · cases h
      · cases h
end
section
/-! ===== the methods that the runs reach: name, bytes, locals, answer, class, whether it makes, arguments, code as far as it is reached ===== -/
def C_0_0 : List ai_E := [(0, 0, .aload_n 0, 1, 0, 0, 0), (1, 5, .invokespecial 3, 3, 0, 0, 0), (4, 0, .aload_n 0, 1, 0, 0, 0), (5, 0, .iconst 4, 1, 0, 0, 0), (6, 3, .anewarray 9, 3, 14, 0, 0), (9, 3, .putfield 11, 3, 0, 0, 0), (12, 0, .aload_n 0, 1, 0, 0, 0), (13, 0, .iconst 4, 1, 0, 0, 0), (14, 3, .anewarray 9, 3, 14, 0, 0), (17, 3, .putfield 15, 3, 0, 1, 0), (20, 0, .aload_n 0, 1, 0, 0, 0), (21, 0, .bipush 8, 2, 0, 0, 0), (23, 3, .anewarray 18, 3, 15, 0, 0), (26, 3, .putfield 20, 3, 0, 2, 0), (29, 0, .aload_n 0, 1, 0, 0, 0), (30, 3, .new 24, 3, 4, 0, 0), (33, 0, .dup, 1, 0, 0, 0), (34, 4, .invokespecial 26, 3, 67, 3, 0), (37, 3, .putfield 27, 3, 0, 3, 0), (40, 0, .aload_n 0, 1, 0, 0, 0), (41, 3, .new 31, 3, 5, 0, 0), (44, 0, .dup, 1, 0, 0, 0), (45, 4, .invokespecial 33, 3, 77, 3, 0), (48, 3, .putfield 34, 3, 0, 4, 0), (51, 0, .aload_n 0, 1, 0, 0, 0), (52, 3, .new 38, 3, 2, 0, 0), (55, 0, .dup, 1, 0, 0, 0), (56, 4, .invokespecial 40, 3, 60, 3, 0), (59, 3, .putfield 41, 3, 0, 5, 0), (62, 0, .aload_n 0, 1, 0, 0, 0), (63, 3, .new 38, 3, 2, 0, 0), (66, 0, .dup, 1, 0, 0, 0), (67, 4, .invokespecial 40, 3, 60, 3, 0), (70, 3, .putfield 45, 3, 0, 6, 0), (73, 0, .aload_n 0, 1, 0, 0, 0), (74, 3, .new 9, 3, 1, 0, 0), (77, 0, .dup, 1, 0, 0, 0), (78, 4, .invokespecial 48, 3, 58, 3, 0), (81, 3, .putfield 49, 3, 0, 7, 0), (84, 0, .aload_n 0, 1, 0, 0, 0), (85, 0, .bipush 6, 2, 0, 0, 0), (87, 3, .newarray .int, 2, 0, 0, 0), (89, 3, .putfield 53, 3, 0, 8, 0), (92, 0, .aload_n 0, 1, 0, 0, 0), (93, 0, .iconst 5, 1, 0, 0, 0), (94, 3, .newarray .int, 2, 0, 0, 0), (96, 3, .putfield 57, 3, 0, 9, 0), (99, 0, .aload_n 0, 1, 0, 0, 0), (100, 0, .iconst 0, 1, 0, 0, 0), (101, 3, .putfield 60, 3, 0, 10, 0)]
def C_0_1 : List ai_E := [(104, 0, .aload_n 0, 1, 0, 0, 0), (105, 0, .iconst (-1), 1, 0, 0, 0), (106, 3, .putfield 64, 3, 0, 11, 0), (109, 0, .aload_n 0, 1, 0, 0, 0), (110, 0, .iconst 0, 1, 0, 0, 0), (111, 3, .putfield 67, 3, 0, 12, 0), (114, 0, .iconst 0, 1, 0, 0, 0), (115, 0, .istore_n 1, 1, 0, 0, 0), (116, 0, .iload_n 1, 1, 0, 0, 0), (117, 0, .iconst 4, 1, 0, 0, 0), (118, 2, .if_icmp .ge 35, 3, 153, 0, 0), (121, 0, .aload_n 0, 1, 0, 0, 0), (122, 3, .getfield 11, 3, 0, 0, 0), (125, 0, .iload_n 1, 1, 0, 0, 0), (126, 3, .new 9, 3, 1, 0, 0), (129, 0, .dup, 1, 0, 0, 0), (130, 4, .invokespecial 48, 3, 58, 3, 0), (133, 3, .aastore, 1, 0, 0, 0), (134, 0, .aload_n 0, 1, 0, 0, 0), (135, 3, .getfield 15, 3, 0, 1, 0), (138, 0, .iload_n 1, 1, 0, 0, 0), (139, 3, .new 9, 3, 1, 0, 0), (142, 0, .dup, 1, 0, 0, 0), (143, 4, .invokespecial 48, 3, 58, 3, 0), (146, 3, .aastore, 1, 0, 0, 0), (147, 0, .iinc 1 1, 3, 0, 0, 0), (150, 2, .goto (-34), 3, 116, 0, 0), (153, 0, .iconst 0, 1, 0, 0, 0), (154, 0, .istore_n 1, 1, 0, 0, 0), (155, 0, .iload_n 1, 1, 0, 0, 0), (156, 0, .bipush 8, 2, 0, 0, 0), (158, 2, .if_icmp .ge 22, 3, 180, 0, 0), (161, 0, .aload_n 0, 1, 0, 0, 0), (162, 3, .getfield 20, 3, 0, 2, 0), (165, 0, .iload_n 1, 1, 0, 0, 0), (166, 3, .new 18, 3, 3, 0, 0), (169, 0, .dup, 1, 0, 0, 0), (170, 4, .invokespecial 71, 3, 61, 3, 0), (173, 3, .aastore, 1, 0, 0, 0), (174, 0, .iinc 1 1, 3, 0, 0, 0), (177, 2, .goto (-22), 3, 155, 0, 0), (180, 6, .return_, 1, 0, 0, 0)]
def M_0 : ai_M := (⟨"TheOtherRoom", "<init>", "()V"⟩, prog_1_method_1_code, 2, none, 0, true, 1, C_0_0 ++ (C_0_1))
def C_1_0 : List ai_E := [(0, 0, .aload_n 0, 1, 0, 0, 0), (1, 0, .iload_n 1, 1, 0, 0, 0), (2, 4, .invokevirtual 138, 3, 21, 0, 0), (5, 0, .astore 4, 2, 0, 0, 0), (7, 0, .aload 4, 2, 0, 0, 0), (9, 2, .ifnull 13, 3, 22, 0, 0), (22, 0, .aload_n 0, 1, 0, 0, 0), (23, 0, .bipush (-2), 2, 0, 0, 0), (25, 4, .invokevirtual 76, 3, 37, 0, 0), (28, 6, .ireturn, 1, 0, 0, 0)]
def M_1 : ai_M := (⟨"TheOtherRoom", "alter", "(III)I"⟩, prog_1_method_20_code, 5, some .int, 0, false, 4, C_1_0)
def C_2_0 : List ai_E := [(0, 0, .aload_n 0, 1, 0, 0, 0), (1, 0, .iload_n 1, 1, 0, 0, 0), (2, 4, .invokevirtual 138, 3, 21, 0, 0), (5, 0, .astore_n 3, 1, 0, 0, 0), (6, 0, .aload_n 3, 1, 0, 0, 0), (7, 2, .ifnull 11, 3, 18, 0, 0), (18, 0, .aload_n 0, 1, 0, 0, 0), (19, 0, .bipush (-2), 2, 0, 0, 0), (21, 4, .invokevirtual 76, 3, 37, 0, 0), (24, 6, .ireturn, 1, 0, 0, 0)]
def M_2 : ai_M := (⟨"TheOtherRoom", "at", "(II)I"⟩, prog_1_method_17_code, 4, some .int, 0, false, 3, C_2_0)
def C_3_0 : List ai_E := [(0, 0, .aload_n 0, 1, 0, 0, 0), (1, 3, .getfield 64, 3, 0, 11, 0), (4, 0, .iconst (-1), 1, 0, 0, 0), (5, 2, .if_icmp .ne 10, 3, 15, 0, 0), (8, 0, .aload_n 0, 1, 0, 0, 0), (9, 0, .bipush (-5), 2, 0, 0, 0), (11, 4, .invokevirtual 76, 3, 37, 0, 0), (14, 6, .ireturn, 1, 0, 0, 0)]
def M_3 : ai_M := (⟨"TheOtherRoom", "back", "()I"⟩, prog_1_method_49_code, 2, some .int, 0, false, 1, C_3_0)
def C_4_0 : List ai_E := [(0, 0, .aload_n 0, 1, 0, 0, 0), (1, 0, .iload_n 1, 1, 0, 0, 0), (2, 0, .iload_n 2, 1, 0, 0, 0), (3, 4, .invokevirtual 265, 3, 23, 0, 0), (6, 0, .astore_n 3, 1, 0, 0, 0), (7, 0, .aload_n 3, 1, 0, 0, 0), (8, 2, .ifnonnull 10, 3, 18, 0, 0), (11, 0, .aload_n 0, 1, 0, 0, 0), (12, 0, .bipush (-2), 2, 0, 0, 0), (14, 4, .invokevirtual 76, 3, 37, 0, 0), (17, 6, .ireturn, 1, 0, 0, 0)]
def M_4 : ai_M := (⟨"TheOtherRoom", "begin", "(II)I"⟩, prog_1_method_45_code, 4, some .int, 0, false, 3, C_4_0)
def C_5_0 : List ai_E := [(0, 0, .aload_n 0, 1, 0, 0, 0), (1, 0, .iload_n 1, 1, 0, 0, 0), (2, 0, .iload_n 2, 1, 0, 0, 0), (3, 4, .invokevirtual 265, 3, 23, 0, 0), (6, 0, .astore_n 3, 1, 0, 0, 0), (7, 0, .aload_n 3, 1, 0, 0, 0), (8, 2, .ifnonnull 10, 3, 18, 0, 0), (11, 0, .aload_n 0, 1, 0, 0, 0), (12, 0, .bipush (-2), 2, 0, 0, 0), (14, 4, .invokevirtual 76, 3, 37, 0, 0), (17, 6, .ireturn, 1, 0, 0, 0)]
def M_5 : ai_M := (⟨"TheOtherRoom", "bound", "(II)I"⟩, prog_1_method_34_code, 4, some .int, 0, false, 3, C_5_0)
def C_6_0 : List ai_E := [(0, 0, .aload_n 0, 1, 0, 0, 0), (1, 0, .iload_n 1, 1, 0, 0, 0), (2, 0, .iload_n 2, 1, 0, 0, 0), (3, 4, .invokevirtual 134, 3, 57, 0, 0), (6, 0, .istore_n 3, 1, 0, 0, 0), (7, 0, .iload_n 3, 1, 0, 0, 0), (8, 2, .ifCond .eq 9, 3, 17, 0, 0), (11, 0, .aload_n 0, 1, 0, 0, 0), (12, 0, .iload_n 3, 1, 0, 0, 0), (13, 4, .invokevirtual 76, 3, 37, 0, 0), (16, 6, .ireturn, 1, 0, 0, 0)]
def M_6 : ai_M := (⟨"TheOtherRoom", "can", "(II)I"⟩, prog_1_method_9_code, 4, some .int, 0, false, 3, C_6_0)
def C_7_0 : List ai_E := [(0, 0, .iload_n 0, 1, 0, 0, 0), (1, 2, .tableswitch 91 1 5 #[35, 91, 50, 91, 74], 35, 0, 0, 0), (36, 0, .iload_n 1, 1, 0, 0, 0), (37, 2, .ifCond .lt 12, 3, 49, 0, 0), (40, 0, .iload_n 1, 1, 0, 0, 0), (41, 0, .iconst 3, 1, 0, 0, 0), (42, 2, .if_icmp .gt 7, 3, 49, 0, 0), (45, 0, .iconst 1, 1, 0, 0, 0), (46, 2, .goto 4, 3, 50, 0, 0), (49, 0, .iconst 0, 1, 0, 0, 0), (50, 6, .ireturn, 1, 0, 0, 0), (51, 0, .iload_n 1, 1, 0, 0, 0), (52, 0, .sipush 200, 3, 0, 0, 0), (55, 2, .if_icmp .eq 14, 3, 69, 0, 0), (58, 0, .iload_n 1, 1, 0, 0, 0), (59, 2, .ifCond .lt 14, 3, 73, 0, 0), (62, 0, .iload_n 1, 1, 0, 0, 0), (63, 0, .sipush 128, 3, 0, 0, 0), (66, 2, .if_icmp .ge 7, 3, 73, 0, 0), (69, 0, .iconst 1, 1, 0, 0, 0), (70, 2, .goto 4, 3, 74, 0, 0), (73, 0, .iconst 0, 1, 0, 0, 0), (74, 6, .ireturn, 1, 0, 0, 0), (75, 0, .iload_n 1, 1, 0, 0, 0), (76, 2, .ifCond .lt 14, 3, 90, 0, 0), (79, 0, .iload_n 1, 1, 0, 0, 0), (80, 0, .sipush 128, 3, 0, 0, 0), (83, 2, .if_icmp .ge 7, 3, 90, 0, 0), (86, 0, .iconst 1, 1, 0, 0, 0), (87, 2, .goto 4, 3, 91, 0, 0), (90, 0, .iconst 0, 1, 0, 0, 0), (91, 6, .ireturn, 1, 0, 0, 0), (92, 0, .iconst 1, 1, 0, 0, 0), (93, 6, .ireturn, 1, 0, 0, 0)]
def M_7 : ai_M := (⟨"TheOtherRoom", "canBeTold", "(II)Z"⟩, prog_1_method_56_code, 2, some .boolean, 0, false, 2, C_7_0)
def C_8_0 : List ai_E := [(0, 0, .aload_n 0, 1, 0, 0, 0), (1, 0, .iload_n 1, 1, 0, 0, 0), (2, 4, .invokevirtual 138, 3, 21, 0, 0), (5, 0, .astore 4, 2, 0, 0, 0), (7, 0, .aload 4, 2, 0, 0, 0), (9, 2, .ifnull 13, 3, 22, 0, 0), (22, 0, .aload_n 0, 1, 0, 0, 0), (23, 0, .bipush (-2), 2, 0, 0, 0), (25, 4, .invokevirtual 76, 3, 37, 0, 0), (28, 6, .ireturn, 1, 0, 0, 0)]
def M_8 : ai_M := (⟨"TheOtherRoom", "carry", "(III)I"⟩, prog_1_method_23_code, 6, some .int, 0, false, 4, C_8_0)
def C_9_0 : List ai_E := [(0, 0, .aload_n 0, 1, 0, 0, 0), (1, 0, .iload_n 1, 1, 0, 0, 0), (2, 4, .invokevirtual 72, 3, 44, 0, 0), (5, 0, .astore 6, 2, 0, 0, 0), (7, 0, .aload_n 0, 1, 0, 0, 0), (8, 0, .iload_n 2, 1, 0, 0, 0), (9, 4, .invokevirtual 72, 3, 44, 0, 0), (12, 0, .astore 7, 2, 0, 0, 0), (14, 0, .aload 6, 2, 0, 0, 0), (16, 2, .ifnull 8, 3, 24, 0, 0), (19, 0, .aload 7, 2, 0, 0, 0), (21, 2, .ifnonnull 10, 3, 31, 0, 0), (24, 0, .aload_n 0, 1, 0, 0, 0), (25, 0, .bipush (-2), 2, 0, 0, 0), (27, 4, .invokevirtual 76, 3, 37, 0, 0), (30, 6, .ireturn, 1, 0, 0, 0), (31, 0, .aload 6, 2, 0, 0, 0), (33, 4, .invokevirtual 95, 3, 64, 0, 0), (36, 2, .ifCond .ne 42, 3, 78, 0, 0), (39, 0, .aload 7, 2, 0, 0, 0), (41, 4, .invokevirtual 95, 3, 64, 0, 0), (44, 2, .ifCond .ne 34, 3, 78, 0, 0), (47, 0, .aload 6, 2, 0, 0, 0), (49, 3, .getfield 99, 3, 3, 0, 0), (52, 0, .iconst (-1), 1, 0, 0, 0), (53, 2, .if_icmp .eq 32, 3, 85, 0, 0), (85, 0, .aload 6, 2, 0, 0, 0), (87, 3, .getfield 99, 3, 3, 0, 0), (90, 0, .iconst (-1), 1, 0, 0, 0), (91, 2, .if_icmp .eq 12, 3, 103, 0, 0), (103, 0, .aload_n 0, 1, 0, 0, 0), (104, 0, .bipush (-4), 2, 0, 0, 0), (106, 4, .invokevirtual 76, 3, 37, 0, 0), (109, 6, .ireturn, 1, 0, 0, 0)]
def M_9 : ai_M := (⟨"TheOtherRoom", "copy", "(IIIII)I"⟩, prog_1_method_4_code, 8, some .int, 0, false, 6, C_9_0)
def C_10_0 : List ai_E := [(0, 0, .aload_n 0, 1, 0, 0, 0), (1, 0, .iload_n 1, 1, 0, 0, 0), (2, 0, .iload_n 2, 1, 0, 0, 0), (3, 0, .iload_n 3, 1, 0, 0, 0), (4, 4, .invokevirtual 257, 3, 56, 0, 0), (7, 0, .istore 4, 2, 0, 0, 0), (9, 0, .iload 4, 2, 0, 0, 0), (11, 2, .ifCond .eq 10, 3, 21, 0, 0), (14, 0, .aload_n 0, 1, 0, 0, 0), (15, 0, .iload 4, 2, 0, 0, 0), (17, 4, .invokevirtual 76, 3, 37, 0, 0), (20, 6, .ireturn, 1, 0, 0, 0)]
def M_10 : ai_M := (⟨"TheOtherRoom", "cost", "(III)I"⟩, prog_1_method_26_code, 5, some .int, 0, false, 4, C_10_0)
def C_11_0 : List ai_E := [(0, 0, .aload_n 0, 1, 0, 0, 0), (1, 0, .iload_n 1, 1, 0, 0, 0), (2, 4, .invokevirtual 138, 3, 21, 0, 0), (5, 0, .astore 4, 2, 0, 0, 0), (7, 0, .aload 4, 2, 0, 0, 0), (9, 2, .ifnonnull 7, 3, 16, 0, 0), (12, 0, .lconst 0, 1, 0, 0, 0), (13, 2, .goto 10, 3, 23, 0, 0), (23, 6, .lreturn, 1, 0, 0, 0)]
def M_11 : ai_M := (⟨"TheOtherRoom", "covers", "(III)J"⟩, prog_1_method_18_code, 5, some .long, 0, false, 4, C_11_0)
def C_12_0 : List ai_E := [(0, 0, .aload_n 0, 1, 0, 0, 0), (1, 0, .iload_n 1, 1, 0, 0, 0), (2, 0, .iload_n 2, 1, 0, 0, 0), (3, 4, .invokevirtual 265, 3, 23, 0, 0), (6, 0, .astore 5, 2, 0, 0, 0), (8, 0, .aload 5, 2, 0, 0, 0), (10, 2, .ifnull 29, 3, 39, 0, 0), (39, 0, .aload_n 0, 1, 0, 0, 0), (40, 0, .bipush (-2), 2, 0, 0, 0), (42, 4, .invokevirtual 76, 3, 37, 0, 0), (45, 6, .ireturn, 1, 0, 0, 0)]
def M_12 : ai_M := (⟨"TheOtherRoom", "draw", "(IIII)I"⟩, prog_1_method_27_code, 6, some .int, 0, false, 5, C_12_0)
def C_13_0 : List ai_E := [(0, 0, .aload_n 0, 1, 0, 0, 0), (1, 0, .iload_n 1, 1, 0, 0, 0), (2, 0, .iload_n 2, 1, 0, 0, 0), (3, 4, .invokevirtual 265, 3, 23, 0, 0), (6, 0, .astore 4, 2, 0, 0, 0), (8, 0, .aload 4, 2, 0, 0, 0), (10, 2, .ifnull 12, 3, 22, 0, 0), (22, 0, .aload_n 0, 1, 0, 0, 0), (23, 0, .bipush (-2), 2, 0, 0, 0), (25, 4, .invokevirtual 76, 3, 37, 0, 0), (28, 6, .ireturn, 1, 0, 0, 0)]
def M_13 : ai_M := (⟨"TheOtherRoom", "drawn", "(III)I"⟩, prog_1_method_28_code, 5, some .int, 0, false, 4, C_13_0)
def C_14_0 : List ai_E := [(0, 0, .aload_n 0, 1, 0, 0, 0), (1, 0, .iload_n 1, 1, 0, 0, 0), (2, 4, .invokevirtual 138, 3, 21, 0, 0), (5, 0, .astore_n 2, 1, 0, 0, 0), (6, 0, .aload_n 2, 1, 0, 0, 0), (7, 2, .ifnonnull 10, 3, 17, 0, 0), (10, 0, .aload_n 0, 1, 0, 0, 0), (11, 0, .bipush (-2), 2, 0, 0, 0), (13, 4, .invokevirtual 76, 3, 37, 0, 0), (16, 6, .ireturn, 1, 0, 0, 0)]
def M_14 : ai_M := (⟨"TheOtherRoom", "either", "(I)I"⟩, prog_1_method_41_code, 7, some .int, 0, false, 2, C_14_0)
def C_15_0 : List ai_E := [(0, 0, .aload_n 0, 1, 0, 0, 0), (1, 0, .iload_n 1, 1, 0, 0, 0), (2, 4, .invokevirtual 72, 3, 44, 0, 0), (5, 0, .astore_n 3, 1, 0, 0, 0), (6, 0, .aload_n 3, 1, 0, 0, 0), (7, 2, .ifnull 10, 3, 17, 0, 0), (10, 0, .aload_n 3, 1, 0, 0, 0), (11, 4, .invokevirtual 84, 3, 66, 0, 0), (14, 2, .ifCond .eq 5, 3, 19, 0, 0), (17, 0, .lconst 0, 1, 0, 0, 0), (18, 6, .lreturn, 1, 0, 0, 0)]
def M_15 : ai_M := (⟨"TheOtherRoom", "element", "(II)J"⟩, prog_1_method_5_code, 4, some .long, 0, false, 3, C_15_0)
def C_16_0 : List ai_E := [(0, 0, .aload_n 0, 1, 0, 0, 0), (1, 0, .iload_n 1, 1, 0, 0, 0), (2, 4, .invokevirtual 138, 3, 21, 0, 0), (5, 0, .astore_n 3, 1, 0, 0, 0), (6, 0, .aload_n 3, 1, 0, 0, 0), (7, 2, .ifnull 11, 3, 18, 0, 0), (18, 0, .lconst 0, 1, 0, 0, 0), (19, 6, .lreturn, 1, 0, 0, 0)]
def M_16 : ai_M := (⟨"TheOtherRoom", "ever", "(II)J"⟩, prog_1_method_36_code, 7, some .long, 0, false, 3, C_16_0)
def C_17_0 : List ai_E := [(0, 0, .iload_n 2, 1, 0, 0, 0), (1, 0, .iconst 1, 1, 0, 0, 0), (2, 2, .if_icmp .lt 8, 3, 10, 0, 0), (5, 0, .iload_n 2, 1, 0, 0, 0), (6, 0, .iconst 4, 1, 0, 0, 0), (7, 2, .if_icmp .le 10, 3, 17, 0, 0), (10, 0, .aload_n 0, 1, 0, 0, 0), (11, 0, .bipush (-2), 2, 0, 0, 0), (13, 4, .invokevirtual 76, 3, 37, 0, 0), (16, 6, .ireturn, 1, 0, 0, 0), (17, 0, .aload_n 0, 1, 0, 0, 0), (18, 3, .getfield 27, 3, 0, 3, 0), (21, 3, .getfield 161, 3, 4, 0, 0), (24, 0, .iload_n 2, 1, 0, 0, 0), (25, 1, .iadd, 1, 0, 0, 0), (26, 0, .sipush 200, 3, 0, 0, 0), (29, 2, .if_icmp .le 10, 3, 39, 0, 0), (39, 0, .iload_n 2, 1, 0, 0, 0), (40, 0, .iconst 1, 1, 0, 0, 0), (41, 1, .isub, 1, 0, 0, 0), (42, 0, .istore_n 3, 1, 0, 0, 0), (43, 0, .iload_n 3, 1, 0, 0, 0), (44, 2, .ifCond .lt 23, 3, 67, 0, 0), (47, 0, .aload_n 0, 1, 0, 0, 0), (48, 3, .getfield 27, 3, 0, 3, 0), (51, 0, .iload_n 1, 1, 0, 0, 0), (52, 0, .bipush 8, 2, 0, 0, 0), (54, 0, .iload_n 3, 1, 0, 0, 0), (55, 1, .imul, 1, 0, 0, 0), (56, 1, .ishr, 1, 0, 0, 0), (57, 1, .i2b, 1, 0, 0, 0), (58, 4, .invokevirtual 162, 3, 69, 0, 0), (61, 0, .iinc 3 (-1), 3, 0, 0, 0), (64, 2, .goto (-21), 3, 43, 0, 0), (67, 0, .aload_n 0, 1, 0, 0, 0), (68, 3, .getfield 27, 3, 0, 3, 0), (71, 3, .getfield 161, 3, 4, 0, 0), (74, 6, .ireturn, 1, 0, 0, 0)]
def M_17 : ai_M := (⟨"TheOtherRoom", "feed", "(II)I"⟩, prog_1_method_11_code, 4, some .int, 0, false, 3, C_17_0)
def C_18_0 : List ai_E := [(0, 0, .aload_n 0, 1, 0, 0, 0), (1, 0, .iload_n 1, 1, 0, 0, 0), (2, 0, .iload_n 2, 1, 0, 0, 0), (3, 4, .invokevirtual 265, 3, 23, 0, 0), (6, 0, .astore_n 3, 1, 0, 0, 0), (7, 0, .aload_n 3, 1, 0, 0, 0), (8, 2, .ifnonnull 10, 3, 18, 0, 0), (11, 0, .aload_n 0, 1, 0, 0, 0), (12, 0, .bipush (-2), 2, 0, 0, 0), (14, 4, .invokevirtual 76, 3, 37, 0, 0), (17, 6, .ireturn, 1, 0, 0, 0)]
def M_18 : ai_M := (⟨"TheOtherRoom", "fewest", "(II)I"⟩, prog_1_method_37_code, 4, some .int, 0, false, 3, C_18_0)
def C_19_0 : List ai_E := [(0, 0, .aload_n 0, 1, 0, 0, 0), (1, 0, .iload_n 1, 1, 0, 0, 0), (2, 0, .iload_n 2, 1, 0, 0, 0), (3, 4, .invokevirtual 265, 3, 23, 0, 0), (6, 0, .astore_n 3, 1, 0, 0, 0), (7, 0, .aload_n 3, 1, 0, 0, 0), (8, 2, .ifnonnull 10, 3, 18, 0, 0), (11, 0, .aload_n 0, 1, 0, 0, 0), (12, 0, .bipush (-2), 2, 0, 0, 0), (14, 4, .invokevirtual 76, 3, 37, 0, 0), (17, 6, .ireturn, 1, 0, 0, 0)]
def M_19 : ai_M := (⟨"TheOtherRoom", "first", "(II)I"⟩, prog_1_method_39_code, 4, some .int, 0, false, 3, C_19_0)
def C_20_0 : List ai_E := [(0, 0, .aload_n 0, 1, 0, 0, 0), (1, 3, .getfield 60, 3, 0, 10, 0), (4, 2, .ifCond .lt 11, 3, 15, 0, 0), (7, 0, .aload_n 0, 1, 0, 0, 0), (8, 3, .getfield 60, 3, 0, 10, 0), (11, 0, .iconst 4, 1, 0, 0, 0), (12, 2, .if_icmp .lt 10, 3, 22, 0, 0), (22, 0, .aload_n 0, 1, 0, 0, 0), (23, 3, .getfield 27, 3, 0, 3, 0), (26, 0, .aload_n 0, 1, 0, 0, 0), (27, 3, .getfield 11, 3, 0, 0, 0), (30, 0, .aload_n 0, 1, 0, 0, 0), (31, 3, .getfield 60, 3, 0, 10, 0), (34, 3, .aaload, 1, 0, 0, 0), (35, 4, .invokevirtual 166, 3, 76, 0, 0), (38, 0, .istore_n 1, 1, 0, 0, 0), (39, 0, .aload_n 0, 1, 0, 0, 0), (40, 3, .getfield 27, 3, 0, 3, 0), (43, 0, .iconst 0, 1, 0, 0, 0), (44, 3, .putfield 161, 3, 4, 0, 0), (47, 0, .iload_n 1, 1, 0, 0, 0), (48, 0, .iconst (-1), 1, 0, 0, 0), (49, 2, .if_icmp .eq 15, 3, 64, 0, 0), (52, 0, .aload_n 0, 1, 0, 0, 0), (53, 0, .bipush (-2), 2, 0, 0, 0), (55, 4, .invokevirtual 76, 3, 37, 0, 0), (58, 0, .pop, 1, 0, 0, 0), (59, 0, .bipush (-20), 2, 0, 0, 0), (61, 0, .iload_n 1, 1, 0, 0, 0), (62, 1, .isub, 1, 0, 0, 0), (63, 6, .ireturn, 1, 0, 0, 0)]
def M_20 : ai_M := (⟨"TheOtherRoom", "flat", "()I"⟩, prog_1_method_13_code, 2, some .int, 0, false, 1, C_20_0)
def C_21_0 : List ai_E := [(0, 0, .iload_n 1, 1, 0, 0, 0), (1, 2, .ifCond .lt 25, 3, 26, 0, 0), (4, 0, .iload_n 1, 1, 0, 0, 0), (5, 0, .aload_n 0, 1, 0, 0, 0), (6, 3, .getfield 60, 3, 0, 10, 0), (9, 2, .if_icmp .ge 17, 3, 26, 0, 0), (26, 0, .aconst_null, 1, 0, 0, 0), (27, 6, .areturn, 1, 0, 0, 0)]
def M_21 : ai_M := (⟨"TheOtherRoom", "flatFor", "(I)LTheOtherRoom$Flat;"⟩, prog_1_method_53_code, 2, some (.object "TheOtherRoom$Flat"), 0, false, 2, C_21_0)
def C_22_0 : List ai_E := [(0, 0, .aload_n 0, 1, 0, 0, 0), (1, 0, .iload_n 1, 1, 0, 0, 0), (2, 4, .invokevirtual 138, 3, 21, 0, 0), (5, 0, .astore_n 3, 1, 0, 0, 0), (6, 0, .aload_n 3, 1, 0, 0, 0), (7, 2, .ifnonnull 10, 3, 17, 0, 0), (10, 0, .aload_n 0, 1, 0, 0, 0), (11, 0, .bipush (-2), 2, 0, 0, 0), (13, 4, .invokevirtual 76, 3, 37, 0, 0), (16, 6, .ireturn, 1, 0, 0, 0)]
def M_22 : ai_M := (⟨"TheOtherRoom", "flatOf", "(II)I"⟩, prog_1_method_14_code, 4, some .int, 0, false, 3, C_22_0)
def C_23_0 : List ai_E := [(0, 0, .iload_n 2, 1, 0, 0, 0), (1, 2, .ifCond .lt 16, 3, 17, 0, 0), (4, 0, .iload_n 2, 1, 0, 0, 0), (5, 0, .iconst 4, 1, 0, 0, 0), (6, 2, .if_icmp .ge 11, 3, 17, 0, 0), (9, 0, .aload_n 0, 1, 0, 0, 0), (10, 0, .iload_n 1, 1, 0, 0, 0), (11, 4, .invokevirtual 138, 3, 21, 0, 0), (14, 2, .goto 4, 3, 18, 0, 0), (17, 0, .aconst_null, 1, 0, 0, 0), (18, 6, .areturn, 1, 0, 0, 0)]
def M_23 : ai_M := (⟨"TheOtherRoom", "flatWithDrawing", "(II)LTheOtherRoom$Flat;"⟩, prog_1_method_54_code, 3, some (.object "TheOtherRoom$Flat"), 0, false, 3, C_23_0)
def C_24_0 : List ai_E := [(0, 0, .aload_n 0, 1, 0, 0, 0), (1, 0, .iload_n 1, 1, 0, 0, 0), (2, 4, .invokevirtual 138, 3, 21, 0, 0), (5, 0, .astore_n 3, 1, 0, 0, 0), (6, 0, .aload_n 3, 1, 0, 0, 0), (7, 2, .ifnonnull 5, 3, 12, 0, 0), (10, 0, .lconst 0, 1, 0, 0, 0), (11, 6, .lreturn, 1, 0, 0, 0)]
def M_24 : ai_M := (⟨"TheOtherRoom", "floor", "(II)J"⟩, prog_1_method_16_code, 6, some .long, 0, false, 3, C_24_0)
def C_25_0 : List ai_E := [(0, 0, .aload_n 0, 1, 0, 0, 0), (1, 0, .iload_n 1, 1, 0, 0, 0), (2, 4, .invokevirtual 72, 3, 44, 0, 0), (5, 0, .astore_n 2, 1, 0, 0, 0), (6, 0, .aload_n 2, 1, 0, 0, 0), (7, 2, .ifnonnull 7, 3, 14, 0, 0), (10, 0, .iconst (-1), 1, 0, 0, 0), (11, 2, .goto 7, 3, 18, 0, 0), (14, 0, .aload_n 2, 1, 0, 0, 0), (15, 3, .getfield 99, 3, 3, 0, 0), (18, 6, .ireturn, 1, 0, 0, 0)]
def M_25 : ai_M := (⟨"TheOtherRoom", "holds", "(I)I"⟩, prog_1_method_6_code, 3, some .int, 0, false, 2, C_25_0)
def C_26_0 : List ai_E := [(0, 0, .iconst 0, 1, 0, 0, 0), (1, 0, .istore_n 1, 1, 0, 0, 0), (2, 0, .iload_n 1, 1, 0, 0, 0), (3, 0, .iconst 4, 1, 0, 0, 0), (4, 2, .if_icmp .ge 24, 3, 28, 0, 0), (7, 0, .aload_n 0, 1, 0, 0, 0), (8, 3, .getfield 15, 3, 0, 1, 0), (11, 0, .iload_n 1, 1, 0, 0, 0), (12, 3, .aaload, 1, 0, 0, 0), (13, 0, .aload_n 0, 1, 0, 0, 0), (14, 3, .getfield 11, 3, 0, 0, 0), (17, 0, .iload_n 1, 1, 0, 0, 0), (18, 3, .aaload, 1, 0, 0, 0), (19, 4, .invokevirtual 322, 3, 59, 0, 0), (22, 0, .iinc 1 1, 3, 0, 0, 0), (25, 2, .goto (-23), 3, 2, 0, 0), (28, 0, .aload_n 0, 1, 0, 0, 0), (29, 0, .aload_n 0, 1, 0, 0, 0), (30, 3, .getfield 60, 3, 0, 10, 0), (33, 3, .putfield 64, 3, 0, 11, 0), (36, 0, .iconst 1, 1, 0, 0, 0), (37, 6, .ireturn, 1, 0, 0, 0)]
def M_26 : ai_M := (⟨"TheOtherRoom", "image", "()I"⟩, prog_1_method_48_code, 2, some .int, 0, false, 1, C_26_0)
def C_27_0 : List ai_E := [(0, 0, .aload_n 0, 1, 0, 0, 0), (1, 0, .iload_n 1, 1, 0, 0, 0), (2, 0, .iload_n 2, 1, 0, 0, 0), (3, 0, .iload_n 3, 1, 0, 0, 0), (4, 4, .invokevirtual 257, 3, 56, 0, 0), (7, 0, .istore 4, 2, 0, 0, 0), (9, 0, .iload 4, 2, 0, 0, 0), (11, 2, .ifCond .eq 10, 3, 21, 0, 0), (14, 0, .aload_n 0, 1, 0, 0, 0), (15, 0, .iload 4, 2, 0, 0, 0), (17, 4, .invokevirtual 76, 3, 37, 0, 0), (20, 6, .ireturn, 1, 0, 0, 0)]
def M_27 : ai_M := (⟨"TheOtherRoom", "judge", "(III)I"⟩, prog_1_method_25_code, 5, some .int, 0, false, 4, C_27_0)
def C_28_0 : List ai_E := [(0, 0, .aload_n 0, 1, 0, 0, 0), (1, 0, .iload_n 1, 1, 0, 0, 0), (2, 0, .iload_n 2, 1, 0, 0, 0), (3, 4, .invokevirtual 265, 3, 23, 0, 0), (6, 0, .astore_n 3, 1, 0, 0, 0), (7, 0, .aload_n 3, 1, 0, 0, 0), (8, 2, .ifnonnull 10, 3, 18, 0, 0), (11, 0, .aload_n 0, 1, 0, 0, 0), (12, 0, .bipush (-2), 2, 0, 0, 0), (14, 4, .invokevirtual 76, 3, 37, 0, 0), (17, 6, .ireturn, 1, 0, 0, 0)]
def M_28 : ai_M := (⟨"TheOtherRoom", "least", "(II)I"⟩, prog_1_method_38_code, 4, some .int, 0, false, 3, C_28_0)
def C_29_0 : List ai_E := [(0, 0, .aload_n 0, 1, 0, 0, 0), (1, 0, .iload_n 1, 1, 0, 0, 0), (2, 0, .iload_n 2, 1, 0, 0, 0), (3, 4, .invokevirtual 134, 3, 57, 0, 0), (6, 0, .istore_n 3, 1, 0, 0, 0), (7, 0, .iload_n 3, 1, 0, 0, 0), (8, 2, .ifCond .eq 9, 3, 17, 0, 0), (11, 0, .aload_n 0, 1, 0, 0, 0), (12, 0, .iload_n 3, 1, 0, 0, 0), (13, 4, .invokevirtual 76, 3, 37, 0, 0), (16, 6, .ireturn, 1, 0, 0, 0)]
def M_29 : ai_M := (⟨"TheOtherRoom", "make", "(II)I"⟩, prog_1_method_10_code, 7, some .int, 0, false, 3, C_29_0)
def C_30_0 : List ai_E := [(0, 0, .aload_n 0, 1, 0, 0, 0), (1, 0, .iload_n 1, 1, 0, 0, 0), (2, 0, .iload_n 2, 1, 0, 0, 0), (3, 4, .invokevirtual 265, 3, 23, 0, 0), (6, 0, .astore_n 3, 1, 0, 0, 0), (7, 0, .aload_n 3, 1, 0, 0, 0), (8, 2, .ifnonnull 10, 3, 18, 0, 0), (11, 0, .aload_n 0, 1, 0, 0, 0), (12, 0, .bipush (-2), 2, 0, 0, 0), (14, 4, .invokevirtual 76, 3, 37, 0, 0), (17, 6, .ireturn, 1, 0, 0, 0)]
def M_30 : ai_M := (⟨"TheOtherRoom", "more", "(II)I"⟩, prog_1_method_44_code, 8, some .int, 0, false, 3, C_30_0)
def C_31_0 : List ai_E := [(0, 0, .aload_n 0, 1, 0, 0, 0), (1, 0, .iload_n 1, 1, 0, 0, 0), (2, 4, .invokevirtual 72, 3, 44, 0, 0), (5, 0, .astore 5, 2, 0, 0, 0), (7, 0, .aload 5, 2, 0, 0, 0), (9, 2, .ifnull 32, 3, 41, 0, 0), (12, 0, .iload_n 2, 1, 0, 0, 0), (13, 0, .iconst 1, 1, 0, 0, 0), (14, 2, .if_icmp .lt 27, 3, 41, 0, 0), (17, 0, .iload_n 2, 1, 0, 0, 0), (18, 0, .iconst 5, 1, 0, 0, 0), (19, 2, .if_icmp .gt 22, 3, 41, 0, 0), (22, 0, .iload_n 3, 1, 0, 0, 0), (23, 2, .ifCond .lt 18, 3, 41, 0, 0), (26, 0, .iload_n 3, 1, 0, 0, 0), (27, 0, .bipush 6, 2, 0, 0, 0), (29, 2, .if_icmp .ge 12, 3, 41, 0, 0), (32, 0, .iload_n 2, 1, 0, 0, 0), (33, 0, .iload 4, 2, 0, 0, 0), (35, 4, .invokestatic 116, 3, 7, 1, 0), (38, 2, .ifCond .ne 10, 3, 48, 0, 0), (41, 0, .aload_n 0, 1, 0, 0, 0), (42, 0, .bipush (-2), 2, 0, 0, 0), (44, 4, .invokevirtual 76, 3, 37, 0, 0), (47, 6, .ireturn, 1, 0, 0, 0), (48, 0, .aload 5, 2, 0, 0, 0), (50, 0, .iload_n 2, 1, 0, 0, 0), (51, 0, .iload_n 3, 1, 0, 0, 0), (52, 0, .iload 4, 2, 0, 0, 0), (54, 4, .invokevirtual 120, 3, 62, 0, 0), (57, 0, .iconst 1, 1, 0, 0, 0), (58, 6, .ireturn, 1, 0, 0, 0)]
def M_31 : ai_M := (⟨"TheOtherRoom", "move", "(IIII)I"⟩, prog_1_method_7_code, 6, some .int, 0, false, 5, C_31_0)
def C_32_0 : List ai_E := [(0, 0, .aload_n 0, 1, 0, 0, 0), (1, 0, .iload_n 1, 1, 0, 0, 0), (2, 0, .iload_n 2, 1, 0, 0, 0), (3, 4, .invokevirtual 265, 3, 23, 0, 0), (6, 0, .astore 4, 2, 0, 0, 0), (8, 0, .aload 4, 2, 0, 0, 0), (10, 2, .ifnull 12, 3, 22, 0, 0), (22, 0, .aload_n 0, 1, 0, 0, 0), (23, 0, .bipush (-2), 2, 0, 0, 0), (25, 4, .invokevirtual 76, 3, 37, 0, 0), (28, 6, .ireturn, 1, 0, 0, 0)]
def M_32 : ai_M := (⟨"TheOtherRoom", "near", "(III)I"⟩, prog_1_method_43_code, 5, some .int, 0, false, 4, C_32_0)
def C_33_0 : List ai_E := [(0, 0, .aload_n 0, 1, 0, 0, 0), (1, 0, .iload_n 1, 1, 0, 0, 0), (2, 0, .iload_n 2, 1, 0, 0, 0), (3, 4, .invokevirtual 265, 3, 23, 0, 0), (6, 0, .astore_n 3, 1, 0, 0, 0), (7, 0, .aload_n 3, 1, 0, 0, 0), (8, 2, .ifnonnull 10, 3, 18, 0, 0), (11, 0, .aload_n 0, 1, 0, 0, 0), (12, 0, .bipush (-2), 2, 0, 0, 0), (14, 4, .invokevirtual 76, 3, 37, 0, 0), (17, 6, .ireturn, 1, 0, 0, 0)]
def M_33 : ai_M := (⟨"TheOtherRoom", "off", "(II)I"⟩, prog_1_method_30_code, 4, some .int, 0, false, 3, C_33_0)
def C_34_0 : List ai_E := [(0, 0, .aload_n 0, 1, 0, 0, 0), (1, 0, .iload_n 1, 1, 0, 0, 0), (2, 4, .invokevirtual 138, 3, 21, 0, 0), (5, 0, .astore_n 2, 1, 0, 0, 0), (6, 0, .aload_n 2, 1, 0, 0, 0), (7, 2, .ifnonnull 10, 3, 17, 0, 0), (10, 0, .aload_n 0, 1, 0, 0, 0), (11, 0, .bipush (-2), 2, 0, 0, 0), (13, 4, .invokevirtual 76, 3, 37, 0, 0), (16, 6, .ireturn, 1, 0, 0, 0)]
def M_34 : ai_M := (⟨"TheOtherRoom", "parts", "(I)I"⟩, prog_1_method_35_code, 3, some .int, 0, false, 2, C_34_0)
def C_35_0 : List ai_E := [(0, 0, .aload_n 0, 1, 0, 0, 0), (1, 0, .iload_n 1, 1, 0, 0, 0), (2, 4, .invokevirtual 138, 3, 21, 0, 0), (5, 0, .astore 4, 2, 0, 0, 0), (7, 0, .aload 4, 2, 0, 0, 0), (9, 2, .ifnull 13, 3, 22, 0, 0), (22, 0, .aload_n 0, 1, 0, 0, 0), (23, 0, .bipush (-2), 2, 0, 0, 0), (25, 4, .invokevirtual 76, 3, 37, 0, 0), (28, 6, .ireturn, 1, 0, 0, 0)]
def M_35 : ai_M := (⟨"TheOtherRoom", "put", "(III)I"⟩, prog_1_method_24_code, 5, some .int, 0, false, 4, C_35_0)
def C_36_0 : List ai_E := [(0, 0, .aload_n 0, 1, 0, 0, 0), (1, 0, .iload_n 1, 1, 0, 0, 0), (2, 4, .invokevirtual 138, 3, 21, 0, 0), (5, 0, .astore_n 3, 1, 0, 0, 0), (6, 0, .aload_n 3, 1, 0, 0, 0), (7, 2, .ifnull 11, 3, 18, 0, 0), (18, 0, .aload_n 0, 1, 0, 0, 0), (19, 0, .bipush (-2), 2, 0, 0, 0), (21, 4, .invokevirtual 76, 3, 37, 0, 0), (24, 6, .ireturn, 1, 0, 0, 0)]
def M_36 : ai_M := (⟨"TheOtherRoom", "reach", "(II)I"⟩, prog_1_method_22_code, 4, some .int, 0, false, 3, C_36_0)
def C_37_0 : List ai_E := [(0, 0, .bipush (-2), 2, 0, 0, 0), (2, 0, .iload_n 1, 1, 0, 0, 0), (3, 1, .isub, 1, 0, 0, 0), (4, 0, .istore_n 2, 1, 0, 0, 0), (5, 0, .iload_n 2, 1, 0, 0, 0), (6, 2, .ifCond .lt 22, 3, 28, 0, 0), (9, 0, .iload_n 2, 1, 0, 0, 0), (10, 0, .aload_n 0, 1, 0, 0, 0), (11, 3, .getfield 57, 3, 0, 9, 0), (14, 3, .arraylength, 1, 0, 0, 0), (15, 2, .if_icmp .ge 13, 3, 28, 0, 0), (18, 0, .aload_n 0, 1, 0, 0, 0), (19, 3, .getfield 57, 3, 0, 9, 0), (22, 0, .iload_n 2, 1, 0, 0, 0), (23, 0, .dup2, 1, 0, 0, 0), (24, 3, .iaload, 1, 0, 0, 0), (25, 0, .iconst 1, 1, 0, 0, 0), (26, 1, .iadd, 1, 0, 0, 0), (27, 3, .iastore, 1, 0, 0, 0), (28, 0, .iload_n 1, 1, 0, 0, 0), (29, 6, .ireturn, 1, 0, 0, 0)]
def M_37 : ai_M := (⟨"TheOtherRoom", "refuse", "(I)I"⟩, prog_1_method_51_code, 3, some .int, 0, false, 2, C_37_0)
def C_38_0 : List ai_E := [(0, 0, .aload_n 0, 1, 0, 0, 0), (1, 0, .iload_n 1, 1, 0, 0, 0), (2, 0, .iload_n 2, 1, 0, 0, 0), (3, 4, .invokevirtual 265, 3, 23, 0, 0), (6, 0, .astore_n 3, 1, 0, 0, 0), (7, 0, .aload_n 3, 1, 0, 0, 0), (8, 2, .ifnonnull 10, 3, 18, 0, 0), (11, 0, .aload_n 0, 1, 0, 0, 0), (12, 0, .bipush (-2), 2, 0, 0, 0), (14, 4, .invokevirtual 76, 3, 37, 0, 0), (17, 6, .ireturn, 1, 0, 0, 0)]
def M_38 : ai_M := (⟨"TheOtherRoom", "rings", "(II)I"⟩, prog_1_method_33_code, 4, some .int, 0, false, 3, C_38_0)
def C_39_0 : List ai_E := [(0, 0, .aload_n 0, 1, 0, 0, 0), (1, 0, .iload_n 1, 1, 0, 0, 0), (2, 4, .invokevirtual 72, 3, 44, 0, 0), (5, 0, .astore 4, 2, 0, 0, 0), (7, 0, .aload 4, 2, 0, 0, 0), (9, 2, .ifnull 22, 3, 31, 0, 0), (12, 0, .iload_n 2, 1, 0, 0, 0), (13, 2, .ifCond .lt 18, 3, 31, 0, 0), (16, 0, .iload_n 2, 1, 0, 0, 0), (17, 0, .iconst 4, 1, 0, 0, 0), (18, 2, .if_icmp .gt 13, 3, 31, 0, 0), (21, 0, .iload_n 3, 1, 0, 0, 0), (22, 2, .ifCond .lt 9, 3, 31, 0, 0), (25, 0, .iload_n 3, 1, 0, 0, 0), (26, 0, .bipush 40, 2, 0, 0, 0), (28, 2, .if_icmp .le 10, 3, 38, 0, 0), (31, 0, .aload_n 0, 1, 0, 0, 0), (32, 0, .bipush (-2), 2, 0, 0, 0), (34, 4, .invokevirtual 76, 3, 37, 0, 0), (37, 6, .ireturn, 1, 0, 0, 0), (38, 0, .aload 4, 2, 0, 0, 0), (40, 0, .iload_n 2, 1, 0, 0, 0), (41, 0, .iload_n 3, 1, 0, 0, 0), (42, 4, .invokevirtual 80, 3, 63, 0, 0), (45, 0, .iconst 1, 1, 0, 0, 0), (46, 6, .ireturn, 1, 0, 0, 0)]
def M_39 : ai_M := (⟨"TheOtherRoom", "row", "(III)I"⟩, prog_1_method_2_code, 5, some .int, 0, false, 4, C_39_0)
def C_40_0 : List ai_E := [(0, 0, .aload_n 0, 1, 0, 0, 0), (1, 0, .iload_n 1, 1, 0, 0, 0), (2, 4, .invokevirtual 72, 3, 44, 0, 0), (5, 0, .astore_n 3, 1, 0, 0, 0), (6, 0, .aload_n 3, 1, 0, 0, 0), (7, 2, .ifnull 12, 3, 19, 0, 0), (10, 0, .iload_n 2, 1, 0, 0, 0), (11, 2, .ifCond .lt 8, 3, 19, 0, 0), (14, 0, .iload_n 2, 1, 0, 0, 0), (15, 0, .iconst 5, 1, 0, 0, 0), (16, 2, .if_icmp .le 10, 3, 26, 0, 0), (19, 0, .aload_n 0, 1, 0, 0, 0), (20, 0, .bipush (-2), 2, 0, 0, 0), (22, 4, .invokevirtual 76, 3, 37, 0, 0), (25, 6, .ireturn, 1, 0, 0, 0), (26, 0, .aload_n 3, 1, 0, 0, 0), (27, 4, .invokevirtual 124, 3, 65, 0, 0), (30, 0, .istore 4, 2, 0, 0, 0), (32, 0, .iload 4, 2, 0, 0, 0), (34, 2, .ifCond .eq 10, 3, 44, 0, 0), (37, 0, .aload_n 0, 1, 0, 0, 0), (38, 0, .iload 4, 2, 0, 0, 0), (40, 4, .invokevirtual 76, 3, 37, 0, 0), (43, 6, .ireturn, 1, 0, 0, 0)]
def M_40 : ai_M := (⟨"TheOtherRoom", "says", "(II)I"⟩, prog_1_method_8_code, 5, some .int, 0, false, 3, C_40_0)
def C_41_0 : List ai_E := [(0, 0, .iload_n 1, 1, 0, 0, 0), (1, 2, .ifCond .lt 8, 3, 9, 0, 0), (4, 0, .iload_n 1, 1, 0, 0, 0), (5, 0, .iconst 5, 1, 0, 0, 0), (6, 2, .if_icmp .le 10, 3, 16, 0, 0), (9, 0, .aload_n 0, 1, 0, 0, 0), (10, 0, .bipush (-2), 2, 0, 0, 0), (12, 4, .invokevirtual 76, 3, 37, 0, 0), (15, 6, .ireturn, 1, 0, 0, 0), (16, 0, .aload_n 0, 1, 0, 0, 0), (17, 3, .getfield 67, 3, 0, 12, 0), (20, 2, .ifCond .ne 10, 3, 30, 0, 0), (23, 0, .aload_n 0, 1, 0, 0, 0), (24, 0, .bipush (-5), 2, 0, 0, 0), (26, 4, .invokevirtual 76, 3, 37, 0, 0), (29, 6, .ireturn, 1, 0, 0, 0)]
def M_41 : ai_M := (⟨"TheOtherRoom", "search", "(I)I"⟩, prog_1_method_47_code, 2, some .int, 0, false, 2, C_41_0)
def C_42_0 : List ai_E := [(0, 0, .aload_n 0, 1, 0, 0, 0), (1, 0, .iload_n 1, 1, 0, 0, 0), (2, 4, .invokevirtual 72, 3, 44, 0, 0), (5, 0, .astore 5, 2, 0, 0, 0), (7, 0, .aload 5, 2, 0, 0, 0), (9, 2, .ifnonnull 10, 3, 19, 0, 0), (12, 0, .aload_n 0, 1, 0, 0, 0), (13, 0, .bipush (-2), 2, 0, 0, 0), (15, 4, .invokevirtual 76, 3, 37, 0, 0), (18, 6, .ireturn, 1, 0, 0, 0), (19, 0, .aload 5, 2, 0, 0, 0), (21, 4, .invokevirtual 84, 3, 66, 0, 0), (24, 0, .istore 6, 2, 0, 0, 0), (26, 0, .iload 6, 2, 0, 0, 0), (28, 2, .ifCond .eq 10, 3, 38, 0, 0), (31, 0, .aload_n 0, 1, 0, 0, 0), (32, 0, .iload 6, 2, 0, 0, 0), (34, 4, .invokevirtual 76, 3, 37, 0, 0), (37, 6, .ireturn, 1, 0, 0, 0)]
def M_42 : ai_M := (⟨"TheOtherRoom", "set", "(IIJ)I"⟩, prog_1_method_3_code, 7, some .int, 0, false, 4, C_42_0)
def C_43_0 : List ai_E := [(0, 0, .aload_n 0, 1, 0, 0, 0), (1, 0, .iload_n 1, 1, 0, 0, 0), (2, 0, .iload_n 2, 1, 0, 0, 0), (3, 4, .invokevirtual 265, 3, 23, 0, 0), (6, 0, .astore_n 3, 1, 0, 0, 0), (7, 0, .aload_n 3, 1, 0, 0, 0), (8, 2, .ifnonnull 10, 3, 18, 0, 0), (11, 0, .aload_n 0, 1, 0, 0, 0), (12, 0, .bipush (-2), 2, 0, 0, 0), (14, 4, .invokevirtual 76, 3, 37, 0, 0), (17, 6, .ireturn, 1, 0, 0, 0)]
def M_43 : ai_M := (⟨"TheOtherRoom", "shelf", "(II)I"⟩, prog_1_method_42_code, 7, some .int, 0, false, 3, C_43_0)
def C_44_0 : List ai_E := [(0, 0, .iload_n 1, 1, 0, 0, 0), (1, 2, .ifCond .lt 18, 3, 19, 0, 0), (4, 0, .iload_n 1, 1, 0, 0, 0), (5, 0, .bipush 8, 2, 0, 0, 0), (7, 2, .if_icmp .ge 12, 3, 19, 0, 0), (10, 0, .aload_n 0, 1, 0, 0, 0), (11, 3, .getfield 20, 3, 0, 2, 0), (14, 0, .iload_n 1, 1, 0, 0, 0), (15, 3, .aaload, 1, 0, 0, 0), (16, 2, .goto 4, 3, 20, 0, 0), (19, 0, .aconst_null, 1, 0, 0, 0), (20, 6, .areturn, 1, 0, 0, 0)]
def M_44 : ai_M := (⟨"TheOtherRoom", "shelfOf", "(I)LTheOtherRoom$Shelf;"⟩, prog_1_method_52_code, 2, some (.object "TheOtherRoom$Shelf"), 0, false, 2, C_44_0)
def C_45_0 : List ai_E := [(0, 0, .iconst 0, 1, 0, 0, 0), (1, 0, .istore_n 1, 1, 0, 0, 0), (2, 0, .iconst 0, 1, 0, 0, 0), (3, 0, .istore_n 2, 1, 0, 0, 0), (4, 0, .iload_n 2, 1, 0, 0, 0), (5, 0, .bipush 8, 2, 0, 0, 0), (7, 2, .if_icmp .ge 25, 3, 32, 0, 0), (10, 0, .aload_n 0, 1, 0, 0, 0), (11, 3, .getfield 20, 3, 0, 2, 0), (14, 0, .iload_n 2, 1, 0, 0, 0), (15, 3, .aaload, 1, 0, 0, 0), (16, 3, .getfield 99, 3, 3, 0, 0), (19, 0, .iconst (-1), 1, 0, 0, 0), (20, 2, .if_icmp .eq 6, 3, 26, 0, 0), (26, 0, .iinc 2 1, 3, 0, 0, 0), (29, 2, .goto (-25), 3, 4, 0, 0), (32, 0, .iload_n 1, 1, 0, 0, 0), (33, 6, .ireturn, 1, 0, 0, 0)]
def M_45 : ai_M := (⟨"TheOtherRoom", "shelvesThatHold", "()I"⟩, prog_1_method_55_code, 3, some .int, 0, false, 1, C_45_0)
def C_46_0 : List ai_E := [(0, 0, .aload_n 0, 1, 0, 0, 0), (1, 0, .iload_n 1, 1, 0, 0, 0), (2, 0, .iload_n 2, 1, 0, 0, 0), (3, 4, .invokevirtual 265, 3, 23, 0, 0), (6, 0, .astore_n 3, 1, 0, 0, 0), (7, 0, .aload_n 3, 1, 0, 0, 0), (8, 2, .ifnonnull 10, 3, 18, 0, 0), (11, 0, .aload_n 0, 1, 0, 0, 0), (12, 0, .bipush (-2), 2, 0, 0, 0), (14, 4, .invokevirtual 76, 3, 37, 0, 0), (17, 6, .ireturn, 1, 0, 0, 0)]
def M_46 : ai_M := (⟨"TheOtherRoom", "sound", "(II)I"⟩, prog_1_method_31_code, 4, some .int, 0, false, 3, C_46_0)
def C_47_0 : List ai_E := [(0, 0, .aload_n 0, 1, 0, 0, 0), (1, 0, .iload_n 1, 1, 0, 0, 0), (2, 0, .iload_n 2, 1, 0, 0, 0), (3, 4, .invokevirtual 265, 3, 23, 0, 0), (6, 0, .astore_n 3, 1, 0, 0, 0), (7, 0, .aload_n 3, 1, 0, 0, 0), (8, 2, .ifnonnull 10, 3, 18, 0, 0), (11, 0, .aload_n 0, 1, 0, 0, 0), (12, 0, .bipush (-2), 2, 0, 0, 0), (14, 4, .invokevirtual 76, 3, 37, 0, 0), (17, 6, .ireturn, 1, 0, 0, 0)]
def M_47 : ai_M := (⟨"TheOtherRoom", "states", "(II)I"⟩, prog_1_method_40_code, 4, some .int, 0, false, 3, C_47_0)
def C_48_0 : List ai_E := [(0, 0, .iload_n 1, 1, 0, 0, 0), (1, 2, .ifCond .ne 8, 3, 9, 0, 0), (4, 0, .aload_n 0, 1, 0, 0, 0), (5, 3, .getfield 60, 3, 0, 10, 0), (8, 6, .ireturn, 1, 0, 0, 0), (9, 0, .iload_n 1, 1, 0, 0, 0), (10, 0, .iconst 1, 1, 0, 0, 0), (11, 2, .if_icmp .ne 11, 3, 22, 0, 0), (14, 0, .aload_n 0, 1, 0, 0, 0), (15, 3, .getfield 27, 3, 0, 3, 0), (18, 3, .getfield 161, 3, 4, 0, 0), (21, 6, .ireturn, 1, 0, 0, 0), (22, 0, .iload_n 1, 1, 0, 0, 0), (23, 0, .iconst 2, 1, 0, 0, 0), (24, 2, .if_icmp .ne 8, 3, 32, 0, 0), (27, 0, .aload_n 0, 1, 0, 0, 0), (28, 4, .invokevirtual 339, 3, 45, 0, 0), (31, 6, .ireturn, 1, 0, 0, 0), (32, 0, .iload_n 1, 1, 0, 0, 0), (33, 0, .bipush 12, 2, 0, 0, 0), (35, 1, .isub, 1, 0, 0, 0), (36, 0, .istore_n 2, 1, 0, 0, 0), (37, 0, .iload_n 2, 1, 0, 0, 0), (38, 2, .ifCond .lt 21, 3, 59, 0, 0), (41, 0, .iload_n 2, 1, 0, 0, 0), (42, 0, .aload_n 0, 1, 0, 0, 0), (43, 3, .getfield 57, 3, 0, 9, 0), (46, 3, .arraylength, 1, 0, 0, 0), (47, 2, .if_icmp .ge 12, 3, 59, 0, 0), (50, 0, .aload_n 0, 1, 0, 0, 0), (51, 3, .getfield 57, 3, 0, 9, 0), (54, 0, .iload_n 2, 1, 0, 0, 0), (55, 3, .iaload, 1, 0, 0, 0), (56, 2, .goto 4, 3, 60, 0, 0), (59, 0, .iconst (-1), 1, 0, 0, 0), (60, 6, .ireturn, 1, 0, 0, 0)]
def M_48 : ai_M := (⟨"TheOtherRoom", "status", "(I)I"⟩, prog_1_method_50_code, 3, some .int, 0, false, 2, C_48_0)
def C_49_0 : List ai_E := [(0, 0, .aload_n 0, 1, 0, 0, 0), (1, 3, .getfield 67, 3, 0, 12, 0), (4, 2, .ifCond .eq 13, 3, 17, 0, 0), (17, 0, .aload_n 0, 1, 0, 0, 0), (18, 0, .bipush (-5), 2, 0, 0, 0), (20, 4, .invokevirtual 76, 3, 37, 0, 0), (23, 6, .ireturn, 1, 0, 0, 0)]
def M_49 : ai_M := (⟨"TheOtherRoom", "step", "()I"⟩, prog_1_method_46_code, 1, some .int, 0, false, 1, C_49_0)
def C_50_0 : List ai_E := [(0, 0, .aload_n 0, 1, 0, 0, 0), (1, 0, .iload_n 1, 1, 0, 0, 0), (2, 4, .invokevirtual 138, 3, 21, 0, 0), (5, 0, .astore 4, 2, 0, 0, 0), (7, 0, .aload 4, 2, 0, 0, 0), (9, 2, .ifnull 13, 3, 22, 0, 0), (22, 0, .aload_n 0, 1, 0, 0, 0), (23, 0, .bipush (-2), 2, 0, 0, 0), (25, 4, .invokevirtual 76, 3, 37, 0, 0), (28, 6, .ireturn, 1, 0, 0, 0)]
def M_50 : ai_M := (⟨"TheOtherRoom", "steps", "(III)I"⟩, prog_1_method_21_code, 5, some .int, 0, false, 4, C_50_0)
def C_51_0 : List ai_E := [(0, 0, .aload_n 0, 1, 0, 0, 0), (1, 0, .iload_n 1, 1, 0, 0, 0), (2, 0, .iload_n 2, 1, 0, 0, 0), (3, 4, .invokevirtual 265, 3, 23, 0, 0), (6, 0, .astore_n 3, 1, 0, 0, 0), (7, 0, .aload_n 3, 1, 0, 0, 0), (8, 2, .ifnonnull 10, 3, 18, 0, 0), (11, 0, .aload_n 0, 1, 0, 0, 0), (12, 0, .bipush (-2), 2, 0, 0, 0), (14, 4, .invokevirtual 76, 3, 37, 0, 0), (17, 6, .ireturn, 1, 0, 0, 0)]
def M_51 : ai_M := (⟨"TheOtherRoom", "take", "(II)I"⟩, prog_1_method_29_code, 5, some .int, 0, false, 3, C_51_0)
def C_52_0 : List ai_E := [(0, 0, .aload_n 0, 1, 0, 0, 0), (1, 0, .iload_n 1, 1, 0, 0, 0), (2, 4, .invokevirtual 138, 3, 21, 0, 0), (5, 0, .astore 4, 2, 0, 0, 0), (7, 0, .aload 4, 2, 0, 0, 0), (9, 2, .ifnull 12, 3, 21, 0, 0), (21, 0, .aload_n 0, 1, 0, 0, 0), (22, 0, .bipush (-2), 2, 0, 0, 0), (24, 4, .invokevirtual 76, 3, 37, 0, 0), (27, 6, .ireturn, 1, 0, 0, 0)]
def M_52 : ai_M := (⟨"TheOtherRoom", "thingOf", "(III)I"⟩, prog_1_method_15_code, 5, some .int, 0, false, 4, C_52_0)
def C_53_0 : List ai_E := [(0, 0, .aload_n 0, 1, 0, 0, 0), (1, 0, .iload_n 1, 1, 0, 0, 0), (2, 0, .iload_n 2, 1, 0, 0, 0), (3, 4, .invokevirtual 265, 3, 23, 0, 0), (6, 0, .astore 4, 2, 0, 0, 0), (8, 0, .aload 4, 2, 0, 0, 0), (10, 2, .ifnull 12, 3, 22, 0, 0), (22, 0, .aload_n 0, 1, 0, 0, 0), (23, 0, .bipush (-2), 2, 0, 0, 0), (25, 4, .invokevirtual 76, 3, 37, 0, 0), (28, 6, .ireturn, 1, 0, 0, 0)]
def M_53 : ai_M := (⟨"TheOtherRoom", "waits", "(III)I"⟩, prog_1_method_32_code, 5, some .int, 0, false, 4, C_53_0)
def C_54_0 : List ai_E := [(0, 0, .aload_n 0, 1, 0, 0, 0), (1, 0, .iload_n 1, 1, 0, 0, 0), (2, 4, .invokevirtual 138, 3, 21, 0, 0), (5, 0, .astore 4, 2, 0, 0, 0), (7, 0, .aload 4, 2, 0, 0, 0), (9, 2, .ifnull 12, 3, 21, 0, 0), (21, 0, .aload_n 0, 1, 0, 0, 0), (22, 0, .bipush (-2), 2, 0, 0, 0), (24, 4, .invokevirtual 76, 3, 37, 0, 0), (27, 6, .ireturn, 1, 0, 0, 0)]
def M_54 : ai_M := (⟨"TheOtherRoom", "wall", "(IIZ)I"⟩, prog_1_method_19_code, 8, some .int, 0, false, 4, C_54_0)
def C_55_0 : List ai_E := [(0, 0, .aload_n 0, 1, 0, 0, 0), (1, 3, .getfield 27, 3, 0, 3, 0), (4, 3, .getfield 161, 3, 4, 0, 0), (7, 0, .istore_n 1, 1, 0, 0, 0), (8, 0, .aload_n 0, 1, 0, 0, 0), (9, 3, .getfield 27, 3, 0, 3, 0), (12, 0, .iconst 0, 1, 0, 0, 0), (13, 3, .putfield 161, 3, 4, 0, 0), (16, 0, .iload_n 1, 1, 0, 0, 0), (17, 6, .ireturn, 1, 0, 0, 0)]
def M_55 : ai_M := (⟨"TheOtherRoom", "wipe", "()I"⟩, prog_1_method_12_code, 2, some .int, 0, false, 1, C_55_0)
def C_56_0 : List ai_E := [(0, 0, .aload_n 0, 1, 0, 0, 0), (1, 0, .iload_n 2, 1, 0, 0, 0), (2, 4, .invokevirtual 72, 3, 44, 0, 0), (5, 0, .astore 4, 2, 0, 0, 0), (7, 0, .aload_n 0, 1, 0, 0, 0), (8, 0, .iload_n 1, 1, 0, 0, 0), (9, 4, .invokevirtual 138, 3, 21, 0, 0), (12, 2, .ifnull 18, 3, 30, 0, 0), (30, 0, .bipush (-2), 2, 0, 0, 0), (32, 6, .ireturn, 1, 0, 0, 0)]
def M_56 : ai_M := (⟨"TheOtherRoom", "wrongForCarries", "(III)I"⟩, prog_1_method_58_code, 6, some .int, 0, false, 4, C_56_0)
def C_57_0 : List ai_E := [(0, 0, .aload_n 0, 1, 0, 0, 0), (1, 0, .iload_n 2, 1, 0, 0, 0), (2, 4, .invokevirtual 72, 3, 44, 0, 0), (5, 0, .astore_n 3, 1, 0, 0, 0), (6, 0, .aload_n 0, 1, 0, 0, 0), (7, 0, .iload_n 1, 1, 0, 0, 0), (8, 4, .invokevirtual 138, 3, 21, 0, 0), (11, 2, .ifnull 7, 3, 18, 0, 0), (18, 0, .bipush (-2), 2, 0, 0, 0), (20, 6, .ireturn, 1, 0, 0, 0)]
def M_57 : ai_M := (⟨"TheOtherRoom", "wrongForMoveIn", "(II)I"⟩, prog_1_method_57_code, 4, some .int, 0, false, 3, C_57_0)
def C_58_0 : List ai_E := [(0, 0, .aload_n 0, 1, 0, 0, 0), (1, 5, .invokespecial 3, 3, 0, 0, 0), (4, 0, .aload_n 0, 1, 0, 0, 0), (5, 0, .iconst 0, 1, 0, 0, 0), (6, 3, .putfield 9, 3, 1, 0, 0), (9, 0, .aload_n 0, 1, 0, 0, 0), (10, 0, .iconst 0, 1, 0, 0, 0), (11, 3, .putfield 15, 3, 1, 1, 0), (14, 0, .aload_n 0, 1, 0, 0, 0), (15, 0, .lconst 0, 1, 0, 0, 0), (16, 3, .putfield 18, 3, 1, 2, 0), (19, 0, .aload_n 0, 1, 0, 0, 0), (20, 0, .iconst 0, 1, 0, 0, 0), (21, 3, .putfield 22, 3, 1, 3, 0), (24, 0, .aload_n 0, 1, 0, 0, 0), (25, 0, .iconst 2, 1, 0, 0, 0), (26, 3, .putfield 25, 3, 1, 4, 0), (29, 0, .aload_n 0, 1, 0, 0, 0), (30, 0, .iconst 0, 1, 0, 0, 0), (31, 3, .putfield 28, 3, 1, 5, 0), (34, 0, .aload_n 0, 1, 0, 0, 0), (35, 0, .iconst 0, 1, 0, 0, 0), (36, 3, .putfield 31, 3, 1, 6, 0), (39, 0, .aload_n 0, 1, 0, 0, 0), (40, 0, .iconst 0, 1, 0, 0, 0), (41, 3, .putfield 34, 3, 1, 7, 0), (44, 0, .aload_n 0, 1, 0, 0, 0), (45, 0, .iconst 0, 1, 0, 0, 0), (46, 3, .putfield 37, 3, 1, 8, 0), (49, 0, .aload_n 0, 1, 0, 0, 0), (50, 0, .bipush 6, 2, 0, 0, 0), (52, 3, .newarray .int, 2, 0, 0, 0), (54, 3, .putfield 40, 3, 1, 9, 0), (57, 0, .aload_n 0, 1, 0, 0, 0), (58, 0, .bipush 6, 2, 0, 0, 0), (60, 3, .newarray .int, 2, 0, 0, 0), (62, 3, .putfield 44, 3, 1, 10, 0), (65, 0, .aload_n 0, 1, 0, 0, 0), (66, 0, .bipush 6, 2, 0, 0, 0), (68, 3, .newarray .int, 2, 0, 0, 0), (70, 3, .putfield 47, 3, 1, 11, 0), (73, 0, .aload_n 0, 1, 0, 0, 0), (74, 0, .bipush 6, 2, 0, 0, 0), (76, 3, .newarray .boolean, 2, 0, 0, 0), (78, 3, .putfield 50, 3, 1, 12, 0), (81, 0, .aload_n 0, 1, 0, 0, 0), (82, 0, .bipush 6, 2, 0, 0, 0), (84, 3, .newarray .boolean, 2, 0, 0, 0), (86, 3, .putfield 54, 3, 1, 13, 0), (89, 0, .aload_n 0, 1, 0, 0, 0)]
def C_58_1 : List ai_E := [(90, 0, .bipush 6, 2, 0, 0, 0), (92, 3, .newarray .int, 2, 0, 0, 0), (94, 3, .putfield 57, 3, 1, 14, 0), (97, 0, .aload_n 0, 1, 0, 0, 0), (98, 0, .bipush 6, 2, 0, 0, 0), (100, 3, .newarray .int, 2, 0, 0, 0), (102, 3, .putfield 60, 3, 1, 15, 0), (105, 0, .aload_n 0, 1, 0, 0, 0), (106, 0, .iconst 4, 1, 0, 0, 0), (107, 0, .bipush 6, 2, 0, 0, 0), (109, 3, .multianewarray 63 2, 4, 16, 0, 0), (113, 3, .putfield 65, 3, 1, 16, 0), (116, 6, .return_, 1, 0, 0, 0)]
def M_58 : ai_M := (⟨"TheOtherRoom$Flat", "<init>", "()V"⟩, prog_2_method_1_code, 1, none, 1, true, 1, C_58_0 ++ (C_58_1))
def C_59_0 : List ai_E := [(0, 0, .aload_n 0, 1, 0, 0, 0), (1, 0, .aload_n 1, 1, 0, 0, 0), (2, 3, .getfield 9, 3, 1, 0, 0), (5, 3, .putfield 9, 3, 1, 0, 0), (8, 0, .aload_n 0, 1, 0, 0, 0), (9, 0, .aload_n 1, 1, 0, 0, 0), (10, 3, .getfield 15, 3, 1, 1, 0), (13, 3, .putfield 15, 3, 1, 1, 0), (16, 0, .aload_n 0, 1, 0, 0, 0), (17, 0, .aload_n 1, 1, 0, 0, 0), (18, 3, .getfield 18, 3, 1, 2, 0), (21, 3, .putfield 18, 3, 1, 2, 0), (24, 0, .aload_n 0, 1, 0, 0, 0), (25, 0, .aload_n 1, 1, 0, 0, 0), (26, 3, .getfield 22, 3, 1, 3, 0), (29, 3, .putfield 22, 3, 1, 3, 0), (32, 0, .aload_n 0, 1, 0, 0, 0), (33, 0, .aload_n 1, 1, 0, 0, 0), (34, 3, .getfield 25, 3, 1, 4, 0), (37, 3, .putfield 25, 3, 1, 4, 0), (40, 0, .aload_n 0, 1, 0, 0, 0), (41, 0, .aload_n 1, 1, 0, 0, 0), (42, 3, .getfield 28, 3, 1, 5, 0), (45, 3, .putfield 28, 3, 1, 5, 0), (48, 0, .aload_n 0, 1, 0, 0, 0), (49, 0, .aload_n 1, 1, 0, 0, 0), (50, 3, .getfield 31, 3, 1, 6, 0), (53, 3, .putfield 31, 3, 1, 6, 0), (56, 0, .aload_n 0, 1, 0, 0, 0), (57, 0, .aload_n 1, 1, 0, 0, 0), (58, 3, .getfield 34, 3, 1, 7, 0), (61, 3, .putfield 34, 3, 1, 7, 0), (64, 0, .aload_n 0, 1, 0, 0, 0), (65, 0, .aload_n 1, 1, 0, 0, 0), (66, 3, .getfield 37, 3, 1, 8, 0), (69, 3, .putfield 37, 3, 1, 8, 0), (72, 0, .aload_n 1, 1, 0, 0, 0), (73, 3, .getfield 40, 3, 1, 9, 0), (76, 0, .iconst 0, 1, 0, 0, 0), (77, 0, .aload_n 0, 1, 0, 0, 0), (78, 3, .getfield 40, 3, 1, 9, 0), (81, 0, .iconst 0, 1, 0, 0, 0), (82, 0, .bipush 6, 2, 0, 0, 0), (84, 7, .invokestatic 78, 3, 0, 0, 0), (87, 0, .aload_n 1, 1, 0, 0, 0), (88, 3, .getfield 44, 3, 1, 10, 0), (91, 0, .iconst 0, 1, 0, 0, 0), (92, 0, .aload_n 0, 1, 0, 0, 0), (93, 3, .getfield 44, 3, 1, 10, 0), (96, 0, .iconst 0, 1, 0, 0, 0)]
def C_59_1 : List ai_E := [(97, 0, .bipush 6, 2, 0, 0, 0), (99, 7, .invokestatic 78, 3, 0, 0, 0), (102, 0, .aload_n 1, 1, 0, 0, 0), (103, 3, .getfield 47, 3, 1, 11, 0), (106, 0, .iconst 0, 1, 0, 0, 0), (107, 0, .aload_n 0, 1, 0, 0, 0), (108, 3, .getfield 47, 3, 1, 11, 0), (111, 0, .iconst 0, 1, 0, 0, 0), (112, 0, .bipush 6, 2, 0, 0, 0), (114, 7, .invokestatic 78, 3, 0, 0, 0), (117, 0, .iconst 0, 1, 0, 0, 0), (118, 0, .istore_n 2, 1, 0, 0, 0), (119, 0, .iload_n 2, 1, 0, 0, 0), (120, 0, .bipush 6, 2, 0, 0, 0), (122, 2, .if_icmp .ge 33, 3, 155, 0, 0), (125, 0, .aload_n 0, 1, 0, 0, 0), (126, 3, .getfield 50, 3, 1, 12, 0), (129, 0, .iload_n 2, 1, 0, 0, 0), (130, 0, .aload_n 1, 1, 0, 0, 0), (131, 3, .getfield 50, 3, 1, 12, 0), (134, 0, .iload_n 2, 1, 0, 0, 0), (135, 3, .baload, 1, 0, 0, 0), (136, 3, .bastore, 1, 0, 0, 0), (137, 0, .aload_n 0, 1, 0, 0, 0), (138, 3, .getfield 54, 3, 1, 13, 0), (141, 0, .iload_n 2, 1, 0, 0, 0), (142, 0, .aload_n 1, 1, 0, 0, 0), (143, 3, .getfield 54, 3, 1, 13, 0), (146, 0, .iload_n 2, 1, 0, 0, 0), (147, 3, .baload, 1, 0, 0, 0), (148, 3, .bastore, 1, 0, 0, 0), (149, 0, .iinc 2 1, 3, 0, 0, 0), (152, 2, .goto (-33), 3, 119, 0, 0), (155, 0, .aload_n 1, 1, 0, 0, 0), (156, 3, .getfield 57, 3, 1, 14, 0), (159, 0, .iconst 0, 1, 0, 0, 0), (160, 0, .aload_n 0, 1, 0, 0, 0), (161, 3, .getfield 57, 3, 1, 14, 0), (164, 0, .iconst 0, 1, 0, 0, 0), (165, 0, .bipush 6, 2, 0, 0, 0), (167, 7, .invokestatic 78, 3, 0, 0, 0), (170, 0, .aload_n 1, 1, 0, 0, 0), (171, 3, .getfield 60, 3, 1, 15, 0), (174, 0, .iconst 0, 1, 0, 0, 0), (175, 0, .aload_n 0, 1, 0, 0, 0), (176, 3, .getfield 60, 3, 1, 15, 0), (179, 0, .iconst 0, 1, 0, 0, 0), (180, 0, .bipush 6, 2, 0, 0, 0), (182, 7, .invokestatic 78, 3, 0, 0, 0), (185, 0, .iconst 0, 1, 0, 0, 0)]
def C_59_2 : List ai_E := [(186, 0, .istore_n 2, 1, 0, 0, 0), (187, 0, .iload_n 2, 1, 0, 0, 0), (188, 0, .iconst 4, 1, 0, 0, 0), (189, 2, .if_icmp .ge 28, 3, 217, 0, 0), (192, 0, .aload_n 1, 1, 0, 0, 0), (193, 3, .getfield 65, 3, 1, 16, 0), (196, 0, .iload_n 2, 1, 0, 0, 0), (197, 3, .aaload, 1, 0, 0, 0), (198, 0, .iconst 0, 1, 0, 0, 0), (199, 0, .aload_n 0, 1, 0, 0, 0), (200, 3, .getfield 65, 3, 1, 16, 0), (203, 0, .iload_n 2, 1, 0, 0, 0), (204, 3, .aaload, 1, 0, 0, 0), (205, 0, .iconst 0, 1, 0, 0, 0), (206, 0, .bipush 6, 2, 0, 0, 0), (208, 7, .invokestatic 78, 3, 0, 0, 0), (211, 0, .iinc 2 1, 3, 0, 0, 0), (214, 2, .goto (-27), 3, 187, 0, 0), (217, 6, .return_, 1, 0, 0, 0)]
def M_59 : ai_M := (⟨"TheOtherRoom$Flat", "become", "(LTheOtherRoom$Flat;)V"⟩, prog_2_method_3_code, 3, none, 1, false, 2, C_59_0 ++ (C_59_1 ++ (C_59_2)))
def C_60_0 : List ai_E := [(0, 0, .aload_n 0, 1, 0, 0, 0), (1, 5, .invokespecial 3, 3, 0, 0, 0), (4, 0, .aload_n 0, 1, 0, 0, 0), (5, 0, .iconst (-1), 1, 0, 0, 0), (6, 3, .putfield 9, 3, 2, 0, 0), (9, 0, .aload_n 0, 1, 0, 0, 0), (10, 0, .iconst 0, 1, 0, 0, 0), (11, 3, .putfield 15, 3, 2, 1, 0), (14, 0, .aload_n 0, 1, 0, 0, 0), (15, 0, .iconst 0, 1, 0, 0, 0), (16, 3, .putfield 18, 3, 2, 2, 0), (19, 0, .aload_n 0, 1, 0, 0, 0), (20, 0, .iconst 0, 1, 0, 0, 0), (21, 3, .putfield 21, 3, 2, 3, 0), (24, 0, .aload_n 0, 1, 0, 0, 0), (25, 0, .iconst 2, 1, 0, 0, 0), (26, 3, .putfield 24, 3, 2, 4, 0), (29, 0, .aload_n 0, 1, 0, 0, 0), (30, 0, .iconst (-1), 1, 0, 0, 0), (31, 3, .putfield 27, 3, 2, 5, 0), (34, 0, .aload_n 0, 1, 0, 0, 0), (35, 0, .iconst (-1), 1, 0, 0, 0), (36, 3, .putfield 30, 3, 2, 6, 0), (39, 0, .aload_n 0, 1, 0, 0, 0), (40, 0, .iconst 0, 1, 0, 0, 0), (41, 3, .putfield 33, 3, 2, 7, 0), (44, 0, .aload_n 0, 1, 0, 0, 0), (45, 0, .iconst 0, 1, 0, 0, 0), (46, 3, .putfield 36, 3, 2, 8, 0), (49, 0, .aload_n 0, 1, 0, 0, 0), (50, 0, .sipush 1000, 3, 0, 0, 0), (53, 3, .newarray .long, 2, 0, 0, 0), (55, 3, .putfield 39, 3, 2, 9, 0), (58, 0, .aload_n 0, 1, 0, 0, 0), (59, 0, .sipush 1000, 3, 0, 0, 0), (62, 3, .newarray .int, 2, 0, 0, 0), (64, 3, .putfield 43, 3, 2, 10, 0), (67, 0, .aload_n 0, 1, 0, 0, 0), (68, 0, .sipush 1000, 3, 0, 0, 0), (71, 3, .newarray .int, 2, 0, 0, 0), (73, 3, .putfield 47, 3, 2, 11, 0), (76, 0, .aload_n 0, 1, 0, 0, 0), (77, 0, .sipush 2048, 3, 0, 0, 0), (80, 3, .newarray .int, 2, 0, 0, 0), (82, 3, .putfield 50, 3, 2, 12, 0), (85, 0, .aload_n 0, 1, 0, 0, 0), (86, 0, .bipush 6, 2, 0, 0, 0), (88, 3, .newarray .int, 2, 0, 0, 0), (90, 3, .putfield 53, 3, 2, 13, 0), (93, 0, .aload_n 0, 1, 0, 0, 0)]
def C_60_1 : List ai_E := [(94, 3, .new 56, 3, 5, 0, 0), (97, 0, .dup, 1, 0, 0, 0), (98, 4, .invokespecial 58, 3, 77, 3, 0), (101, 3, .putfield 59, 3, 2, 14, 0), (104, 6, .return_, 1, 0, 0, 0)]
def M_60 : ai_M := (⟨"TheOtherRoom$Search", "<init>", "()V"⟩, prog_3_method_1_code, 1, none, 2, true, 1, C_60_0 ++ (C_60_1))
def C_61_0 : List ai_E := [(0, 0, .aload_n 0, 1, 0, 0, 0), (1, 5, .invokespecial 3, 3, 0, 0, 0), (4, 0, .aload_n 0, 1, 0, 0, 0), (5, 0, .iconst (-1), 1, 0, 0, 0), (6, 3, .putfield 9, 3, 3, 0, 0), (9, 0, .aload_n 0, 1, 0, 0, 0), (10, 0, .iconst 0, 1, 0, 0, 0), (11, 3, .putfield 15, 3, 3, 1, 0), (14, 0, .aload_n 0, 1, 0, 0, 0), (15, 0, .bipush 40, 2, 0, 0, 0), (17, 3, .newarray .long, 2, 0, 0, 0), (19, 3, .putfield 18, 3, 3, 2, 0), (22, 0, .aload_n 0, 1, 0, 0, 0), (23, 0, .iconst 0, 1, 0, 0, 0), (24, 3, .putfield 22, 3, 3, 3, 0), (27, 0, .aload_n 0, 1, 0, 0, 0), (28, 0, .iconst 0, 1, 0, 0, 0), (29, 3, .putfield 25, 3, 3, 4, 0), (32, 6, .return_, 1, 0, 0, 0)]
def M_61 : ai_M := (⟨"TheOtherRoom$Shelf", "<init>", "()V"⟩, prog_4_method_1_code, 1, none, 3, true, 1, C_61_0)
def C_62_0 : List ai_E := [(0, 0, .aload_n 0, 1, 0, 0, 0), (1, 0, .bipush 10, 2, 0, 0, 0), (3, 0, .iload_n 1, 1, 0, 0, 0), (4, 1, .iadd, 1, 0, 0, 0), (5, 3, .putfield 9, 3, 3, 0, 0), (8, 0, .aload_n 0, 1, 0, 0, 0), (9, 0, .iload_n 2, 1, 0, 0, 0), (10, 3, .putfield 22, 3, 3, 3, 0), (13, 0, .aload_n 0, 1, 0, 0, 0), (14, 0, .iload_n 3, 1, 0, 0, 0), (15, 3, .putfield 25, 3, 3, 4, 0), (18, 6, .return_, 1, 0, 0, 0)]
def M_62 : ai_M := (⟨"TheOtherRoom$Shelf", "holdMove", "(III)V"⟩, prog_4_method_3_code, 4, none, 3, false, 4, C_62_0)
def C_63_0 : List ai_E := [(0, 0, .aload_n 0, 1, 0, 0, 0), (1, 0, .iload_n 1, 1, 0, 0, 0), (2, 3, .putfield 9, 3, 3, 0, 0), (5, 0, .aload_n 0, 1, 0, 0, 0), (6, 0, .iload_n 2, 1, 0, 0, 0), (7, 3, .putfield 15, 3, 3, 1, 0), (10, 0, .aload_n 0, 1, 0, 0, 0), (11, 3, .getfield 18, 3, 3, 2, 0), (14, 0, .lconst 0, 1, 0, 0, 0), (15, 4, .invokestatic 28, 3, 145, 1, 0), (18, 6, .return_, 1, 0, 0, 0)]
def M_63 : ai_M := (⟨"TheOtherRoom$Shelf", "holdRow", "(II)V"⟩, prog_4_method_2_code, 3, none, 3, false, 3, C_63_0)
def C_64_0 : List ai_E := [(0, 0, .aload_n 0, 1, 0, 0, 0), (1, 3, .getfield 9, 3, 3, 0, 0), (4, 0, .bipush 10, 2, 0, 0, 0), (6, 2, .if_icmp .lt 7, 3, 13, 0, 0), (13, 0, .iconst 0, 1, 0, 0, 0), (14, 6, .ireturn, 1, 0, 0, 0)]
def M_64 : ai_M := (⟨"TheOtherRoom$Shelf", "isMove", "()Z"⟩, prog_4_method_4_code, 1, some .boolean, 3, false, 1, C_64_0)
def C_65_0 : List ai_E := [(0, 0, .aload_n 0, 1, 0, 0, 0), (1, 4, .invokevirtual 34, 3, 64, 0, 0), (4, 2, .ifCond .eq 5, 3, 9, 0, 0), (9, 0, .aload_n 0, 1, 0, 0, 0), (10, 3, .getfield 9, 3, 3, 0, 0), (13, 0, .iconst (-1), 1, 0, 0, 0), (14, 2, .if_icmp .ne 8, 3, 22, 0, 0), (17, 0, .bipush (-4), 2, 0, 0, 0), (19, 2, .goto 5, 3, 24, 0, 0), (24, 6, .ireturn, 1, 0, 0, 0)]
def M_65 : ai_M := (⟨"TheOtherRoom$Shelf", "wrongForMove", "()I"⟩, prog_4_method_6_code, 1, some .int, 3, false, 1, C_65_0)
def C_66_0 : List ai_E := [(0, 0, .aload_n 0, 1, 0, 0, 0), (1, 4, .invokevirtual 34, 3, 64, 0, 0), (4, 2, .ifCond .eq 6, 3, 10, 0, 0), (10, 0, .aload_n 0, 1, 0, 0, 0), (11, 3, .getfield 9, 3, 3, 0, 0), (14, 0, .iconst (-1), 1, 0, 0, 0), (15, 2, .if_icmp .ne 8, 3, 23, 0, 0), (18, 0, .bipush (-4), 2, 0, 0, 0), (20, 2, .goto 4, 3, 24, 0, 0), (24, 6, .ireturn, 1, 0, 0, 0)]
def M_66 : ai_M := (⟨"TheOtherRoom$Shelf", "wrongForRow", "()I"⟩, prog_4_method_5_code, 1, some .int, 3, false, 1, C_66_0)
def C_67_0 : List ai_E := [(0, 0, .aload_n 0, 1, 0, 0, 0), (1, 5, .invokespecial 3, 3, 0, 0, 0), (4, 0, .aload_n 0, 1, 0, 0, 0), (5, 0, .iconst 0, 1, 0, 0, 0), (6, 3, .putfield 9, 3, 4, 0, 0), (9, 0, .aload_n 0, 1, 0, 0, 0), (10, 0, .sipush 200, 3, 0, 0, 0), (13, 3, .newarray .byte, 2, 0, 0, 0), (15, 3, .putfield 15, 3, 4, 1, 0), (18, 0, .aload_n 0, 1, 0, 0, 0), (19, 0, .iconst 0, 1, 0, 0, 0), (20, 3, .putfield 19, 3, 4, 2, 0), (23, 0, .aload_n 0, 1, 0, 0, 0), (24, 0, .iconst 0, 1, 0, 0, 0), (25, 3, .putfield 22, 3, 4, 3, 0), (28, 0, .aload_n 0, 1, 0, 0, 0), (29, 0, .iconst 0, 1, 0, 0, 0), (30, 3, .putfield 25, 3, 4, 4, 0), (33, 0, .aload_n 0, 1, 0, 0, 0), (34, 0, .iconst (-1), 1, 0, 0, 0), (35, 3, .putfield 28, 3, 4, 5, 0), (38, 6, .return_, 1, 0, 0, 0)]
def M_67 : ai_M := (⟨"TheOtherRoom$Tape", "<init>", "()V"⟩, prog_5_method_1_code, 1, none, 4, true, 1, C_67_0)
def C_68_0 : List ai_E := [(0, 0, .aload_n 0, 1, 0, 0, 0), (1, 3, .getfield 28, 3, 4, 5, 0), (4, 0, .iconst (-1), 1, 0, 0, 0), (5, 2, .if_icmp .ne 27, 3, 32, 0, 0), (8, 0, .aload_n 0, 1, 0, 0, 0), (9, 3, .getfield 19, 3, 4, 2, 0), (12, 0, .iconst 1, 1, 0, 0, 0), (13, 2, .if_icmp .ne 19, 3, 32, 0, 0), (32, 0, .iconst 0, 1, 0, 0, 0), (33, 6, .ireturn, 1, 0, 0, 0)]
def M_68 : ai_M := (⟨"TheOtherRoom$Tape", "accept", "(Ljava/lang/String;)Z"⟩, prog_5_method_10_code, 3, some .boolean, 4, false, 2, C_68_0)
def C_69_0 : List ai_E := [(0, 0, .aload_n 0, 1, 0, 0, 0), (1, 3, .getfield 9, 3, 4, 0, 0), (4, 2, .ifCond .lt 33, 3, 37, 0, 0), (7, 0, .aload_n 0, 1, 0, 0, 0), (8, 3, .getfield 9, 3, 4, 0, 0), (11, 0, .sipush 200, 3, 0, 0, 0), (14, 2, .if_icmp .ge 23, 3, 37, 0, 0), (17, 0, .aload_n 0, 1, 0, 0, 0), (18, 3, .getfield 15, 3, 4, 1, 0), (21, 0, .aload_n 0, 1, 0, 0, 0), (22, 3, .getfield 9, 3, 4, 0, 0), (25, 0, .iload_n 1, 1, 0, 0, 0), (26, 3, .bastore, 1, 0, 0, 0), (27, 0, .aload_n 0, 1, 0, 0, 0), (28, 0, .dup, 1, 0, 0, 0), (29, 3, .getfield 9, 3, 4, 0, 0), (32, 0, .iconst 1, 1, 0, 0, 0), (33, 1, .iadd, 1, 0, 0, 0), (34, 3, .putfield 9, 3, 4, 0, 0), (37, 6, .return_, 1, 0, 0, 0)]
def M_69 : ai_M := (⟨"TheOtherRoom$Tape", "add", "(B)V"⟩, prog_5_method_2_code, 2, none, 4, false, 2, C_69_0)
def C_70_0 : List ai_E := [(0, 0, .aload_n 0, 1, 0, 0, 0), (1, 0, .aload_n 0, 1, 0, 0, 0), (2, 3, .getfield 25, 3, 4, 4, 0), (5, 3, .putfield 22, 3, 4, 3, 0), (8, 0, .iconst 0, 1, 0, 0, 0), (9, 0, .istore_n 1, 1, 0, 0, 0), (10, 0, .iload_n 1, 1, 0, 0, 0), (11, 0, .sipush 200, 3, 0, 0, 0), (14, 2, .if_icmp .ge 43, 3, 57, 0, 0), (17, 0, .aload_n 0, 1, 0, 0, 0), (18, 3, .getfield 22, 3, 4, 3, 0), (21, 0, .aload_n 0, 1, 0, 0, 0), (22, 3, .getfield 9, 3, 4, 0, 0), (25, 2, .if_icmp .ge 32, 3, 57, 0, 0), (57, 0, .aload_n 0, 1, 0, 0, 0), (58, 0, .aload_n 0, 1, 0, 0, 0), (59, 0, .aload_n 0, 1, 0, 0, 0), (60, 3, .getfield 22, 3, 4, 3, 0), (63, 4, .invokevirtual 157, 3, 73, 0, 0), (66, 3, .putfield 19, 3, 4, 2, 0), (69, 0, .aload_n 0, 1, 0, 0, 0), (70, 0, .aload_n 0, 1, 0, 0, 0), (71, 3, .getfield 22, 3, 4, 3, 0), (74, 3, .putfield 25, 3, 4, 4, 0), (77, 0, .aload_n 0, 1, 0, 0, 0), (78, 3, .getfield 19, 3, 4, 2, 0), (81, 0, .iconst 1, 1, 0, 0, 0), (82, 2, .if_icmp .eq 11, 3, 93, 0, 0), (85, 0, .aload_n 0, 1, 0, 0, 0), (86, 3, .getfield 19, 3, 4, 2, 0), (89, 0, .iconst 2, 1, 0, 0, 0), (90, 2, .if_icmp .ne 46, 3, 136, 0, 0), (136, 0, .aload_n 0, 1, 0, 0, 0), (137, 3, .getfield 19, 3, 4, 2, 0), (140, 2, .ifCond .eq 13, 3, 153, 0, 0), (153, 6, .return_, 1, 0, 0, 0)]
def M_70 : ai_M := (⟨"TheOtherRoom$Tape", "advance", "()V"⟩, prog_5_method_12_code, 2, none, 4, false, 1, C_70_0)
def C_71_0 : List ai_E := [(0, 0, .aload_n 0, 1, 0, 0, 0), (1, 0, .aload_n 1, 1, 0, 0, 0), (2, 4, .invokevirtual 65, 3, 68, 0, 0), (5, 2, .ifCond .ne 11, 3, 16, 0, 0), (8, 0, .aload_n 0, 1, 0, 0, 0), (9, 0, .aload_n 0, 1, 0, 0, 0), (10, 3, .getfield 22, 3, 4, 3, 0), (13, 4, .invokevirtual 41, 3, 72, 0, 0), (16, 6, .return_, 1, 0, 0, 0)]
def M_71 : ai_M := (⟨"TheOtherRoom$Tape", "expect", "(Ljava/lang/String;)V"⟩, prog_5_method_9_code, 2, none, 4, false, 2, C_71_0)
def C_72_0 : List ai_E := [(0, 0, .aload_n 0, 1, 0, 0, 0), (1, 3, .getfield 28, 3, 4, 5, 0), (4, 0, .iconst (-1), 1, 0, 0, 0), (5, 2, .if_icmp .ne 8, 3, 13, 0, 0), (8, 0, .aload_n 0, 1, 0, 0, 0), (9, 0, .iload_n 1, 1, 0, 0, 0), (10, 3, .putfield 28, 3, 4, 5, 0), (13, 6, .return_, 1, 0, 0, 0)]
def M_72 : ai_M := (⟨"TheOtherRoom$Tape", "fail", "(I)V"⟩, prog_5_method_8_code, 2, none, 4, false, 2, C_72_0)
def C_73_0 : List ai_E := [(0, 0, .iload_n 1, 1, 0, 0, 0), (1, 2, .ifCond .lt 18, 3, 19, 0, 0), (4, 0, .iload_n 1, 1, 0, 0, 0), (5, 0, .aload_n 0, 1, 0, 0, 0), (6, 3, .getfield 9, 3, 4, 0, 0), (9, 2, .if_icmp .ge 10, 3, 19, 0, 0), (19, 0, .iconst 0, 1, 0, 0, 0), (20, 6, .ireturn, 1, 0, 0, 0)]
def M_73 : ai_M := (⟨"TheOtherRoom$Tape", "kindAt", "(I)I"⟩, prog_5_method_13_code, 3, some .int, 4, false, 2, C_73_0)
def C_74_0 : List ai_E := [(0, 0, .aload_n 0, 1, 0, 0, 0), (1, 3, .getfield 28, 3, 4, 5, 0), (4, 0, .iconst (-1), 1, 0, 0, 0), (5, 2, .if_icmp .eq 5, 3, 10, 0, 0), (8, 0, .iload_n 1, 1, 0, 0, 0), (9, 6, .ireturn, 1, 0, 0, 0)]
def M_74 : ai_M := (⟨"TheOtherRoom$Tape", "number", "(II)I"⟩, prog_5_method_11_code, 5, some .int, 4, false, 3, C_74_0)
def C_75_0 : List ai_E := [(0, 0, .aload_n 0, 1, 0, 0, 0), (1, 0, .ldc 45, 2, 0, 0, 0), (3, 4, .invokevirtual 47, 3, 71, 0, 0), (6, 0, .aload_n 0, 1, 0, 0, 0), (7, 0, .iconst 2, 1, 0, 0, 0), (8, 0, .bipush 8, 2, 0, 0, 0), (10, 4, .invokevirtual 51, 3, 74, 0, 0), (13, 0, .istore_n 2, 1, 0, 0, 0), (14, 0, .aload_n 0, 1, 0, 0, 0), (15, 0, .ldc 55, 2, 0, 0, 0), (17, 4, .invokevirtual 47, 3, 71, 0, 0), (20, 0, .aload_n 0, 1, 0, 0, 0), (21, 0, .iconst 2, 1, 0, 0, 0), (22, 0, .bipush 8, 2, 0, 0, 0), (24, 4, .invokevirtual 51, 3, 74, 0, 0), (27, 0, .istore_n 3, 1, 0, 0, 0), (28, 0, .aload_n 0, 1, 0, 0, 0), (29, 3, .getfield 28, 3, 4, 5, 0), (32, 0, .iconst (-1), 1, 0, 0, 0), (33, 2, .if_icmp .ne 9, 3, 42, 0, 0), (42, 6, .return_, 1, 0, 0, 0)]
def M_75 : ai_M := (⟨"TheOtherRoom$Tape", "readBoard", "(LTheOtherRoom$Flat;)V"⟩, prog_5_method_4_code, 4, none, 4, false, 2, C_75_0)
def C_76_0 : List ai_E := [(0, 0, .aload_n 0, 1, 0, 0, 0), (1, 0, .iconst (-1), 1, 0, 0, 0), (2, 3, .putfield 28, 3, 4, 5, 0), (5, 0, .aload_n 0, 1, 0, 0, 0), (6, 0, .iconst 0, 1, 0, 0, 0), (7, 3, .putfield 25, 3, 4, 4, 0), (10, 0, .aload_n 0, 1, 0, 0, 0), (11, 4, .invokevirtual 31, 3, 70, 0, 0), (14, 0, .aload_n 0, 1, 0, 0, 0), (15, 0, .aload_n 1, 1, 0, 0, 0), (16, 4, .invokevirtual 34, 3, 75, 0, 0), (19, 0, .iconst 0, 1, 0, 0, 0), (20, 0, .istore_n 2, 1, 0, 0, 0), (21, 0, .iload_n 2, 1, 0, 0, 0), (22, 0, .sipush 200, 3, 0, 0, 0), (25, 2, .if_icmp .ge 34, 3, 59, 0, 0), (28, 0, .aload_n 0, 1, 0, 0, 0), (29, 3, .getfield 28, 3, 4, 5, 0), (32, 0, .iconst (-1), 1, 0, 0, 0), (33, 2, .if_icmp .ne 26, 3, 59, 0, 0), (59, 0, .aload_n 0, 1, 0, 0, 0), (60, 3, .getfield 19, 3, 4, 2, 0), (63, 2, .ifCond .eq 11, 3, 74, 0, 0), (74, 0, .aload_n 0, 1, 0, 0, 0), (75, 3, .getfield 28, 3, 4, 5, 0), (78, 6, .ireturn, 1, 0, 0, 0)]
def M_76 : ai_M := (⟨"TheOtherRoom$Tape", "readInto", "(LTheOtherRoom$Flat;)I"⟩, prog_5_method_3_code, 3, some .int, 4, false, 2, C_76_0)
def C_77_0 : List ai_E := [(0, 0, .aload_n 0, 1, 0, 0, 0), (1, 5, .invokespecial 3, 3, 0, 0, 0), (4, 6, .return_, 1, 0, 0, 0)]
def M_77 : ai_M := (⟨"TheOtherRoom$Walk", "<init>", "()V"⟩, prog_6_method_1_code, 1, none, 5, true, 1, C_77_0)
def C_78_0 : List ai_E := [(0, 0, .aload_n 0, 1, 0, 0, 0), (1, 5, .invokespecial 1, 3, 0, 0, 0), (4, 0, .aload_n 0, 1, 0, 0, 0), (5, 0, .bipush 8, 2, 0, 0, 0), (7, 3, .newarray .int, 2, 0, 0, 0), (9, 3, .putfield 7, 3, 6, 0, 0), (12, 0, .aload_n 0, 1, 0, 0, 0), (13, 0, .bipush 8, 2, 0, 0, 0), (15, 3, .newarray .int, 2, 0, 0, 0), (17, 3, .putfield 13, 3, 6, 1, 0), (20, 0, .aload_n 0, 1, 0, 0, 0), (21, 0, .bipush 8, 2, 0, 0, 0), (23, 3, .newarray .int, 2, 0, 0, 0), (25, 3, .putfield 16, 3, 6, 2, 0), (28, 0, .aload_n 0, 1, 0, 0, 0), (29, 0, .bipush 8, 2, 0, 0, 0), (31, 0, .bipush 40, 2, 0, 0, 0), (33, 3, .multianewarray 19 2, 4, 17, 0, 0), (37, 3, .putfield 21, 3, 6, 3, 0), (40, 0, .aload_n 0, 1, 0, 0, 0), (41, 0, .bipush 40, 2, 0, 0, 0), (43, 3, .newarray .long, 2, 0, 0, 0), (45, 3, .putfield 24, 3, 6, 4, 0), (48, 0, .aload_n 0, 1, 0, 0, 0), (49, 0, .bipush 8, 2, 0, 0, 0), (51, 3, .newarray .int, 2, 0, 0, 0), (53, 3, .putfield 28, 3, 6, 5, 0), (56, 0, .aload_n 0, 1, 0, 0, 0), (57, 0, .bipush 8, 2, 0, 0, 0), (59, 3, .newarray .int, 2, 0, 0, 0), (61, 3, .putfield 31, 3, 6, 6, 0), (64, 0, .aload_n 0, 1, 0, 0, 0), (65, 0, .bipush 8, 2, 0, 0, 0), (67, 3, .newarray .int, 2, 0, 0, 0), (69, 3, .putfield 34, 3, 6, 7, 0), (72, 0, .aload_n 0, 1, 0, 0, 0), (73, 0, .sipush 200, 3, 0, 0, 0), (76, 3, .newarray .int, 2, 0, 0, 0), (78, 3, .putfield 37, 3, 6, 8, 0), (81, 0, .aload_n 0, 1, 0, 0, 0), (82, 0, .bipush 8, 2, 0, 0, 0), (84, 3, .newarray .int, 2, 0, 0, 0), (86, 3, .putfield 40, 3, 6, 10, 0), (89, 0, .aload_n 0, 1, 0, 0, 0), (90, 0, .iconst 5, 1, 0, 0, 0), (91, 0, .bipush 8, 2, 0, 0, 0), (93, 3, .multianewarray 43 2, 4, 16, 0, 0), (97, 3, .putfield 45, 3, 6, 12, 0), (100, 0, .aload_n 0, 1, 0, 0, 0), (101, 0, .iconst 5, 1, 0, 0, 0)]
def C_78_1 : List ai_E := [(102, 3, .newarray .long, 2, 0, 0, 0), (104, 3, .putfield 48, 3, 6, 13, 0), (107, 0, .aload_n 0, 1, 0, 0, 0), (108, 0, .iconst 5, 1, 0, 0, 0), (109, 0, .bipush 36, 2, 0, 0, 0), (111, 3, .multianewarray 43 2, 4, 16, 0, 0), (115, 3, .putfield 51, 3, 6, 14, 0), (118, 0, .aload_n 0, 1, 0, 0, 0), (119, 0, .iconst 5, 1, 0, 0, 0), (120, 0, .bipush 6, 2, 0, 0, 0), (122, 3, .multianewarray 43 2, 4, 16, 0, 0), (126, 3, .putfield 54, 3, 6, 15, 0), (129, 0, .aload_n 0, 1, 0, 0, 0), (130, 0, .iconst 5, 1, 0, 0, 0), (131, 0, .bipush 24, 2, 0, 0, 0), (133, 3, .multianewarray 43 2, 4, 16, 0, 0), (137, 3, .putfield 57, 3, 6, 16, 0), (140, 0, .aload_n 0, 1, 0, 0, 0), (141, 0, .sipush 1001, 3, 0, 0, 0), (144, 3, .newarray .long, 2, 0, 0, 0), (146, 3, .putfield 60, 3, 6, 18, 0), (149, 0, .aload_n 0, 1, 0, 0, 0), (150, 0, .sipush 1001, 3, 0, 0, 0), (153, 3, .newarray .int, 2, 0, 0, 0), (155, 3, .putfield 63, 3, 6, 19, 0), (158, 0, .aload_n 0, 1, 0, 0, 0), (159, 0, .sipush 1001, 3, 0, 0, 0), (162, 3, .newarray .int, 2, 0, 0, 0), (164, 3, .putfield 66, 3, 6, 20, 0), (167, 0, .aload_n 0, 1, 0, 0, 0), (168, 0, .sipush 4096, 3, 0, 0, 0), (171, 3, .newarray .int, 2, 0, 0, 0), (173, 3, .putfield 69, 3, 6, 21, 0), (176, 0, .aload_n 0, 1, 0, 0, 0), (177, 0, .iconst (-1), 1, 0, 0, 0), (178, 3, .putfield 72, 3, 6, 28, 0), (181, 0, .aload_n 0, 1, 0, 0, 0), (182, 0, .sipush 129, 3, 0, 0, 0), (185, 3, .newarray .int, 2, 0, 0, 0), (187, 3, .putfield 76, 3, 6, 31, 0), (190, 0, .aload_n 0, 1, 0, 0, 0), (191, 0, .sipush 129, 3, 0, 0, 0), (194, 3, .newarray .int, 2, 0, 0, 0), (196, 3, .putfield 79, 3, 6, 32, 0), (199, 0, .aload_n 0, 1, 0, 0, 0), (200, 0, .bipush 6, 2, 0, 0, 0), (202, 3, .newarray .int, 2, 0, 0, 0), (204, 3, .putfield 82, 3, 6, 40, 0), (207, 0, .aload_n 0, 1, 0, 0, 0), (208, 0, .bipush 6, 2, 0, 0, 0)]
def C_78_2 : List ai_E := [(210, 3, .newarray .int, 2, 0, 0, 0), (212, 3, .putfield 85, 3, 6, 42, 0), (215, 0, .aload_n 0, 1, 0, 0, 0), (216, 3, .new 8, 3, 6, 0, 0), (219, 0, .dup, 1, 0, 0, 0), (220, 0, .iconst 1, 1, 0, 0, 0), (221, 4, .invokespecial 88, 3, 79, 2, 0), (224, 3, .putfield 91, 3, 6, 30, 0), (227, 6, .return_, 1, 0, 0, 0)]
def M_78 : ai_M := (⟨"TheOtherRoomModel", "<init>", "()V"⟩, prog_8_method_1_code, 1, none, 6, true, 1, C_78_0 ++ (C_78_1 ++ (C_78_2)))
def C_79_0 : List ai_E := [(0, 0, .aload_n 0, 1, 0, 0, 0), (1, 5, .invokespecial 1, 3, 0, 0, 0), (4, 0, .aload_n 0, 1, 0, 0, 0), (5, 0, .bipush 8, 2, 0, 0, 0), (7, 3, .newarray .int, 2, 0, 0, 0), (9, 3, .putfield 7, 3, 6, 0, 0), (12, 0, .aload_n 0, 1, 0, 0, 0), (13, 0, .bipush 8, 2, 0, 0, 0), (15, 3, .newarray .int, 2, 0, 0, 0), (17, 3, .putfield 13, 3, 6, 1, 0), (20, 0, .aload_n 0, 1, 0, 0, 0), (21, 0, .bipush 8, 2, 0, 0, 0), (23, 3, .newarray .int, 2, 0, 0, 0), (25, 3, .putfield 16, 3, 6, 2, 0), (28, 0, .aload_n 0, 1, 0, 0, 0), (29, 0, .bipush 8, 2, 0, 0, 0), (31, 0, .bipush 40, 2, 0, 0, 0), (33, 3, .multianewarray 19 2, 4, 17, 0, 0), (37, 3, .putfield 21, 3, 6, 3, 0), (40, 0, .aload_n 0, 1, 0, 0, 0), (41, 0, .bipush 40, 2, 0, 0, 0), (43, 3, .newarray .long, 2, 0, 0, 0), (45, 3, .putfield 24, 3, 6, 4, 0), (48, 0, .aload_n 0, 1, 0, 0, 0), (49, 0, .bipush 8, 2, 0, 0, 0), (51, 3, .newarray .int, 2, 0, 0, 0), (53, 3, .putfield 28, 3, 6, 5, 0), (56, 0, .aload_n 0, 1, 0, 0, 0), (57, 0, .bipush 8, 2, 0, 0, 0), (59, 3, .newarray .int, 2, 0, 0, 0), (61, 3, .putfield 31, 3, 6, 6, 0), (64, 0, .aload_n 0, 1, 0, 0, 0), (65, 0, .bipush 8, 2, 0, 0, 0), (67, 3, .newarray .int, 2, 0, 0, 0), (69, 3, .putfield 34, 3, 6, 7, 0), (72, 0, .aload_n 0, 1, 0, 0, 0), (73, 0, .sipush 200, 3, 0, 0, 0), (76, 3, .newarray .int, 2, 0, 0, 0), (78, 3, .putfield 37, 3, 6, 8, 0), (81, 0, .aload_n 0, 1, 0, 0, 0), (82, 0, .bipush 8, 2, 0, 0, 0), (84, 3, .newarray .int, 2, 0, 0, 0), (86, 3, .putfield 40, 3, 6, 10, 0), (89, 0, .aload_n 0, 1, 0, 0, 0), (90, 0, .iconst 5, 1, 0, 0, 0), (91, 0, .bipush 8, 2, 0, 0, 0), (93, 3, .multianewarray 43 2, 4, 16, 0, 0), (97, 3, .putfield 45, 3, 6, 12, 0), (100, 0, .aload_n 0, 1, 0, 0, 0), (101, 0, .iconst 5, 1, 0, 0, 0)]
def C_79_1 : List ai_E := [(102, 3, .newarray .long, 2, 0, 0, 0), (104, 3, .putfield 48, 3, 6, 13, 0), (107, 0, .aload_n 0, 1, 0, 0, 0), (108, 0, .iconst 5, 1, 0, 0, 0), (109, 0, .bipush 36, 2, 0, 0, 0), (111, 3, .multianewarray 43 2, 4, 16, 0, 0), (115, 3, .putfield 51, 3, 6, 14, 0), (118, 0, .aload_n 0, 1, 0, 0, 0), (119, 0, .iconst 5, 1, 0, 0, 0), (120, 0, .bipush 6, 2, 0, 0, 0), (122, 3, .multianewarray 43 2, 4, 16, 0, 0), (126, 3, .putfield 54, 3, 6, 15, 0), (129, 0, .aload_n 0, 1, 0, 0, 0), (130, 0, .iconst 5, 1, 0, 0, 0), (131, 0, .bipush 24, 2, 0, 0, 0), (133, 3, .multianewarray 43 2, 4, 16, 0, 0), (137, 3, .putfield 57, 3, 6, 16, 0), (140, 0, .aload_n 0, 1, 0, 0, 0), (141, 0, .sipush 1001, 3, 0, 0, 0), (144, 3, .newarray .long, 2, 0, 0, 0), (146, 3, .putfield 60, 3, 6, 18, 0), (149, 0, .aload_n 0, 1, 0, 0, 0), (150, 0, .sipush 1001, 3, 0, 0, 0), (153, 3, .newarray .int, 2, 0, 0, 0), (155, 3, .putfield 63, 3, 6, 19, 0), (158, 0, .aload_n 0, 1, 0, 0, 0), (159, 0, .sipush 1001, 3, 0, 0, 0), (162, 3, .newarray .int, 2, 0, 0, 0), (164, 3, .putfield 66, 3, 6, 20, 0), (167, 0, .aload_n 0, 1, 0, 0, 0), (168, 0, .sipush 4096, 3, 0, 0, 0), (171, 3, .newarray .int, 2, 0, 0, 0), (173, 3, .putfield 69, 3, 6, 21, 0), (176, 0, .aload_n 0, 1, 0, 0, 0), (177, 0, .iconst (-1), 1, 0, 0, 0), (178, 3, .putfield 72, 3, 6, 28, 0), (181, 0, .aload_n 0, 1, 0, 0, 0), (182, 0, .sipush 129, 3, 0, 0, 0), (185, 3, .newarray .int, 2, 0, 0, 0), (187, 3, .putfield 76, 3, 6, 31, 0), (190, 0, .aload_n 0, 1, 0, 0, 0), (191, 0, .sipush 129, 3, 0, 0, 0), (194, 3, .newarray .int, 2, 0, 0, 0), (196, 3, .putfield 79, 3, 6, 32, 0), (199, 0, .aload_n 0, 1, 0, 0, 0), (200, 0, .bipush 6, 2, 0, 0, 0), (202, 3, .newarray .int, 2, 0, 0, 0), (204, 3, .putfield 82, 3, 6, 40, 0), (207, 0, .aload_n 0, 1, 0, 0, 0), (208, 0, .bipush 6, 2, 0, 0, 0)]
def C_79_2 : List ai_E := [(210, 3, .newarray .int, 2, 0, 0, 0), (212, 3, .putfield 85, 3, 6, 42, 0), (215, 0, .aload_n 0, 1, 0, 0, 0), (216, 0, .aconst_null, 1, 0, 0, 0), (217, 3, .putfield 91, 3, 6, 30, 0), (220, 6, .return_, 1, 0, 0, 0)]
def M_79 : ai_M := (⟨"TheOtherRoomModel", "<init>", "(Z)V"⟩, prog_8_method_2_code, 2, none, 6, true, 2, C_79_0 ++ (C_79_1 ++ (C_79_2)))
def C_80_0 : List ai_E := [(0, 0, .aload_n 0, 1, 0, 0, 0), (1, 0, .iload_n 1, 1, 0, 0, 0), (2, 4, .invokevirtual 102, 3, 106, 0, 0), (5, 2, .ifCond .eq 51, 3, 56, 0, 0), (56, 0, .aload_n 0, 1, 0, 0, 0), (57, 0, .bipush (-2), 2, 0, 0, 0), (59, 4, .invokevirtual 112, 3, 124, 0, 0), (62, 6, .ireturn, 1, 0, 0, 0)]
def M_80 : ai_M := (⟨"TheOtherRoomModel", "alter", "(III)I"⟩, prog_8_method_56_code, 5, some .int, 6, false, 4, C_80_0)
def C_81_0 : List ai_E := [(0, 0, .aload_n 0, 1, 0, 0, 0), (1, 0, .iload_n 1, 1, 0, 0, 0), (2, 4, .invokevirtual 102, 3, 106, 0, 0), (5, 2, .ifCond .eq 20, 3, 25, 0, 0), (25, 0, .aload_n 0, 1, 0, 0, 0), (26, 0, .bipush (-2), 2, 0, 0, 0), (28, 4, .invokevirtual 112, 3, 124, 0, 0), (31, 6, .ireturn, 1, 0, 0, 0)]
def M_81 : ai_M := (⟨"TheOtherRoomModel", "at", "(II)I"⟩, prog_8_method_53_code, 4, some .int, 6, false, 3, C_81_0)
def C_82_0 : List ai_E := [(0, 0, .aload_n 0, 1, 0, 0, 0), (1, 3, .getfield 402, 3, 6, 17, 0), (4, 2, .ifnonnull 10, 3, 14, 0, 0), (7, 0, .aload_n 0, 1, 0, 0, 0), (8, 0, .bipush (-5), 2, 0, 0, 0), (10, 4, .invokevirtual 112, 3, 124, 0, 0), (13, 6, .ireturn, 1, 0, 0, 0)]
def M_82 : ai_M := (⟨"TheOtherRoomModel", "back", "()I"⟩, prog_8_method_107_code, 1, some .int, 6, false, 1, C_82_0)
def C_83_0 : List ai_E := [(0, 0, .aload_n 0, 1, 0, 0, 0), (1, 0, .iload_n 1, 1, 0, 0, 0), (2, 0, .iload_n 2, 1, 0, 0, 0), (3, 4, .invokevirtual 297, 3, 105, 0, 0), (6, 2, .ifCond .ne 10, 3, 16, 0, 0), (9, 0, .aload_n 0, 1, 0, 0, 0), (10, 0, .bipush (-2), 2, 0, 0, 0), (12, 4, .invokevirtual 112, 3, 124, 0, 0), (15, 6, .ireturn, 1, 0, 0, 0)]
def M_83 : ai_M := (⟨"TheOtherRoomModel", "begin", "(II)I"⟩, prog_8_method_102_code, 3, some .int, 6, false, 3, C_83_0)
def C_84_0 : List ai_E := [(0, 0, .aload_n 0, 1, 0, 0, 0), (1, 0, .ldc 248, 2, 0, 0, 0), (3, 4, .invokevirtual 250, 3, 143, 0, 0), (6, 2, .ifCond .eq 13, 3, 19, 0, 0), (19, 0, .iconst 0, 1, 0, 0, 0), (20, 6, .ireturn, 1, 0, 0, 0)]
def M_84 : ai_M := (⟨"TheOtherRoomModel", "board", "(I)Z"⟩, prog_8_method_45_code, 2, some .boolean, 6, false, 2, C_84_0)
def C_85_0 : List ai_E := [(0, 0, .aload_n 0, 1, 0, 0, 0), (1, 0, .iload_n 1, 1, 0, 0, 0), (2, 0, .iload_n 2, 1, 0, 0, 0), (3, 4, .invokevirtual 297, 3, 105, 0, 0), (6, 2, .ifCond .eq 33, 3, 39, 0, 0), (39, 0, .aload_n 0, 1, 0, 0, 0), (40, 0, .bipush (-2), 2, 0, 0, 0), (42, 4, .invokevirtual 112, 3, 124, 0, 0), (45, 6, .ireturn, 1, 0, 0, 0)]
def M_85 : ai_M := (⟨"TheOtherRoomModel", "bound", "(II)I"⟩, prog_8_method_77_code, 3, some .int, 6, false, 3, C_85_0)
def C_86_0 : List ai_E := [(0, 0, .aload_n 0, 1, 0, 0, 0), (1, 0, .iload_n 1, 1, 0, 0, 0), (2, 0, .iload_n 2, 1, 0, 0, 0), (3, 4, .invokevirtual 186, 3, 116, 0, 0), (6, 0, .istore_n 3, 1, 0, 0, 0), (7, 0, .iload_n 3, 1, 0, 0, 0), (8, 2, .ifCond .eq 7, 3, 15, 0, 0), (11, 0, .iload_n 3, 1, 0, 0, 0), (12, 2, .goto 9, 3, 21, 0, 0), (21, 6, .ireturn, 1, 0, 0, 0)]
def M_86 : ai_M := (⟨"TheOtherRoomModel", "can", "(II)I"⟩, prog_8_method_34_code, 4, some .int, 6, false, 3, C_86_0)
def C_87_0 : List ai_E := [(0, 0, .aload_n 0, 1, 0, 0, 0), (1, 0, .iload_n 1, 1, 0, 0, 0), (2, 0, .iload_n 2, 1, 0, 0, 0), (3, 4, .invokevirtual 288, 3, 107, 0, 0), (6, 2, .ifCond .eq 13, 3, 19, 0, 0), (19, 0, .aload_n 0, 1, 0, 0, 0), (20, 0, .bipush (-2), 2, 0, 0, 0), (22, 4, .invokevirtual 112, 3, 124, 0, 0), (25, 6, .ireturn, 1, 0, 0, 0)]
def M_87 : ai_M := (⟨"TheOtherRoomModel", "carry", "(III)I"⟩, prog_8_method_59_code, 5, some .int, 6, false, 4, C_87_0)
def C_88_0 : List ai_E := [(0, 0, .iload_n 1, 1, 0, 0, 0), (1, 1, .i2l, 1, 0, 0, 0), (2, 0, .lconst 0, 1, 0, 0, 0), (3, 0, .ldc2_w 106, 3, 0, 0, 7), (6, 4, .invokestatic 98, 3, 104, 1, 0), (9, 2, .ifCond .eq 15, 3, 24, 0, 0), (12, 0, .iload_n 2, 1, 0, 0, 0), (13, 1, .i2l, 1, 0, 0, 0), (14, 0, .lconst 0, 1, 0, 0, 0), (15, 0, .ldc2_w 106, 3, 0, 0, 7), (18, 4, .invokestatic 98, 3, 104, 1, 0), (21, 2, .ifCond .ne 10, 3, 31, 0, 0), (24, 0, .aload_n 0, 1, 0, 0, 0), (25, 0, .bipush (-2), 2, 0, 0, 0), (27, 4, .invokevirtual 112, 3, 124, 0, 0), (30, 6, .ireturn, 1, 0, 0, 0), (31, 0, .aload_n 0, 1, 0, 0, 0), (32, 3, .getfield 7, 3, 6, 0, 0), (35, 0, .iload_n 1, 1, 0, 0, 0), (36, 3, .iaload, 1, 0, 0, 0), (37, 0, .iconst 2, 1, 0, 0, 0), (38, 2, .if_icmp .eq 48, 3, 86, 0, 0), (41, 0, .aload_n 0, 1, 0, 0, 0), (42, 3, .getfield 7, 3, 6, 0, 0), (45, 0, .iload_n 2, 1, 0, 0, 0), (46, 3, .iaload, 1, 0, 0, 0), (47, 0, .iconst 2, 1, 0, 0, 0), (48, 2, .if_icmp .eq 38, 3, 86, 0, 0), (51, 0, .aload_n 0, 1, 0, 0, 0), (52, 3, .getfield 7, 3, 6, 0, 0), (55, 0, .iload_n 1, 1, 0, 0, 0), (56, 3, .iaload, 1, 0, 0, 0), (57, 0, .iconst 1, 1, 0, 0, 0), (58, 2, .if_icmp .ne 35, 3, 93, 0, 0), (93, 0, .aload_n 0, 1, 0, 0, 0), (94, 3, .getfield 7, 3, 6, 0, 0), (97, 0, .iload_n 1, 1, 0, 0, 0), (98, 3, .iaload, 1, 0, 0, 0), (99, 2, .ifCond .eq 12, 3, 111, 0, 0), (111, 0, .aload_n 0, 1, 0, 0, 0), (112, 0, .bipush (-4), 2, 0, 0, 0), (114, 4, .invokevirtual 112, 3, 124, 0, 0), (117, 6, .ireturn, 1, 0, 0, 0)]
def M_88 : ai_M := (⟨"TheOtherRoomModel", "copy", "(IIIII)I"⟩, prog_8_method_12_code, 7, some .int, 6, false, 6, C_88_0)
def C_89_0 : List ai_E := [(0, 0, .aload_n 0, 1, 0, 0, 0), (1, 0, .iload_n 1, 1, 0, 0, 0), (2, 0, .iload_n 2, 1, 0, 0, 0), (3, 0, .iload_n 3, 1, 0, 0, 0), (4, 4, .invokevirtual 313, 3, 117, 0, 0), (7, 0, .istore 4, 2, 0, 0, 0), (9, 0, .iload 4, 2, 0, 0, 0), (11, 2, .ifCond .eq 6, 3, 17, 0, 0), (14, 0, .iload 4, 2, 0, 0, 0), (16, 6, .ireturn, 1, 0, 0, 0)]
def M_89 : ai_M := (⟨"TheOtherRoomModel", "cost", "(III)I"⟩, prog_8_method_72_code, 5, some .int, 6, false, 4, C_89_0)
def C_90_0 : List ai_E := [(0, 0, .aload_n 0, 1, 0, 0, 0), (1, 0, .iload_n 1, 1, 0, 0, 0), (2, 0, .iload_n 2, 1, 0, 0, 0), (3, 4, .invokevirtual 288, 3, 107, 0, 0), (6, 2, .ifCond .eq 13, 3, 19, 0, 0), (19, 0, .lconst 0, 1, 0, 0, 0), (20, 6, .lreturn, 1, 0, 0, 0)]
def M_90 : ai_M := (⟨"TheOtherRoomModel", "covers", "(III)J"⟩, prog_8_method_54_code, 4, some .long, 6, false, 4, C_90_0)
def C_91_0 : List ai_E := [(0, 0, .aload_n 0, 1, 0, 0, 0), (1, 0, .iload_n 1, 1, 0, 0, 0), (2, 0, .iload_n 2, 1, 0, 0, 0), (3, 4, .invokevirtual 297, 3, 105, 0, 0), (6, 2, .ifCond .eq 29, 3, 35, 0, 0), (35, 0, .aload_n 0, 1, 0, 0, 0), (36, 0, .bipush (-2), 2, 0, 0, 0), (38, 4, .invokevirtual 112, 3, 124, 0, 0), (41, 6, .ireturn, 1, 0, 0, 0)]
def M_91 : ai_M := (⟨"TheOtherRoomModel", "draw", "(IIII)I"⟩, prog_8_method_63_code, 5, some .int, 6, false, 5, C_91_0)
def C_92_0 : List ai_E := [(0, 0, .aload_n 0, 1, 0, 0, 0), (1, 0, .iload_n 1, 1, 0, 0, 0), (2, 0, .iload_n 2, 1, 0, 0, 0), (3, 4, .invokevirtual 297, 3, 105, 0, 0), (6, 2, .ifCond .eq 22, 3, 28, 0, 0), (28, 0, .aload_n 0, 1, 0, 0, 0), (29, 0, .bipush (-2), 2, 0, 0, 0), (31, 4, .invokevirtual 112, 3, 124, 0, 0), (34, 6, .ireturn, 1, 0, 0, 0)]
def M_92 : ai_M := (⟨"TheOtherRoomModel", "drawn", "(III)I"⟩, prog_8_method_64_code, 4, some .int, 6, false, 4, C_92_0)
def C_93_0 : List ai_E := [(0, 0, .aload_n 0, 1, 0, 0, 0), (1, 0, .iload_n 1, 1, 0, 0, 0), (2, 4, .invokevirtual 102, 3, 106, 0, 0), (5, 2, .ifCond .ne 10, 3, 15, 0, 0), (8, 0, .aload_n 0, 1, 0, 0, 0), (9, 0, .bipush (-2), 2, 0, 0, 0), (11, 4, .invokevirtual 112, 3, 124, 0, 0), (14, 6, .ireturn, 1, 0, 0, 0)]
def M_93 : ai_M := (⟨"TheOtherRoomModel", "either", "(I)I"⟩, prog_8_method_92_code, 7, some .int, 6, false, 2, C_93_0)
def C_94_0 : List ai_E := [(0, 0, .iload_n 1, 1, 0, 0, 0), (1, 1, .i2l, 1, 0, 0, 0), (2, 0, .lconst 0, 1, 0, 0, 0), (3, 0, .ldc2_w 106, 3, 0, 0, 7), (6, 4, .invokestatic 98, 3, 104, 1, 0), (9, 2, .ifCond .eq 42, 3, 51, 0, 0), (12, 0, .aload_n 0, 1, 0, 0, 0), (13, 3, .getfield 7, 3, 6, 0, 0), (16, 0, .iload_n 1, 1, 0, 0, 0), (17, 3, .iaload, 1, 0, 0, 0), (18, 0, .iconst 1, 1, 0, 0, 0), (19, 2, .if_icmp .ne 32, 3, 51, 0, 0), (51, 0, .lconst 0, 1, 0, 0, 0), (52, 6, .lreturn, 1, 0, 0, 0)]
def M_94 : ai_M := (⟨"TheOtherRoomModel", "element", "(II)J"⟩, prog_8_method_13_code, 3, some .long, 6, false, 3, C_94_0)
def C_95_0 : List ai_E := [(0, 0, .aload_n 0, 1, 0, 0, 0), (1, 0, .iload_n 1, 1, 0, 0, 0), (2, 0, .iload_n 2, 1, 0, 0, 0), (3, 4, .invokevirtual 288, 3, 107, 0, 0), (6, 2, .ifCond .ne 5, 3, 11, 0, 0), (9, 0, .lconst 0, 1, 0, 0, 0), (10, 6, .lreturn, 1, 0, 0, 0)]
def M_95 : ai_M := (⟨"TheOtherRoomModel", "ever", "(II)J"⟩, prog_8_method_99_code, 6, some .long, 6, false, 3, C_95_0)
def C_96_0 : List ai_E := [(0, 0, .iload_n 2, 1, 0, 0, 0), (1, 1, .i2l, 1, 0, 0, 0), (2, 0, .lconst 1, 1, 0, 0, 0), (3, 0, .ldc2_w 108, 3, 0, 0, 4), (6, 4, .invokestatic 98, 3, 104, 1, 0), (9, 2, .ifCond .ne 10, 3, 19, 0, 0), (12, 0, .aload_n 0, 1, 0, 0, 0), (13, 0, .bipush (-2), 2, 0, 0, 0), (15, 4, .invokevirtual 112, 3, 124, 0, 0), (18, 6, .ireturn, 1, 0, 0, 0), (19, 0, .iload_n 2, 1, 0, 0, 0), (20, 0, .sipush 200, 3, 0, 0, 0), (23, 0, .aload_n 0, 1, 0, 0, 0), (24, 3, .getfield 193, 3, 6, 9, 0), (27, 1, .isub, 1, 0, 0, 0), (28, 2, .if_icmp .le 10, 3, 38, 0, 0), (38, 0, .iload_n 2, 1, 0, 0, 0), (39, 0, .iconst 1, 1, 0, 0, 0), (40, 1, .isub, 1, 0, 0, 0), (41, 0, .istore_n 3, 1, 0, 0, 0), (42, 0, .iload_n 3, 1, 0, 0, 0), (43, 2, .ifCond .lt 35, 3, 78, 0, 0), (46, 0, .aload_n 0, 1, 0, 0, 0), (47, 3, .getfield 37, 3, 6, 8, 0), (50, 0, .aload_n 0, 1, 0, 0, 0), (51, 0, .dup, 1, 0, 0, 0), (52, 3, .getfield 193, 3, 6, 9, 0), (55, 0, .dup_x1, 1, 0, 0, 0), (56, 0, .iconst 1, 1, 0, 0, 0), (57, 1, .iadd, 1, 0, 0, 0), (58, 3, .putfield 193, 3, 6, 9, 0), (61, 0, .iload_n 1, 1, 0, 0, 0), (62, 0, .bipush 8, 2, 0, 0, 0), (64, 0, .iload_n 3, 1, 0, 0, 0), (65, 1, .imul, 1, 0, 0, 0), (66, 1, .ishr, 1, 0, 0, 0), (67, 0, .sipush 255, 3, 0, 0, 0), (70, 1, .iand, 1, 0, 0, 0), (71, 3, .iastore, 1, 0, 0, 0), (72, 0, .iinc 3 (-1), 3, 0, 0, 0), (75, 2, .goto (-33), 3, 42, 0, 0), (78, 0, .aload_n 0, 1, 0, 0, 0), (79, 3, .getfield 193, 3, 6, 9, 0), (82, 6, .ireturn, 1, 0, 0, 0)]
def M_96 : ai_M := (⟨"TheOtherRoomModel", "feed", "(II)I"⟩, prog_8_method_36_code, 4, some .int, 6, false, 3, C_96_0)
def C_97_0 : List ai_E := [(0, 0, .aload_n 0, 1, 0, 0, 0), (1, 0, .iload_n 1, 1, 0, 0, 0), (2, 0, .iload_n 2, 1, 0, 0, 0), (3, 4, .invokevirtual 297, 3, 105, 0, 0), (6, 2, .ifCond .ne 10, 3, 16, 0, 0), (9, 0, .aload_n 0, 1, 0, 0, 0), (10, 0, .bipush (-2), 2, 0, 0, 0), (12, 4, .invokevirtual 112, 3, 124, 0, 0), (15, 6, .ireturn, 1, 0, 0, 0)]
def M_97 : ai_M := (⟨"TheOtherRoomModel", "fewest", "(II)I"⟩, prog_8_method_87_code, 4, some .int, 6, false, 3, C_97_0)
def C_98_0 : List ai_E := [(0, 0, .aload_n 0, 1, 0, 0, 0), (1, 0, .iload_n 1, 1, 0, 0, 0), (2, 0, .iload_n 2, 1, 0, 0, 0), (3, 4, .invokevirtual 297, 3, 105, 0, 0), (6, 2, .ifCond .ne 10, 3, 16, 0, 0), (9, 0, .aload_n 0, 1, 0, 0, 0), (10, 0, .bipush (-2), 2, 0, 0, 0), (12, 4, .invokevirtual 112, 3, 124, 0, 0), (15, 6, .ireturn, 1, 0, 0, 0)]
def M_98 : ai_M := (⟨"TheOtherRoomModel", "first", "(II)I"⟩, prog_8_method_89_code, 3, some .int, 6, false, 3, C_98_0)
def C_99_0 : List ai_E := [(0, 0, .aload_n 0, 1, 0, 0, 0), (1, 3, .getfield 95, 3, 6, 11, 0), (4, 0, .iconst 4, 1, 0, 0, 0), (5, 2, .if_icmp .ne 10, 3, 15, 0, 0), (15, 0, .aload_n 0, 1, 0, 0, 0), (16, 0, .aload_n 0, 1, 0, 0, 0), (17, 3, .getfield 95, 3, 6, 11, 0), (20, 4, .invokevirtual 283, 3, 123, 0, 0), (23, 0, .istore_n 1, 1, 0, 0, 0), (24, 0, .aload_n 0, 1, 0, 0, 0), (25, 0, .iconst 0, 1, 0, 0, 0), (26, 3, .putfield 193, 3, 6, 9, 0), (29, 0, .iload_n 1, 1, 0, 0, 0), (30, 2, .ifCond .ne 18, 3, 48, 0, 0), (33, 0, .aload_n 0, 1, 0, 0, 0), (34, 0, .bipush (-2), 2, 0, 0, 0), (36, 4, .invokevirtual 112, 3, 124, 0, 0), (39, 0, .pop, 1, 0, 0, 0), (40, 0, .bipush (-20), 2, 0, 0, 0), (42, 0, .aload_n 0, 1, 0, 0, 0), (43, 3, .getfield 221, 3, 6, 38, 0), (46, 1, .isub, 1, 0, 0, 0), (47, 6, .ireturn, 1, 0, 0, 0)]
def M_99 : ai_M := (⟨"TheOtherRoomModel", "flat", "()I"⟩, prog_8_method_49_code, 2, some .int, 6, false, 1, C_99_0)
def C_100_0 : List ai_E := [(0, 0, .aload_n 0, 1, 0, 0, 0), (1, 0, .iload_n 1, 1, 0, 0, 0), (2, 4, .invokevirtual 102, 3, 106, 0, 0), (5, 2, .ifCond .eq 15, 3, 20, 0, 0), (20, 0, .aload_n 0, 1, 0, 0, 0), (21, 0, .bipush (-2), 2, 0, 0, 0), (23, 4, .invokevirtual 112, 3, 124, 0, 0), (26, 6, .ireturn, 1, 0, 0, 0)]
def M_100 : ai_M := (⟨"TheOtherRoomModel", "flatOf", "(II)I"⟩, prog_8_method_50_code, 3, some .int, 6, false, 3, C_100_0)
def C_101_0 : List ai_E := [(0, 0, .aload_n 0, 1, 0, 0, 0), (1, 0, .iload_n 1, 1, 0, 0, 0), (2, 4, .invokevirtual 102, 3, 106, 0, 0), (5, 2, .ifCond .eq 15, 3, 20, 0, 0), (20, 0, .lconst 0, 1, 0, 0, 0), (21, 6, .lreturn, 1, 0, 0, 0)]
def M_101 : ai_M := (⟨"TheOtherRoomModel", "floor", "(II)J"⟩, prog_8_method_52_code, 5, some .long, 6, false, 3, C_101_0)
def C_102_0 : List ai_E := [(0, 0, .iload_n 1, 1, 0, 0, 0), (1, 1, .i2l, 1, 0, 0, 0), (2, 0, .lconst 0, 1, 0, 0, 0), (3, 0, .ldc2_w 106, 3, 0, 0, 7), (6, 4, .invokestatic 98, 3, 104, 1, 0), (9, 2, .ifCond .eq 12, 3, 21, 0, 0), (12, 0, .aload_n 0, 1, 0, 0, 0), (13, 3, .getfield 7, 3, 6, 0, 0), (16, 0, .iload_n 1, 1, 0, 0, 0), (17, 3, .iaload, 1, 0, 0, 0), (18, 2, .ifCond .ne 5, 3, 23, 0, 0), (21, 0, .iconst (-1), 1, 0, 0, 0), (22, 6, .ireturn, 1, 0, 0, 0)]
def M_102 : ai_M := (⟨"TheOtherRoomModel", "holds", "(I)I"⟩, prog_8_method_14_code, 2, some .int, 6, false, 2, C_102_0)
def C_103_0 : List ai_E := [(0, 0, .aload_n 0, 1, 0, 0, 0), (1, 3, .getfield 402, 3, 6, 17, 0), (4, 2, .ifnonnull 14, 3, 18, 0, 0), (7, 0, .aload_n 0, 1, 0, 0, 0), (8, 3, .new 8, 3, 6, 0, 0), (11, 0, .dup, 1, 0, 0, 0), (12, 4, .invokespecial 405, 3, 78, 2, 0), (15, 3, .putfield 402, 3, 6, 17, 0), (18, 0, .aload_n 0, 1, 0, 0, 0), (19, 3, .getfield 402, 3, 6, 17, 0), (22, 0, .aload_n 0, 1, 0, 0, 0), (23, 4, .invokevirtual 406, 3, 138, 0, 0), (26, 0, .iconst 1, 1, 0, 0, 0), (27, 6, .ireturn, 1, 0, 0, 0)]
def M_103 : ai_M := (⟨"TheOtherRoomModel", "image", "()I"⟩, prog_8_method_106_code, 1, some .int, 6, false, 1, C_103_0)
def C_104_0 : List ai_E := [(0, 0, .lload_n 0, 1, 0, 0, 0), (1, 0, .lload_n 2, 1, 0, 0, 0), (2, 1, .lcmp, 1, 0, 0, 0), (3, 2, .ifCond .lt 14, 3, 17, 0, 0), (6, 0, .lload_n 0, 1, 0, 0, 0), (7, 0, .lload 4, 2, 0, 0, 0), (9, 1, .lcmp, 1, 0, 0, 0), (10, 2, .ifCond .gt 7, 3, 17, 0, 0), (13, 0, .iconst 1, 1, 0, 0, 0), (14, 2, .goto 4, 3, 18, 0, 0), (17, 0, .iconst 0, 1, 0, 0, 0), (18, 6, .ireturn, 1, 0, 0, 0)]
def M_104 : ai_M := (⟨"TheOtherRoomModel", "in", "(JJJ)Z"⟩, prog_8_method_4_code, 6, some .boolean, 6, false, 3, C_104_0)
def C_105_0 : List ai_E := [(0, 0, .aload_n 0, 1, 0, 0, 0), (1, 0, .iload_n 1, 1, 0, 0, 0), (2, 4, .invokevirtual 102, 3, 106, 0, 0), (5, 2, .ifCond .eq 19, 3, 24, 0, 0), (24, 0, .iconst 0, 1, 0, 0, 0), (25, 6, .ireturn, 1, 0, 0, 0)]
def M_105 : ai_M := (⟨"TheOtherRoomModel", "isDrawing", "(II)Z"⟩, prog_8_method_61_code, 3, some .boolean, 6, false, 3, C_105_0)
def C_106_0 : List ai_E := [(0, 0, .iload_n 1, 1, 0, 0, 0), (1, 1, .i2l, 1, 0, 0, 0), (2, 0, .lconst 0, 1, 0, 0, 0), (3, 0, .aload_n 0, 1, 0, 0, 0), (4, 3, .getfield 95, 3, 6, 11, 0), (7, 0, .iconst 1, 1, 0, 0, 0), (8, 1, .isub, 1, 0, 0, 0), (9, 1, .i2l, 1, 0, 0, 0), (10, 4, .invokestatic 98, 3, 104, 1, 0), (13, 6, .ireturn, 1, 0, 0, 0)]
def M_106 : ai_M := (⟨"TheOtherRoomModel", "isFlat", "(I)Z"⟩, prog_8_method_5_code, 2, some .boolean, 6, false, 2, C_106_0)
def C_107_0 : List ai_E := [(0, 0, .aload_n 0, 1, 0, 0, 0), (1, 0, .iload_n 1, 1, 0, 0, 0), (2, 4, .invokevirtual 102, 3, 106, 0, 0), (5, 2, .ifCond .eq 27, 3, 32, 0, 0), (32, 0, .iconst 0, 1, 0, 0, 0), (33, 6, .ireturn, 1, 0, 0, 0)]
def M_107 : ai_M := (⟨"TheOtherRoomModel", "isThing", "(II)Z"⟩, prog_8_method_6_code, 3, some .boolean, 6, false, 3, C_107_0)
def C_108_0 : List ai_E := [(0, 0, .aload_n 0, 1, 0, 0, 0), (1, 3, .getfield 206, 3, 6, 35, 0), (4, 0, .iconst 1, 1, 0, 0, 0), (5, 2, .if_icmp .ne 19, 3, 24, 0, 0), (24, 0, .iconst 0, 1, 0, 0, 0), (25, 6, .ireturn, 1, 0, 0, 0)]
def M_108 : ai_M := (⟨"TheOtherRoomModel", "isWord", "(Ljava/lang/String;)Z"⟩, prog_8_method_42_code, 3, some .boolean, 6, false, 2, C_108_0)
def C_109_0 : List ai_E := [(0, 0, .aload_n 0, 1, 0, 0, 0), (1, 0, .iload_n 1, 1, 0, 0, 0), (2, 0, .iload_n 2, 1, 0, 0, 0), (3, 0, .iload_n 3, 1, 0, 0, 0), (4, 4, .invokevirtual 313, 3, 117, 0, 0), (7, 0, .istore 4, 2, 0, 0, 0), (9, 0, .iload 4, 2, 0, 0, 0), (11, 2, .ifCond .eq 8, 3, 19, 0, 0), (14, 0, .iload 4, 2, 0, 0, 0), (16, 2, .goto 10, 3, 26, 0, 0), (26, 6, .ireturn, 1, 0, 0, 0)]
def M_109 : ai_M := (⟨"TheOtherRoomModel", "judge", "(III)I"⟩, prog_8_method_71_code, 5, some .int, 6, false, 4, C_109_0)
def C_110_0 : List ai_E := [(0, 0, .aload_n 0, 1, 0, 0, 0), (1, 0, .iload_n 1, 1, 0, 0, 0), (2, 0, .iload_n 2, 1, 0, 0, 0), (3, 4, .invokevirtual 297, 3, 105, 0, 0), (6, 2, .ifCond .ne 10, 3, 16, 0, 0), (9, 0, .aload_n 0, 1, 0, 0, 0), (10, 0, .bipush (-2), 2, 0, 0, 0), (12, 4, .invokevirtual 112, 3, 124, 0, 0), (15, 6, .ireturn, 1, 0, 0, 0)]
def M_110 : ai_M := (⟨"TheOtherRoomModel", "least", "(II)I"⟩, prog_8_method_88_code, 3, some .int, 6, false, 3, C_110_0)
def C_111_0 : List ai_E := [(0, 0, .aload_n 0, 1, 0, 0, 0), (1, 3, .getfield 196, 3, 6, 34, 0), (4, 0, .aload_n 0, 1, 0, 0, 0), (5, 3, .getfield 193, 3, 6, 9, 0), (8, 2, .if_icmp .ge 30, 3, 38, 0, 0), (38, 0, .aload_n 0, 1, 0, 0, 0), (39, 0, .aload_n 0, 1, 0, 0, 0), (40, 3, .getfield 196, 3, 6, 34, 0), (43, 3, .putfield 199, 3, 6, 36, 0), (46, 0, .aload_n 0, 1, 0, 0, 0), (47, 0, .lconst 0, 1, 0, 0, 0), (48, 3, .putfield 202, 3, 6, 37, 0), (51, 0, .aload_n 0, 1, 0, 0, 0), (52, 3, .getfield 196, 3, 6, 34, 0), (55, 0, .aload_n 0, 1, 0, 0, 0), (56, 3, .getfield 193, 3, 6, 9, 0), (59, 2, .if_icmp .ne 11, 3, 70, 0, 0), (62, 0, .aload_n 0, 1, 0, 0, 0), (63, 0, .iconst 0, 1, 0, 0, 0), (64, 3, .putfield 206, 3, 6, 35, 0), (67, 2, .goto 200, 3, 267, 0, 0), (267, 6, .return_, 1, 0, 0, 0)]
def M_111 : ai_M := (⟨"TheOtherRoomModel", "look", "()V"⟩, prog_8_method_40_code, 1, none, 6, false, 1, C_111_0)
def C_112_0 : List ai_E := [(0, 0, .aload_n 0, 1, 0, 0, 0), (1, 0, .iload_n 1, 1, 0, 0, 0), (2, 0, .iload_n 2, 1, 0, 0, 0), (3, 4, .invokevirtual 186, 3, 116, 0, 0), (6, 0, .istore_n 3, 1, 0, 0, 0), (7, 0, .iload_n 3, 1, 0, 0, 0), (8, 2, .ifCond .eq 5, 3, 13, 0, 0), (11, 0, .iload_n 3, 1, 0, 0, 0), (12, 6, .ireturn, 1, 0, 0, 0)]
def M_112 : ai_M := (⟨"TheOtherRoomModel", "make", "(II)I"⟩, prog_8_method_35_code, 8, some .int, 6, false, 3, C_112_0)
def C_113_0 : List ai_E := [(0, 0, .aload_n 0, 1, 0, 0, 0), (1, 0, .iload_n 1, 1, 0, 0, 0), (2, 0, .iload_n 2, 1, 0, 0, 0), (3, 4, .invokevirtual 297, 3, 105, 0, 0), (6, 2, .ifCond .ne 10, 3, 16, 0, 0), (9, 0, .aload_n 0, 1, 0, 0, 0), (10, 0, .bipush (-2), 2, 0, 0, 0), (12, 4, .invokevirtual 112, 3, 124, 0, 0), (15, 6, .ireturn, 1, 0, 0, 0)]
def M_113 : ai_M := (⟨"TheOtherRoomModel", "more", "(II)I"⟩, prog_8_method_95_code, 6, some .int, 6, false, 3, C_113_0)
def C_114_0 : List ai_E := [(0, 0, .iload_n 1, 1, 0, 0, 0), (1, 1, .i2l, 1, 0, 0, 0), (2, 0, .lconst 0, 1, 0, 0, 0), (3, 0, .ldc2_w 106, 3, 0, 0, 7), (6, 4, .invokestatic 98, 3, 104, 1, 0), (9, 2, .ifCond .eq 31, 3, 40, 0, 0), (12, 0, .iload_n 2, 1, 0, 0, 0), (13, 1, .i2l, 1, 0, 0, 0), (14, 0, .lconst 1, 1, 0, 0, 0), (15, 0, .ldc2_w 120, 3, 0, 0, 5), (18, 4, .invokestatic 98, 3, 104, 1, 0), (21, 2, .ifCond .eq 19, 3, 40, 0, 0), (24, 0, .iload_n 3, 1, 0, 0, 0), (25, 1, .i2l, 1, 0, 0, 0), (26, 0, .lconst 0, 1, 0, 0, 0), (27, 0, .ldc2_w 120, 3, 0, 0, 5), (30, 4, .invokestatic 98, 3, 104, 1, 0), (33, 2, .ifCond .eq 7, 3, 40, 0, 0), (36, 0, .iconst 1, 1, 0, 0, 0), (37, 2, .goto 4, 3, 41, 0, 0), (40, 0, .iconst 0, 1, 0, 0, 0), (41, 0, .istore 5, 2, 0, 0, 0), (43, 0, .iload 5, 2, 0, 0, 0), (45, 0, .iload_n 2, 1, 0, 0, 0), (46, 0, .iconst 1, 1, 0, 0, 0), (47, 2, .if_icmp .ne 16, 3, 63, 0, 0), (50, 0, .iload 4, 2, 0, 0, 0), (52, 1, .i2l, 1, 0, 0, 0), (53, 0, .lconst 0, 1, 0, 0, 0), (54, 0, .ldc2_w 122, 3, 0, 0, 3), (57, 4, .invokestatic 98, 3, 104, 1, 0), (60, 2, .ifCond .eq 7, 3, 67, 0, 0), (63, 0, .iconst 1, 1, 0, 0, 0), (64, 2, .goto 4, 3, 68, 0, 0), (67, 0, .iconst 0, 1, 0, 0, 0), (68, 1, .iand, 1, 0, 0, 0), (69, 0, .istore 5, 2, 0, 0, 0), (71, 0, .iload 5, 2, 0, 0, 0), (73, 0, .iload_n 2, 1, 0, 0, 0), (74, 0, .iconst 3, 1, 0, 0, 0), (75, 2, .if_icmp .ne 24, 3, 99, 0, 0), (78, 0, .iload 4, 2, 0, 0, 0), (80, 1, .i2l, 1, 0, 0, 0), (81, 0, .lconst 0, 1, 0, 0, 0), (82, 0, .ldc2_w 124, 3, 0, 0, 127), (85, 4, .invokestatic 98, 3, 104, 1, 0), (88, 2, .ifCond .ne 11, 3, 99, 0, 0), (91, 0, .iload 4, 2, 0, 0, 0), (93, 0, .sipush 200, 3, 0, 0, 0), (96, 2, .if_icmp .ne 7, 3, 103, 0, 0)]
def C_114_1 : List ai_E := [(99, 0, .iconst 1, 1, 0, 0, 0), (100, 2, .goto 4, 3, 104, 0, 0), (103, 0, .iconst 0, 1, 0, 0, 0), (104, 1, .iand, 1, 0, 0, 0), (105, 0, .istore 5, 2, 0, 0, 0), (107, 0, .iload 5, 2, 0, 0, 0), (109, 0, .iload_n 2, 1, 0, 0, 0), (110, 0, .iconst 5, 1, 0, 0, 0), (111, 2, .if_icmp .ne 16, 3, 127, 0, 0), (114, 0, .iload 4, 2, 0, 0, 0), (116, 1, .i2l, 1, 0, 0, 0), (117, 0, .lconst 0, 1, 0, 0, 0), (118, 0, .ldc2_w 124, 3, 0, 0, 127), (121, 4, .invokestatic 98, 3, 104, 1, 0), (124, 2, .ifCond .eq 7, 3, 131, 0, 0), (127, 0, .iconst 1, 1, 0, 0, 0), (128, 2, .goto 4, 3, 132, 0, 0), (131, 0, .iconst 0, 1, 0, 0, 0), (132, 1, .iand, 1, 0, 0, 0), (133, 0, .istore 5, 2, 0, 0, 0), (135, 0, .iload 5, 2, 0, 0, 0), (137, 2, .ifCond .ne 10, 3, 147, 0, 0), (140, 0, .aload_n 0, 1, 0, 0, 0), (141, 0, .bipush (-2), 2, 0, 0, 0), (143, 4, .invokevirtual 112, 3, 124, 0, 0), (146, 6, .ireturn, 1, 0, 0, 0), (147, 0, .aload_n 0, 1, 0, 0, 0), (148, 3, .getfield 7, 3, 6, 0, 0), (151, 0, .iload_n 1, 1, 0, 0, 0), (152, 0, .iconst 2, 1, 0, 0, 0), (153, 3, .iastore, 1, 0, 0, 0), (154, 0, .aload_n 0, 1, 0, 0, 0), (155, 3, .getfield 28, 3, 6, 5, 0), (158, 0, .iload_n 1, 1, 0, 0, 0), (159, 0, .iload_n 2, 1, 0, 0, 0), (160, 3, .iastore, 1, 0, 0, 0), (161, 0, .aload_n 0, 1, 0, 0, 0), (162, 3, .getfield 31, 3, 6, 6, 0), (165, 0, .iload_n 1, 1, 0, 0, 0), (166, 0, .iload_n 3, 1, 0, 0, 0), (167, 3, .iastore, 1, 0, 0, 0), (168, 0, .aload_n 0, 1, 0, 0, 0), (169, 3, .getfield 34, 3, 6, 7, 0), (172, 0, .iload_n 1, 1, 0, 0, 0), (173, 0, .iload_n 2, 1, 0, 0, 0), (174, 0, .iconst 2, 1, 0, 0, 0), (175, 2, .if_icmp .ne 7, 3, 182, 0, 0), (178, 0, .iconst 4, 1, 0, 0, 0), (179, 2, .goto 16, 3, 195, 0, 0), (182, 0, .iload_n 2, 1, 0, 0, 0)]
def C_114_2 : List ai_E := [(183, 0, .iconst 4, 1, 0, 0, 0), (184, 2, .if_icmp .ne 9, 3, 193, 0, 0), (187, 0, .sipush 200, 3, 0, 0, 0), (190, 2, .goto 5, 3, 195, 0, 0), (193, 0, .iload 4, 2, 0, 0, 0), (195, 3, .iastore, 1, 0, 0, 0), (196, 0, .iconst 1, 1, 0, 0, 0), (197, 6, .ireturn, 1, 0, 0, 0)]
def M_114 : ai_M := (⟨"TheOtherRoomModel", "move", "(IIII)I"⟩, prog_8_method_15_code, 6, some .int, 6, false, 5, C_114_0 ++ (C_114_1 ++ (C_114_2)))
def C_115_0 : List ai_E := [(0, 0, .aload_n 0, 1, 0, 0, 0), (1, 0, .iload_n 1, 1, 0, 0, 0), (2, 0, .iload_n 2, 1, 0, 0, 0), (3, 4, .invokevirtual 297, 3, 105, 0, 0), (6, 2, .ifCond .eq 15, 3, 21, 0, 0), (21, 0, .aload_n 0, 1, 0, 0, 0), (22, 0, .bipush (-2), 2, 0, 0, 0), (24, 4, .invokevirtual 112, 3, 124, 0, 0), (27, 6, .ireturn, 1, 0, 0, 0)]
def M_115 : ai_M := (⟨"TheOtherRoomModel", "near", "(III)I"⟩, prog_8_method_94_code, 7, some .int, 6, false, 4, C_115_0)
def C_116_0 : List ai_E := [(0, 0, .aload_n 0, 1, 0, 0, 0), (1, 0, .iload_n 1, 1, 0, 0, 0), (2, 4, .invokevirtual 102, 3, 106, 0, 0), (5, 2, .ifCond .eq 15, 3, 20, 0, 0), (20, 0, .aload_n 0, 1, 0, 0, 0), (21, 0, .bipush (-2), 2, 0, 0, 0), (23, 4, .invokevirtual 112, 3, 124, 0, 0), (26, 6, .ireturn, 1, 0, 0, 0)]
def M_116 : ai_M := (⟨"TheOtherRoomModel", "noMove", "(II)I"⟩, prog_8_method_33_code, 3, some .int, 6, false, 3, C_116_0)
def C_117_0 : List ai_E := [(0, 0, .aload_n 0, 1, 0, 0, 0), (1, 0, .iload_n 1, 1, 0, 0, 0), (2, 4, .invokevirtual 102, 3, 106, 0, 0), (5, 2, .ifCond .eq 27, 3, 32, 0, 0), (32, 0, .aload_n 0, 1, 0, 0, 0), (33, 0, .bipush (-2), 2, 0, 0, 0), (35, 4, .invokevirtual 112, 3, 124, 0, 0), (38, 6, .ireturn, 1, 0, 0, 0)]
def M_117 : ai_M := (⟨"TheOtherRoomModel", "noRow", "(III)I"⟩, prog_8_method_70_code, 4, some .int, 6, false, 4, C_117_0)
def C_118_0 : List ai_E := [(0, 0, .aload_n 0, 1, 0, 0, 0), (1, 0, .iload_n 1, 1, 0, 0, 0), (2, 0, .iload_n 2, 1, 0, 0, 0), (3, 4, .invokevirtual 297, 3, 105, 0, 0), (6, 2, .ifCond .eq 18, 3, 24, 0, 0), (24, 0, .aload_n 0, 1, 0, 0, 0), (25, 0, .bipush (-2), 2, 0, 0, 0), (27, 4, .invokevirtual 112, 3, 124, 0, 0), (30, 6, .ireturn, 1, 0, 0, 0)]
def M_118 : ai_M := (⟨"TheOtherRoomModel", "off", "(II)I"⟩, prog_8_method_67_code, 3, some .int, 6, false, 3, C_118_0)
def C_119_0 : List ai_E := [(0, 0, .iconst 0, 1, 0, 0, 0), (1, 0, .istore_n 2, 1, 0, 0, 0), (2, 0, .iload_n 2, 1, 0, 0, 0), (3, 0, .aload_n 0, 1, 0, 0, 0), (4, 3, .arraylength, 1, 0, 0, 0), (5, 2, .if_icmp .ge 15, 3, 20, 0, 0), (8, 0, .aload_n 1, 1, 0, 0, 0), (9, 0, .iload_n 2, 1, 0, 0, 0), (10, 0, .aload_n 0, 1, 0, 0, 0), (11, 0, .iload_n 2, 1, 0, 0, 0), (12, 3, .iaload, 1, 0, 0, 0), (13, 3, .iastore, 1, 0, 0, 0), (14, 0, .iinc 2 1, 3, 0, 0, 0), (17, 2, .goto (-15), 3, 2, 0, 0), (20, 6, .return_, 1, 0, 0, 0)]
def M_119 : ai_M := (⟨"TheOtherRoomModel", "over", "([I[I)V"⟩, prog_8_method_100_code, 3, none, 6, false, 2, C_119_0)
def C_120_0 : List ai_E := [(0, 0, .aload_n 0, 1, 0, 0, 0), (1, 0, .iload_n 1, 1, 0, 0, 0), (2, 4, .invokevirtual 102, 3, 106, 0, 0), (5, 2, .ifCond .ne 10, 3, 15, 0, 0), (8, 0, .aload_n 0, 1, 0, 0, 0), (9, 0, .bipush (-2), 2, 0, 0, 0), (11, 4, .invokevirtual 112, 3, 124, 0, 0), (14, 6, .ireturn, 1, 0, 0, 0)]
def M_120 : ai_M := (⟨"TheOtherRoomModel", "parts", "(I)I"⟩, prog_8_method_98_code, 12, some .int, 6, false, 2, C_120_0)
def C_121_0 : List ai_E := [(0, 0, .aload_n 0, 1, 0, 0, 0), (1, 0, .iload_n 1, 1, 0, 0, 0), (2, 0, .iload_n 2, 1, 0, 0, 0), (3, 4, .invokevirtual 288, 3, 107, 0, 0), (6, 2, .ifCond .eq 13, 3, 19, 0, 0), (19, 0, .aload_n 0, 1, 0, 0, 0), (20, 0, .bipush (-2), 2, 0, 0, 0), (22, 4, .invokevirtual 112, 3, 124, 0, 0), (25, 6, .ireturn, 1, 0, 0, 0)]
def M_121 : ai_M := (⟨"TheOtherRoomModel", "put", "(III)I"⟩, prog_8_method_60_code, 5, some .int, 6, false, 4, C_121_0)
def C_122_0 : List ai_E := [(0, 0, .aload_n 0, 1, 0, 0, 0), (1, 0, .iload_n 1, 1, 0, 0, 0), (2, 0, .iload_n 2, 1, 0, 0, 0), (3, 4, .invokevirtual 288, 3, 107, 0, 0), (6, 2, .ifCond .ne 10, 3, 16, 0, 0), (9, 0, .aload_n 0, 1, 0, 0, 0), (10, 0, .bipush (-2), 2, 0, 0, 0), (12, 4, .invokevirtual 112, 3, 124, 0, 0), (15, 6, .ireturn, 1, 0, 0, 0)]
def M_122 : ai_M := (⟨"TheOtherRoomModel", "reach", "(II)I"⟩, prog_8_method_58_code, 5, some .int, 6, false, 3, C_122_0)
def C_123_0 : List ai_E := [(0, 0, .iconst 0, 1, 0, 0, 0), (1, 0, .istore_n 2, 1, 0, 0, 0), (2, 0, .iload_n 2, 1, 0, 0, 0), (3, 0, .bipush 8, 2, 0, 0, 0), (5, 2, .if_icmp .ge 18, 3, 23, 0, 0), (8, 0, .aload_n 0, 1, 0, 0, 0), (9, 3, .getfield 45, 3, 6, 12, 0), (12, 0, .iload_n 1, 1, 0, 0, 0), (13, 3, .aaload, 1, 0, 0, 0), (14, 0, .iload_n 2, 1, 0, 0, 0), (15, 0, .iconst 0, 1, 0, 0, 0), (16, 3, .iastore, 1, 0, 0, 0), (17, 0, .iinc 2 1, 3, 0, 0, 0), (20, 2, .goto (-18), 3, 2, 0, 0), (23, 0, .aload_n 0, 1, 0, 0, 0), (24, 3, .getfield 45, 3, 6, 12, 0), (27, 0, .iload_n 1, 1, 0, 0, 0), (28, 3, .aaload, 1, 0, 0, 0), (29, 0, .iconst 3, 1, 0, 0, 0), (30, 0, .iconst 2, 1, 0, 0, 0), (31, 3, .iastore, 1, 0, 0, 0), (32, 0, .iconst 0, 1, 0, 0, 0), (33, 0, .istore_n 2, 1, 0, 0, 0), (34, 0, .iload_n 2, 1, 0, 0, 0), (35, 0, .bipush 24, 2, 0, 0, 0), (37, 2, .if_icmp .ge 18, 3, 55, 0, 0), (40, 0, .aload_n 0, 1, 0, 0, 0), (41, 3, .getfield 57, 3, 6, 16, 0), (44, 0, .iload_n 1, 1, 0, 0, 0), (45, 3, .aaload, 1, 0, 0, 0), (46, 0, .iload_n 2, 1, 0, 0, 0), (47, 0, .iconst (-1), 1, 0, 0, 0), (48, 3, .iastore, 1, 0, 0, 0), (49, 0, .iinc 2 1, 3, 0, 0, 0), (52, 2, .goto (-18), 3, 34, 0, 0), (55, 0, .aload_n 0, 1, 0, 0, 0), (56, 0, .iconst 0, 1, 0, 0, 0), (57, 3, .putfield 196, 3, 6, 34, 0), (60, 0, .aload_n 0, 1, 0, 0, 0), (61, 4, .invokevirtual 242, 3, 111, 0, 0), (64, 0, .aload_n 0, 1, 0, 0, 0), (65, 0, .iload_n 1, 1, 0, 0, 0), (66, 4, .invokevirtual 278, 3, 84, 0, 0), (69, 2, .ifCond .ne 5, 3, 74, 0, 0), (72, 0, .iconst 0, 1, 0, 0, 0), (73, 6, .ireturn, 1, 0, 0, 0)]
def M_123 : ai_M := (⟨"TheOtherRoomModel", "read", "(I)Z"⟩, prog_8_method_48_code, 3, some .boolean, 6, false, 2, C_123_0)
def C_124_0 : List ai_E := [(0, 0, .aload_n 0, 1, 0, 0, 0), (1, 3, .getfield 40, 3, 6, 10, 0), (4, 0, .iload_n 1, 1, 0, 0, 0), (5, 1, .ineg, 1, 0, 0, 0), (6, 0, .dup2, 1, 0, 0, 0), (7, 3, .iaload, 1, 0, 0, 0), (8, 0, .iconst 1, 1, 0, 0, 0), (9, 1, .iadd, 1, 0, 0, 0), (10, 3, .iastore, 1, 0, 0, 0), (11, 0, .iload_n 1, 1, 0, 0, 0), (12, 6, .ireturn, 1, 0, 0, 0)]
def M_124 : ai_M := (⟨"TheOtherRoomModel", "refuse", "(I)I"⟩, prog_8_method_3_code, 2, some .int, 6, false, 2, C_124_0)
def C_125_0 : List ai_E := [(0, 0, .aload_n 0, 1, 0, 0, 0), (1, 0, .iload_n 1, 1, 0, 0, 0), (2, 0, .iload_n 2, 1, 0, 0, 0), (3, 4, .invokevirtual 297, 3, 105, 0, 0), (6, 2, .ifCond .eq 12, 3, 18, 0, 0), (18, 0, .aload_n 0, 1, 0, 0, 0), (19, 0, .bipush (-2), 2, 0, 0, 0), (21, 4, .invokevirtual 112, 3, 124, 0, 0), (24, 6, .ireturn, 1, 0, 0, 0)]
def M_125 : ai_M := (⟨"TheOtherRoomModel", "rings", "(II)I"⟩, prog_8_method_76_code, 3, some .int, 6, false, 3, C_125_0)
def C_126_0 : List ai_E := [(0, 0, .iload_n 1, 1, 0, 0, 0), (1, 1, .i2l, 1, 0, 0, 0), (2, 0, .lconst 0, 1, 0, 0, 0), (3, 0, .ldc2_w 106, 3, 0, 0, 7), (6, 4, .invokestatic 98, 3, 104, 1, 0), (9, 2, .ifCond .eq 27, 3, 36, 0, 0), (12, 0, .iload_n 2, 1, 0, 0, 0), (13, 1, .i2l, 1, 0, 0, 0), (14, 0, .lconst 0, 1, 0, 0, 0), (15, 0, .ldc2_w 108, 3, 0, 0, 4), (18, 4, .invokestatic 98, 3, 104, 1, 0), (21, 2, .ifCond .eq 15, 3, 36, 0, 0), (24, 0, .iload_n 3, 1, 0, 0, 0), (25, 1, .i2l, 1, 0, 0, 0), (26, 0, .lconst 0, 1, 0, 0, 0), (27, 0, .ldc2_w 110, 3, 0, 0, 40), (30, 4, .invokestatic 98, 3, 104, 1, 0), (33, 2, .ifCond .ne 10, 3, 43, 0, 0), (36, 0, .aload_n 0, 1, 0, 0, 0), (37, 0, .bipush (-2), 2, 0, 0, 0), (39, 4, .invokevirtual 112, 3, 124, 0, 0), (42, 6, .ireturn, 1, 0, 0, 0), (43, 0, .aload_n 0, 1, 0, 0, 0), (44, 3, .getfield 7, 3, 6, 0, 0), (47, 0, .iload_n 1, 1, 0, 0, 0), (48, 0, .iconst 1, 1, 0, 0, 0), (49, 3, .iastore, 1, 0, 0, 0), (50, 0, .aload_n 0, 1, 0, 0, 0), (51, 3, .getfield 13, 3, 6, 1, 0), (54, 0, .iload_n 1, 1, 0, 0, 0), (55, 0, .iload_n 2, 1, 0, 0, 0), (56, 3, .iastore, 1, 0, 0, 0), (57, 0, .aload_n 0, 1, 0, 0, 0), (58, 3, .getfield 16, 3, 6, 2, 0), (61, 0, .iload_n 1, 1, 0, 0, 0), (62, 0, .iload_n 3, 1, 0, 0, 0), (63, 3, .iastore, 1, 0, 0, 0), (64, 0, .iconst 0, 1, 0, 0, 0), (65, 0, .istore 4, 2, 0, 0, 0), (67, 0, .iload 4, 2, 0, 0, 0), (69, 0, .bipush 40, 2, 0, 0, 0), (71, 2, .if_icmp .ge 19, 3, 90, 0, 0), (74, 0, .aload_n 0, 1, 0, 0, 0), (75, 3, .getfield 21, 3, 6, 3, 0), (78, 0, .iload_n 1, 1, 0, 0, 0), (79, 3, .aaload, 1, 0, 0, 0), (80, 0, .iload 4, 2, 0, 0, 0), (82, 0, .lconst 0, 1, 0, 0, 0), (83, 3, .lastore, 1, 0, 0, 0), (84, 0, .iinc 4 1, 3, 0, 0, 0)]
def C_126_1 : List ai_E := [(87, 2, .goto (-20), 3, 67, 0, 0), (90, 0, .iconst 1, 1, 0, 0, 0), (91, 6, .ireturn, 1, 0, 0, 0)]
def M_126 : ai_M := (⟨"TheOtherRoomModel", "row", "(III)I"⟩, prog_8_method_9_code, 5, some .int, 6, false, 4, C_126_0 ++ (C_126_1))
def C_127_0 : List ai_E := [(0, 0, .iload_n 1, 1, 0, 0, 0), (1, 1, .i2l, 1, 0, 0, 0), (2, 0, .lconst 0, 1, 0, 0, 0), (3, 0, .ldc2_w 106, 3, 0, 0, 7), (6, 4, .invokestatic 98, 3, 104, 1, 0), (9, 2, .ifCond .eq 15, 3, 24, 0, 0), (12, 0, .iload_n 2, 1, 0, 0, 0), (13, 1, .i2l, 1, 0, 0, 0), (14, 0, .lconst 0, 1, 0, 0, 0), (15, 0, .ldc2_w 120, 3, 0, 0, 5), (18, 4, .invokestatic 98, 3, 104, 1, 0), (21, 2, .ifCond .ne 10, 3, 31, 0, 0), (24, 0, .aload_n 0, 1, 0, 0, 0), (25, 0, .bipush (-2), 2, 0, 0, 0), (27, 4, .invokevirtual 112, 3, 124, 0, 0), (30, 6, .ireturn, 1, 0, 0, 0), (31, 0, .aload_n 0, 1, 0, 0, 0), (32, 3, .getfield 7, 3, 6, 0, 0), (35, 0, .iload_n 1, 1, 0, 0, 0), (36, 3, .iaload, 1, 0, 0, 0), (37, 0, .iconst 1, 1, 0, 0, 0), (38, 2, .if_icmp .eq 26, 3, 64, 0, 0), (41, 0, .aload_n 0, 1, 0, 0, 0), (42, 3, .getfield 7, 3, 6, 0, 0), (45, 0, .iload_n 1, 1, 0, 0, 0), (46, 3, .iaload, 1, 0, 0, 0), (47, 0, .iconst 2, 1, 0, 0, 0), (48, 2, .if_icmp .ne 23, 3, 71, 0, 0), (71, 0, .aload_n 0, 1, 0, 0, 0), (72, 3, .getfield 7, 3, 6, 0, 0), (75, 0, .iload_n 1, 1, 0, 0, 0), (76, 3, .iaload, 1, 0, 0, 0), (77, 2, .ifCond .ne 10, 3, 87, 0, 0), (80, 0, .aload_n 0, 1, 0, 0, 0), (81, 0, .bipush (-4), 2, 0, 0, 0), (83, 4, .invokevirtual 112, 3, 124, 0, 0), (86, 6, .ireturn, 1, 0, 0, 0)]
def M_127 : ai_M := (⟨"TheOtherRoomModel", "says", "(II)I"⟩, prog_8_method_17_code, 3, some .int, 6, false, 3, C_127_0)
def C_128_0 : List ai_E := [(0, 0, .iload_n 1, 1, 0, 0, 0), (1, 1, .i2l, 1, 0, 0, 0), (2, 0, .lconst 0, 1, 0, 0, 0), (3, 0, .ldc2_w 120, 3, 0, 0, 5), (6, 4, .invokestatic 98, 3, 104, 1, 0), (9, 2, .ifCond .ne 10, 3, 19, 0, 0), (12, 0, .aload_n 0, 1, 0, 0, 0), (13, 0, .bipush (-2), 2, 0, 0, 0), (15, 4, .invokevirtual 112, 3, 124, 0, 0), (18, 6, .ireturn, 1, 0, 0, 0), (19, 0, .aload_n 0, 1, 0, 0, 0), (20, 3, .getfield 72, 3, 6, 28, 0), (23, 0, .iconst (-1), 1, 0, 0, 0), (24, 2, .if_icmp .ne 10, 3, 34, 0, 0), (27, 0, .aload_n 0, 1, 0, 0, 0), (28, 0, .bipush (-5), 2, 0, 0, 0), (30, 4, .invokevirtual 112, 3, 124, 0, 0), (33, 6, .ireturn, 1, 0, 0, 0)]
def M_128 : ai_M := (⟨"TheOtherRoomModel", "search", "(I)I"⟩, prog_8_method_104_code, 2, some .int, 6, false, 2, C_128_0)
def C_129_0 : List ai_E := [(0, 0, .iload_n 1, 1, 0, 0, 0), (1, 1, .i2l, 1, 0, 0, 0), (2, 0, .lconst 0, 1, 0, 0, 0), (3, 0, .ldc2_w 106, 3, 0, 0, 7), (6, 4, .invokestatic 98, 3, 104, 1, 0), (9, 2, .ifCond .ne 10, 3, 19, 0, 0), (12, 0, .aload_n 0, 1, 0, 0, 0), (13, 0, .bipush (-2), 2, 0, 0, 0), (15, 4, .invokevirtual 112, 3, 124, 0, 0), (18, 6, .ireturn, 1, 0, 0, 0), (19, 0, .aload_n 0, 1, 0, 0, 0), (20, 3, .getfield 7, 3, 6, 0, 0), (23, 0, .iload_n 1, 1, 0, 0, 0), (24, 3, .iaload, 1, 0, 0, 0), (25, 0, .iconst 2, 1, 0, 0, 0), (26, 2, .if_icmp .ne 10, 3, 36, 0, 0), (36, 0, .aload_n 0, 1, 0, 0, 0), (37, 3, .getfield 7, 3, 6, 0, 0), (40, 0, .iload_n 1, 1, 0, 0, 0), (41, 3, .iaload, 1, 0, 0, 0), (42, 2, .ifCond .ne 10, 3, 52, 0, 0), (45, 0, .aload_n 0, 1, 0, 0, 0), (46, 0, .bipush (-4), 2, 0, 0, 0), (48, 4, .invokevirtual 112, 3, 124, 0, 0), (51, 6, .ireturn, 1, 0, 0, 0)]
def M_129 : ai_M := (⟨"TheOtherRoomModel", "set", "(IIJ)I"⟩, prog_8_method_11_code, 5, some .int, 6, false, 4, C_129_0)
def C_130_0 : List ai_E := [(0, 0, .aload_n 0, 1, 0, 0, 0), (1, 0, .iload_n 1, 1, 0, 0, 0), (2, 0, .iload_n 2, 1, 0, 0, 0), (3, 4, .invokevirtual 297, 3, 105, 0, 0), (6, 2, .ifCond .ne 10, 3, 16, 0, 0), (9, 0, .aload_n 0, 1, 0, 0, 0), (10, 0, .bipush (-2), 2, 0, 0, 0), (12, 4, .invokevirtual 112, 3, 124, 0, 0), (15, 6, .ireturn, 1, 0, 0, 0)]
def M_130 : ai_M := (⟨"TheOtherRoomModel", "shelf", "(II)I"⟩, prog_8_method_93_code, 7, some .int, 6, false, 3, C_130_0)
def C_131_0 : List ai_E := [(0, 0, .aload_n 0, 1, 0, 0, 0), (1, 0, .iload_n 1, 1, 0, 0, 0), (2, 0, .iload_n 2, 1, 0, 0, 0), (3, 4, .invokevirtual 297, 3, 105, 0, 0), (6, 2, .ifCond .ne 10, 3, 16, 0, 0), (9, 0, .aload_n 0, 1, 0, 0, 0), (10, 0, .bipush (-2), 2, 0, 0, 0), (12, 4, .invokevirtual 112, 3, 124, 0, 0), (15, 6, .ireturn, 1, 0, 0, 0)]
def M_131 : ai_M := (⟨"TheOtherRoomModel", "sound", "(II)I"⟩, prog_8_method_68_code, 8, some .int, 6, false, 3, C_131_0)
def C_132_0 : List ai_E := [(0, 0, .aload_n 0, 1, 0, 0, 0), (1, 0, .iload_n 1, 1, 0, 0, 0), (2, 0, .iload_n 2, 1, 0, 0, 0), (3, 4, .invokevirtual 297, 3, 105, 0, 0), (6, 2, .ifCond .ne 10, 3, 16, 0, 0), (9, 0, .aload_n 0, 1, 0, 0, 0), (10, 0, .bipush (-2), 2, 0, 0, 0), (12, 4, .invokevirtual 112, 3, 124, 0, 0), (15, 6, .ireturn, 1, 0, 0, 0)]
def M_132 : ai_M := (⟨"TheOtherRoomModel", "states", "(II)I"⟩, prog_8_method_90_code, 3, some .int, 6, false, 3, C_132_0)
def C_133_0 : List ai_E := [(0, 0, .iload_n 1, 1, 0, 0, 0), (1, 2, .tableswitch 72 0 2 #[27, 32, 37], 27, 0, 0, 0), (28, 0, .aload_n 0, 1, 0, 0, 0), (29, 3, .getfield 95, 3, 6, 11, 0), (32, 6, .ireturn, 1, 0, 0, 0), (33, 0, .aload_n 0, 1, 0, 0, 0), (34, 3, .getfield 193, 3, 6, 9, 0), (37, 6, .ireturn, 1, 0, 0, 0), (38, 0, .iconst 0, 1, 0, 0, 0), (39, 0, .istore_n 2, 1, 0, 0, 0), (40, 0, .iconst 0, 1, 0, 0, 0), (41, 0, .istore_n 3, 1, 0, 0, 0), (42, 0, .iload_n 3, 1, 0, 0, 0), (43, 0, .bipush 8, 2, 0, 0, 0), (45, 2, .if_icmp .ge 26, 3, 71, 0, 0), (48, 0, .iload_n 2, 1, 0, 0, 0), (49, 0, .aload_n 0, 1, 0, 0, 0), (50, 3, .getfield 7, 3, 6, 0, 0), (53, 0, .iload_n 3, 1, 0, 0, 0), (54, 3, .iaload, 1, 0, 0, 0), (55, 2, .ifCond .eq 7, 3, 62, 0, 0), (62, 0, .iconst 0, 1, 0, 0, 0), (63, 1, .iadd, 1, 0, 0, 0), (64, 0, .istore_n 2, 1, 0, 0, 0), (65, 0, .iinc 3 1, 3, 0, 0, 0), (68, 2, .goto (-26), 3, 42, 0, 0), (71, 0, .iload_n 2, 1, 0, 0, 0), (72, 6, .ireturn, 1, 0, 0, 0), (73, 0, .iload_n 1, 1, 0, 0, 0), (74, 1, .i2l, 1, 0, 0, 0), (75, 0, .ldc2_w 410, 3, 0, 0, 12), (78, 0, .ldc2_w 412, 3, 0, 0, 16), (81, 4, .invokestatic 98, 3, 104, 1, 0), (84, 2, .ifCond .eq 15, 3, 99, 0, 0), (87, 0, .aload_n 0, 1, 0, 0, 0), (88, 3, .getfield 40, 3, 6, 10, 0), (91, 0, .iload_n 1, 1, 0, 0, 0), (92, 0, .bipush 10, 2, 0, 0, 0), (94, 1, .isub, 1, 0, 0, 0), (95, 3, .iaload, 1, 0, 0, 0), (96, 2, .goto 4, 3, 100, 0, 0), (99, 0, .iconst (-1), 1, 0, 0, 0), (100, 6, .ireturn, 1, 0, 0, 0)]
def M_133 : ai_M := (⟨"TheOtherRoomModel", "status", "(I)I"⟩, prog_8_method_108_code, 4, some .int, 6, false, 2, C_133_0)
def C_134_0 : List ai_E := [(0, 0, .aload_n 0, 1, 0, 0, 0), (1, 3, .getfield 72, 3, 6, 28, 0), (4, 0, .iconst (-1), 1, 0, 0, 0), (5, 2, .if_icmp .eq 13, 3, 18, 0, 0), (18, 0, .aload_n 0, 1, 0, 0, 0), (19, 0, .bipush (-5), 2, 0, 0, 0), (21, 4, .invokevirtual 112, 3, 124, 0, 0), (24, 6, .ireturn, 1, 0, 0, 0)]
def M_134 : ai_M := (⟨"TheOtherRoomModel", "step", "()I"⟩, prog_8_method_103_code, 2, some .int, 6, false, 1, C_134_0)
def C_135_0 : List ai_E := [(0, 0, .aload_n 0, 1, 0, 0, 0), (1, 0, .iload_n 1, 1, 0, 0, 0), (2, 0, .iload_n 2, 1, 0, 0, 0), (3, 4, .invokevirtual 288, 3, 107, 0, 0), (6, 2, .ifCond .eq 13, 3, 19, 0, 0), (19, 0, .aload_n 0, 1, 0, 0, 0), (20, 0, .bipush (-2), 2, 0, 0, 0), (22, 4, .invokevirtual 112, 3, 124, 0, 0), (25, 6, .ireturn, 1, 0, 0, 0)]
def M_135 : ai_M := (⟨"TheOtherRoomModel", "steps", "(III)I"⟩, prog_8_method_57_code, 4, some .int, 6, false, 4, C_135_0)
def C_136_0 : List ai_E := [(0, 0, .aload_n 0, 1, 0, 0, 0), (1, 0, .iload_n 1, 1, 0, 0, 0), (2, 0, .iload_n 2, 1, 0, 0, 0), (3, 4, .invokevirtual 297, 3, 105, 0, 0), (6, 2, .ifCond .ne 10, 3, 16, 0, 0), (9, 0, .aload_n 0, 1, 0, 0, 0), (10, 0, .bipush (-2), 2, 0, 0, 0), (12, 4, .invokevirtual 112, 3, 124, 0, 0), (15, 6, .ireturn, 1, 0, 0, 0)]
def M_136 : ai_M := (⟨"TheOtherRoomModel", "take", "(II)I"⟩, prog_8_method_65_code, 4, some .int, 6, false, 3, C_136_0)
def C_137_0 : List ai_E := [(0, 0, .aload_n 1, 1, 0, 0, 0), (1, 3, .getfield 45, 3, 6, 12, 0), (4, 0, .iload_n 2, 1, 0, 0, 0), (5, 3, .aaload, 1, 0, 0, 0), (6, 0, .aload_n 0, 1, 0, 0, 0), (7, 3, .getfield 45, 3, 6, 12, 0), (10, 0, .iload_n 3, 1, 0, 0, 0), (11, 3, .aaload, 1, 0, 0, 0), (12, 4, .invokestatic 392, 3, 119, 1, 0), (15, 0, .aload_n 0, 1, 0, 0, 0), (16, 3, .getfield 48, 3, 6, 13, 0), (19, 0, .iload_n 3, 1, 0, 0, 0), (20, 0, .aload_n 1, 1, 0, 0, 0), (21, 3, .getfield 48, 3, 6, 13, 0), (24, 0, .iload_n 2, 1, 0, 0, 0), (25, 3, .laload, 1, 0, 0, 0), (26, 3, .lastore, 1, 0, 0, 0), (27, 0, .aload_n 1, 1, 0, 0, 0), (28, 3, .getfield 51, 3, 6, 14, 0), (31, 0, .iload_n 2, 1, 0, 0, 0), (32, 3, .aaload, 1, 0, 0, 0), (33, 0, .aload_n 0, 1, 0, 0, 0), (34, 3, .getfield 51, 3, 6, 14, 0), (37, 0, .iload_n 3, 1, 0, 0, 0), (38, 3, .aaload, 1, 0, 0, 0), (39, 4, .invokestatic 392, 3, 119, 1, 0), (42, 0, .aload_n 1, 1, 0, 0, 0), (43, 3, .getfield 54, 3, 6, 15, 0), (46, 0, .iload_n 2, 1, 0, 0, 0), (47, 3, .aaload, 1, 0, 0, 0), (48, 0, .aload_n 0, 1, 0, 0, 0), (49, 3, .getfield 54, 3, 6, 15, 0), (52, 0, .iload_n 3, 1, 0, 0, 0), (53, 3, .aaload, 1, 0, 0, 0), (54, 4, .invokestatic 392, 3, 119, 1, 0), (57, 0, .aload_n 1, 1, 0, 0, 0), (58, 3, .getfield 57, 3, 6, 16, 0), (61, 0, .iload_n 2, 1, 0, 0, 0), (62, 3, .aaload, 1, 0, 0, 0), (63, 0, .aload_n 0, 1, 0, 0, 0), (64, 3, .getfield 57, 3, 6, 16, 0), (67, 0, .iload_n 3, 1, 0, 0, 0), (68, 3, .aaload, 1, 0, 0, 0), (69, 4, .invokestatic 392, 3, 119, 1, 0), (72, 6, .return_, 1, 0, 0, 0)]
def M_137 : ai_M := (⟨"TheOtherRoomModel", "takeFlat", "(LTheOtherRoomModel;II)V"⟩, prog_8_method_101_code, 4, none, 6, false, 4, C_137_0)
def C_138_0 : List ai_E := [(0, 0, .aload_n 0, 1, 0, 0, 0), (1, 0, .aload_n 1, 1, 0, 0, 0), (2, 3, .getfield 95, 3, 6, 11, 0), (5, 3, .putfield 95, 3, 6, 11, 0), (8, 0, .iconst 0, 1, 0, 0, 0), (9, 0, .istore_n 2, 1, 0, 0, 0), (10, 0, .iload_n 2, 1, 0, 0, 0), (11, 0, .iconst 4, 1, 0, 0, 0), (12, 2, .if_icmp .ge 16, 3, 28, 0, 0), (15, 0, .aload_n 0, 1, 0, 0, 0), (16, 0, .aload_n 1, 1, 0, 0, 0), (17, 0, .iload_n 2, 1, 0, 0, 0), (18, 0, .iload_n 2, 1, 0, 0, 0), (19, 4, .invokevirtual 396, 3, 137, 0, 0), (22, 0, .iinc 2 1, 3, 0, 0, 0), (25, 2, .goto (-15), 3, 10, 0, 0), (28, 6, .return_, 1, 0, 0, 0)]
def M_138 : ai_M := (⟨"TheOtherRoomModel", "takeFrom", "(LTheOtherRoomModel;)V"⟩, prog_8_method_105_code, 3, none, 6, false, 2, C_138_0)
def C_139_0 : List ai_E := [(0, 0, .aload_n 0, 1, 0, 0, 0), (1, 0, .iload_n 1, 1, 0, 0, 0), (2, 0, .iload_n 2, 1, 0, 0, 0), (3, 4, .invokevirtual 288, 3, 107, 0, 0), (6, 2, .ifCond .eq 15, 3, 21, 0, 0), (21, 0, .aload_n 0, 1, 0, 0, 0), (22, 0, .bipush (-2), 2, 0, 0, 0), (24, 4, .invokevirtual 112, 3, 124, 0, 0), (27, 6, .ireturn, 1, 0, 0, 0)]
def M_139 : ai_M := (⟨"TheOtherRoomModel", "thingOf", "(III)I"⟩, prog_8_method_51_code, 4, some .int, 6, false, 4, C_139_0)
def C_140_0 : List ai_E := [(0, 0, .aload_n 0, 1, 0, 0, 0), (1, 0, .iload_n 1, 1, 0, 0, 0), (2, 0, .iload_n 2, 1, 0, 0, 0), (3, 4, .invokevirtual 297, 3, 105, 0, 0), (6, 2, .ifCond .eq 22, 3, 28, 0, 0), (28, 0, .aload_n 0, 1, 0, 0, 0), (29, 0, .bipush (-2), 2, 0, 0, 0), (31, 4, .invokevirtual 112, 3, 124, 0, 0), (34, 6, .ireturn, 1, 0, 0, 0)]
def M_140 : ai_M := (⟨"TheOtherRoomModel", "waits", "(III)I"⟩, prog_8_method_74_code, 4, some .int, 6, false, 4, C_140_0)
def C_141_0 : List ai_E := [(0, 0, .aload_n 0, 1, 0, 0, 0), (1, 0, .iload_n 1, 1, 0, 0, 0), (2, 4, .invokevirtual 102, 3, 106, 0, 0), (5, 2, .ifCond .eq 20, 3, 25, 0, 0), (25, 0, .aload_n 0, 1, 0, 0, 0), (26, 0, .bipush (-2), 2, 0, 0, 0), (28, 4, .invokevirtual 112, 3, 124, 0, 0), (31, 6, .ireturn, 1, 0, 0, 0)]
def M_141 : ai_M := (⟨"TheOtherRoomModel", "wall", "(IIZ)I"⟩, prog_8_method_55_code, 5, some .int, 6, false, 4, C_141_0)
def C_142_0 : List ai_E := [(0, 0, .aload_n 0, 1, 0, 0, 0), (1, 3, .getfield 193, 3, 6, 9, 0), (4, 0, .istore_n 1, 1, 0, 0, 0), (5, 0, .aload_n 0, 1, 0, 0, 0), (6, 0, .iconst 0, 1, 0, 0, 0), (7, 3, .putfield 193, 3, 6, 9, 0), (10, 0, .iload_n 1, 1, 0, 0, 0), (11, 6, .ireturn, 1, 0, 0, 0)]
def M_142 : ai_M := (⟨"TheOtherRoomModel", "wipe", "()I"⟩, prog_8_method_37_code, 2, some .int, 6, false, 1, C_142_0)
def C_143_0 : List ai_E := [(0, 0, .aload_n 0, 1, 0, 0, 0), (1, 0, .aload_n 1, 1, 0, 0, 0), (2, 4, .invokevirtual 234, 3, 108, 0, 0), (5, 2, .ifCond .ne 8, 3, 13, 0, 0), (8, 0, .aload_n 0, 1, 0, 0, 0), (9, 4, .invokevirtual 238, 3, 144, 0, 0), (12, 6, .ireturn, 1, 0, 0, 0)]
def M_143 : ai_M := (⟨"TheOtherRoomModel", "word", "(Ljava/lang/String;)Z"⟩, prog_8_method_43_code, 2, some .boolean, 6, false, 2, C_143_0)
def C_144_0 : List ai_E := [(0, 0, .aload_n 0, 1, 0, 0, 0), (1, 0, .aload_n 0, 1, 0, 0, 0), (2, 3, .getfield 199, 3, 6, 36, 0), (5, 3, .putfield 221, 3, 6, 38, 0), (8, 0, .iconst 0, 1, 0, 0, 0), (9, 6, .ireturn, 1, 0, 0, 0)]
def M_144 : ai_M := (⟨"TheOtherRoomModel", "wrong", "()Z"⟩, prog_8_method_41_code, 1, some .boolean, 6, false, 1, C_144_0)
def C_145_0 : List ai_E := [(0, 0, .iconst 0, 1, 0, 0, 0), (1, 0, .istore_n 3, 1, 0, 0, 0), (2, 0, .aload_n 0, 1, 0, 0, 0), (3, 3, .arraylength, 1, 0, 0, 0), (4, 0, .istore 4, 2, 0, 0, 0), (6, 0, .iload_n 3, 1, 0, 0, 0), (7, 0, .iload 4, 2, 0, 0, 0), (9, 2, .if_icmp .ge 13, 3, 22, 0, 0), (12, 0, .aload_n 0, 1, 0, 0, 0), (13, 0, .iload_n 3, 1, 0, 0, 0), (14, 0, .lload_n 1, 1, 0, 0, 0), (15, 3, .lastore, 1, 0, 0, 0), (16, 0, .iinc 3 1, 3, 0, 0, 0), (19, 2, .goto (-13), 3, 6, 0, 0), (22, 6, .return_, 1, 0, 0, 0)]
def M_145 : ai_M := (⟨"java/util/Arrays", "fill", "([JJ)V"⟩, prog_17_method_101_code, 5, none, 7, false, 2, C_145_0)
def C_146_0 : List ai_E := [(18, 0, .iload_n 3, 1, 0, 0, 0), (19, 0, .aload_n 0, 1, 0, 0, 0), (20, 3, .arraylength, 1, 0, 0, 0), (21, 0, .bipush 6, 2, 0, 0, 0), (23, 1, .isub, 1, 0, 0, 0), (24, 2, .if_icmp .gt 1953, 3, 1977, 0, 0), (33, 2, .tableswitch 1938 0 48 #[211, 254, 327, 390, 424, 447, 500, 533, 566, 599, 632, 645, 658, 691, 734, 768, 801, 845, 904, 947, 990, 1023, 1066, 1109, 1162, 1205, 1238, 1271, 1304, 1347, 1390, 1433, 1466, 1499, 1532, 1565, 1598, 1631, 1654, 1687, 1730, 1763, 1786, 1820, 1853, 1866, 1889, 1902, 1915], 211, 0, 0, 0), (244, 0, .aload_n 1, 1, 0, 0, 0), (245, 0, .aload_n 0, 1, 0, 0, 0), (246, 0, .iload_n 3, 1, 0, 0, 0), (247, 0, .iconst 1, 1, 0, 0, 0), (248, 1, .iadd, 1, 0, 0, 0), (249, 3, .iaload, 1, 0, 0, 0), (250, 0, .aload_n 0, 1, 0, 0, 0), (251, 0, .iload_n 3, 1, 0, 0, 0), (252, 0, .iconst 2, 1, 0, 0, 0), (253, 1, .iadd, 1, 0, 0, 0), (254, 3, .iaload, 1, 0, 0, 0), (255, 0, .aload_n 0, 1, 0, 0, 0), (256, 0, .iload_n 3, 1, 0, 0, 0), (257, 0, .iconst 3, 1, 0, 0, 0), (258, 1, .iadd, 1, 0, 0, 0), (259, 3, .iaload, 1, 0, 0, 0), (260, 4, .invokevirtual 13, 3, 39, 0, 0), (263, 0, .aload_n 2, 1, 0, 0, 0), (264, 0, .aload_n 0, 1, 0, 0, 0), (265, 0, .iload_n 3, 1, 0, 0, 0), (266, 0, .iconst 1, 1, 0, 0, 0), (267, 1, .iadd, 1, 0, 0, 0), (268, 3, .iaload, 1, 0, 0, 0), (269, 0, .aload_n 0, 1, 0, 0, 0), (270, 0, .iload_n 3, 1, 0, 0, 0), (271, 0, .iconst 2, 1, 0, 0, 0), (272, 1, .iadd, 1, 0, 0, 0), (273, 3, .iaload, 1, 0, 0, 0), (274, 0, .aload_n 0, 1, 0, 0, 0), (275, 0, .iload_n 3, 1, 0, 0, 0), (276, 0, .iconst 3, 1, 0, 0, 0), (277, 1, .iadd, 1, 0, 0, 0), (278, 3, .iaload, 1, 0, 0, 0), (279, 4, .invokevirtual 17, 3, 126, 0, 0), (282, 2, .if_icmp .eq 1689, 3, 1971, 0, 0), (287, 0, .aload_n 1, 1, 0, 0, 0), (288, 0, .aload_n 0, 1, 0, 0, 0), (289, 0, .iload_n 3, 1, 0, 0, 0), (290, 0, .iconst 1, 1, 0, 0, 0), (291, 1, .iadd, 1, 0, 0, 0), (292, 3, .iaload, 1, 0, 0, 0), (293, 0, .aload_n 0, 1, 0, 0, 0), (294, 0, .iload_n 3, 1, 0, 0, 0)]
def C_146_1 : List ai_E := [(295, 0, .iconst 2, 1, 0, 0, 0), (296, 1, .iadd, 1, 0, 0, 0), (297, 3, .iaload, 1, 0, 0, 0), (298, 0, .aload_n 0, 1, 0, 0, 0), (299, 0, .iload_n 3, 1, 0, 0, 0), (300, 0, .iconst 3, 1, 0, 0, 0), (301, 1, .iadd, 1, 0, 0, 0), (302, 3, .iaload, 1, 0, 0, 0), (303, 1, .i2l, 1, 0, 0, 0), (304, 0, .bipush 32, 2, 0, 0, 0), (306, 1, .lshl, 1, 0, 0, 0), (307, 0, .aload_n 0, 1, 0, 0, 0), (308, 0, .iload_n 3, 1, 0, 0, 0), (309, 0, .iconst 4, 1, 0, 0, 0), (310, 1, .iadd, 1, 0, 0, 0), (311, 3, .iaload, 1, 0, 0, 0), (312, 1, .i2l, 1, 0, 0, 0), (313, 0, .ldc2_w 18, 3, 0, 0, 4294967295), (316, 1, .land, 1, 0, 0, 0), (317, 1, .lor, 1, 0, 0, 0), (318, 4, .invokevirtual 20, 3, 42, 0, 0), (321, 0, .aload_n 2, 1, 0, 0, 0), (322, 0, .aload_n 0, 1, 0, 0, 0), (323, 0, .iload_n 3, 1, 0, 0, 0), (324, 0, .iconst 1, 1, 0, 0, 0), (325, 1, .iadd, 1, 0, 0, 0), (326, 3, .iaload, 1, 0, 0, 0), (327, 0, .aload_n 0, 1, 0, 0, 0), (328, 0, .iload_n 3, 1, 0, 0, 0), (329, 0, .iconst 2, 1, 0, 0, 0), (330, 1, .iadd, 1, 0, 0, 0), (331, 3, .iaload, 1, 0, 0, 0), (332, 0, .aload_n 0, 1, 0, 0, 0), (333, 0, .iload_n 3, 1, 0, 0, 0), (334, 0, .iconst 3, 1, 0, 0, 0), (335, 1, .iadd, 1, 0, 0, 0), (336, 3, .iaload, 1, 0, 0, 0), (337, 1, .i2l, 1, 0, 0, 0), (338, 0, .bipush 32, 2, 0, 0, 0), (340, 1, .lshl, 1, 0, 0, 0), (341, 0, .aload_n 0, 1, 0, 0, 0), (342, 0, .iload_n 3, 1, 0, 0, 0), (343, 0, .iconst 4, 1, 0, 0, 0), (344, 1, .iadd, 1, 0, 0, 0), (345, 3, .iaload, 1, 0, 0, 0), (346, 1, .i2l, 1, 0, 0, 0), (347, 0, .ldc2_w 18, 3, 0, 0, 4294967295), (350, 1, .land, 1, 0, 0, 0), (351, 1, .lor, 1, 0, 0, 0), (352, 4, .invokevirtual 24, 3, 129, 0, 0)]
def C_146_2 : List ai_E := [(355, 2, .if_icmp .eq 1616, 3, 1971, 0, 0), (360, 0, .aload_n 1, 1, 0, 0, 0), (361, 0, .aload_n 0, 1, 0, 0, 0), (362, 0, .iload_n 3, 1, 0, 0, 0), (363, 0, .iconst 1, 1, 0, 0, 0), (364, 1, .iadd, 1, 0, 0, 0), (365, 3, .iaload, 1, 0, 0, 0), (366, 0, .aload_n 0, 1, 0, 0, 0), (367, 0, .iload_n 3, 1, 0, 0, 0), (368, 0, .iconst 2, 1, 0, 0, 0), (369, 1, .iadd, 1, 0, 0, 0), (370, 3, .iaload, 1, 0, 0, 0), (371, 0, .aload_n 0, 1, 0, 0, 0), (372, 0, .iload_n 3, 1, 0, 0, 0), (373, 0, .iconst 3, 1, 0, 0, 0), (374, 1, .iadd, 1, 0, 0, 0), (375, 3, .iaload, 1, 0, 0, 0), (376, 0, .aload_n 0, 1, 0, 0, 0), (377, 0, .iload_n 3, 1, 0, 0, 0), (378, 0, .iconst 4, 1, 0, 0, 0), (379, 1, .iadd, 1, 0, 0, 0), (380, 3, .iaload, 1, 0, 0, 0), (381, 0, .aload_n 0, 1, 0, 0, 0), (382, 0, .iload_n 3, 1, 0, 0, 0), (383, 0, .iconst 5, 1, 0, 0, 0), (384, 1, .iadd, 1, 0, 0, 0), (385, 3, .iaload, 1, 0, 0, 0), (386, 4, .invokevirtual 25, 3, 9, 0, 0), (389, 0, .aload_n 2, 1, 0, 0, 0), (390, 0, .aload_n 0, 1, 0, 0, 0), (391, 0, .iload_n 3, 1, 0, 0, 0), (392, 0, .iconst 1, 1, 0, 0, 0), (393, 1, .iadd, 1, 0, 0, 0), (394, 3, .iaload, 1, 0, 0, 0), (395, 0, .aload_n 0, 1, 0, 0, 0), (396, 0, .iload_n 3, 1, 0, 0, 0), (397, 0, .iconst 2, 1, 0, 0, 0), (398, 1, .iadd, 1, 0, 0, 0), (399, 3, .iaload, 1, 0, 0, 0), (400, 0, .aload_n 0, 1, 0, 0, 0), (401, 0, .iload_n 3, 1, 0, 0, 0), (402, 0, .iconst 3, 1, 0, 0, 0), (403, 1, .iadd, 1, 0, 0, 0), (404, 3, .iaload, 1, 0, 0, 0), (405, 0, .aload_n 0, 1, 0, 0, 0), (406, 0, .iload_n 3, 1, 0, 0, 0), (407, 0, .iconst 4, 1, 0, 0, 0), (408, 1, .iadd, 1, 0, 0, 0), (409, 3, .iaload, 1, 0, 0, 0), (410, 0, .aload_n 0, 1, 0, 0, 0)]
def C_146_3 : List ai_E := [(411, 0, .iload_n 3, 1, 0, 0, 0), (412, 0, .iconst 5, 1, 0, 0, 0), (413, 1, .iadd, 1, 0, 0, 0), (414, 3, .iaload, 1, 0, 0, 0), (415, 4, .invokevirtual 29, 3, 88, 0, 0), (418, 2, .if_icmp .eq 1553, 3, 1971, 0, 0), (423, 0, .aload_n 1, 1, 0, 0, 0), (424, 0, .aload_n 0, 1, 0, 0, 0), (425, 0, .iload_n 3, 1, 0, 0, 0), (426, 0, .iconst 1, 1, 0, 0, 0), (427, 1, .iadd, 1, 0, 0, 0), (428, 3, .iaload, 1, 0, 0, 0), (429, 0, .aload_n 0, 1, 0, 0, 0), (430, 0, .iload_n 3, 1, 0, 0, 0), (431, 0, .iconst 2, 1, 0, 0, 0), (432, 1, .iadd, 1, 0, 0, 0), (433, 3, .iaload, 1, 0, 0, 0), (434, 4, .invokevirtual 30, 3, 15, 0, 0), (437, 0, .aload_n 2, 1, 0, 0, 0), (438, 0, .aload_n 0, 1, 0, 0, 0), (439, 0, .iload_n 3, 1, 0, 0, 0), (440, 0, .iconst 1, 1, 0, 0, 0), (441, 1, .iadd, 1, 0, 0, 0), (442, 3, .iaload, 1, 0, 0, 0), (443, 0, .aload_n 0, 1, 0, 0, 0), (444, 0, .iload_n 3, 1, 0, 0, 0), (445, 0, .iconst 2, 1, 0, 0, 0), (446, 1, .iadd, 1, 0, 0, 0), (447, 3, .iaload, 1, 0, 0, 0), (448, 4, .invokevirtual 34, 3, 94, 0, 0), (451, 1, .lcmp, 1, 0, 0, 0), (452, 2, .ifCond .eq 1519, 3, 1971, 0, 0), (457, 0, .aload_n 1, 1, 0, 0, 0), (458, 0, .aload_n 0, 1, 0, 0, 0), (459, 0, .iload_n 3, 1, 0, 0, 0), (460, 0, .iconst 1, 1, 0, 0, 0), (461, 1, .iadd, 1, 0, 0, 0), (462, 3, .iaload, 1, 0, 0, 0), (463, 4, .invokevirtual 35, 3, 25, 0, 0), (466, 0, .aload_n 2, 1, 0, 0, 0), (467, 0, .aload_n 0, 1, 0, 0, 0), (468, 0, .iload_n 3, 1, 0, 0, 0), (469, 0, .iconst 1, 1, 0, 0, 0), (470, 1, .iadd, 1, 0, 0, 0), (471, 3, .iaload, 1, 0, 0, 0), (472, 4, .invokevirtual 39, 3, 102, 0, 0), (475, 2, .if_icmp .eq 1496, 3, 1971, 0, 0), (480, 0, .aload_n 1, 1, 0, 0, 0), (481, 0, .aload_n 0, 1, 0, 0, 0), (482, 0, .iload_n 3, 1, 0, 0, 0)]
def C_146_4 : List ai_E := [(483, 0, .iconst 1, 1, 0, 0, 0), (484, 1, .iadd, 1, 0, 0, 0), (485, 3, .iaload, 1, 0, 0, 0), (486, 0, .aload_n 0, 1, 0, 0, 0), (487, 0, .iload_n 3, 1, 0, 0, 0), (488, 0, .iconst 2, 1, 0, 0, 0), (489, 1, .iadd, 1, 0, 0, 0), (490, 3, .iaload, 1, 0, 0, 0), (491, 0, .aload_n 0, 1, 0, 0, 0), (492, 0, .iload_n 3, 1, 0, 0, 0), (493, 0, .iconst 3, 1, 0, 0, 0), (494, 1, .iadd, 1, 0, 0, 0), (495, 3, .iaload, 1, 0, 0, 0), (496, 0, .aload_n 0, 1, 0, 0, 0), (497, 0, .iload_n 3, 1, 0, 0, 0), (498, 0, .iconst 4, 1, 0, 0, 0), (499, 1, .iadd, 1, 0, 0, 0), (500, 3, .iaload, 1, 0, 0, 0), (501, 4, .invokevirtual 40, 3, 31, 0, 0), (504, 0, .aload_n 2, 1, 0, 0, 0), (505, 0, .aload_n 0, 1, 0, 0, 0), (506, 0, .iload_n 3, 1, 0, 0, 0), (507, 0, .iconst 1, 1, 0, 0, 0), (508, 1, .iadd, 1, 0, 0, 0), (509, 3, .iaload, 1, 0, 0, 0), (510, 0, .aload_n 0, 1, 0, 0, 0), (511, 0, .iload_n 3, 1, 0, 0, 0), (512, 0, .iconst 2, 1, 0, 0, 0), (513, 1, .iadd, 1, 0, 0, 0), (514, 3, .iaload, 1, 0, 0, 0), (515, 0, .aload_n 0, 1, 0, 0, 0), (516, 0, .iload_n 3, 1, 0, 0, 0), (517, 0, .iconst 3, 1, 0, 0, 0), (518, 1, .iadd, 1, 0, 0, 0), (519, 3, .iaload, 1, 0, 0, 0), (520, 0, .aload_n 0, 1, 0, 0, 0), (521, 0, .iload_n 3, 1, 0, 0, 0), (522, 0, .iconst 4, 1, 0, 0, 0), (523, 1, .iadd, 1, 0, 0, 0), (524, 3, .iaload, 1, 0, 0, 0), (525, 4, .invokevirtual 44, 3, 114, 0, 0), (528, 2, .if_icmp .eq 1443, 3, 1971, 0, 0), (533, 0, .aload_n 1, 1, 0, 0, 0), (534, 0, .aload_n 0, 1, 0, 0, 0), (535, 0, .iload_n 3, 1, 0, 0, 0), (536, 0, .iconst 1, 1, 0, 0, 0), (537, 1, .iadd, 1, 0, 0, 0), (538, 3, .iaload, 1, 0, 0, 0), (539, 0, .aload_n 0, 1, 0, 0, 0), (540, 0, .iload_n 3, 1, 0, 0, 0)]
def C_146_5 : List ai_E := [(541, 0, .iconst 2, 1, 0, 0, 0), (542, 1, .iadd, 1, 0, 0, 0), (543, 3, .iaload, 1, 0, 0, 0), (544, 4, .invokevirtual 45, 3, 40, 0, 0), (547, 0, .aload_n 2, 1, 0, 0, 0), (548, 0, .aload_n 0, 1, 0, 0, 0), (549, 0, .iload_n 3, 1, 0, 0, 0), (550, 0, .iconst 1, 1, 0, 0, 0), (551, 1, .iadd, 1, 0, 0, 0), (552, 3, .iaload, 1, 0, 0, 0), (553, 0, .aload_n 0, 1, 0, 0, 0), (554, 0, .iload_n 3, 1, 0, 0, 0), (555, 0, .iconst 2, 1, 0, 0, 0), (556, 1, .iadd, 1, 0, 0, 0), (557, 3, .iaload, 1, 0, 0, 0), (558, 4, .invokevirtual 49, 3, 127, 0, 0), (561, 2, .if_icmp .eq 1410, 3, 1971, 0, 0), (566, 0, .aload_n 1, 1, 0, 0, 0), (567, 0, .aload_n 0, 1, 0, 0, 0), (568, 0, .iload_n 3, 1, 0, 0, 0), (569, 0, .iconst 1, 1, 0, 0, 0), (570, 1, .iadd, 1, 0, 0, 0), (571, 3, .iaload, 1, 0, 0, 0), (572, 0, .aload_n 0, 1, 0, 0, 0), (573, 0, .iload_n 3, 1, 0, 0, 0), (574, 0, .iconst 2, 1, 0, 0, 0), (575, 1, .iadd, 1, 0, 0, 0), (576, 3, .iaload, 1, 0, 0, 0), (577, 4, .invokevirtual 50, 3, 6, 0, 0), (580, 0, .aload_n 2, 1, 0, 0, 0), (581, 0, .aload_n 0, 1, 0, 0, 0), (582, 0, .iload_n 3, 1, 0, 0, 0), (583, 0, .iconst 1, 1, 0, 0, 0), (584, 1, .iadd, 1, 0, 0, 0), (585, 3, .iaload, 1, 0, 0, 0), (586, 0, .aload_n 0, 1, 0, 0, 0), (587, 0, .iload_n 3, 1, 0, 0, 0), (588, 0, .iconst 2, 1, 0, 0, 0), (589, 1, .iadd, 1, 0, 0, 0), (590, 3, .iaload, 1, 0, 0, 0), (591, 4, .invokevirtual 53, 3, 86, 0, 0), (594, 2, .if_icmp .eq 1377, 3, 1971, 0, 0), (599, 0, .aload_n 1, 1, 0, 0, 0), (600, 0, .aload_n 0, 1, 0, 0, 0), (601, 0, .iload_n 3, 1, 0, 0, 0), (602, 0, .iconst 1, 1, 0, 0, 0), (603, 1, .iadd, 1, 0, 0, 0), (604, 3, .iaload, 1, 0, 0, 0), (605, 0, .aload_n 0, 1, 0, 0, 0), (606, 0, .iload_n 3, 1, 0, 0, 0)]
def C_146_6 : List ai_E := [(607, 0, .iconst 2, 1, 0, 0, 0), (608, 1, .iadd, 1, 0, 0, 0), (609, 3, .iaload, 1, 0, 0, 0), (610, 4, .invokevirtual 54, 3, 29, 0, 0), (613, 0, .aload_n 2, 1, 0, 0, 0), (614, 0, .aload_n 0, 1, 0, 0, 0), (615, 0, .iload_n 3, 1, 0, 0, 0), (616, 0, .iconst 1, 1, 0, 0, 0), (617, 1, .iadd, 1, 0, 0, 0), (618, 3, .iaload, 1, 0, 0, 0), (619, 0, .aload_n 0, 1, 0, 0, 0), (620, 0, .iload_n 3, 1, 0, 0, 0), (621, 0, .iconst 2, 1, 0, 0, 0), (622, 1, .iadd, 1, 0, 0, 0), (623, 3, .iaload, 1, 0, 0, 0), (624, 4, .invokevirtual 57, 3, 112, 0, 0), (627, 2, .if_icmp .eq 1344, 3, 1971, 0, 0), (632, 0, .aload_n 1, 1, 0, 0, 0), (633, 0, .aload_n 0, 1, 0, 0, 0), (634, 0, .iload_n 3, 1, 0, 0, 0), (635, 0, .iconst 1, 1, 0, 0, 0), (636, 1, .iadd, 1, 0, 0, 0), (637, 3, .iaload, 1, 0, 0, 0), (638, 0, .aload_n 0, 1, 0, 0, 0), (639, 0, .iload_n 3, 1, 0, 0, 0), (640, 0, .iconst 2, 1, 0, 0, 0), (641, 1, .iadd, 1, 0, 0, 0), (642, 3, .iaload, 1, 0, 0, 0), (643, 4, .invokevirtual 58, 3, 17, 0, 0), (646, 0, .aload_n 2, 1, 0, 0, 0), (647, 0, .aload_n 0, 1, 0, 0, 0), (648, 0, .iload_n 3, 1, 0, 0, 0), (649, 0, .iconst 1, 1, 0, 0, 0), (650, 1, .iadd, 1, 0, 0, 0), (651, 3, .iaload, 1, 0, 0, 0), (652, 0, .aload_n 0, 1, 0, 0, 0), (653, 0, .iload_n 3, 1, 0, 0, 0), (654, 0, .iconst 2, 1, 0, 0, 0), (655, 1, .iadd, 1, 0, 0, 0), (656, 3, .iaload, 1, 0, 0, 0), (657, 4, .invokevirtual 61, 3, 96, 0, 0), (660, 2, .if_icmp .eq 1311, 3, 1971, 0, 0), (665, 0, .aload_n 1, 1, 0, 0, 0), (666, 4, .invokevirtual 62, 3, 55, 0, 0), (669, 0, .aload_n 2, 1, 0, 0, 0), (670, 4, .invokevirtual 66, 3, 142, 0, 0), (673, 2, .if_icmp .eq 1298, 3, 1971, 0, 0), (678, 0, .aload_n 1, 1, 0, 0, 0), (679, 4, .invokevirtual 67, 3, 20, 0, 0), (682, 0, .aload_n 2, 1, 0, 0, 0)]
def C_146_7 : List ai_E := [(683, 4, .invokevirtual 70, 3, 99, 0, 0), (686, 2, .if_icmp .eq 1285, 3, 1971, 0, 0), (691, 0, .aload_n 1, 1, 0, 0, 0), (692, 0, .aload_n 0, 1, 0, 0, 0), (693, 0, .iload_n 3, 1, 0, 0, 0), (694, 0, .iconst 1, 1, 0, 0, 0), (695, 1, .iadd, 1, 0, 0, 0), (696, 3, .iaload, 1, 0, 0, 0), (697, 0, .aload_n 0, 1, 0, 0, 0), (698, 0, .iload_n 3, 1, 0, 0, 0), (699, 0, .iconst 2, 1, 0, 0, 0), (700, 1, .iadd, 1, 0, 0, 0), (701, 3, .iaload, 1, 0, 0, 0), (702, 4, .invokevirtual 71, 3, 22, 0, 0), (705, 0, .aload_n 2, 1, 0, 0, 0), (706, 0, .aload_n 0, 1, 0, 0, 0), (707, 0, .iload_n 3, 1, 0, 0, 0), (708, 0, .iconst 1, 1, 0, 0, 0), (709, 1, .iadd, 1, 0, 0, 0), (710, 3, .iaload, 1, 0, 0, 0), (711, 0, .aload_n 0, 1, 0, 0, 0), (712, 0, .iload_n 3, 1, 0, 0, 0), (713, 0, .iconst 2, 1, 0, 0, 0), (714, 1, .iadd, 1, 0, 0, 0), (715, 3, .iaload, 1, 0, 0, 0), (716, 4, .invokevirtual 74, 3, 100, 0, 0), (719, 2, .if_icmp .eq 1252, 3, 1971, 0, 0), (724, 0, .aload_n 1, 1, 0, 0, 0), (725, 0, .aload_n 0, 1, 0, 0, 0), (726, 0, .iload_n 3, 1, 0, 0, 0), (727, 0, .iconst 1, 1, 0, 0, 0), (728, 1, .iadd, 1, 0, 0, 0), (729, 3, .iaload, 1, 0, 0, 0), (730, 0, .aload_n 0, 1, 0, 0, 0), (731, 0, .iload_n 3, 1, 0, 0, 0), (732, 0, .iconst 2, 1, 0, 0, 0), (733, 1, .iadd, 1, 0, 0, 0), (734, 3, .iaload, 1, 0, 0, 0), (735, 0, .aload_n 0, 1, 0, 0, 0), (736, 0, .iload_n 3, 1, 0, 0, 0), (737, 0, .iconst 3, 1, 0, 0, 0), (738, 1, .iadd, 1, 0, 0, 0), (739, 3, .iaload, 1, 0, 0, 0), (740, 4, .invokevirtual 75, 3, 52, 0, 0), (743, 0, .aload_n 2, 1, 0, 0, 0), (744, 0, .aload_n 0, 1, 0, 0, 0), (745, 0, .iload_n 3, 1, 0, 0, 0), (746, 0, .iconst 1, 1, 0, 0, 0), (747, 1, .iadd, 1, 0, 0, 0), (748, 3, .iaload, 1, 0, 0, 0)]
def C_146_8 : List ai_E := [(749, 0, .aload_n 0, 1, 0, 0, 0), (750, 0, .iload_n 3, 1, 0, 0, 0), (751, 0, .iconst 2, 1, 0, 0, 0), (752, 1, .iadd, 1, 0, 0, 0), (753, 3, .iaload, 1, 0, 0, 0), (754, 0, .aload_n 0, 1, 0, 0, 0), (755, 0, .iload_n 3, 1, 0, 0, 0), (756, 0, .iconst 3, 1, 0, 0, 0), (757, 1, .iadd, 1, 0, 0, 0), (758, 3, .iaload, 1, 0, 0, 0), (759, 4, .invokevirtual 78, 3, 139, 0, 0), (762, 2, .if_icmp .eq 1209, 3, 1971, 0, 0), (767, 0, .aload_n 1, 1, 0, 0, 0), (768, 0, .aload_n 0, 1, 0, 0, 0), (769, 0, .iload_n 3, 1, 0, 0, 0), (770, 0, .iconst 1, 1, 0, 0, 0), (771, 1, .iadd, 1, 0, 0, 0), (772, 3, .iaload, 1, 0, 0, 0), (773, 0, .aload_n 0, 1, 0, 0, 0), (774, 0, .iload_n 3, 1, 0, 0, 0), (775, 0, .iconst 2, 1, 0, 0, 0), (776, 1, .iadd, 1, 0, 0, 0), (777, 3, .iaload, 1, 0, 0, 0), (778, 4, .invokevirtual 79, 3, 24, 0, 0), (781, 0, .aload_n 2, 1, 0, 0, 0), (782, 0, .aload_n 0, 1, 0, 0, 0), (783, 0, .iload_n 3, 1, 0, 0, 0), (784, 0, .iconst 1, 1, 0, 0, 0), (785, 1, .iadd, 1, 0, 0, 0), (786, 3, .iaload, 1, 0, 0, 0), (787, 0, .aload_n 0, 1, 0, 0, 0), (788, 0, .iload_n 3, 1, 0, 0, 0), (789, 0, .iconst 2, 1, 0, 0, 0), (790, 1, .iadd, 1, 0, 0, 0), (791, 3, .iaload, 1, 0, 0, 0), (792, 4, .invokevirtual 82, 3, 101, 0, 0), (795, 1, .lcmp, 1, 0, 0, 0), (796, 2, .ifCond .eq 1175, 3, 1971, 0, 0), (801, 0, .aload_n 1, 1, 0, 0, 0), (802, 0, .aload_n 0, 1, 0, 0, 0), (803, 0, .iload_n 3, 1, 0, 0, 0), (804, 0, .iconst 1, 1, 0, 0, 0), (805, 1, .iadd, 1, 0, 0, 0), (806, 3, .iaload, 1, 0, 0, 0), (807, 0, .aload_n 0, 1, 0, 0, 0), (808, 0, .iload_n 3, 1, 0, 0, 0), (809, 0, .iconst 2, 1, 0, 0, 0), (810, 1, .iadd, 1, 0, 0, 0), (811, 3, .iaload, 1, 0, 0, 0), (812, 4, .invokevirtual 83, 3, 2, 0, 0)]
def C_146_9 : List ai_E := [(815, 0, .aload_n 2, 1, 0, 0, 0), (816, 0, .aload_n 0, 1, 0, 0, 0), (817, 0, .iload_n 3, 1, 0, 0, 0), (818, 0, .iconst 1, 1, 0, 0, 0), (819, 1, .iadd, 1, 0, 0, 0), (820, 3, .iaload, 1, 0, 0, 0), (821, 0, .aload_n 0, 1, 0, 0, 0), (822, 0, .iload_n 3, 1, 0, 0, 0), (823, 0, .iconst 2, 1, 0, 0, 0), (824, 1, .iadd, 1, 0, 0, 0), (825, 3, .iaload, 1, 0, 0, 0), (826, 4, .invokevirtual 86, 3, 81, 0, 0), (829, 2, .if_icmp .eq 1142, 3, 1971, 0, 0), (834, 0, .aload_n 1, 1, 0, 0, 0), (835, 0, .aload_n 0, 1, 0, 0, 0), (836, 0, .iload_n 3, 1, 0, 0, 0), (837, 0, .iconst 1, 1, 0, 0, 0), (838, 1, .iadd, 1, 0, 0, 0), (839, 3, .iaload, 1, 0, 0, 0), (840, 0, .aload_n 0, 1, 0, 0, 0), (841, 0, .iload_n 3, 1, 0, 0, 0), (842, 0, .iconst 2, 1, 0, 0, 0), (843, 1, .iadd, 1, 0, 0, 0), (844, 3, .iaload, 1, 0, 0, 0), (845, 0, .aload_n 0, 1, 0, 0, 0), (846, 0, .iload_n 3, 1, 0, 0, 0), (847, 0, .iconst 3, 1, 0, 0, 0), (848, 1, .iadd, 1, 0, 0, 0), (849, 3, .iaload, 1, 0, 0, 0), (850, 4, .invokevirtual 87, 3, 11, 0, 0), (853, 0, .aload_n 2, 1, 0, 0, 0), (854, 0, .aload_n 0, 1, 0, 0, 0), (855, 0, .iload_n 3, 1, 0, 0, 0), (856, 0, .iconst 1, 1, 0, 0, 0), (857, 1, .iadd, 1, 0, 0, 0), (858, 3, .iaload, 1, 0, 0, 0), (859, 0, .aload_n 0, 1, 0, 0, 0), (860, 0, .iload_n 3, 1, 0, 0, 0), (861, 0, .iconst 2, 1, 0, 0, 0), (862, 1, .iadd, 1, 0, 0, 0), (863, 3, .iaload, 1, 0, 0, 0), (864, 0, .aload_n 0, 1, 0, 0, 0), (865, 0, .iload_n 3, 1, 0, 0, 0), (866, 0, .iconst 3, 1, 0, 0, 0), (867, 1, .iadd, 1, 0, 0, 0), (868, 3, .iaload, 1, 0, 0, 0), (869, 4, .invokevirtual 91, 3, 90, 0, 0), (872, 1, .lcmp, 1, 0, 0, 0), (873, 2, .ifCond .eq 1098, 3, 1971, 0, 0), (878, 0, .aload_n 1, 1, 0, 0, 0)]
def C_146_10 : List ai_E := [(879, 0, .aload_n 0, 1, 0, 0, 0), (880, 0, .iload_n 3, 1, 0, 0, 0), (881, 0, .iconst 1, 1, 0, 0, 0), (882, 1, .iadd, 1, 0, 0, 0), (883, 3, .iaload, 1, 0, 0, 0), (884, 0, .aload_n 0, 1, 0, 0, 0), (885, 0, .iload_n 3, 1, 0, 0, 0), (886, 0, .iconst 2, 1, 0, 0, 0), (887, 1, .iadd, 1, 0, 0, 0), (888, 3, .iaload, 1, 0, 0, 0), (889, 0, .aload_n 0, 1, 0, 0, 0), (890, 0, .iload_n 3, 1, 0, 0, 0), (891, 0, .iconst 3, 1, 0, 0, 0), (892, 1, .iadd, 1, 0, 0, 0), (893, 3, .iaload, 1, 0, 0, 0), (894, 2, .ifCond .eq 7, 3, 901, 0, 0), (897, 0, .iconst 1, 1, 0, 0, 0), (898, 2, .goto 4, 3, 902, 0, 0), (901, 0, .iconst 0, 1, 0, 0, 0), (902, 4, .invokevirtual 92, 3, 54, 0, 0), (905, 0, .aload_n 2, 1, 0, 0, 0), (906, 0, .aload_n 0, 1, 0, 0, 0), (907, 0, .iload_n 3, 1, 0, 0, 0), (908, 0, .iconst 1, 1, 0, 0, 0), (909, 1, .iadd, 1, 0, 0, 0), (910, 3, .iaload, 1, 0, 0, 0), (911, 0, .aload_n 0, 1, 0, 0, 0), (912, 0, .iload_n 3, 1, 0, 0, 0), (913, 0, .iconst 2, 1, 0, 0, 0), (914, 1, .iadd, 1, 0, 0, 0), (915, 3, .iaload, 1, 0, 0, 0), (916, 0, .aload_n 0, 1, 0, 0, 0), (917, 0, .iload_n 3, 1, 0, 0, 0), (918, 0, .iconst 3, 1, 0, 0, 0), (919, 1, .iadd, 1, 0, 0, 0), (920, 3, .iaload, 1, 0, 0, 0), (921, 2, .ifCond .eq 7, 3, 928, 0, 0), (924, 0, .iconst 1, 1, 0, 0, 0), (925, 2, .goto 4, 3, 929, 0, 0), (928, 0, .iconst 0, 1, 0, 0, 0), (929, 4, .invokevirtual 96, 3, 141, 0, 0), (932, 2, .if_icmp .eq 1039, 3, 1971, 0, 0), (937, 0, .aload_n 1, 1, 0, 0, 0), (938, 0, .aload_n 0, 1, 0, 0, 0), (939, 0, .iload_n 3, 1, 0, 0, 0), (940, 0, .iconst 1, 1, 0, 0, 0), (941, 1, .iadd, 1, 0, 0, 0), (942, 3, .iaload, 1, 0, 0, 0), (943, 0, .aload_n 0, 1, 0, 0, 0), (944, 0, .iload_n 3, 1, 0, 0, 0)]
def C_146_11 : List ai_E := [(945, 0, .iconst 2, 1, 0, 0, 0), (946, 1, .iadd, 1, 0, 0, 0), (947, 3, .iaload, 1, 0, 0, 0), (948, 0, .aload_n 0, 1, 0, 0, 0), (949, 0, .iload_n 3, 1, 0, 0, 0), (950, 0, .iconst 3, 1, 0, 0, 0), (951, 1, .iadd, 1, 0, 0, 0), (952, 3, .iaload, 1, 0, 0, 0), (953, 4, .invokevirtual 97, 3, 1, 0, 0), (956, 0, .aload_n 2, 1, 0, 0, 0), (957, 0, .aload_n 0, 1, 0, 0, 0), (958, 0, .iload_n 3, 1, 0, 0, 0), (959, 0, .iconst 1, 1, 0, 0, 0), (960, 1, .iadd, 1, 0, 0, 0), (961, 3, .iaload, 1, 0, 0, 0), (962, 0, .aload_n 0, 1, 0, 0, 0), (963, 0, .iload_n 3, 1, 0, 0, 0), (964, 0, .iconst 2, 1, 0, 0, 0), (965, 1, .iadd, 1, 0, 0, 0), (966, 3, .iaload, 1, 0, 0, 0), (967, 0, .aload_n 0, 1, 0, 0, 0), (968, 0, .iload_n 3, 1, 0, 0, 0), (969, 0, .iconst 3, 1, 0, 0, 0), (970, 1, .iadd, 1, 0, 0, 0), (971, 3, .iaload, 1, 0, 0, 0), (972, 4, .invokevirtual 100, 3, 80, 0, 0), (975, 2, .if_icmp .eq 996, 3, 1971, 0, 0), (980, 0, .aload_n 1, 1, 0, 0, 0), (981, 0, .aload_n 0, 1, 0, 0, 0), (982, 0, .iload_n 3, 1, 0, 0, 0), (983, 0, .iconst 1, 1, 0, 0, 0), (984, 1, .iadd, 1, 0, 0, 0), (985, 3, .iaload, 1, 0, 0, 0), (986, 0, .aload_n 0, 1, 0, 0, 0), (987, 0, .iload_n 3, 1, 0, 0, 0), (988, 0, .iconst 2, 1, 0, 0, 0), (989, 1, .iadd, 1, 0, 0, 0), (990, 3, .iaload, 1, 0, 0, 0), (991, 0, .aload_n 0, 1, 0, 0, 0), (992, 0, .iload_n 3, 1, 0, 0, 0), (993, 0, .iconst 3, 1, 0, 0, 0), (994, 1, .iadd, 1, 0, 0, 0), (995, 3, .iaload, 1, 0, 0, 0), (996, 4, .invokevirtual 101, 3, 50, 0, 0), (999, 0, .aload_n 2, 1, 0, 0, 0), (1000, 0, .aload_n 0, 1, 0, 0, 0), (1001, 0, .iload_n 3, 1, 0, 0, 0), (1002, 0, .iconst 1, 1, 0, 0, 0), (1003, 1, .iadd, 1, 0, 0, 0), (1004, 3, .iaload, 1, 0, 0, 0)]
def C_146_12 : List ai_E := [(1005, 0, .aload_n 0, 1, 0, 0, 0), (1006, 0, .iload_n 3, 1, 0, 0, 0), (1007, 0, .iconst 2, 1, 0, 0, 0), (1008, 1, .iadd, 1, 0, 0, 0), (1009, 3, .iaload, 1, 0, 0, 0), (1010, 0, .aload_n 0, 1, 0, 0, 0), (1011, 0, .iload_n 3, 1, 0, 0, 0), (1012, 0, .iconst 3, 1, 0, 0, 0), (1013, 1, .iadd, 1, 0, 0, 0), (1014, 3, .iaload, 1, 0, 0, 0), (1015, 4, .invokevirtual 104, 3, 135, 0, 0), (1018, 2, .if_icmp .eq 953, 3, 1971, 0, 0), (1023, 0, .aload_n 1, 1, 0, 0, 0), (1024, 0, .aload_n 0, 1, 0, 0, 0), (1025, 0, .iload_n 3, 1, 0, 0, 0), (1026, 0, .iconst 1, 1, 0, 0, 0), (1027, 1, .iadd, 1, 0, 0, 0), (1028, 3, .iaload, 1, 0, 0, 0), (1029, 0, .aload_n 0, 1, 0, 0, 0), (1030, 0, .iload_n 3, 1, 0, 0, 0), (1031, 0, .iconst 2, 1, 0, 0, 0), (1032, 1, .iadd, 1, 0, 0, 0), (1033, 3, .iaload, 1, 0, 0, 0), (1034, 4, .invokevirtual 105, 3, 36, 0, 0), (1037, 0, .aload_n 2, 1, 0, 0, 0), (1038, 0, .aload_n 0, 1, 0, 0, 0), (1039, 0, .iload_n 3, 1, 0, 0, 0), (1040, 0, .iconst 1, 1, 0, 0, 0), (1041, 1, .iadd, 1, 0, 0, 0), (1042, 3, .iaload, 1, 0, 0, 0), (1043, 0, .aload_n 0, 1, 0, 0, 0), (1044, 0, .iload_n 3, 1, 0, 0, 0), (1045, 0, .iconst 2, 1, 0, 0, 0), (1046, 1, .iadd, 1, 0, 0, 0), (1047, 3, .iaload, 1, 0, 0, 0), (1048, 4, .invokevirtual 108, 3, 122, 0, 0), (1051, 2, .if_icmp .eq 920, 3, 1971, 0, 0), (1056, 0, .aload_n 1, 1, 0, 0, 0), (1057, 0, .aload_n 0, 1, 0, 0, 0), (1058, 0, .iload_n 3, 1, 0, 0, 0), (1059, 0, .iconst 1, 1, 0, 0, 0), (1060, 1, .iadd, 1, 0, 0, 0), (1061, 3, .iaload, 1, 0, 0, 0), (1062, 0, .aload_n 0, 1, 0, 0, 0), (1063, 0, .iload_n 3, 1, 0, 0, 0), (1064, 0, .iconst 2, 1, 0, 0, 0), (1065, 1, .iadd, 1, 0, 0, 0), (1066, 3, .iaload, 1, 0, 0, 0), (1067, 0, .aload_n 0, 1, 0, 0, 0), (1068, 0, .iload_n 3, 1, 0, 0, 0)]
def C_146_13 : List ai_E := [(1069, 0, .iconst 3, 1, 0, 0, 0), (1070, 1, .iadd, 1, 0, 0, 0), (1071, 3, .iaload, 1, 0, 0, 0), (1072, 4, .invokevirtual 109, 3, 8, 0, 0), (1075, 0, .aload_n 2, 1, 0, 0, 0), (1076, 0, .aload_n 0, 1, 0, 0, 0), (1077, 0, .iload_n 3, 1, 0, 0, 0), (1078, 0, .iconst 1, 1, 0, 0, 0), (1079, 1, .iadd, 1, 0, 0, 0), (1080, 3, .iaload, 1, 0, 0, 0), (1081, 0, .aload_n 0, 1, 0, 0, 0), (1082, 0, .iload_n 3, 1, 0, 0, 0), (1083, 0, .iconst 2, 1, 0, 0, 0), (1084, 1, .iadd, 1, 0, 0, 0), (1085, 3, .iaload, 1, 0, 0, 0), (1086, 0, .aload_n 0, 1, 0, 0, 0), (1087, 0, .iload_n 3, 1, 0, 0, 0), (1088, 0, .iconst 3, 1, 0, 0, 0), (1089, 1, .iadd, 1, 0, 0, 0), (1090, 3, .iaload, 1, 0, 0, 0), (1091, 4, .invokevirtual 112, 3, 87, 0, 0), (1094, 2, .if_icmp .eq 877, 3, 1971, 0, 0), (1099, 0, .aload_n 1, 1, 0, 0, 0), (1100, 0, .aload_n 0, 1, 0, 0, 0), (1101, 0, .iload_n 3, 1, 0, 0, 0), (1102, 0, .iconst 1, 1, 0, 0, 0), (1103, 1, .iadd, 1, 0, 0, 0), (1104, 3, .iaload, 1, 0, 0, 0), (1105, 0, .aload_n 0, 1, 0, 0, 0), (1106, 0, .iload_n 3, 1, 0, 0, 0), (1107, 0, .iconst 2, 1, 0, 0, 0), (1108, 1, .iadd, 1, 0, 0, 0), (1109, 3, .iaload, 1, 0, 0, 0), (1110, 0, .aload_n 0, 1, 0, 0, 0), (1111, 0, .iload_n 3, 1, 0, 0, 0), (1112, 0, .iconst 3, 1, 0, 0, 0), (1113, 1, .iadd, 1, 0, 0, 0), (1114, 3, .iaload, 1, 0, 0, 0), (1115, 4, .invokevirtual 113, 3, 35, 0, 0), (1118, 0, .aload_n 2, 1, 0, 0, 0), (1119, 0, .aload_n 0, 1, 0, 0, 0), (1120, 0, .iload_n 3, 1, 0, 0, 0), (1121, 0, .iconst 1, 1, 0, 0, 0), (1122, 1, .iadd, 1, 0, 0, 0), (1123, 3, .iaload, 1, 0, 0, 0), (1124, 0, .aload_n 0, 1, 0, 0, 0), (1125, 0, .iload_n 3, 1, 0, 0, 0), (1126, 0, .iconst 2, 1, 0, 0, 0), (1127, 1, .iadd, 1, 0, 0, 0), (1128, 3, .iaload, 1, 0, 0, 0)]
def C_146_14 : List ai_E := [(1129, 0, .aload_n 0, 1, 0, 0, 0), (1130, 0, .iload_n 3, 1, 0, 0, 0), (1131, 0, .iconst 3, 1, 0, 0, 0), (1132, 1, .iadd, 1, 0, 0, 0), (1133, 3, .iaload, 1, 0, 0, 0), (1134, 4, .invokevirtual 116, 3, 121, 0, 0), (1137, 2, .if_icmp .eq 834, 3, 1971, 0, 0), (1142, 0, .aload_n 1, 1, 0, 0, 0), (1143, 0, .aload_n 0, 1, 0, 0, 0), (1144, 0, .iload_n 3, 1, 0, 0, 0), (1145, 0, .iconst 1, 1, 0, 0, 0), (1146, 1, .iadd, 1, 0, 0, 0), (1147, 3, .iaload, 1, 0, 0, 0), (1148, 0, .aload_n 0, 1, 0, 0, 0), (1149, 0, .iload_n 3, 1, 0, 0, 0), (1150, 0, .iconst 2, 1, 0, 0, 0), (1151, 1, .iadd, 1, 0, 0, 0), (1152, 3, .iaload, 1, 0, 0, 0), (1153, 0, .aload_n 0, 1, 0, 0, 0), (1154, 0, .iload_n 3, 1, 0, 0, 0), (1155, 0, .iconst 3, 1, 0, 0, 0), (1156, 1, .iadd, 1, 0, 0, 0), (1157, 3, .iaload, 1, 0, 0, 0), (1158, 0, .aload_n 0, 1, 0, 0, 0), (1159, 0, .iload_n 3, 1, 0, 0, 0), (1160, 0, .iconst 4, 1, 0, 0, 0), (1161, 1, .iadd, 1, 0, 0, 0), (1162, 3, .iaload, 1, 0, 0, 0), (1163, 4, .invokevirtual 117, 3, 12, 0, 0), (1166, 0, .aload_n 2, 1, 0, 0, 0), (1167, 0, .aload_n 0, 1, 0, 0, 0), (1168, 0, .iload_n 3, 1, 0, 0, 0), (1169, 0, .iconst 1, 1, 0, 0, 0), (1170, 1, .iadd, 1, 0, 0, 0), (1171, 3, .iaload, 1, 0, 0, 0), (1172, 0, .aload_n 0, 1, 0, 0, 0), (1173, 0, .iload_n 3, 1, 0, 0, 0), (1174, 0, .iconst 2, 1, 0, 0, 0), (1175, 1, .iadd, 1, 0, 0, 0), (1176, 3, .iaload, 1, 0, 0, 0), (1177, 0, .aload_n 0, 1, 0, 0, 0), (1178, 0, .iload_n 3, 1, 0, 0, 0), (1179, 0, .iconst 3, 1, 0, 0, 0), (1180, 1, .iadd, 1, 0, 0, 0), (1181, 3, .iaload, 1, 0, 0, 0), (1182, 0, .aload_n 0, 1, 0, 0, 0), (1183, 0, .iload_n 3, 1, 0, 0, 0), (1184, 0, .iconst 4, 1, 0, 0, 0), (1185, 1, .iadd, 1, 0, 0, 0), (1186, 3, .iaload, 1, 0, 0, 0)]
def C_146_15 : List ai_E := [(1187, 4, .invokevirtual 120, 3, 91, 0, 0), (1190, 2, .if_icmp .eq 781, 3, 1971, 0, 0), (1195, 0, .aload_n 1, 1, 0, 0, 0), (1196, 0, .aload_n 0, 1, 0, 0, 0), (1197, 0, .iload_n 3, 1, 0, 0, 0), (1198, 0, .iconst 1, 1, 0, 0, 0), (1199, 1, .iadd, 1, 0, 0, 0), (1200, 3, .iaload, 1, 0, 0, 0), (1201, 0, .aload_n 0, 1, 0, 0, 0), (1202, 0, .iload_n 3, 1, 0, 0, 0), (1203, 0, .iconst 2, 1, 0, 0, 0), (1204, 1, .iadd, 1, 0, 0, 0), (1205, 3, .iaload, 1, 0, 0, 0), (1206, 0, .aload_n 0, 1, 0, 0, 0), (1207, 0, .iload_n 3, 1, 0, 0, 0), (1208, 0, .iconst 3, 1, 0, 0, 0), (1209, 1, .iadd, 1, 0, 0, 0), (1210, 3, .iaload, 1, 0, 0, 0), (1211, 4, .invokevirtual 121, 3, 13, 0, 0), (1214, 0, .aload_n 2, 1, 0, 0, 0), (1215, 0, .aload_n 0, 1, 0, 0, 0), (1216, 0, .iload_n 3, 1, 0, 0, 0), (1217, 0, .iconst 1, 1, 0, 0, 0), (1218, 1, .iadd, 1, 0, 0, 0), (1219, 3, .iaload, 1, 0, 0, 0), (1220, 0, .aload_n 0, 1, 0, 0, 0), (1221, 0, .iload_n 3, 1, 0, 0, 0), (1222, 0, .iconst 2, 1, 0, 0, 0), (1223, 1, .iadd, 1, 0, 0, 0), (1224, 3, .iaload, 1, 0, 0, 0), (1225, 0, .aload_n 0, 1, 0, 0, 0), (1226, 0, .iload_n 3, 1, 0, 0, 0), (1227, 0, .iconst 3, 1, 0, 0, 0), (1228, 1, .iadd, 1, 0, 0, 0), (1229, 3, .iaload, 1, 0, 0, 0), (1230, 4, .invokevirtual 124, 3, 92, 0, 0), (1233, 2, .if_icmp .eq 738, 3, 1971, 0, 0), (1238, 0, .aload_n 1, 1, 0, 0, 0), (1239, 0, .aload_n 0, 1, 0, 0, 0), (1240, 0, .iload_n 3, 1, 0, 0, 0), (1241, 0, .iconst 1, 1, 0, 0, 0), (1242, 1, .iadd, 1, 0, 0, 0), (1243, 3, .iaload, 1, 0, 0, 0), (1244, 0, .aload_n 0, 1, 0, 0, 0), (1245, 0, .iload_n 3, 1, 0, 0, 0), (1246, 0, .iconst 2, 1, 0, 0, 0), (1247, 1, .iadd, 1, 0, 0, 0), (1248, 3, .iaload, 1, 0, 0, 0), (1249, 4, .invokevirtual 125, 3, 51, 0, 0), (1252, 0, .aload_n 2, 1, 0, 0, 0)]
def C_146_16 : List ai_E := [(1253, 0, .aload_n 0, 1, 0, 0, 0), (1254, 0, .iload_n 3, 1, 0, 0, 0), (1255, 0, .iconst 1, 1, 0, 0, 0), (1256, 1, .iadd, 1, 0, 0, 0), (1257, 3, .iaload, 1, 0, 0, 0), (1258, 0, .aload_n 0, 1, 0, 0, 0), (1259, 0, .iload_n 3, 1, 0, 0, 0), (1260, 0, .iconst 2, 1, 0, 0, 0), (1261, 1, .iadd, 1, 0, 0, 0), (1262, 3, .iaload, 1, 0, 0, 0), (1263, 4, .invokevirtual 128, 3, 136, 0, 0), (1266, 2, .if_icmp .eq 705, 3, 1971, 0, 0), (1271, 0, .aload_n 1, 1, 0, 0, 0), (1272, 0, .aload_n 0, 1, 0, 0, 0), (1273, 0, .iload_n 3, 1, 0, 0, 0), (1274, 0, .iconst 1, 1, 0, 0, 0), (1275, 1, .iadd, 1, 0, 0, 0), (1276, 3, .iaload, 1, 0, 0, 0), (1277, 0, .aload_n 0, 1, 0, 0, 0), (1278, 0, .iload_n 3, 1, 0, 0, 0), (1279, 0, .iconst 2, 1, 0, 0, 0), (1280, 1, .iadd, 1, 0, 0, 0), (1281, 3, .iaload, 1, 0, 0, 0), (1282, 4, .invokevirtual 129, 3, 33, 0, 0), (1285, 0, .aload_n 2, 1, 0, 0, 0), (1286, 0, .aload_n 0, 1, 0, 0, 0), (1287, 0, .iload_n 3, 1, 0, 0, 0), (1288, 0, .iconst 1, 1, 0, 0, 0), (1289, 1, .iadd, 1, 0, 0, 0), (1290, 3, .iaload, 1, 0, 0, 0), (1291, 0, .aload_n 0, 1, 0, 0, 0), (1292, 0, .iload_n 3, 1, 0, 0, 0), (1293, 0, .iconst 2, 1, 0, 0, 0), (1294, 1, .iadd, 1, 0, 0, 0), (1295, 3, .iaload, 1, 0, 0, 0), (1296, 4, .invokevirtual 132, 3, 118, 0, 0), (1299, 2, .if_icmp .eq 672, 3, 1971, 0, 0), (1304, 0, .aload_n 1, 1, 0, 0, 0), (1305, 0, .aload_n 0, 1, 0, 0, 0), (1306, 0, .iload_n 3, 1, 0, 0, 0), (1307, 0, .iconst 1, 1, 0, 0, 0), (1308, 1, .iadd, 1, 0, 0, 0), (1309, 3, .iaload, 1, 0, 0, 0), (1310, 0, .aload_n 0, 1, 0, 0, 0), (1311, 0, .iload_n 3, 1, 0, 0, 0), (1312, 0, .iconst 2, 1, 0, 0, 0), (1313, 1, .iadd, 1, 0, 0, 0), (1314, 3, .iaload, 1, 0, 0, 0), (1315, 4, .invokevirtual 133, 3, 46, 0, 0), (1318, 0, .aload_n 2, 1, 0, 0, 0)]
def C_146_17 : List ai_E := [(1319, 0, .aload_n 0, 1, 0, 0, 0), (1320, 0, .iload_n 3, 1, 0, 0, 0), (1321, 0, .iconst 1, 1, 0, 0, 0), (1322, 1, .iadd, 1, 0, 0, 0), (1323, 3, .iaload, 1, 0, 0, 0), (1324, 0, .aload_n 0, 1, 0, 0, 0), (1325, 0, .iload_n 3, 1, 0, 0, 0), (1326, 0, .iconst 2, 1, 0, 0, 0), (1327, 1, .iadd, 1, 0, 0, 0), (1328, 3, .iaload, 1, 0, 0, 0), (1329, 4, .invokevirtual 136, 3, 131, 0, 0), (1332, 2, .if_icmp .eq 639, 3, 1971, 0, 0), (1337, 0, .aload_n 1, 1, 0, 0, 0), (1338, 0, .aload_n 0, 1, 0, 0, 0), (1339, 0, .iload_n 3, 1, 0, 0, 0), (1340, 0, .iconst 1, 1, 0, 0, 0), (1341, 1, .iadd, 1, 0, 0, 0), (1342, 3, .iaload, 1, 0, 0, 0), (1343, 0, .aload_n 0, 1, 0, 0, 0), (1344, 0, .iload_n 3, 1, 0, 0, 0), (1345, 0, .iconst 2, 1, 0, 0, 0), (1346, 1, .iadd, 1, 0, 0, 0), (1347, 3, .iaload, 1, 0, 0, 0), (1348, 0, .aload_n 0, 1, 0, 0, 0), (1349, 0, .iload_n 3, 1, 0, 0, 0), (1350, 0, .iconst 3, 1, 0, 0, 0), (1351, 1, .iadd, 1, 0, 0, 0), (1352, 3, .iaload, 1, 0, 0, 0), (1353, 4, .invokevirtual 137, 3, 27, 0, 0), (1356, 0, .aload_n 2, 1, 0, 0, 0), (1357, 0, .aload_n 0, 1, 0, 0, 0), (1358, 0, .iload_n 3, 1, 0, 0, 0), (1359, 0, .iconst 1, 1, 0, 0, 0), (1360, 1, .iadd, 1, 0, 0, 0), (1361, 3, .iaload, 1, 0, 0, 0), (1362, 0, .aload_n 0, 1, 0, 0, 0), (1363, 0, .iload_n 3, 1, 0, 0, 0), (1364, 0, .iconst 2, 1, 0, 0, 0), (1365, 1, .iadd, 1, 0, 0, 0), (1366, 3, .iaload, 1, 0, 0, 0), (1367, 0, .aload_n 0, 1, 0, 0, 0), (1368, 0, .iload_n 3, 1, 0, 0, 0), (1369, 0, .iconst 3, 1, 0, 0, 0), (1370, 1, .iadd, 1, 0, 0, 0), (1371, 3, .iaload, 1, 0, 0, 0), (1372, 4, .invokevirtual 140, 3, 109, 0, 0), (1375, 2, .if_icmp .eq 596, 3, 1971, 0, 0), (1380, 0, .aload_n 1, 1, 0, 0, 0), (1381, 0, .aload_n 0, 1, 0, 0, 0), (1382, 0, .iload_n 3, 1, 0, 0, 0)]
def C_146_18 : List ai_E := [(1383, 0, .iconst 1, 1, 0, 0, 0), (1384, 1, .iadd, 1, 0, 0, 0), (1385, 3, .iaload, 1, 0, 0, 0), (1386, 0, .aload_n 0, 1, 0, 0, 0), (1387, 0, .iload_n 3, 1, 0, 0, 0), (1388, 0, .iconst 2, 1, 0, 0, 0), (1389, 1, .iadd, 1, 0, 0, 0), (1390, 3, .iaload, 1, 0, 0, 0), (1391, 0, .aload_n 0, 1, 0, 0, 0), (1392, 0, .iload_n 3, 1, 0, 0, 0), (1393, 0, .iconst 3, 1, 0, 0, 0), (1394, 1, .iadd, 1, 0, 0, 0), (1395, 3, .iaload, 1, 0, 0, 0), (1396, 4, .invokevirtual 141, 3, 10, 0, 0), (1399, 0, .aload_n 2, 1, 0, 0, 0), (1400, 0, .aload_n 0, 1, 0, 0, 0), (1401, 0, .iload_n 3, 1, 0, 0, 0), (1402, 0, .iconst 1, 1, 0, 0, 0), (1403, 1, .iadd, 1, 0, 0, 0), (1404, 3, .iaload, 1, 0, 0, 0), (1405, 0, .aload_n 0, 1, 0, 0, 0), (1406, 0, .iload_n 3, 1, 0, 0, 0), (1407, 0, .iconst 2, 1, 0, 0, 0), (1408, 1, .iadd, 1, 0, 0, 0), (1409, 3, .iaload, 1, 0, 0, 0), (1410, 0, .aload_n 0, 1, 0, 0, 0), (1411, 0, .iload_n 3, 1, 0, 0, 0), (1412, 0, .iconst 3, 1, 0, 0, 0), (1413, 1, .iadd, 1, 0, 0, 0), (1414, 3, .iaload, 1, 0, 0, 0), (1415, 4, .invokevirtual 144, 3, 89, 0, 0), (1418, 2, .if_icmp .eq 553, 3, 1971, 0, 0), (1423, 0, .aload_n 1, 1, 0, 0, 0), (1424, 0, .aload_n 0, 1, 0, 0, 0), (1425, 0, .iload_n 3, 1, 0, 0, 0), (1426, 0, .iconst 1, 1, 0, 0, 0), (1427, 1, .iadd, 1, 0, 0, 0), (1428, 3, .iaload, 1, 0, 0, 0), (1429, 0, .aload_n 0, 1, 0, 0, 0), (1430, 0, .iload_n 3, 1, 0, 0, 0), (1431, 0, .iconst 2, 1, 0, 0, 0), (1432, 1, .iadd, 1, 0, 0, 0), (1433, 3, .iaload, 1, 0, 0, 0), (1434, 0, .aload_n 0, 1, 0, 0, 0), (1435, 0, .iload_n 3, 1, 0, 0, 0), (1436, 0, .iconst 3, 1, 0, 0, 0), (1437, 1, .iadd, 1, 0, 0, 0), (1438, 3, .iaload, 1, 0, 0, 0), (1439, 4, .invokevirtual 145, 3, 53, 0, 0), (1442, 0, .aload_n 2, 1, 0, 0, 0)]
def C_146_19 : List ai_E := [(1443, 0, .aload_n 0, 1, 0, 0, 0), (1444, 0, .iload_n 3, 1, 0, 0, 0), (1445, 0, .iconst 1, 1, 0, 0, 0), (1446, 1, .iadd, 1, 0, 0, 0), (1447, 3, .iaload, 1, 0, 0, 0), (1448, 0, .aload_n 0, 1, 0, 0, 0), (1449, 0, .iload_n 3, 1, 0, 0, 0), (1450, 0, .iconst 2, 1, 0, 0, 0), (1451, 1, .iadd, 1, 0, 0, 0), (1452, 3, .iaload, 1, 0, 0, 0), (1453, 0, .aload_n 0, 1, 0, 0, 0), (1454, 0, .iload_n 3, 1, 0, 0, 0), (1455, 0, .iconst 3, 1, 0, 0, 0), (1456, 1, .iadd, 1, 0, 0, 0), (1457, 3, .iaload, 1, 0, 0, 0), (1458, 4, .invokevirtual 148, 3, 140, 0, 0), (1461, 2, .if_icmp .eq 510, 3, 1971, 0, 0), (1466, 0, .aload_n 1, 1, 0, 0, 0), (1467, 0, .aload_n 0, 1, 0, 0, 0), (1468, 0, .iload_n 3, 1, 0, 0, 0), (1469, 0, .iconst 1, 1, 0, 0, 0), (1470, 1, .iadd, 1, 0, 0, 0), (1471, 3, .iaload, 1, 0, 0, 0), (1472, 0, .aload_n 0, 1, 0, 0, 0), (1473, 0, .iload_n 3, 1, 0, 0, 0), (1474, 0, .iconst 2, 1, 0, 0, 0), (1475, 1, .iadd, 1, 0, 0, 0), (1476, 3, .iaload, 1, 0, 0, 0), (1477, 4, .invokevirtual 149, 3, 38, 0, 0), (1480, 0, .aload_n 2, 1, 0, 0, 0), (1481, 0, .aload_n 0, 1, 0, 0, 0), (1482, 0, .iload_n 3, 1, 0, 0, 0), (1483, 0, .iconst 1, 1, 0, 0, 0), (1484, 1, .iadd, 1, 0, 0, 0), (1485, 3, .iaload, 1, 0, 0, 0), (1486, 0, .aload_n 0, 1, 0, 0, 0), (1487, 0, .iload_n 3, 1, 0, 0, 0), (1488, 0, .iconst 2, 1, 0, 0, 0), (1489, 1, .iadd, 1, 0, 0, 0), (1490, 3, .iaload, 1, 0, 0, 0), (1491, 4, .invokevirtual 152, 3, 125, 0, 0), (1494, 2, .if_icmp .eq 477, 3, 1971, 0, 0), (1499, 0, .aload_n 1, 1, 0, 0, 0), (1500, 0, .aload_n 0, 1, 0, 0, 0), (1501, 0, .iload_n 3, 1, 0, 0, 0), (1502, 0, .iconst 1, 1, 0, 0, 0), (1503, 1, .iadd, 1, 0, 0, 0), (1504, 3, .iaload, 1, 0, 0, 0), (1505, 0, .aload_n 0, 1, 0, 0, 0), (1506, 0, .iload_n 3, 1, 0, 0, 0)]
def C_146_20 : List ai_E := [(1507, 0, .iconst 2, 1, 0, 0, 0), (1508, 1, .iadd, 1, 0, 0, 0), (1509, 3, .iaload, 1, 0, 0, 0), (1510, 4, .invokevirtual 153, 3, 5, 0, 0), (1513, 0, .aload_n 2, 1, 0, 0, 0), (1514, 0, .aload_n 0, 1, 0, 0, 0), (1515, 0, .iload_n 3, 1, 0, 0, 0), (1516, 0, .iconst 1, 1, 0, 0, 0), (1517, 1, .iadd, 1, 0, 0, 0), (1518, 3, .iaload, 1, 0, 0, 0), (1519, 0, .aload_n 0, 1, 0, 0, 0), (1520, 0, .iload_n 3, 1, 0, 0, 0), (1521, 0, .iconst 2, 1, 0, 0, 0), (1522, 1, .iadd, 1, 0, 0, 0), (1523, 3, .iaload, 1, 0, 0, 0), (1524, 4, .invokevirtual 156, 3, 85, 0, 0), (1527, 2, .if_icmp .eq 444, 3, 1971, 0, 0), (1532, 0, .aload_n 1, 1, 0, 0, 0), (1533, 0, .aload_n 0, 1, 0, 0, 0), (1534, 0, .iload_n 3, 1, 0, 0, 0), (1535, 0, .iconst 1, 1, 0, 0, 0), (1536, 1, .iadd, 1, 0, 0, 0), (1537, 3, .iaload, 1, 0, 0, 0), (1538, 0, .aload_n 0, 1, 0, 0, 0), (1539, 0, .iload_n 3, 1, 0, 0, 0), (1540, 0, .iconst 2, 1, 0, 0, 0), (1541, 1, .iadd, 1, 0, 0, 0), (1542, 3, .iaload, 1, 0, 0, 0), (1543, 4, .invokevirtual 157, 3, 18, 0, 0), (1546, 0, .aload_n 2, 1, 0, 0, 0), (1547, 0, .aload_n 0, 1, 0, 0, 0), (1548, 0, .iload_n 3, 1, 0, 0, 0), (1549, 0, .iconst 1, 1, 0, 0, 0), (1550, 1, .iadd, 1, 0, 0, 0), (1551, 3, .iaload, 1, 0, 0, 0), (1552, 0, .aload_n 0, 1, 0, 0, 0), (1553, 0, .iload_n 3, 1, 0, 0, 0), (1554, 0, .iconst 2, 1, 0, 0, 0), (1555, 1, .iadd, 1, 0, 0, 0), (1556, 3, .iaload, 1, 0, 0, 0), (1557, 4, .invokevirtual 160, 3, 97, 0, 0), (1560, 2, .if_icmp .eq 411, 3, 1971, 0, 0), (1565, 0, .aload_n 1, 1, 0, 0, 0), (1566, 0, .aload_n 0, 1, 0, 0, 0), (1567, 0, .iload_n 3, 1, 0, 0, 0), (1568, 0, .iconst 1, 1, 0, 0, 0), (1569, 1, .iadd, 1, 0, 0, 0), (1570, 3, .iaload, 1, 0, 0, 0), (1571, 0, .aload_n 0, 1, 0, 0, 0), (1572, 0, .iload_n 3, 1, 0, 0, 0)]
def C_146_21 : List ai_E := [(1573, 0, .iconst 2, 1, 0, 0, 0), (1574, 1, .iadd, 1, 0, 0, 0), (1575, 3, .iaload, 1, 0, 0, 0), (1576, 4, .invokevirtual 161, 3, 28, 0, 0), (1579, 0, .aload_n 2, 1, 0, 0, 0), (1580, 0, .aload_n 0, 1, 0, 0, 0), (1581, 0, .iload_n 3, 1, 0, 0, 0), (1582, 0, .iconst 1, 1, 0, 0, 0), (1583, 1, .iadd, 1, 0, 0, 0), (1584, 3, .iaload, 1, 0, 0, 0), (1585, 0, .aload_n 0, 1, 0, 0, 0), (1586, 0, .iload_n 3, 1, 0, 0, 0), (1587, 0, .iconst 2, 1, 0, 0, 0), (1588, 1, .iadd, 1, 0, 0, 0), (1589, 3, .iaload, 1, 0, 0, 0), (1590, 4, .invokevirtual 164, 3, 110, 0, 0), (1593, 2, .if_icmp .eq 378, 3, 1971, 0, 0), (1598, 0, .aload_n 1, 1, 0, 0, 0), (1599, 0, .aload_n 0, 1, 0, 0, 0), (1600, 0, .iload_n 3, 1, 0, 0, 0), (1601, 0, .iconst 1, 1, 0, 0, 0), (1602, 1, .iadd, 1, 0, 0, 0), (1603, 3, .iaload, 1, 0, 0, 0), (1604, 0, .aload_n 0, 1, 0, 0, 0), (1605, 0, .iload_n 3, 1, 0, 0, 0), (1606, 0, .iconst 2, 1, 0, 0, 0), (1607, 1, .iadd, 1, 0, 0, 0), (1608, 3, .iaload, 1, 0, 0, 0), (1609, 4, .invokevirtual 165, 3, 19, 0, 0), (1612, 0, .aload_n 2, 1, 0, 0, 0), (1613, 0, .aload_n 0, 1, 0, 0, 0), (1614, 0, .iload_n 3, 1, 0, 0, 0), (1615, 0, .iconst 1, 1, 0, 0, 0), (1616, 1, .iadd, 1, 0, 0, 0), (1617, 3, .iaload, 1, 0, 0, 0), (1618, 0, .aload_n 0, 1, 0, 0, 0), (1619, 0, .iload_n 3, 1, 0, 0, 0), (1620, 0, .iconst 2, 1, 0, 0, 0), (1621, 1, .iadd, 1, 0, 0, 0), (1622, 3, .iaload, 1, 0, 0, 0), (1623, 4, .invokevirtual 168, 3, 98, 0, 0), (1626, 2, .if_icmp .eq 345, 3, 1971, 0, 0), (1631, 0, .aload_n 1, 1, 0, 0, 0), (1632, 0, .aload_n 0, 1, 0, 0, 0), (1633, 0, .iload_n 3, 1, 0, 0, 0), (1634, 0, .iconst 1, 1, 0, 0, 0), (1635, 1, .iadd, 1, 0, 0, 0), (1636, 3, .iaload, 1, 0, 0, 0), (1637, 0, .aload_n 0, 1, 0, 0, 0), (1638, 0, .iload_n 3, 1, 0, 0, 0)]
def C_146_22 : List ai_E := [(1639, 0, .iconst 2, 1, 0, 0, 0), (1640, 1, .iadd, 1, 0, 0, 0), (1641, 3, .iaload, 1, 0, 0, 0), (1642, 4, .invokevirtual 169, 3, 47, 0, 0), (1645, 0, .aload_n 2, 1, 0, 0, 0), (1646, 0, .aload_n 0, 1, 0, 0, 0), (1647, 0, .iload_n 3, 1, 0, 0, 0), (1648, 0, .iconst 1, 1, 0, 0, 0), (1649, 1, .iadd, 1, 0, 0, 0), (1650, 3, .iaload, 1, 0, 0, 0), (1651, 0, .aload_n 0, 1, 0, 0, 0), (1652, 0, .iload_n 3, 1, 0, 0, 0), (1653, 0, .iconst 2, 1, 0, 0, 0), (1654, 1, .iadd, 1, 0, 0, 0), (1655, 3, .iaload, 1, 0, 0, 0), (1656, 4, .invokevirtual 172, 3, 132, 0, 0), (1659, 2, .if_icmp .eq 312, 3, 1971, 0, 0), (1664, 0, .aload_n 1, 1, 0, 0, 0), (1665, 0, .aload_n 0, 1, 0, 0, 0), (1666, 0, .iload_n 3, 1, 0, 0, 0), (1667, 0, .iconst 1, 1, 0, 0, 0), (1668, 1, .iadd, 1, 0, 0, 0), (1669, 3, .iaload, 1, 0, 0, 0), (1670, 4, .invokevirtual 173, 3, 14, 0, 0), (1673, 0, .aload_n 2, 1, 0, 0, 0), (1674, 0, .aload_n 0, 1, 0, 0, 0), (1675, 0, .iload_n 3, 1, 0, 0, 0), (1676, 0, .iconst 1, 1, 0, 0, 0), (1677, 1, .iadd, 1, 0, 0, 0), (1678, 3, .iaload, 1, 0, 0, 0), (1679, 4, .invokevirtual 176, 3, 93, 0, 0), (1682, 2, .if_icmp .eq 289, 3, 1971, 0, 0), (1687, 0, .aload_n 1, 1, 0, 0, 0), (1688, 0, .aload_n 0, 1, 0, 0, 0), (1689, 0, .iload_n 3, 1, 0, 0, 0), (1690, 0, .iconst 1, 1, 0, 0, 0), (1691, 1, .iadd, 1, 0, 0, 0), (1692, 3, .iaload, 1, 0, 0, 0), (1693, 0, .aload_n 0, 1, 0, 0, 0), (1694, 0, .iload_n 3, 1, 0, 0, 0), (1695, 0, .iconst 2, 1, 0, 0, 0), (1696, 1, .iadd, 1, 0, 0, 0), (1697, 3, .iaload, 1, 0, 0, 0), (1698, 4, .invokevirtual 177, 3, 43, 0, 0), (1701, 0, .aload_n 2, 1, 0, 0, 0), (1702, 0, .aload_n 0, 1, 0, 0, 0), (1703, 0, .iload_n 3, 1, 0, 0, 0), (1704, 0, .iconst 1, 1, 0, 0, 0), (1705, 1, .iadd, 1, 0, 0, 0), (1706, 3, .iaload, 1, 0, 0, 0)]
def C_146_23 : List ai_E := [(1707, 0, .aload_n 0, 1, 0, 0, 0), (1708, 0, .iload_n 3, 1, 0, 0, 0), (1709, 0, .iconst 2, 1, 0, 0, 0), (1710, 1, .iadd, 1, 0, 0, 0), (1711, 3, .iaload, 1, 0, 0, 0), (1712, 4, .invokevirtual 180, 3, 130, 0, 0), (1715, 2, .if_icmp .eq 256, 3, 1971, 0, 0), (1720, 0, .aload_n 1, 1, 0, 0, 0), (1721, 0, .aload_n 0, 1, 0, 0, 0), (1722, 0, .iload_n 3, 1, 0, 0, 0), (1723, 0, .iconst 1, 1, 0, 0, 0), (1724, 1, .iadd, 1, 0, 0, 0), (1725, 3, .iaload, 1, 0, 0, 0), (1726, 0, .aload_n 0, 1, 0, 0, 0), (1727, 0, .iload_n 3, 1, 0, 0, 0), (1728, 0, .iconst 2, 1, 0, 0, 0), (1729, 1, .iadd, 1, 0, 0, 0), (1730, 3, .iaload, 1, 0, 0, 0), (1731, 0, .aload_n 0, 1, 0, 0, 0), (1732, 0, .iload_n 3, 1, 0, 0, 0), (1733, 0, .iconst 3, 1, 0, 0, 0), (1734, 1, .iadd, 1, 0, 0, 0), (1735, 3, .iaload, 1, 0, 0, 0), (1736, 4, .invokevirtual 181, 3, 32, 0, 0), (1739, 0, .aload_n 2, 1, 0, 0, 0), (1740, 0, .aload_n 0, 1, 0, 0, 0), (1741, 0, .iload_n 3, 1, 0, 0, 0), (1742, 0, .iconst 1, 1, 0, 0, 0), (1743, 1, .iadd, 1, 0, 0, 0), (1744, 3, .iaload, 1, 0, 0, 0), (1745, 0, .aload_n 0, 1, 0, 0, 0), (1746, 0, .iload_n 3, 1, 0, 0, 0), (1747, 0, .iconst 2, 1, 0, 0, 0), (1748, 1, .iadd, 1, 0, 0, 0), (1749, 3, .iaload, 1, 0, 0, 0), (1750, 0, .aload_n 0, 1, 0, 0, 0), (1751, 0, .iload_n 3, 1, 0, 0, 0), (1752, 0, .iconst 3, 1, 0, 0, 0), (1753, 1, .iadd, 1, 0, 0, 0), (1754, 3, .iaload, 1, 0, 0, 0), (1755, 4, .invokevirtual 184, 3, 115, 0, 0), (1758, 2, .if_icmp .eq 213, 3, 1971, 0, 0), (1763, 0, .aload_n 1, 1, 0, 0, 0), (1764, 0, .aload_n 0, 1, 0, 0, 0), (1765, 0, .iload_n 3, 1, 0, 0, 0), (1766, 0, .iconst 1, 1, 0, 0, 0), (1767, 1, .iadd, 1, 0, 0, 0), (1768, 3, .iaload, 1, 0, 0, 0), (1769, 0, .aload_n 0, 1, 0, 0, 0), (1770, 0, .iload_n 3, 1, 0, 0, 0)]
def C_146_24 : List ai_E := [(1771, 0, .iconst 2, 1, 0, 0, 0), (1772, 1, .iadd, 1, 0, 0, 0), (1773, 3, .iaload, 1, 0, 0, 0), (1774, 4, .invokevirtual 185, 3, 30, 0, 0), (1777, 0, .aload_n 2, 1, 0, 0, 0), (1778, 0, .aload_n 0, 1, 0, 0, 0), (1779, 0, .iload_n 3, 1, 0, 0, 0), (1780, 0, .iconst 1, 1, 0, 0, 0), (1781, 1, .iadd, 1, 0, 0, 0), (1782, 3, .iaload, 1, 0, 0, 0), (1783, 0, .aload_n 0, 1, 0, 0, 0), (1784, 0, .iload_n 3, 1, 0, 0, 0), (1785, 0, .iconst 2, 1, 0, 0, 0), (1786, 1, .iadd, 1, 0, 0, 0), (1787, 3, .iaload, 1, 0, 0, 0), (1788, 4, .invokevirtual 188, 3, 113, 0, 0), (1791, 2, .if_icmp .eq 180, 3, 1971, 0, 0), (1796, 0, .aload_n 1, 1, 0, 0, 0), (1797, 0, .aload_n 0, 1, 0, 0, 0), (1798, 0, .iload_n 3, 1, 0, 0, 0), (1799, 0, .iconst 1, 1, 0, 0, 0), (1800, 1, .iadd, 1, 0, 0, 0), (1801, 3, .iaload, 1, 0, 0, 0), (1802, 4, .invokevirtual 189, 3, 34, 0, 0), (1805, 0, .aload_n 2, 1, 0, 0, 0), (1806, 0, .aload_n 0, 1, 0, 0, 0), (1807, 0, .iload_n 3, 1, 0, 0, 0), (1808, 0, .iconst 1, 1, 0, 0, 0), (1809, 1, .iadd, 1, 0, 0, 0), (1810, 3, .iaload, 1, 0, 0, 0), (1811, 4, .invokevirtual 192, 3, 120, 0, 0), (1814, 2, .if_icmp .eq 157, 3, 1971, 0, 0), (1819, 0, .aload_n 1, 1, 0, 0, 0), (1820, 0, .aload_n 0, 1, 0, 0, 0), (1821, 0, .iload_n 3, 1, 0, 0, 0), (1822, 0, .iconst 1, 1, 0, 0, 0), (1823, 1, .iadd, 1, 0, 0, 0), (1824, 3, .iaload, 1, 0, 0, 0), (1825, 0, .aload_n 0, 1, 0, 0, 0), (1826, 0, .iload_n 3, 1, 0, 0, 0), (1827, 0, .iconst 2, 1, 0, 0, 0), (1828, 1, .iadd, 1, 0, 0, 0), (1829, 3, .iaload, 1, 0, 0, 0), (1830, 4, .invokevirtual 193, 3, 16, 0, 0), (1833, 0, .aload_n 2, 1, 0, 0, 0), (1834, 0, .aload_n 0, 1, 0, 0, 0), (1835, 0, .iload_n 3, 1, 0, 0, 0), (1836, 0, .iconst 1, 1, 0, 0, 0), (1837, 1, .iadd, 1, 0, 0, 0), (1838, 3, .iaload, 1, 0, 0, 0)]
def C_146_25 : List ai_E := [(1839, 0, .aload_n 0, 1, 0, 0, 0), (1840, 0, .iload_n 3, 1, 0, 0, 0), (1841, 0, .iconst 2, 1, 0, 0, 0), (1842, 1, .iadd, 1, 0, 0, 0), (1843, 3, .iaload, 1, 0, 0, 0), (1844, 4, .invokevirtual 196, 3, 95, 0, 0), (1847, 1, .lcmp, 1, 0, 0, 0), (1848, 2, .ifCond .eq 123, 3, 1971, 0, 0), (1853, 0, .aload_n 1, 1, 0, 0, 0), (1854, 0, .aload_n 0, 1, 0, 0, 0), (1855, 0, .iload_n 3, 1, 0, 0, 0), (1856, 0, .iconst 1, 1, 0, 0, 0), (1857, 1, .iadd, 1, 0, 0, 0), (1858, 3, .iaload, 1, 0, 0, 0), (1859, 0, .aload_n 0, 1, 0, 0, 0), (1860, 0, .iload_n 3, 1, 0, 0, 0), (1861, 0, .iconst 2, 1, 0, 0, 0), (1862, 1, .iadd, 1, 0, 0, 0), (1863, 3, .iaload, 1, 0, 0, 0), (1864, 4, .invokevirtual 197, 3, 4, 0, 0), (1867, 0, .aload_n 2, 1, 0, 0, 0), (1868, 0, .aload_n 0, 1, 0, 0, 0), (1869, 0, .iload_n 3, 1, 0, 0, 0), (1870, 0, .iconst 1, 1, 0, 0, 0), (1871, 1, .iadd, 1, 0, 0, 0), (1872, 3, .iaload, 1, 0, 0, 0), (1873, 0, .aload_n 0, 1, 0, 0, 0), (1874, 0, .iload_n 3, 1, 0, 0, 0), (1875, 0, .iconst 2, 1, 0, 0, 0), (1876, 1, .iadd, 1, 0, 0, 0), (1877, 3, .iaload, 1, 0, 0, 0), (1878, 4, .invokevirtual 200, 3, 83, 0, 0), (1881, 2, .if_icmp .eq 90, 3, 1971, 0, 0), (1886, 0, .aload_n 1, 1, 0, 0, 0), (1887, 4, .invokevirtual 201, 3, 49, 0, 0), (1890, 0, .aload_n 2, 1, 0, 0, 0), (1891, 4, .invokevirtual 204, 3, 134, 0, 0), (1894, 2, .if_icmp .eq 77, 3, 1971, 0, 0), (1899, 0, .aload_n 1, 1, 0, 0, 0), (1900, 0, .aload_n 0, 1, 0, 0, 0), (1901, 0, .iload_n 3, 1, 0, 0, 0), (1902, 0, .iconst 1, 1, 0, 0, 0), (1903, 1, .iadd, 1, 0, 0, 0), (1904, 3, .iaload, 1, 0, 0, 0), (1905, 4, .invokevirtual 205, 3, 41, 0, 0), (1908, 0, .aload_n 2, 1, 0, 0, 0), (1909, 0, .aload_n 0, 1, 0, 0, 0), (1910, 0, .iload_n 3, 1, 0, 0, 0), (1911, 0, .iconst 1, 1, 0, 0, 0), (1912, 1, .iadd, 1, 0, 0, 0)]
def C_146_26 : List ai_E := [(1913, 3, .iaload, 1, 0, 0, 0), (1914, 4, .invokevirtual 208, 3, 128, 0, 0), (1917, 2, .if_icmp .eq 54, 3, 1971, 0, 0), (1922, 0, .aload_n 1, 1, 0, 0, 0), (1923, 4, .invokevirtual 209, 3, 26, 0, 0), (1926, 0, .aload_n 2, 1, 0, 0, 0), (1927, 4, .invokevirtual 212, 3, 103, 0, 0), (1930, 2, .if_icmp .eq 41, 3, 1971, 0, 0), (1935, 0, .aload_n 1, 1, 0, 0, 0), (1936, 4, .invokevirtual 213, 3, 3, 0, 0), (1939, 0, .aload_n 2, 1, 0, 0, 0), (1940, 4, .invokevirtual 216, 3, 82, 0, 0), (1943, 2, .if_icmp .eq 28, 3, 1971, 0, 0), (1948, 0, .aload_n 1, 1, 0, 0, 0), (1949, 0, .aload_n 0, 1, 0, 0, 0), (1950, 0, .iload_n 3, 1, 0, 0, 0), (1951, 0, .iconst 1, 1, 0, 0, 0), (1952, 1, .iadd, 1, 0, 0, 0), (1953, 3, .iaload, 1, 0, 0, 0), (1954, 4, .invokevirtual 217, 3, 48, 0, 0), (1957, 0, .aload_n 2, 1, 0, 0, 0), (1958, 0, .aload_n 0, 1, 0, 0, 0), (1959, 0, .iload_n 3, 1, 0, 0, 0), (1960, 0, .iconst 1, 1, 0, 0, 0), (1961, 1, .iadd, 1, 0, 0, 0), (1962, 3, .iaload, 1, 0, 0, 0), (1963, 4, .invokevirtual 220, 3, 133, 0, 0), (1966, 2, .if_icmp .eq 5, 3, 1971, 0, 0), (1971, 0, .iinc 3 6, 3, 0, 0, 0), (1974, 2, .goto (-1956), 3, 18, 0, 0), (1977, 0, .iconst 1, 1, 0, 0, 0), (1978, 6, .ireturn, 1, 0, 0, 0)]
def M_146 : ai_M := (⟨"TheOtherRoomLaw", "law", "([I)Z"⟩, code, 4, some .boolean, 8, false, 1, C_146_0 ++ (C_146_1 ++ (C_146_2 ++ (C_146_3 ++ (C_146_4 ++ (C_146_5 ++ (C_146_6 ++ (C_146_7 ++ (C_146_8 ++ (C_146_9 ++ (C_146_10 ++ (C_146_11 ++ (C_146_12 ++ (C_146_13 ++ (C_146_14 ++ (C_146_15 ++ (C_146_16 ++ (C_146_17 ++ (C_146_18 ++ (C_146_19 ++ (C_146_20 ++ (C_146_21 ++ (C_146_22 ++ (C_146_23 ++ (C_146_24 ++ (C_146_25 ++ (C_146_26)))))))))))))))))))))))))))
def ai_mt : List ai_M := [M_0, M_1, M_2, M_3, M_4, M_5, M_6, M_7, M_8, M_9, M_10, M_11, M_12, M_13, M_14, M_15, M_16, M_17, M_18, M_19, M_20, M_21, M_22, M_23, M_24, M_25, M_26, M_27, M_28, M_29, M_30, M_31, M_32, M_33, M_34, M_35, M_36, M_37, M_38, M_39, M_40, M_41, M_42, M_43, M_44, M_45, M_46, M_47, M_48, M_49, M_50, M_51, M_52, M_53, M_54, M_55, M_56, M_57, M_58, M_59, M_60, M_61, M_62, M_63, M_64, M_65, M_66, M_67, M_68, M_69, M_70, M_71, M_72, M_73, M_74, M_75, M_76, M_77, M_78, M_79, M_80, M_81, M_82, M_83, M_84, M_85, M_86, M_87, M_88, M_89, M_90, M_91, M_92, M_93, M_94, M_95, M_96, M_97, M_98, M_99, M_100, M_101, M_102, M_103, M_104, M_105, M_106, M_107, M_108, M_109, M_110, M_111, M_112, M_113, M_114, M_115, M_116, M_117, M_118, M_119, M_120, M_121, M_122, M_123, M_124, M_125, M_126, M_127, M_128, M_129, M_130, M_131, M_132, M_133, M_134, M_135, M_136, M_137, M_138, M_139, M_140, M_141, M_142, M_143, M_144, M_145]
def ai_pl : Instr → Bool
  | .ldc2_w _ => false
  | .ldc _ => false
  | _ => true
theorem ek_0 {mt : List ai_M} {M : ai_M} {pc len a b : Nat} {ins : Instr} {z : Int} (hd : decode (ai_by M) pc = .ok (ins, len)) (hl : ai_len ins = len) (hn : ai_pl ins = true) : ai_EK mt M (pc, 0, ins, len, a, b, z) := ⟨hd, hl, (fun i h => by
  have h : ins = .ldc2_w i := h
  rw [h] at hn; cases hn), (fun i h => by
  have h : ins = .ldc i := h
  rw [h] at hn; cases hn)⟩
theorem ek_0l {mt : List ai_M} {M : ai_M} {pc a b i : Nat} {z : Int} (hd : decode (ai_by M) pc = .ok (.ldc2_w i, 3)) (hf : ∃ v : Int64, v.toInt = z ∧ Cond.constantLong (cn_of (ai_oc M)) i v ∈ ww_ok) : ai_EK mt M (pc, 0, .ldc2_w i, 3, a, b, z) := ⟨hd, rfl, (fun j h => by cases h; exact hf), (fun i h => by cases h)⟩
theorem ek_0s {mt : List ai_M} {M : ai_M} {pc a b i : Nat} {z : Int} (hd : decode (ai_by M) pc = .ok (.ldc i, 2)) (hf : ∃ tx, (cn_of (ai_oc M), i, tx) ∈ ai_sw) : ai_EK mt M (pc, 0, .ldc i, 2, a, b, z) := ⟨hd, rfl, (fun j h => by cases h), (fun i h => by cases h; exact hf)⟩
theorem ek_1 {mt : List ai_M} {M : ai_M} {pc len a b : Nat} {ins : Instr} {z : Int} (hd : decode (ai_by M) pc = .ok (ins, len)) (hl : ai_len ins = len) : ai_EK mt M (pc, 1, ins, len, a, b, z) := ⟨hd, hl⟩
theorem ek_2 {mt : List ai_M} {M : ai_M} {pc len a b : Nat} {ins : Instr} {z : Int} (hd : decode (ai_by M) pc = .ok (ins, len)) (hl : ai_len ins = len) (ht : ai_tg pc ins a) : ai_EK mt M (pc, 2, ins, len, a, b, z) := ⟨hd, Or.inl hl, ht⟩
theorem ek_2t {mt : List ai_M} {M : ai_M} {pc len a b : Nat} {d lo hi : Int} {offs : Array Int} {z : Int} (hd : decode (ai_by M) pc = .ok (.tableswitch d lo hi offs, len)) (ht : 0 ≤ (pc : Int) + d ∧ ∀ o ∈ offs.toList, 0 ≤ (pc : Int) + o) : ai_EK mt M (pc, 2, .tableswitch d lo hi offs, len, a, b, z) := ⟨hd, Or.inr ⟨d, lo, hi, offs, rfl⟩, ht⟩
theorem ek_3 {mt : List ai_M} {M : ai_M} {pc len a b : Nat} {ins : Instr} {z : Int} (hd : decode (ai_by M) pc = .ok (ins, len)) (hl : ai_len ins = len) (hf : ai_hf (cn_of (ai_oc M)) ins a b) : ai_EK mt M (pc, 3, ins, len, a, b, z) := ⟨hd, hl, hf⟩
theorem ek_4 {mt : List ai_M} {M N : ai_M} {pc a b : Nat} {ins : Instr} {z : Int} (hd : decode (ai_by M) pc = .ok (ins, 3)) (hN : mt[a]? = some N) (hf : ai_CF (cn_of (ai_oc M)) N ins b) : ai_EK mt M (pc, 4, ins, 3, a, b, z) := ⟨hd, rfl, (fun N' h => by
  have h : mt[a]? = some N' := h
  rw [hN] at h; cases h; exact hf)⟩
theorem ek_5 {mt : List ai_M} {M : ai_M} {pc a b i : Nat} {z : Int} (hd : decode (ai_by M) pc = .ok (.invokespecial i, 3)) (hf : Cond.methodLink (cn_of (ai_oc M)) i objectInit ∈ ww_ok) : ai_EK mt M (pc, 5, .invokespecial i, 3, a, b, z) := ⟨hd, rfl, i, rfl, hf⟩
theorem ek_6 {mt : List ai_M} {M : ai_M} {pc a b : Nat} {ins : Instr} {z : Int} (hd : decode (ai_by M) pc = .ok (ins, 1)) : ai_EK mt M (pc, 6, ins, 1, a, b, z) := ⟨hd, rfl⟩
theorem ek_7 {mt : List ai_M} {M : ai_M} {pc a b i : Nat} {z : Int} (hd : decode (ai_by M) pc = .ok (.invokestatic i, 3)) (hf : Cond.methodLink (cn_of (ai_oc M)) i arraycopyName ∈ ww_ok) : ai_EK mt M (pc, 7, .invokestatic i, 3, a, b, z) := ⟨hd, rfl, i, rfl, hf⟩
end
section
/-! ===== what the instructions link ===== -/
theorem ho_0_3 : Cond.methodLink (cn_of 0) 3 objectInit ∈ ww_ok := ww_t 23 (by decide +kernel)
theorem ha_0_9 : (14 = 14 ∧ Cond.classLink (cn_of 0) 9 RR_1 ∈ ww_ok) ∨ (14 = 15 ∧ Cond.classLink (cn_of 0) 9 RR_3 ∈ ww_ok) := Or.inl ⟨rfl, ww_t 26 (by decide +kernel)⟩
theorem hf_0_11 : ∃ (C : String) (T : u_T) (N : Nat), classes[0]? = some (C, T, N) ∧ 0 < N ∧ Cond.fieldLink (cn_of 0) 11 C (T 0).2.1 (T 0).2.2.1 ∈ ww_ok := ⟨_, _, _, rfl, by decide, ww_t 305 (by decide +kernel)⟩
theorem hf_0_15 : ∃ (C : String) (T : u_T) (N : Nat), classes[0]? = some (C, T, N) ∧ 1 < N ∧ Cond.fieldLink (cn_of 0) 15 C (T 1).2.1 (T 1).2.2.1 ∈ ww_ok := ⟨_, _, _, rfl, by decide, ww_t 306 (by decide +kernel)⟩
theorem ha_0_18 : (15 = 14 ∧ Cond.classLink (cn_of 0) 18 RR_1 ∈ ww_ok) ∨ (15 = 15 ∧ Cond.classLink (cn_of 0) 18 RR_3 ∈ ww_ok) := Or.inr ⟨rfl, ww_t 28 (by decide +kernel)⟩
theorem hf_0_20 : ∃ (C : String) (T : u_T) (N : Nat), classes[0]? = some (C, T, N) ∧ 2 < N ∧ Cond.fieldLink (cn_of 0) 20 C (T 2).2.1 (T 2).2.2.1 ∈ ww_ok := ⟨_, _, _, rfl, by decide, ww_t 307 (by decide +kernel)⟩
theorem hn_0_24 : ∃ (C : String) (T : u_T) (N : Nat), classes[4]? = some (C, T, N) ∧ Cond.classLink (cn_of 0) 24 C ∈ ww_ok := ⟨_, _, _, rfl, ww_t 30 (by decide +kernel)⟩
theorem hc_0_26 : ai_CF (cn_of 0) M_67 (.invokespecial 26) 3 := ⟨26, Or.inr (Or.inr (Or.inr ⟨rfl, rfl, List.mem_of_getElem? (i := 0) (by decide +kernel), ww_t 33 (by decide +kernel), rfl, rfl, 0, rfl, by decide +kernel⟩))⟩
theorem hf_0_27 : ∃ (C : String) (T : u_T) (N : Nat), classes[0]? = some (C, T, N) ∧ 3 < N ∧ Cond.fieldLink (cn_of 0) 27 C (T 3).2.1 (T 3).2.2.1 ∈ ww_ok := ⟨_, _, _, rfl, by decide, ww_t 308 (by decide +kernel)⟩
theorem hn_0_31 : ∃ (C : String) (T : u_T) (N : Nat), classes[5]? = some (C, T, N) ∧ Cond.classLink (cn_of 0) 31 C ∈ ww_ok := ⟨_, _, _, rfl, ww_t 57 (by decide +kernel)⟩
theorem hc_0_33 : ai_CF (cn_of 0) M_77 (.invokespecial 33) 3 := ⟨33, Or.inr (Or.inr (Or.inr ⟨rfl, rfl, List.mem_of_getElem? (i := 1) (by decide +kernel), ww_t 60 (by decide +kernel), rfl, rfl, 0, rfl, by decide +kernel⟩))⟩
theorem hf_0_34 : ∃ (C : String) (T : u_T) (N : Nat), classes[0]? = some (C, T, N) ∧ 4 < N ∧ Cond.fieldLink (cn_of 0) 34 C (T 4).2.1 (T 4).2.2.1 ∈ ww_ok := ⟨_, _, _, rfl, by decide, ww_t 309 (by decide +kernel)⟩
theorem hn_0_38 : ∃ (C : String) (T : u_T) (N : Nat), classes[2]? = some (C, T, N) ∧ Cond.classLink (cn_of 0) 38 C ∈ ww_ok := ⟨_, _, _, rfl, ww_t 118 (by decide +kernel)⟩
theorem hc_0_40 : ai_CF (cn_of 0) M_60 (.invokespecial 40) 3 := ⟨40, Or.inr (Or.inr (Or.inr ⟨rfl, rfl, List.mem_of_getElem? (i := 2) (by decide +kernel), ww_t 121 (by decide +kernel), rfl, rfl, 0, rfl, by decide +kernel⟩))⟩
theorem hf_0_41 : ∃ (C : String) (T : u_T) (N : Nat), classes[0]? = some (C, T, N) ∧ 5 < N ∧ Cond.fieldLink (cn_of 0) 41 C (T 5).2.1 (T 5).2.2.1 ∈ ww_ok := ⟨_, _, _, rfl, by decide, ww_t 310 (by decide +kernel)⟩
theorem hf_0_45 : ∃ (C : String) (T : u_T) (N : Nat), classes[0]? = some (C, T, N) ∧ 6 < N ∧ Cond.fieldLink (cn_of 0) 45 C (T 6).2.1 (T 6).2.2.1 ∈ ww_ok := ⟨_, _, _, rfl, by decide, ww_t 311 (by decide +kernel)⟩
theorem hn_0_9 : ∃ (C : String) (T : u_T) (N : Nat), classes[1]? = some (C, T, N) ∧ Cond.classLink (cn_of 0) 9 C ∈ ww_ok := ⟨_, _, _, rfl, ww_t 26 (by decide +kernel)⟩
theorem hc_0_48 : ai_CF (cn_of 0) M_58 (.invokespecial 48) 3 := ⟨48, Or.inr (Or.inr (Or.inr ⟨rfl, rfl, List.mem_of_getElem? (i := 4) (by decide +kernel), ww_t 183 (by decide +kernel), rfl, rfl, 0, rfl, by decide +kernel⟩))⟩
theorem hf_0_49 : ∃ (C : String) (T : u_T) (N : Nat), classes[0]? = some (C, T, N) ∧ 7 < N ∧ Cond.fieldLink (cn_of 0) 49 C (T 7).2.1 (T 7).2.2.1 ∈ ww_ok := ⟨_, _, _, rfl, by decide, ww_t 312 (by decide +kernel)⟩
theorem hf_0_53 : ∃ (C : String) (T : u_T) (N : Nat), classes[0]? = some (C, T, N) ∧ 8 < N ∧ Cond.fieldLink (cn_of 0) 53 C (T 8).2.1 (T 8).2.2.1 ∈ ww_ok := ⟨_, _, _, rfl, by decide, ww_t 313 (by decide +kernel)⟩
theorem hf_0_57 : ∃ (C : String) (T : u_T) (N : Nat), classes[0]? = some (C, T, N) ∧ 9 < N ∧ Cond.fieldLink (cn_of 0) 57 C (T 9).2.1 (T 9).2.2.1 ∈ ww_ok := ⟨_, _, _, rfl, by decide, ww_t 314 (by decide +kernel)⟩
theorem hf_0_60 : ∃ (C : String) (T : u_T) (N : Nat), classes[0]? = some (C, T, N) ∧ 10 < N ∧ Cond.fieldLink (cn_of 0) 60 C (T 10).2.1 (T 10).2.2.1 ∈ ww_ok := ⟨_, _, _, rfl, by decide, ww_t 315 (by decide +kernel)⟩
theorem hf_0_64 : ∃ (C : String) (T : u_T) (N : Nat), classes[0]? = some (C, T, N) ∧ 11 < N ∧ Cond.fieldLink (cn_of 0) 64 C (T 11).2.1 (T 11).2.2.1 ∈ ww_ok := ⟨_, _, _, rfl, by decide, ww_t 316 (by decide +kernel)⟩
theorem hf_0_67 : ∃ (C : String) (T : u_T) (N : Nat), classes[0]? = some (C, T, N) ∧ 12 < N ∧ Cond.fieldLink (cn_of 0) 67 C (T 12).2.1 (T 12).2.2.1 ∈ ww_ok := ⟨_, _, _, rfl, by decide, ww_t 317 (by decide +kernel)⟩
theorem hn_0_18 : ∃ (C : String) (T : u_T) (N : Nat), classes[3]? = some (C, T, N) ∧ Cond.classLink (cn_of 0) 18 C ∈ ww_ok := ⟨_, _, _, rfl, ww_t 28 (by decide +kernel)⟩
theorem hc_0_71 : ai_CF (cn_of 0) M_61 (.invokespecial 71) 3 := ⟨71, Or.inr (Or.inr (Or.inr ⟨rfl, rfl, List.mem_of_getElem? (i := 5) (by decide +kernel), ww_t 281 (by decide +kernel), rfl, rfl, 0, rfl, by decide +kernel⟩))⟩
theorem hc_0_138 : ai_CF (cn_of 0) M_21 (.invokevirtual 138) 0 := ⟨138, Or.inl ⟨rfl, rfl, ww_t 435 (by decide +kernel), ww_t 437 (by decide +kernel), ww_p 3 (by decide +kernel), ⟨1, rfl, by decide +kernel⟩, ⟨_, rfl, rfl⟩⟩⟩
theorem hc_0_76 : ai_CF (cn_of 0) M_37 (.invokevirtual 76) 0 := ⟨76, Or.inl ⟨rfl, rfl, ww_t 353 (by decide +kernel), ww_t 355 (by decide +kernel), ww_p 1 (by decide +kernel), ⟨1, rfl, by decide +kernel⟩, ⟨_, rfl, rfl⟩⟩⟩
theorem hc_0_265 : ai_CF (cn_of 0) M_23 (.invokevirtual 265) 0 := ⟨265, Or.inl ⟨rfl, rfl, ww_t 783 (by decide +kernel), ww_t 785 (by decide +kernel), ww_p 20 (by decide +kernel), ⟨2, rfl, by decide +kernel⟩, ⟨_, rfl, rfl⟩⟩⟩
theorem hc_0_134 : ai_CF (cn_of 0) M_57 (.invokevirtual 134) 0 := ⟨134, Or.inl ⟨rfl, rfl, ww_t 431 (by decide +kernel), ww_t 433 (by decide +kernel), ww_p 2 (by decide +kernel), ⟨2, rfl, by decide +kernel⟩, ⟨_, rfl, rfl⟩⟩⟩
theorem hc_0_72 : ai_CF (cn_of 0) M_44 (.invokevirtual 72) 0 := ⟨72, Or.inl ⟨rfl, rfl, ww_t 349 (by decide +kernel), ww_t 351 (by decide +kernel), ww_p 0 (by decide +kernel), ⟨1, rfl, by decide +kernel⟩, ⟨_, rfl, rfl⟩⟩⟩
theorem hc_0_95 : ai_CF (cn_of 0) M_64 (.invokevirtual 95) 0 := ⟨95, Or.inl ⟨rfl, rfl, ww_t 384 (by decide +kernel), ww_t 373 (by decide +kernel), ww_t 374 (by decide +kernel), ⟨0, rfl, by decide +kernel⟩, ⟨_, rfl, rfl⟩⟩⟩
theorem hf_0_99 : ∃ (C : String) (T : u_T) (N : Nat), classes[3]? = some (C, T, N) ∧ 0 < N ∧ Cond.fieldLink (cn_of 0) 99 C (T 0).2.1 (T 0).2.2.1 ∈ ww_ok := ⟨_, _, _, rfl, by decide, ww_t 285 (by decide +kernel)⟩
theorem hc_0_257 : ai_CF (cn_of 0) M_56 (.invokevirtual 257) 0 := ⟨257, Or.inl ⟨rfl, rfl, ww_t 766 (by decide +kernel), ww_t 768 (by decide +kernel), ww_p 18 (by decide +kernel), ⟨3, rfl, by decide +kernel⟩, ⟨_, rfl, rfl⟩⟩⟩
theorem hc_0_84 : ai_CF (cn_of 0) M_66 (.invokevirtual 84) 0 := ⟨84, Or.inl ⟨rfl, rfl, ww_t 368 (by decide +kernel), ww_t 369 (by decide +kernel), ww_t 370 (by decide +kernel), ⟨0, rfl, by decide +kernel⟩, ⟨_, rfl, rfl⟩⟩⟩
theorem hf_0_161 : ∃ (C : String) (T : u_T) (N : Nat), classes[4]? = some (C, T, N) ∧ 0 < N ∧ Cond.fieldLink (cn_of 0) 161 C (T 0).2.1 (T 0).2.2.1 ∈ ww_ok := ⟨_, _, _, rfl, by decide, ww_t 37 (by decide +kernel)⟩
theorem hc_0_162 : ai_CF (cn_of 0) M_69 (.invokevirtual 162) 0 := ⟨162, Or.inl ⟨rfl, rfl, ww_t 548 (by decide +kernel), ww_t 549 (by decide +kernel), ww_t 550 (by decide +kernel), ⟨1, rfl, by decide +kernel⟩, ⟨_, rfl, rfl⟩⟩⟩
theorem hc_0_166 : ai_CF (cn_of 0) M_76 (.invokevirtual 166) 0 := ⟨166, Or.inl ⟨rfl, rfl, ww_t 560 (by decide +kernel), ww_t 561 (by decide +kernel), ww_t 562 (by decide +kernel), ⟨1, rfl, by decide +kernel⟩, ⟨_, rfl, rfl⟩⟩⟩
theorem hc_0_322 : ai_CF (cn_of 0) M_59 (.invokevirtual 322) 0 := ⟨322, Or.inl ⟨rfl, rfl, ww_t 968 (by decide +kernel), ww_t 969 (by decide +kernel), ww_t 970 (by decide +kernel), ⟨1, rfl, by decide +kernel⟩, ⟨_, rfl, rfl⟩⟩⟩
theorem hc_0_116 : ai_CF (cn_of 0) M_7 (.invokestatic 116) 1 := ⟨116, Or.inr (Or.inl ⟨rfl, rfl, ww_t 404 (by decide +kernel), ww_t 405 (by decide +kernel), by decide +kernel⟩)⟩
theorem hc_0_120 : ai_CF (cn_of 0) M_62 (.invokevirtual 120) 0 := ⟨120, Or.inl ⟨rfl, rfl, ww_t 407 (by decide +kernel), ww_t 408 (by decide +kernel), ww_t 409 (by decide +kernel), ⟨3, rfl, by decide +kernel⟩, ⟨_, rfl, rfl⟩⟩⟩
theorem hc_0_80 : ai_CF (cn_of 0) M_63 (.invokevirtual 80) 0 := ⟨80, Or.inl ⟨rfl, rfl, ww_t 357 (by decide +kernel), ww_t 358 (by decide +kernel), ww_t 359 (by decide +kernel), ⟨2, rfl, by decide +kernel⟩, ⟨_, rfl, rfl⟩⟩⟩
theorem hc_0_124 : ai_CF (cn_of 0) M_65 (.invokevirtual 124) 0 := ⟨124, Or.inl ⟨rfl, rfl, ww_t 415 (by decide +kernel), ww_t 416 (by decide +kernel), ww_t 417 (by decide +kernel), ⟨0, rfl, by decide +kernel⟩, ⟨_, rfl, rfl⟩⟩⟩
theorem hc_0_339 : ai_CF (cn_of 0) M_45 (.invokevirtual 339) 0 := ⟨339, Or.inl ⟨rfl, rfl, ww_t 995 (by decide +kernel), ww_t 997 (by decide +kernel), ww_p 30 (by decide +kernel), ⟨0, rfl, by decide +kernel⟩, ⟨_, rfl, rfl⟩⟩⟩
theorem ho_1_3 : Cond.methodLink (cn_of 1) 3 objectInit ∈ ww_ok := ww_t 185 (by decide +kernel)
theorem hf_1_9 : ∃ (C : String) (T : u_T) (N : Nat), classes[1]? = some (C, T, N) ∧ 0 < N ∧ Cond.fieldLink (cn_of 1) 9 C (T 0).2.1 (T 0).2.2.1 ∈ ww_ok := ⟨_, _, _, rfl, by decide, ww_t 188 (by decide +kernel)⟩
theorem hf_1_15 : ∃ (C : String) (T : u_T) (N : Nat), classes[1]? = some (C, T, N) ∧ 1 < N ∧ Cond.fieldLink (cn_of 1) 15 C (T 1).2.1 (T 1).2.2.1 ∈ ww_ok := ⟨_, _, _, rfl, by decide, ww_t 191 (by decide +kernel)⟩
theorem hf_1_18 : ∃ (C : String) (T : u_T) (N : Nat), classes[1]? = some (C, T, N) ∧ 2 < N ∧ Cond.fieldLink (cn_of 1) 18 C (T 2).2.1 (T 2).2.2.1 ∈ ww_ok := ⟨_, _, _, rfl, by decide, ww_t 193 (by decide +kernel)⟩
theorem hf_1_22 : ∃ (C : String) (T : u_T) (N : Nat), classes[1]? = some (C, T, N) ∧ 3 < N ∧ Cond.fieldLink (cn_of 1) 22 C (T 3).2.1 (T 3).2.2.1 ∈ ww_ok := ⟨_, _, _, rfl, by decide, ww_t 197 (by decide +kernel)⟩
theorem hf_1_25 : ∃ (C : String) (T : u_T) (N : Nat), classes[1]? = some (C, T, N) ∧ 4 < N ∧ Cond.fieldLink (cn_of 1) 25 C (T 4).2.1 (T 4).2.2.1 ∈ ww_ok := ⟨_, _, _, rfl, by decide, ww_t 201 (by decide +kernel)⟩
theorem hf_1_28 : ∃ (C : String) (T : u_T) (N : Nat), classes[1]? = some (C, T, N) ∧ 5 < N ∧ Cond.fieldLink (cn_of 1) 28 C (T 5).2.1 (T 5).2.2.1 ∈ ww_ok := ⟨_, _, _, rfl, by decide, ww_t 204 (by decide +kernel)⟩
theorem hf_1_31 : ∃ (C : String) (T : u_T) (N : Nat), classes[1]? = some (C, T, N) ∧ 6 < N ∧ Cond.fieldLink (cn_of 1) 31 C (T 6).2.1 (T 6).2.2.1 ∈ ww_ok := ⟨_, _, _, rfl, by decide, ww_t 208 (by decide +kernel)⟩
theorem hf_1_34 : ∃ (C : String) (T : u_T) (N : Nat), classes[1]? = some (C, T, N) ∧ 7 < N ∧ Cond.fieldLink (cn_of 1) 34 C (T 7).2.1 (T 7).2.2.1 ∈ ww_ok := ⟨_, _, _, rfl, by decide, ww_t 212 (by decide +kernel)⟩
theorem hf_1_37 : ∃ (C : String) (T : u_T) (N : Nat), classes[1]? = some (C, T, N) ∧ 8 < N ∧ Cond.fieldLink (cn_of 1) 37 C (T 8).2.1 (T 8).2.2.1 ∈ ww_ok := ⟨_, _, _, rfl, by decide, ww_t 214 (by decide +kernel)⟩
theorem hf_1_40 : ∃ (C : String) (T : u_T) (N : Nat), classes[1]? = some (C, T, N) ∧ 9 < N ∧ Cond.fieldLink (cn_of 1) 40 C (T 9).2.1 (T 9).2.2.1 ∈ ww_ok := ⟨_, _, _, rfl, by decide, ww_t 216 (by decide +kernel)⟩
theorem hf_1_44 : ∃ (C : String) (T : u_T) (N : Nat), classes[1]? = some (C, T, N) ∧ 10 < N ∧ Cond.fieldLink (cn_of 1) 44 C (T 10).2.1 (T 10).2.2.1 ∈ ww_ok := ⟨_, _, _, rfl, by decide, ww_t 220 (by decide +kernel)⟩
theorem hf_1_47 : ∃ (C : String) (T : u_T) (N : Nat), classes[1]? = some (C, T, N) ∧ 11 < N ∧ Cond.fieldLink (cn_of 1) 47 C (T 11).2.1 (T 11).2.2.1 ∈ ww_ok := ⟨_, _, _, rfl, by decide, ww_t 224 (by decide +kernel)⟩
theorem hf_1_50 : ∃ (C : String) (T : u_T) (N : Nat), classes[1]? = some (C, T, N) ∧ 12 < N ∧ Cond.fieldLink (cn_of 1) 50 C (T 12).2.1 (T 12).2.2.1 ∈ ww_ok := ⟨_, _, _, rfl, by decide, ww_t 227 (by decide +kernel)⟩
theorem hf_1_54 : ∃ (C : String) (T : u_T) (N : Nat), classes[1]? = some (C, T, N) ∧ 13 < N ∧ Cond.fieldLink (cn_of 1) 54 C (T 13).2.1 (T 13).2.2.1 ∈ ww_ok := ⟨_, _, _, rfl, by decide, ww_t 230 (by decide +kernel)⟩
theorem hf_1_57 : ∃ (C : String) (T : u_T) (N : Nat), classes[1]? = some (C, T, N) ∧ 14 < N ∧ Cond.fieldLink (cn_of 1) 57 C (T 14).2.1 (T 14).2.2.1 ∈ ww_ok := ⟨_, _, _, rfl, by decide, ww_t 234 (by decide +kernel)⟩
theorem hf_1_60 : ∃ (C : String) (T : u_T) (N : Nat), classes[1]? = some (C, T, N) ∧ 15 < N ∧ Cond.fieldLink (cn_of 1) 60 C (T 15).2.1 (T 15).2.2.1 ∈ ww_ok := ⟨_, _, _, rfl, by decide, ww_t 237 (by decide +kernel)⟩
theorem hm_1_63 : 2 = 2 ∧ ((16 = 16 ∧ Cond.classLink (cn_of 1) 63 "[[I" ∈ ww_ok) ∨ (16 = 17 ∧ Cond.classLink (cn_of 1) 63 "[[J" ∈ ww_ok)) := ⟨rfl, Or.inl ⟨rfl, ww_t 186 (by decide +kernel)⟩⟩
theorem hf_1_65 : ∃ (C : String) (T : u_T) (N : Nat), classes[1]? = some (C, T, N) ∧ 16 < N ∧ Cond.fieldLink (cn_of 1) 65 C (T 16).2.1 (T 16).2.2.1 ∈ ww_ok := ⟨_, _, _, rfl, by decide, ww_t 241 (by decide +kernel)⟩
theorem hy_1_78 : Cond.methodLink (cn_of 1) 78 arraycopyName ∈ ww_ok := ww_t 972 (by decide +kernel)
theorem ho_2_3 : Cond.methodLink (cn_of 2) 3 objectInit ∈ ww_ok := ww_t 123 (by decide +kernel)
theorem hf_2_9 : ∃ (C : String) (T : u_T) (N : Nat), classes[2]? = some (C, T, N) ∧ 0 < N ∧ Cond.fieldLink (cn_of 2) 9 C (T 0).2.1 (T 0).2.2.1 ∈ ww_ok := ⟨_, _, _, rfl, by decide, ww_t 126 (by decide +kernel)⟩
theorem hf_2_15 : ∃ (C : String) (T : u_T) (N : Nat), classes[2]? = some (C, T, N) ∧ 1 < N ∧ Cond.fieldLink (cn_of 2) 15 C (T 1).2.1 (T 1).2.2.1 ∈ ww_ok := ⟨_, _, _, rfl, by decide, ww_t 128 (by decide +kernel)⟩
theorem hf_2_18 : ∃ (C : String) (T : u_T) (N : Nat), classes[2]? = some (C, T, N) ∧ 2 < N ∧ Cond.fieldLink (cn_of 2) 18 C (T 2).2.1 (T 2).2.2.1 ∈ ww_ok := ⟨_, _, _, rfl, by decide, ww_t 130 (by decide +kernel)⟩
theorem hf_2_21 : ∃ (C : String) (T : u_T) (N : Nat), classes[2]? = some (C, T, N) ∧ 3 < N ∧ Cond.fieldLink (cn_of 2) 21 C (T 3).2.1 (T 3).2.2.1 ∈ ww_ok := ⟨_, _, _, rfl, by decide, ww_t 132 (by decide +kernel)⟩
theorem hf_2_24 : ∃ (C : String) (T : u_T) (N : Nat), classes[2]? = some (C, T, N) ∧ 4 < N ∧ Cond.fieldLink (cn_of 2) 24 C (T 4).2.1 (T 4).2.2.1 ∈ ww_ok := ⟨_, _, _, rfl, by decide, ww_t 134 (by decide +kernel)⟩
theorem hf_2_27 : ∃ (C : String) (T : u_T) (N : Nat), classes[2]? = some (C, T, N) ∧ 5 < N ∧ Cond.fieldLink (cn_of 2) 27 C (T 5).2.1 (T 5).2.2.1 ∈ ww_ok := ⟨_, _, _, rfl, by decide, ww_t 136 (by decide +kernel)⟩
theorem hf_2_30 : ∃ (C : String) (T : u_T) (N : Nat), classes[2]? = some (C, T, N) ∧ 6 < N ∧ Cond.fieldLink (cn_of 2) 30 C (T 6).2.1 (T 6).2.2.1 ∈ ww_ok := ⟨_, _, _, rfl, by decide, ww_t 138 (by decide +kernel)⟩
theorem hf_2_33 : ∃ (C : String) (T : u_T) (N : Nat), classes[2]? = some (C, T, N) ∧ 7 < N ∧ Cond.fieldLink (cn_of 2) 33 C (T 7).2.1 (T 7).2.2.1 ∈ ww_ok := ⟨_, _, _, rfl, by decide, ww_t 140 (by decide +kernel)⟩
theorem hf_2_36 : ∃ (C : String) (T : u_T) (N : Nat), classes[2]? = some (C, T, N) ∧ 8 < N ∧ Cond.fieldLink (cn_of 2) 36 C (T 8).2.1 (T 8).2.2.1 ∈ ww_ok := ⟨_, _, _, rfl, by decide, ww_t 141 (by decide +kernel)⟩
theorem hf_2_39 : ∃ (C : String) (T : u_T) (N : Nat), classes[2]? = some (C, T, N) ∧ 9 < N ∧ Cond.fieldLink (cn_of 2) 39 C (T 9).2.1 (T 9).2.2.1 ∈ ww_ok := ⟨_, _, _, rfl, by decide, ww_t 142 (by decide +kernel)⟩
theorem hf_2_43 : ∃ (C : String) (T : u_T) (N : Nat), classes[2]? = some (C, T, N) ∧ 10 < N ∧ Cond.fieldLink (cn_of 2) 43 C (T 10).2.1 (T 10).2.2.1 ∈ ww_ok := ⟨_, _, _, rfl, by decide, ww_t 143 (by decide +kernel)⟩
theorem hf_2_47 : ∃ (C : String) (T : u_T) (N : Nat), classes[2]? = some (C, T, N) ∧ 11 < N ∧ Cond.fieldLink (cn_of 2) 47 C (T 11).2.1 (T 11).2.2.1 ∈ ww_ok := ⟨_, _, _, rfl, by decide, ww_t 144 (by decide +kernel)⟩
theorem hf_2_50 : ∃ (C : String) (T : u_T) (N : Nat), classes[2]? = some (C, T, N) ∧ 12 < N ∧ Cond.fieldLink (cn_of 2) 50 C (T 12).2.1 (T 12).2.2.1 ∈ ww_ok := ⟨_, _, _, rfl, by decide, ww_t 145 (by decide +kernel)⟩
theorem hf_2_53 : ∃ (C : String) (T : u_T) (N : Nat), classes[2]? = some (C, T, N) ∧ 13 < N ∧ Cond.fieldLink (cn_of 2) 53 C (T 13).2.1 (T 13).2.2.1 ∈ ww_ok := ⟨_, _, _, rfl, by decide, ww_t 146 (by decide +kernel)⟩
theorem hn_2_56 : ∃ (C : String) (T : u_T) (N : Nat), classes[5]? = some (C, T, N) ∧ Cond.classLink (cn_of 2) 56 C ∈ ww_ok := ⟨_, _, _, rfl, ww_t 124 (by decide +kernel)⟩
theorem hc_2_58 : ai_CF (cn_of 2) M_77 (.invokespecial 58) 3 := ⟨58, Or.inr (Or.inr (Or.inr ⟨rfl, rfl, List.mem_of_getElem? (i := 3) (by decide +kernel), ww_t 60 (by decide +kernel), rfl, rfl, 0, rfl, by decide +kernel⟩))⟩
theorem hf_2_59 : ∃ (C : String) (T : u_T) (N : Nat), classes[2]? = some (C, T, N) ∧ 14 < N ∧ Cond.fieldLink (cn_of 2) 59 C (T 14).2.1 (T 14).2.2.1 ∈ ww_ok := ⟨_, _, _, rfl, by decide, ww_t 147 (by decide +kernel)⟩
theorem ho_3_3 : Cond.methodLink (cn_of 3) 3 objectInit ∈ ww_ok := ww_t 283 (by decide +kernel)
theorem hf_3_9 : ∃ (C : String) (T : u_T) (N : Nat), classes[3]? = some (C, T, N) ∧ 0 < N ∧ Cond.fieldLink (cn_of 3) 9 C (T 0).2.1 (T 0).2.2.1 ∈ ww_ok := ⟨_, _, _, rfl, by decide, ww_t 284 (by decide +kernel)⟩
theorem hf_3_15 : ∃ (C : String) (T : u_T) (N : Nat), classes[3]? = some (C, T, N) ∧ 1 < N ∧ Cond.fieldLink (cn_of 3) 15 C (T 1).2.1 (T 1).2.2.1 ∈ ww_ok := ⟨_, _, _, rfl, by decide, ww_t 286 (by decide +kernel)⟩
theorem hf_3_18 : ∃ (C : String) (T : u_T) (N : Nat), classes[3]? = some (C, T, N) ∧ 2 < N ∧ Cond.fieldLink (cn_of 3) 18 C (T 2).2.1 (T 2).2.2.1 ∈ ww_ok := ⟨_, _, _, rfl, by decide, ww_t 288 (by decide +kernel)⟩
theorem hf_3_22 : ∃ (C : String) (T : u_T) (N : Nat), classes[3]? = some (C, T, N) ∧ 3 < N ∧ Cond.fieldLink (cn_of 3) 22 C (T 3).2.1 (T 3).2.2.1 ∈ ww_ok := ⟨_, _, _, rfl, by decide, ww_t 290 (by decide +kernel)⟩
theorem hf_3_25 : ∃ (C : String) (T : u_T) (N : Nat), classes[3]? = some (C, T, N) ∧ 4 < N ∧ Cond.fieldLink (cn_of 3) 25 C (T 4).2.1 (T 4).2.2.1 ∈ ww_ok := ⟨_, _, _, rfl, by decide, ww_t 292 (by decide +kernel)⟩
theorem hc_3_28 : ai_CF (cn_of 3) M_145 (.invokestatic 28) 1 := ⟨28, Or.inr (Or.inl ⟨rfl, rfl, ww_t 361 (by decide +kernel), ww_t 362 (by decide +kernel), by decide +kernel⟩)⟩
theorem hc_3_34 : ai_CF (cn_of 3) M_64 (.invokevirtual 34) 0 := ⟨34, Or.inl ⟨rfl, rfl, ww_t 372 (by decide +kernel), ww_t 373 (by decide +kernel), ww_t 374 (by decide +kernel), ⟨0, rfl, by decide +kernel⟩, ⟨_, rfl, rfl⟩⟩⟩
theorem ho_4_3 : Cond.methodLink (cn_of 4) 3 objectInit ∈ ww_ok := ww_t 35 (by decide +kernel)
theorem hf_4_9 : ∃ (C : String) (T : u_T) (N : Nat), classes[4]? = some (C, T, N) ∧ 0 < N ∧ Cond.fieldLink (cn_of 4) 9 C (T 0).2.1 (T 0).2.2.1 ∈ ww_ok := ⟨_, _, _, rfl, by decide, ww_t 36 (by decide +kernel)⟩
theorem hf_4_15 : ∃ (C : String) (T : u_T) (N : Nat), classes[4]? = some (C, T, N) ∧ 1 < N ∧ Cond.fieldLink (cn_of 4) 15 C (T 1).2.1 (T 1).2.2.1 ∈ ww_ok := ⟨_, _, _, rfl, by decide, ww_t 38 (by decide +kernel)⟩
theorem hf_4_19 : ∃ (C : String) (T : u_T) (N : Nat), classes[4]? = some (C, T, N) ∧ 2 < N ∧ Cond.fieldLink (cn_of 4) 19 C (T 2).2.1 (T 2).2.2.1 ∈ ww_ok := ⟨_, _, _, rfl, by decide, ww_t 39 (by decide +kernel)⟩
theorem hf_4_22 : ∃ (C : String) (T : u_T) (N : Nat), classes[4]? = some (C, T, N) ∧ 3 < N ∧ Cond.fieldLink (cn_of 4) 22 C (T 3).2.1 (T 3).2.2.1 ∈ ww_ok := ⟨_, _, _, rfl, by decide, ww_t 40 (by decide +kernel)⟩
theorem hf_4_25 : ∃ (C : String) (T : u_T) (N : Nat), classes[4]? = some (C, T, N) ∧ 4 < N ∧ Cond.fieldLink (cn_of 4) 25 C (T 4).2.1 (T 4).2.2.1 ∈ ww_ok := ⟨_, _, _, rfl, by decide, ww_t 41 (by decide +kernel)⟩
theorem hf_4_28 : ∃ (C : String) (T : u_T) (N : Nat), classes[4]? = some (C, T, N) ∧ 5 < N ∧ Cond.fieldLink (cn_of 4) 28 C (T 5).2.1 (T 5).2.2.1 ∈ ww_ok := ⟨_, _, _, rfl, by decide, ww_t 42 (by decide +kernel)⟩
theorem hc_4_157 : ai_CF (cn_of 4) M_73 (.invokevirtual 157) 0 := ⟨157, Or.inl ⟨rfl, rfl, ww_t 572 (by decide +kernel), ww_t 574 (by decide +kernel), ww_p 9 (by decide +kernel), ⟨1, rfl, by decide +kernel⟩, ⟨_, rfl, rfl⟩⟩⟩
theorem hc_4_65 : ai_CF (cn_of 4) M_68 (.invokevirtual 65) 0 := ⟨65, Or.inl ⟨rfl, rfl, ww_t 585 (by decide +kernel), ww_t 587 (by decide +kernel), ww_p 12 (by decide +kernel), ⟨1, rfl, by decide +kernel⟩, ⟨_, rfl, rfl⟩⟩⟩
theorem hc_4_41 : ai_CF (cn_of 4) M_72 (.invokevirtual 41) 0 := ⟨41, Or.inl ⟨rfl, rfl, ww_t 637 (by decide +kernel), ww_t 639 (by decide +kernel), ww_p 13 (by decide +kernel), ⟨1, rfl, by decide +kernel⟩, ⟨_, rfl, rfl⟩⟩⟩
theorem hs_4_45 : ∃ tx, (cn_of 4, 45, tx) ∈ ai_sw := ⟨"board", List.mem_of_getElem? (i := 0) (by decide +kernel)⟩
theorem hc_4_47 : ai_CF (cn_of 4) M_71 (.invokevirtual 47) 0 := ⟨47, Or.inl ⟨rfl, rfl, ww_t 581 (by decide +kernel), ww_t 583 (by decide +kernel), ww_p 11 (by decide +kernel), ⟨1, rfl, by decide +kernel⟩, ⟨_, rfl, rfl⟩⟩⟩
theorem hc_4_51 : ai_CF (cn_of 4) M_74 (.invokevirtual 51) 0 := ⟨51, Or.inl ⟨rfl, rfl, ww_t 641 (by decide +kernel), ww_t 643 (by decide +kernel), ww_p 14 (by decide +kernel), ⟨2, rfl, by decide +kernel⟩, ⟨_, rfl, rfl⟩⟩⟩
theorem hs_4_55 : ∃ tx, (cn_of 4, 55, tx) ∈ ai_sw := ⟨"by", List.mem_of_getElem? (i := 1) (by decide +kernel)⟩
theorem hc_4_31 : ai_CF (cn_of 4) M_70 (.invokevirtual 31) 0 := ⟨31, Or.inl ⟨rfl, rfl, ww_t 564 (by decide +kernel), ww_t 566 (by decide +kernel), ww_p 7 (by decide +kernel), ⟨0, rfl, by decide +kernel⟩, ⟨_, rfl, rfl⟩⟩⟩
theorem hc_4_34 : ai_CF (cn_of 4) M_75 (.invokevirtual 34) 0 := ⟨34, Or.inl ⟨rfl, rfl, ww_t 576 (by decide +kernel), ww_t 578 (by decide +kernel), ww_p 10 (by decide +kernel), ⟨1, rfl, by decide +kernel⟩, ⟨_, rfl, rfl⟩⟩⟩
theorem ho_5_3 : Cond.methodLink (cn_of 5) 3 objectInit ∈ ww_ok := ww_t 62 (by decide +kernel)
theorem ho_6_1 : Cond.methodLink (cn_of 6) 1 objectInit ∈ ww_ok := ww_t 1004 (by decide +kernel)
theorem hf_6_7 : ∃ (C : String) (T : u_T) (N : Nat), classes[6]? = some (C, T, N) ∧ 0 < N ∧ Cond.fieldLink (cn_of 6) 7 C (T 0).2.1 (T 0).2.2.1 ∈ ww_ok := ⟨_, _, _, rfl, by decide, ww_t 1012 (by decide +kernel)⟩
theorem hf_6_13 : ∃ (C : String) (T : u_T) (N : Nat), classes[6]? = some (C, T, N) ∧ 1 < N ∧ Cond.fieldLink (cn_of 6) 13 C (T 1).2.1 (T 1).2.2.1 ∈ ww_ok := ⟨_, _, _, rfl, by decide, ww_t 1013 (by decide +kernel)⟩
theorem hf_6_16 : ∃ (C : String) (T : u_T) (N : Nat), classes[6]? = some (C, T, N) ∧ 2 < N ∧ Cond.fieldLink (cn_of 6) 16 C (T 2).2.1 (T 2).2.2.1 ∈ ww_ok := ⟨_, _, _, rfl, by decide, ww_t 1014 (by decide +kernel)⟩
theorem hm_6_19 : 2 = 2 ∧ ((17 = 16 ∧ Cond.classLink (cn_of 6) 19 "[[I" ∈ ww_ok) ∨ (17 = 17 ∧ Cond.classLink (cn_of 6) 19 "[[J" ∈ ww_ok)) := ⟨rfl, Or.inr ⟨rfl, ww_t 1005 (by decide +kernel)⟩⟩
theorem hf_6_21 : ∃ (C : String) (T : u_T) (N : Nat), classes[6]? = some (C, T, N) ∧ 3 < N ∧ Cond.fieldLink (cn_of 6) 21 C (T 3).2.1 (T 3).2.2.1 ∈ ww_ok := ⟨_, _, _, rfl, by decide, ww_t 1015 (by decide +kernel)⟩
theorem hf_6_24 : ∃ (C : String) (T : u_T) (N : Nat), classes[6]? = some (C, T, N) ∧ 4 < N ∧ Cond.fieldLink (cn_of 6) 24 C (T 4).2.1 (T 4).2.2.1 ∈ ww_ok := ⟨_, _, _, rfl, by decide, ww_t 1016 (by decide +kernel)⟩
theorem hf_6_28 : ∃ (C : String) (T : u_T) (N : Nat), classes[6]? = some (C, T, N) ∧ 5 < N ∧ Cond.fieldLink (cn_of 6) 28 C (T 5).2.1 (T 5).2.2.1 ∈ ww_ok := ⟨_, _, _, rfl, by decide, ww_t 1017 (by decide +kernel)⟩
theorem hf_6_31 : ∃ (C : String) (T : u_T) (N : Nat), classes[6]? = some (C, T, N) ∧ 6 < N ∧ Cond.fieldLink (cn_of 6) 31 C (T 6).2.1 (T 6).2.2.1 ∈ ww_ok := ⟨_, _, _, rfl, by decide, ww_t 1018 (by decide +kernel)⟩
theorem hf_6_34 : ∃ (C : String) (T : u_T) (N : Nat), classes[6]? = some (C, T, N) ∧ 7 < N ∧ Cond.fieldLink (cn_of 6) 34 C (T 7).2.1 (T 7).2.2.1 ∈ ww_ok := ⟨_, _, _, rfl, by decide, ww_t 1019 (by decide +kernel)⟩
theorem hf_6_37 : ∃ (C : String) (T : u_T) (N : Nat), classes[6]? = some (C, T, N) ∧ 8 < N ∧ Cond.fieldLink (cn_of 6) 37 C (T 8).2.1 (T 8).2.2.1 ∈ ww_ok := ⟨_, _, _, rfl, by decide, ww_t 1020 (by decide +kernel)⟩
theorem hf_6_40 : ∃ (C : String) (T : u_T) (N : Nat), classes[6]? = some (C, T, N) ∧ 10 < N ∧ Cond.fieldLink (cn_of 6) 40 C (T 10).2.1 (T 10).2.2.1 ∈ ww_ok := ⟨_, _, _, rfl, by decide, ww_t 1022 (by decide +kernel)⟩
theorem hm_6_43 : 2 = 2 ∧ ((16 = 16 ∧ Cond.classLink (cn_of 6) 43 "[[I" ∈ ww_ok) ∨ (16 = 17 ∧ Cond.classLink (cn_of 6) 43 "[[J" ∈ ww_ok)) := ⟨rfl, Or.inl ⟨rfl, ww_t 1007 (by decide +kernel)⟩⟩
theorem hf_6_45 : ∃ (C : String) (T : u_T) (N : Nat), classes[6]? = some (C, T, N) ∧ 12 < N ∧ Cond.fieldLink (cn_of 6) 45 C (T 12).2.1 (T 12).2.2.1 ∈ ww_ok := ⟨_, _, _, rfl, by decide, ww_t 1024 (by decide +kernel)⟩
theorem hf_6_48 : ∃ (C : String) (T : u_T) (N : Nat), classes[6]? = some (C, T, N) ∧ 13 < N ∧ Cond.fieldLink (cn_of 6) 48 C (T 13).2.1 (T 13).2.2.1 ∈ ww_ok := ⟨_, _, _, rfl, by decide, ww_t 1025 (by decide +kernel)⟩
theorem hf_6_51 : ∃ (C : String) (T : u_T) (N : Nat), classes[6]? = some (C, T, N) ∧ 14 < N ∧ Cond.fieldLink (cn_of 6) 51 C (T 14).2.1 (T 14).2.2.1 ∈ ww_ok := ⟨_, _, _, rfl, by decide, ww_t 1026 (by decide +kernel)⟩
theorem hf_6_54 : ∃ (C : String) (T : u_T) (N : Nat), classes[6]? = some (C, T, N) ∧ 15 < N ∧ Cond.fieldLink (cn_of 6) 54 C (T 15).2.1 (T 15).2.2.1 ∈ ww_ok := ⟨_, _, _, rfl, by decide, ww_t 1027 (by decide +kernel)⟩
theorem hf_6_57 : ∃ (C : String) (T : u_T) (N : Nat), classes[6]? = some (C, T, N) ∧ 16 < N ∧ Cond.fieldLink (cn_of 6) 57 C (T 16).2.1 (T 16).2.2.1 ∈ ww_ok := ⟨_, _, _, rfl, by decide, ww_t 1028 (by decide +kernel)⟩
theorem hf_6_60 : ∃ (C : String) (T : u_T) (N : Nat), classes[6]? = some (C, T, N) ∧ 18 < N ∧ Cond.fieldLink (cn_of 6) 60 C (T 18).2.1 (T 18).2.2.1 ∈ ww_ok := ⟨_, _, _, rfl, by decide, ww_t 1030 (by decide +kernel)⟩
theorem hf_6_63 : ∃ (C : String) (T : u_T) (N : Nat), classes[6]? = some (C, T, N) ∧ 19 < N ∧ Cond.fieldLink (cn_of 6) 63 C (T 19).2.1 (T 19).2.2.1 ∈ ww_ok := ⟨_, _, _, rfl, by decide, ww_t 1031 (by decide +kernel)⟩
theorem hf_6_66 : ∃ (C : String) (T : u_T) (N : Nat), classes[6]? = some (C, T, N) ∧ 20 < N ∧ Cond.fieldLink (cn_of 6) 66 C (T 20).2.1 (T 20).2.2.1 ∈ ww_ok := ⟨_, _, _, rfl, by decide, ww_t 1032 (by decide +kernel)⟩
theorem hf_6_69 : ∃ (C : String) (T : u_T) (N : Nat), classes[6]? = some (C, T, N) ∧ 21 < N ∧ Cond.fieldLink (cn_of 6) 69 C (T 21).2.1 (T 21).2.2.1 ∈ ww_ok := ⟨_, _, _, rfl, by decide, ww_t 1033 (by decide +kernel)⟩
theorem hf_6_72 : ∃ (C : String) (T : u_T) (N : Nat), classes[6]? = some (C, T, N) ∧ 28 < N ∧ Cond.fieldLink (cn_of 6) 72 C (T 28).2.1 (T 28).2.2.1 ∈ ww_ok := ⟨_, _, _, rfl, by decide, ww_t 1040 (by decide +kernel)⟩
theorem hf_6_76 : ∃ (C : String) (T : u_T) (N : Nat), classes[6]? = some (C, T, N) ∧ 31 < N ∧ Cond.fieldLink (cn_of 6) 76 C (T 31).2.1 (T 31).2.2.1 ∈ ww_ok := ⟨_, _, _, rfl, by decide, ww_t 1043 (by decide +kernel)⟩
theorem hf_6_79 : ∃ (C : String) (T : u_T) (N : Nat), classes[6]? = some (C, T, N) ∧ 32 < N ∧ Cond.fieldLink (cn_of 6) 79 C (T 32).2.1 (T 32).2.2.1 ∈ ww_ok := ⟨_, _, _, rfl, by decide, ww_t 1044 (by decide +kernel)⟩
theorem hf_6_82 : ∃ (C : String) (T : u_T) (N : Nat), classes[6]? = some (C, T, N) ∧ 40 < N ∧ Cond.fieldLink (cn_of 6) 82 C (T 40).2.1 (T 40).2.2.1 ∈ ww_ok := ⟨_, _, _, rfl, by decide, ww_t 1052 (by decide +kernel)⟩
theorem hf_6_85 : ∃ (C : String) (T : u_T) (N : Nat), classes[6]? = some (C, T, N) ∧ 42 < N ∧ Cond.fieldLink (cn_of 6) 85 C (T 42).2.1 (T 42).2.2.1 ∈ ww_ok := ⟨_, _, _, rfl, by decide, ww_t 1054 (by decide +kernel)⟩
theorem hn_6_8 : ∃ (C : String) (T : u_T) (N : Nat), classes[6]? = some (C, T, N) ∧ Cond.classLink (cn_of 6) 8 C ∈ ww_ok := ⟨_, _, _, rfl, ww_t 1008 (by decide +kernel)⟩
theorem hc_6_88 : ai_CF (cn_of 6) M_79 (.invokespecial 88) 2 := ⟨88, Or.inr (Or.inr (Or.inl ⟨rfl, rfl, ww_t 1009 (by decide +kernel), ww_t 1010 (by decide +kernel), rfl, rfl, 1, rfl, by decide +kernel⟩))⟩
theorem hf_6_91 : ∃ (C : String) (T : u_T) (N : Nat), classes[6]? = some (C, T, N) ∧ 30 < N ∧ Cond.fieldLink (cn_of 6) 91 C (T 30).2.1 (T 30).2.2.1 ∈ ww_ok := ⟨_, _, _, rfl, by decide, ww_t 1042 (by decide +kernel)⟩
theorem hc_6_102 : ai_CF (cn_of 6) M_106 (.invokevirtual 102) 0 := ⟨102, Or.inl ⟨rfl, rfl, ww_t 1197 (by decide +kernel), ww_t 1199 (by decide +kernel), ww_p 33 (by decide +kernel), ⟨1, rfl, by decide +kernel⟩, ⟨_, rfl, rfl⟩⟩⟩
theorem hc_6_112 : ai_CF (cn_of 6) M_124 (.invokevirtual 112) 0 := ⟨112, Or.inl ⟨rfl, rfl, ww_t 1152 (by decide +kernel), ww_t 1154 (by decide +kernel), ww_p 31 (by decide +kernel), ⟨1, rfl, by decide +kernel⟩, ⟨_, rfl, rfl⟩⟩⟩
theorem hf_6_402 : ∃ (C : String) (T : u_T) (N : Nat), classes[6]? = some (C, T, N) ∧ 17 < N ∧ Cond.fieldLink (cn_of 6) 402 C (T 17).2.1 (T 17).2.2.1 ∈ ww_ok := ⟨_, _, _, rfl, by decide, ww_t 1029 (by decide +kernel)⟩
theorem hc_6_297 : ai_CF (cn_of 6) M_105 (.invokevirtual 297) 0 := ⟨297, Or.inl ⟨rfl, rfl, ww_t 1395 (by decide +kernel), ww_t 1397 (by decide +kernel), ww_p 60 (by decide +kernel), ⟨2, rfl, by decide +kernel⟩, ⟨_, rfl, rfl⟩⟩⟩
theorem hs_6_248 : ∃ tx, (cn_of 6, 248, tx) ∈ ai_sw := ⟨"board", List.mem_of_getElem? (i := 12) (by decide +kernel)⟩
theorem hc_6_250 : ai_CF (cn_of 6) M_143 (.invokevirtual 250) 0 := ⟨250, Or.inl ⟨rfl, rfl, ww_t 1300 (by decide +kernel), ww_t 1302 (by decide +kernel), ww_p 52 (by decide +kernel), ⟨1, rfl, by decide +kernel⟩, ⟨_, rfl, rfl⟩⟩⟩
theorem hc_6_186 : ai_CF (cn_of 6) M_116 (.invokevirtual 186) 0 := ⟨186, Or.inl ⟨rfl, rfl, ww_t 1193 (by decide +kernel), ww_t 1195 (by decide +kernel), ww_p 32 (by decide +kernel), ⟨2, rfl, by decide +kernel⟩, ⟨_, rfl, rfl⟩⟩⟩
theorem hc_6_288 : ai_CF (cn_of 6) M_107 (.invokevirtual 288) 0 := ⟨288, Or.inl ⟨rfl, rfl, ww_t 1346 (by decide +kernel), ww_t 1348 (by decide +kernel), ww_p 58 (by decide +kernel), ⟨2, rfl, by decide +kernel⟩, ⟨_, rfl, rfl⟩⟩⟩
theorem hl_6_106 : ∃ v : Int64, v.toInt = 7 ∧ Cond.constantLong (cn_of 6) 106 v ∈ ww_ok := ⟨7, by decide +kernel, ww_t 1146 (by decide +kernel)⟩
theorem hc_6_98 : ai_CF (cn_of 6) M_104 (.invokestatic 98) 1 := ⟨98, Or.inr (Or.inl ⟨rfl, rfl, ww_t 1147 (by decide +kernel), ww_t 1148 (by decide +kernel), by decide +kernel⟩)⟩
theorem hc_6_313 : ai_CF (cn_of 6) M_117 (.invokevirtual 313) 0 := ⟨313, Or.inl ⟨rfl, rfl, ww_t 1427 (by decide +kernel), ww_t 1429 (by decide +kernel), ww_p 63 (by decide +kernel), ⟨3, rfl, by decide +kernel⟩, ⟨_, rfl, rfl⟩⟩⟩
theorem hl_6_108 : ∃ v : Int64, v.toInt = 4 ∧ Cond.constantLong (cn_of 6) 108 v ∈ ww_ok := ⟨4, by decide +kernel, ww_t 1150 (by decide +kernel)⟩
theorem hf_6_193 : ∃ (C : String) (T : u_T) (N : Nat), classes[6]? = some (C, T, N) ∧ 9 < N ∧ Cond.fieldLink (cn_of 6) 193 C (T 9).2.1 (T 9).2.2.1 ∈ ww_ok := ⟨_, _, _, rfl, by decide, ww_t 1021 (by decide +kernel)⟩
theorem hf_6_95 : ∃ (C : String) (T : u_T) (N : Nat), classes[6]? = some (C, T, N) ∧ 11 < N ∧ Cond.fieldLink (cn_of 6) 95 C (T 11).2.1 (T 11).2.2.1 ∈ ww_ok := ⟨_, _, _, rfl, by decide, ww_t 1023 (by decide +kernel)⟩
theorem hc_6_283 : ai_CF (cn_of 6) M_123 (.invokevirtual 283) 0 := ⟨283, Or.inl ⟨rfl, rfl, ww_t 1278 (by decide +kernel), ww_t 1280 (by decide +kernel), ww_p 49 (by decide +kernel), ⟨1, rfl, by decide +kernel⟩, ⟨_, rfl, rfl⟩⟩⟩
theorem hf_6_221 : ∃ (C : String) (T : u_T) (N : Nat), classes[6]? = some (C, T, N) ∧ 38 < N ∧ Cond.fieldLink (cn_of 6) 221 C (T 38).2.1 (T 38).2.2.1 ∈ ww_ok := ⟨_, _, _, rfl, by decide, ww_t 1050 (by decide +kernel)⟩
theorem hc_6_405 : ai_CF (cn_of 6) M_78 (.invokespecial 405) 2 := ⟨405, Or.inr (Or.inr (Or.inl ⟨rfl, rfl, ww_t 1573 (by decide +kernel), ww_t 1002 (by decide +kernel), rfl, rfl, 0, rfl, by decide +kernel⟩))⟩
theorem hc_6_406 : ai_CF (cn_of 6) M_138 (.invokevirtual 406) 0 := ⟨406, Or.inl ⟨rfl, rfl, ww_t 1574 (by decide +kernel), ww_t 1576 (by decide +kernel), ww_p 79 (by decide +kernel), ⟨1, rfl, by decide +kernel⟩, ⟨_, rfl, rfl⟩⟩⟩
theorem hf_6_206 : ∃ (C : String) (T : u_T) (N : Nat), classes[6]? = some (C, T, N) ∧ 35 < N ∧ Cond.fieldLink (cn_of 6) 206 C (T 35).2.1 (T 35).2.2.1 ∈ ww_ok := ⟨_, _, _, rfl, by decide, ww_t 1047 (by decide +kernel)⟩
theorem hf_6_196 : ∃ (C : String) (T : u_T) (N : Nat), classes[6]? = some (C, T, N) ∧ 34 < N ∧ Cond.fieldLink (cn_of 6) 196 C (T 34).2.1 (T 34).2.2.1 ∈ ww_ok := ⟨_, _, _, rfl, by decide, ww_t 1046 (by decide +kernel)⟩
theorem hf_6_199 : ∃ (C : String) (T : u_T) (N : Nat), classes[6]? = some (C, T, N) ∧ 36 < N ∧ Cond.fieldLink (cn_of 6) 199 C (T 36).2.1 (T 36).2.2.1 ∈ ww_ok := ⟨_, _, _, rfl, by decide, ww_t 1048 (by decide +kernel)⟩
theorem hf_6_202 : ∃ (C : String) (T : u_T) (N : Nat), classes[6]? = some (C, T, N) ∧ 37 < N ∧ Cond.fieldLink (cn_of 6) 202 C (T 37).2.1 (T 37).2.2.1 ∈ ww_ok := ⟨_, _, _, rfl, by decide, ww_t 1049 (by decide +kernel)⟩
theorem hl_6_120 : ∃ v : Int64, v.toInt = 5 ∧ Cond.constantLong (cn_of 6) 120 v ∈ ww_ok := ⟨5, by decide +kernel, ww_t 1179 (by decide +kernel)⟩
theorem hl_6_122 : ∃ v : Int64, v.toInt = 3 ∧ Cond.constantLong (cn_of 6) 122 v ∈ ww_ok := ⟨3, by decide +kernel, ww_t 1180 (by decide +kernel)⟩
theorem hl_6_124 : ∃ v : Int64, v.toInt = 127 ∧ Cond.constantLong (cn_of 6) 124 v ∈ ww_ok := ⟨127, by decide +kernel, ww_t 1181 (by decide +kernel)⟩
theorem hc_6_242 : ai_CF (cn_of 6) M_111 (.invokevirtual 242) 0 := ⟨242, Or.inl ⟨rfl, rfl, ww_t 1282 (by decide +kernel), ww_t 1284 (by decide +kernel), ww_p 50 (by decide +kernel), ⟨0, rfl, by decide +kernel⟩, ⟨_, rfl, rfl⟩⟩⟩
theorem hc_6_278 : ai_CF (cn_of 6) M_84 (.invokevirtual 278) 0 := ⟨278, Or.inl ⟨rfl, rfl, ww_t 1295 (by decide +kernel), ww_t 1297 (by decide +kernel), ww_p 51 (by decide +kernel), ⟨1, rfl, by decide +kernel⟩, ⟨_, rfl, rfl⟩⟩⟩
theorem hl_6_110 : ∃ v : Int64, v.toInt = 40 ∧ Cond.constantLong (cn_of 6) 110 v ∈ ww_ok := ⟨40, by decide +kernel, ww_t 1151 (by decide +kernel)⟩
theorem hl_6_410 : ∃ v : Int64, v.toInt = 12 ∧ Cond.constantLong (cn_of 6) 410 v ∈ ww_ok := ⟨12, by decide +kernel, ww_t 1586 (by decide +kernel)⟩
theorem hl_6_412 : ∃ v : Int64, v.toInt = 16 ∧ Cond.constantLong (cn_of 6) 412 v ∈ ww_ok := ⟨16, by decide +kernel, ww_t 1587 (by decide +kernel)⟩
theorem hc_6_392 : ai_CF (cn_of 6) M_119 (.invokestatic 392) 1 := ⟨392, Or.inr (Or.inl ⟨rfl, rfl, ww_t 1558 (by decide +kernel), ww_t 1559 (by decide +kernel), by decide +kernel⟩)⟩
theorem hc_6_396 : ai_CF (cn_of 6) M_137 (.invokevirtual 396) 0 := ⟨396, Or.inl ⟨rfl, rfl, ww_t 1554 (by decide +kernel), ww_t 1556 (by decide +kernel), ww_p 78 (by decide +kernel), ⟨3, rfl, by decide +kernel⟩, ⟨_, rfl, rfl⟩⟩⟩
theorem hc_6_234 : ai_CF (cn_of 6) M_108 (.invokevirtual 234) 0 := ⟨234, Or.inl ⟨rfl, rfl, ww_t 1304 (by decide +kernel), ww_t 1306 (by decide +kernel), ww_p 53 (by decide +kernel), ⟨1, rfl, by decide +kernel⟩, ⟨_, rfl, rfl⟩⟩⟩
theorem hc_6_238 : ai_CF (cn_of 6) M_144 (.invokevirtual 238) 0 := ⟨238, Or.inl ⟨rfl, rfl, ww_t 1310 (by decide +kernel), ww_t 1312 (by decide +kernel), ww_p 54 (by decide +kernel), ⟨0, rfl, by decide +kernel⟩, ⟨_, rfl, rfl⟩⟩⟩
theorem hc_8_13 : ai_CF (cn_of 8) M_39 (.invokevirtual 13) 0 := ⟨13, Or.inl ⟨rfl, rfl, ww_t 345 (by decide +kernel), ww_t 346 (by decide +kernel), ww_t 347 (by decide +kernel), ⟨3, rfl, by decide +kernel⟩, ⟨_, rfl, rfl⟩⟩⟩
theorem hc_8_17 : ai_CF (cn_of 8) M_126 (.invokevirtual 17) 0 := ⟨17, Or.inl ⟨rfl, rfl, ww_t 1142 (by decide +kernel), ww_t 1143 (by decide +kernel), ww_t 1144 (by decide +kernel), ⟨3, rfl, by decide +kernel⟩, ⟨_, rfl, rfl⟩⟩⟩
theorem hl_8_18 : ∃ v : Int64, v.toInt = 4294967295 ∧ Cond.constantLong (cn_of 8) 18 v ∈ ww_ok := ⟨4294967295, by decide +kernel, ww_t 1588 (by decide +kernel)⟩
theorem hc_8_20 : ai_CF (cn_of 8) M_42 (.invokevirtual 20) 0 := ⟨20, Or.inl ⟨rfl, rfl, ww_t 364 (by decide +kernel), ww_t 365 (by decide +kernel), ww_t 366 (by decide +kernel), ⟨3, rfl, by decide +kernel⟩, ⟨_, rfl, rfl⟩⟩⟩
theorem hc_8_24 : ai_CF (cn_of 8) M_129 (.invokevirtual 24) 0 := ⟨24, Or.inl ⟨rfl, rfl, ww_t 1156 (by decide +kernel), ww_t 1157 (by decide +kernel), ww_t 1158 (by decide +kernel), ⟨3, rfl, by decide +kernel⟩, ⟨_, rfl, rfl⟩⟩⟩
theorem hc_8_25 : ai_CF (cn_of 8) M_9 (.invokevirtual 25) 0 := ⟨25, Or.inl ⟨rfl, rfl, ww_t 380 (by decide +kernel), ww_t 381 (by decide +kernel), ww_t 382 (by decide +kernel), ⟨5, rfl, by decide +kernel⟩, ⟨_, rfl, rfl⟩⟩⟩
theorem hc_8_29 : ai_CF (cn_of 8) M_88 (.invokevirtual 29) 0 := ⟨29, Or.inl ⟨rfl, rfl, ww_t 1163 (by decide +kernel), ww_t 1164 (by decide +kernel), ww_t 1165 (by decide +kernel), ⟨5, rfl, by decide +kernel⟩, ⟨_, rfl, rfl⟩⟩⟩
theorem hc_8_30 : ai_CF (cn_of 8) M_15 (.invokevirtual 30) 0 := ⟨30, Or.inl ⟨rfl, rfl, ww_t 388 (by decide +kernel), ww_t 389 (by decide +kernel), ww_t 390 (by decide +kernel), ⟨2, rfl, by decide +kernel⟩, ⟨_, rfl, rfl⟩⟩⟩
theorem hc_8_34 : ai_CF (cn_of 8) M_94 (.invokevirtual 34) 0 := ⟨34, Or.inl ⟨rfl, rfl, ww_t 1167 (by decide +kernel), ww_t 1168 (by decide +kernel), ww_t 1169 (by decide +kernel), ⟨2, rfl, by decide +kernel⟩, ⟨_, rfl, rfl⟩⟩⟩
theorem hc_8_35 : ai_CF (cn_of 8) M_25 (.invokevirtual 35) 0 := ⟨35, Or.inl ⟨rfl, rfl, ww_t 396 (by decide +kernel), ww_t 397 (by decide +kernel), ww_t 398 (by decide +kernel), ⟨1, rfl, by decide +kernel⟩, ⟨_, rfl, rfl⟩⟩⟩
theorem hc_8_39 : ai_CF (cn_of 8) M_102 (.invokevirtual 39) 0 := ⟨39, Or.inl ⟨rfl, rfl, ww_t 1171 (by decide +kernel), ww_t 1172 (by decide +kernel), ww_t 1173 (by decide +kernel), ⟨1, rfl, by decide +kernel⟩, ⟨_, rfl, rfl⟩⟩⟩
theorem hc_8_40 : ai_CF (cn_of 8) M_31 (.invokevirtual 40) 0 := ⟨40, Or.inl ⟨rfl, rfl, ww_t 400 (by decide +kernel), ww_t 401 (by decide +kernel), ww_t 402 (by decide +kernel), ⟨4, rfl, by decide +kernel⟩, ⟨_, rfl, rfl⟩⟩⟩
theorem hc_8_44 : ai_CF (cn_of 8) M_114 (.invokevirtual 44) 0 := ⟨44, Or.inl ⟨rfl, rfl, ww_t 1175 (by decide +kernel), ww_t 1176 (by decide +kernel), ww_t 1177 (by decide +kernel), ⟨4, rfl, by decide +kernel⟩, ⟨_, rfl, rfl⟩⟩⟩
theorem hc_8_45 : ai_CF (cn_of 8) M_40 (.invokevirtual 45) 0 := ⟨45, Or.inl ⟨rfl, rfl, ww_t 411 (by decide +kernel), ww_t 412 (by decide +kernel), ww_t 413 (by decide +kernel), ⟨2, rfl, by decide +kernel⟩, ⟨_, rfl, rfl⟩⟩⟩
theorem hc_8_49 : ai_CF (cn_of 8) M_127 (.invokevirtual 49) 0 := ⟨49, Or.inl ⟨rfl, rfl, ww_t 1182 (by decide +kernel), ww_t 1183 (by decide +kernel), ww_t 1184 (by decide +kernel), ⟨2, rfl, by decide +kernel⟩, ⟨_, rfl, rfl⟩⟩⟩
theorem hc_8_50 : ai_CF (cn_of 8) M_6 (.invokevirtual 50) 0 := ⟨50, Or.inl ⟨rfl, rfl, ww_t 427 (by decide +kernel), ww_t 428 (by decide +kernel), ww_t 429 (by decide +kernel), ⟨2, rfl, by decide +kernel⟩, ⟨_, rfl, rfl⟩⟩⟩
theorem hc_8_53 : ai_CF (cn_of 8) M_86 (.invokevirtual 53) 0 := ⟨53, Or.inl ⟨rfl, rfl, ww_t 1189 (by decide +kernel), ww_t 1190 (by decide +kernel), ww_t 1191 (by decide +kernel), ⟨2, rfl, by decide +kernel⟩, ⟨_, rfl, rfl⟩⟩⟩
theorem hc_8_54 : ai_CF (cn_of 8) M_29 (.invokevirtual 54) 0 := ⟨54, Or.inl ⟨rfl, rfl, ww_t 536 (by decide +kernel), ww_t 537 (by decide +kernel), ww_t 538 (by decide +kernel), ⟨2, rfl, by decide +kernel⟩, ⟨_, rfl, rfl⟩⟩⟩
theorem hc_8_57 : ai_CF (cn_of 8) M_112 (.invokevirtual 57) 0 := ⟨57, Or.inl ⟨rfl, rfl, ww_t 1262 (by decide +kernel), ww_t 1263 (by decide +kernel), ww_t 1264 (by decide +kernel), ⟨2, rfl, by decide +kernel⟩, ⟨_, rfl, rfl⟩⟩⟩
theorem hc_8_58 : ai_CF (cn_of 8) M_17 (.invokevirtual 58) 0 := ⟨58, Or.inl ⟨rfl, rfl, ww_t 544 (by decide +kernel), ww_t 545 (by decide +kernel), ww_t 546 (by decide +kernel), ⟨2, rfl, by decide +kernel⟩, ⟨_, rfl, rfl⟩⟩⟩
theorem hc_8_61 : ai_CF (cn_of 8) M_96 (.invokevirtual 61) 0 := ⟨61, Or.inl ⟨rfl, rfl, ww_t 1266 (by decide +kernel), ww_t 1267 (by decide +kernel), ww_t 1268 (by decide +kernel), ⟨2, rfl, by decide +kernel⟩, ⟨_, rfl, rfl⟩⟩⟩
theorem hc_8_62 : ai_CF (cn_of 8) M_55 (.invokevirtual 62) 0 := ⟨62, Or.inl ⟨rfl, rfl, ww_t 552 (by decide +kernel), ww_t 553 (by decide +kernel), ww_t 554 (by decide +kernel), ⟨0, rfl, by decide +kernel⟩, ⟨_, rfl, rfl⟩⟩⟩
theorem hc_8_66 : ai_CF (cn_of 8) M_142 (.invokevirtual 66) 0 := ⟨66, Or.inl ⟨rfl, rfl, ww_t 1270 (by decide +kernel), ww_t 1271 (by decide +kernel), ww_t 1272 (by decide +kernel), ⟨0, rfl, by decide +kernel⟩, ⟨_, rfl, rfl⟩⟩⟩
theorem hc_8_67 : ai_CF (cn_of 8) M_20 (.invokevirtual 67) 0 := ⟨67, Or.inl ⟨rfl, rfl, ww_t 556 (by decide +kernel), ww_t 557 (by decide +kernel), ww_t 558 (by decide +kernel), ⟨0, rfl, by decide +kernel⟩, ⟨_, rfl, rfl⟩⟩⟩
theorem hc_8_70 : ai_CF (cn_of 8) M_99 (.invokevirtual 70) 0 := ⟨70, Or.inl ⟨rfl, rfl, ww_t 1274 (by decide +kernel), ww_t 1275 (by decide +kernel), ww_t 1276 (by decide +kernel), ⟨0, rfl, by decide +kernel⟩, ⟨_, rfl, rfl⟩⟩⟩
theorem hc_8_71 : ai_CF (cn_of 8) M_22 (.invokevirtual 71) 0 := ⟨71, Or.inl ⟨rfl, rfl, ww_t 693 (by decide +kernel), ww_t 694 (by decide +kernel), ww_t 695 (by decide +kernel), ⟨2, rfl, by decide +kernel⟩, ⟨_, rfl, rfl⟩⟩⟩
theorem hc_8_74 : ai_CF (cn_of 8) M_100 (.invokevirtual 74) 0 := ⟨74, Or.inl ⟨rfl, rfl, ww_t 1337 (by decide +kernel), ww_t 1338 (by decide +kernel), ww_t 1339 (by decide +kernel), ⟨2, rfl, by decide +kernel⟩, ⟨_, rfl, rfl⟩⟩⟩
theorem hc_8_75 : ai_CF (cn_of 8) M_52 (.invokevirtual 75) 0 := ⟨75, Or.inl ⟨rfl, rfl, ww_t 698 (by decide +kernel), ww_t 699 (by decide +kernel), ww_t 700 (by decide +kernel), ⟨3, rfl, by decide +kernel⟩, ⟨_, rfl, rfl⟩⟩⟩
theorem hc_8_78 : ai_CF (cn_of 8) M_139 (.invokevirtual 78) 0 := ⟨78, Or.inl ⟨rfl, rfl, ww_t 1342 (by decide +kernel), ww_t 1343 (by decide +kernel), ww_t 1344 (by decide +kernel), ⟨3, rfl, by decide +kernel⟩, ⟨_, rfl, rfl⟩⟩⟩
theorem hc_8_79 : ai_CF (cn_of 8) M_24 (.invokevirtual 79) 0 := ⟨79, Or.inl ⟨rfl, rfl, ww_t 702 (by decide +kernel), ww_t 703 (by decide +kernel), ww_t 704 (by decide +kernel), ⟨2, rfl, by decide +kernel⟩, ⟨_, rfl, rfl⟩⟩⟩
theorem hc_8_82 : ai_CF (cn_of 8) M_101 (.invokevirtual 82) 0 := ⟨82, Or.inl ⟨rfl, rfl, ww_t 1350 (by decide +kernel), ww_t 1351 (by decide +kernel), ww_t 1352 (by decide +kernel), ⟨2, rfl, by decide +kernel⟩, ⟨_, rfl, rfl⟩⟩⟩
theorem hc_8_83 : ai_CF (cn_of 8) M_2 (.invokevirtual 83) 0 := ⟨83, Or.inl ⟨rfl, rfl, ww_t 708 (by decide +kernel), ww_t 709 (by decide +kernel), ww_t 710 (by decide +kernel), ⟨2, rfl, by decide +kernel⟩, ⟨_, rfl, rfl⟩⟩⟩
theorem hc_8_86 : ai_CF (cn_of 8) M_81 (.invokevirtual 86) 0 := ⟨86, Or.inl ⟨rfl, rfl, ww_t 1355 (by decide +kernel), ww_t 1356 (by decide +kernel), ww_t 1357 (by decide +kernel), ⟨2, rfl, by decide +kernel⟩, ⟨_, rfl, rfl⟩⟩⟩
theorem hc_8_87 : ai_CF (cn_of 8) M_11 (.invokevirtual 87) 0 := ⟨87, Or.inl ⟨rfl, rfl, ww_t 714 (by decide +kernel), ww_t 715 (by decide +kernel), ww_t 716 (by decide +kernel), ⟨3, rfl, by decide +kernel⟩, ⟨_, rfl, rfl⟩⟩⟩
theorem hc_8_91 : ai_CF (cn_of 8) M_90 (.invokevirtual 91) 0 := ⟨91, Or.inl ⟨rfl, rfl, ww_t 1359 (by decide +kernel), ww_t 1360 (by decide +kernel), ww_t 1361 (by decide +kernel), ⟨3, rfl, by decide +kernel⟩, ⟨_, rfl, rfl⟩⟩⟩
theorem hc_8_92 : ai_CF (cn_of 8) M_54 (.invokevirtual 92) 0 := ⟨92, Or.inl ⟨rfl, rfl, ww_t 719 (by decide +kernel), ww_t 720 (by decide +kernel), ww_t 721 (by decide +kernel), ⟨3, rfl, by decide +kernel⟩, ⟨_, rfl, rfl⟩⟩⟩
theorem hc_8_96 : ai_CF (cn_of 8) M_141 (.invokevirtual 96) 0 := ⟨96, Or.inl ⟨rfl, rfl, ww_t 1363 (by decide +kernel), ww_t 1364 (by decide +kernel), ww_t 1365 (by decide +kernel), ⟨3, rfl, by decide +kernel⟩, ⟨_, rfl, rfl⟩⟩⟩
theorem hc_8_97 : ai_CF (cn_of 8) M_1 (.invokevirtual 97) 0 := ⟨97, Or.inl ⟨rfl, rfl, ww_t 723 (by decide +kernel), ww_t 724 (by decide +kernel), ww_t 725 (by decide +kernel), ⟨3, rfl, by decide +kernel⟩, ⟨_, rfl, rfl⟩⟩⟩
theorem hc_8_100 : ai_CF (cn_of 8) M_80 (.invokevirtual 100) 0 := ⟨100, Or.inl ⟨rfl, rfl, ww_t 1367 (by decide +kernel), ww_t 1368 (by decide +kernel), ww_t 1369 (by decide +kernel), ⟨3, rfl, by decide +kernel⟩, ⟨_, rfl, rfl⟩⟩⟩
theorem hc_8_101 : ai_CF (cn_of 8) M_50 (.invokevirtual 101) 0 := ⟨101, Or.inl ⟨rfl, rfl, ww_t 735 (by decide +kernel), ww_t 736 (by decide +kernel), ww_t 737 (by decide +kernel), ⟨3, rfl, by decide +kernel⟩, ⟨_, rfl, rfl⟩⟩⟩
theorem hc_8_104 : ai_CF (cn_of 8) M_135 (.invokevirtual 104) 0 := ⟨104, Or.inl ⟨rfl, rfl, ww_t 1371 (by decide +kernel), ww_t 1372 (by decide +kernel), ww_t 1373 (by decide +kernel), ⟨3, rfl, by decide +kernel⟩, ⟨_, rfl, rfl⟩⟩⟩
theorem hc_8_105 : ai_CF (cn_of 8) M_36 (.invokevirtual 105) 0 := ⟨105, Or.inl ⟨rfl, rfl, ww_t 740 (by decide +kernel), ww_t 741 (by decide +kernel), ww_t 742 (by decide +kernel), ⟨2, rfl, by decide +kernel⟩, ⟨_, rfl, rfl⟩⟩⟩
theorem hc_8_108 : ai_CF (cn_of 8) M_122 (.invokevirtual 108) 0 := ⟨108, Or.inl ⟨rfl, rfl, ww_t 1379 (by decide +kernel), ww_t 1380 (by decide +kernel), ww_t 1381 (by decide +kernel), ⟨2, rfl, by decide +kernel⟩, ⟨_, rfl, rfl⟩⟩⟩
theorem hc_8_109 : ai_CF (cn_of 8) M_8 (.invokevirtual 109) 0 := ⟨109, Or.inl ⟨rfl, rfl, ww_t 754 (by decide +kernel), ww_t 755 (by decide +kernel), ww_t 756 (by decide +kernel), ⟨3, rfl, by decide +kernel⟩, ⟨_, rfl, rfl⟩⟩⟩
theorem hc_8_112 : ai_CF (cn_of 8) M_87 (.invokevirtual 112) 0 := ⟨112, Or.inl ⟨rfl, rfl, ww_t 1383 (by decide +kernel), ww_t 1384 (by decide +kernel), ww_t 1385 (by decide +kernel), ⟨3, rfl, by decide +kernel⟩, ⟨_, rfl, rfl⟩⟩⟩
theorem hc_8_113 : ai_CF (cn_of 8) M_35 (.invokevirtual 113) 0 := ⟨113, Or.inl ⟨rfl, rfl, ww_t 758 (by decide +kernel), ww_t 759 (by decide +kernel), ww_t 760 (by decide +kernel), ⟨3, rfl, by decide +kernel⟩, ⟨_, rfl, rfl⟩⟩⟩
theorem hc_8_116 : ai_CF (cn_of 8) M_121 (.invokevirtual 116) 0 := ⟨116, Or.inl ⟨rfl, rfl, ww_t 1387 (by decide +kernel), ww_t 1388 (by decide +kernel), ww_t 1389 (by decide +kernel), ⟨3, rfl, by decide +kernel⟩, ⟨_, rfl, rfl⟩⟩⟩
theorem hc_8_117 : ai_CF (cn_of 8) M_12 (.invokevirtual 117) 0 := ⟨117, Or.inl ⟨rfl, rfl, ww_t 779 (by decide +kernel), ww_t 780 (by decide +kernel), ww_t 781 (by decide +kernel), ⟨4, rfl, by decide +kernel⟩, ⟨_, rfl, rfl⟩⟩⟩
theorem hc_8_120 : ai_CF (cn_of 8) M_91 (.invokevirtual 120) 0 := ⟨120, Or.inl ⟨rfl, rfl, ww_t 1391 (by decide +kernel), ww_t 1392 (by decide +kernel), ww_t 1393 (by decide +kernel), ⟨4, rfl, by decide +kernel⟩, ⟨_, rfl, rfl⟩⟩⟩
theorem hc_8_121 : ai_CF (cn_of 8) M_13 (.invokevirtual 121) 0 := ⟨121, Or.inl ⟨rfl, rfl, ww_t 787 (by decide +kernel), ww_t 788 (by decide +kernel), ww_t 789 (by decide +kernel), ⟨3, rfl, by decide +kernel⟩, ⟨_, rfl, rfl⟩⟩⟩
theorem hc_8_124 : ai_CF (cn_of 8) M_92 (.invokevirtual 124) 0 := ⟨124, Or.inl ⟨rfl, rfl, ww_t 1399 (by decide +kernel), ww_t 1400 (by decide +kernel), ww_t 1401 (by decide +kernel), ⟨3, rfl, by decide +kernel⟩, ⟨_, rfl, rfl⟩⟩⟩
theorem hc_8_125 : ai_CF (cn_of 8) M_51 (.invokevirtual 125) 0 := ⟨125, Or.inl ⟨rfl, rfl, ww_t 795 (by decide +kernel), ww_t 796 (by decide +kernel), ww_t 797 (by decide +kernel), ⟨2, rfl, by decide +kernel⟩, ⟨_, rfl, rfl⟩⟩⟩
theorem hc_8_128 : ai_CF (cn_of 8) M_136 (.invokevirtual 128) 0 := ⟨128, Or.inl ⟨rfl, rfl, ww_t 1407 (by decide +kernel), ww_t 1408 (by decide +kernel), ww_t 1409 (by decide +kernel), ⟨2, rfl, by decide +kernel⟩, ⟨_, rfl, rfl⟩⟩⟩
theorem hc_8_129 : ai_CF (cn_of 8) M_33 (.invokevirtual 129) 0 := ⟨129, Or.inl ⟨rfl, rfl, ww_t 799 (by decide +kernel), ww_t 800 (by decide +kernel), ww_t 801 (by decide +kernel), ⟨2, rfl, by decide +kernel⟩, ⟨_, rfl, rfl⟩⟩⟩
theorem hc_8_132 : ai_CF (cn_of 8) M_118 (.invokevirtual 132) 0 := ⟨132, Or.inl ⟨rfl, rfl, ww_t 1411 (by decide +kernel), ww_t 1412 (by decide +kernel), ww_t 1413 (by decide +kernel), ⟨2, rfl, by decide +kernel⟩, ⟨_, rfl, rfl⟩⟩⟩
theorem hc_8_133 : ai_CF (cn_of 8) M_46 (.invokevirtual 133) 0 := ⟨133, Or.inl ⟨rfl, rfl, ww_t 808 (by decide +kernel), ww_t 809 (by decide +kernel), ww_t 810 (by decide +kernel), ⟨2, rfl, by decide +kernel⟩, ⟨_, rfl, rfl⟩⟩⟩
theorem hc_8_136 : ai_CF (cn_of 8) M_131 (.invokevirtual 136) 0 := ⟨136, Or.inl ⟨rfl, rfl, ww_t 1419 (by decide +kernel), ww_t 1420 (by decide +kernel), ww_t 1421 (by decide +kernel), ⟨2, rfl, by decide +kernel⟩, ⟨_, rfl, rfl⟩⟩⟩
theorem hc_8_137 : ai_CF (cn_of 8) M_27 (.invokevirtual 137) 0 := ⟨137, Or.inl ⟨rfl, rfl, ww_t 762 (by decide +kernel), ww_t 763 (by decide +kernel), ww_t 764 (by decide +kernel), ⟨3, rfl, by decide +kernel⟩, ⟨_, rfl, rfl⟩⟩⟩
theorem hc_8_140 : ai_CF (cn_of 8) M_109 (.invokevirtual 140) 0 := ⟨140, Or.inl ⟨rfl, rfl, ww_t 1423 (by decide +kernel), ww_t 1424 (by decide +kernel), ww_t 1425 (by decide +kernel), ⟨3, rfl, by decide +kernel⟩, ⟨_, rfl, rfl⟩⟩⟩
theorem hc_8_141 : ai_CF (cn_of 8) M_10 (.invokevirtual 141) 0 := ⟨141, Or.inl ⟨rfl, rfl, ww_t 775 (by decide +kernel), ww_t 776 (by decide +kernel), ww_t 777 (by decide +kernel), ⟨3, rfl, by decide +kernel⟩, ⟨_, rfl, rfl⟩⟩⟩
theorem hc_8_144 : ai_CF (cn_of 8) M_89 (.invokevirtual 144) 0 := ⟨144, Or.inl ⟨rfl, rfl, ww_t 1437 (by decide +kernel), ww_t 1438 (by decide +kernel), ww_t 1439 (by decide +kernel), ⟨3, rfl, by decide +kernel⟩, ⟨_, rfl, rfl⟩⟩⟩
theorem hc_8_145 : ai_CF (cn_of 8) M_53 (.invokevirtual 145) 0 := ⟨145, Or.inl ⟨rfl, rfl, ww_t 816 (by decide +kernel), ww_t 817 (by decide +kernel), ww_t 818 (by decide +kernel), ⟨3, rfl, by decide +kernel⟩, ⟨_, rfl, rfl⟩⟩⟩
theorem hc_8_148 : ai_CF (cn_of 8) M_140 (.invokevirtual 148) 0 := ⟨148, Or.inl ⟨rfl, rfl, ww_t 1441 (by decide +kernel), ww_t 1442 (by decide +kernel), ww_t 1443 (by decide +kernel), ⟨3, rfl, by decide +kernel⟩, ⟨_, rfl, rfl⟩⟩⟩
theorem hc_8_149 : ai_CF (cn_of 8) M_38 (.invokevirtual 149) 0 := ⟨149, Or.inl ⟨rfl, rfl, ww_t 824 (by decide +kernel), ww_t 825 (by decide +kernel), ww_t 826 (by decide +kernel), ⟨2, rfl, by decide +kernel⟩, ⟨_, rfl, rfl⟩⟩⟩
theorem hc_8_152 : ai_CF (cn_of 8) M_125 (.invokevirtual 152) 0 := ⟨152, Or.inl ⟨rfl, rfl, ww_t 1449 (by decide +kernel), ww_t 1450 (by decide +kernel), ww_t 1451 (by decide +kernel), ⟨2, rfl, by decide +kernel⟩, ⟨_, rfl, rfl⟩⟩⟩
theorem hc_8_153 : ai_CF (cn_of 8) M_5 (.invokevirtual 153) 0 := ⟨153, Or.inl ⟨rfl, rfl, ww_t 832 (by decide +kernel), ww_t 833 (by decide +kernel), ww_t 834 (by decide +kernel), ⟨2, rfl, by decide +kernel⟩, ⟨_, rfl, rfl⟩⟩⟩
theorem hc_8_156 : ai_CF (cn_of 8) M_85 (.invokevirtual 156) 0 := ⟨156, Or.inl ⟨rfl, rfl, ww_t 1457 (by decide +kernel), ww_t 1458 (by decide +kernel), ww_t 1459 (by decide +kernel), ⟨2, rfl, by decide +kernel⟩, ⟨_, rfl, rfl⟩⟩⟩
theorem hc_8_157 : ai_CF (cn_of 8) M_18 (.invokevirtual 157) 0 := ⟨157, Or.inl ⟨rfl, rfl, ww_t 858 (by decide +kernel), ww_t 859 (by decide +kernel), ww_t 860 (by decide +kernel), ⟨2, rfl, by decide +kernel⟩, ⟨_, rfl, rfl⟩⟩⟩
theorem hc_8_160 : ai_CF (cn_of 8) M_97 (.invokevirtual 160) 0 := ⟨160, Or.inl ⟨rfl, rfl, ww_t 1461 (by decide +kernel), ww_t 1462 (by decide +kernel), ww_t 1463 (by decide +kernel), ⟨2, rfl, by decide +kernel⟩, ⟨_, rfl, rfl⟩⟩⟩
theorem hc_8_161 : ai_CF (cn_of 8) M_28 (.invokevirtual 161) 0 := ⟨161, Or.inl ⟨rfl, rfl, ww_t 927 (by decide +kernel), ww_t 928 (by decide +kernel), ww_t 929 (by decide +kernel), ⟨2, rfl, by decide +kernel⟩, ⟨_, rfl, rfl⟩⟩⟩
theorem hc_8_164 : ai_CF (cn_of 8) M_110 (.invokevirtual 164) 0 := ⟨164, Or.inl ⟨rfl, rfl, ww_t 1502 (by decide +kernel), ww_t 1503 (by decide +kernel), ww_t 1504 (by decide +kernel), ⟨2, rfl, by decide +kernel⟩, ⟨_, rfl, rfl⟩⟩⟩
theorem hc_8_165 : ai_CF (cn_of 8) M_19 (.invokevirtual 165) 0 := ⟨165, Or.inl ⟨rfl, rfl, ww_t 931 (by decide +kernel), ww_t 932 (by decide +kernel), ww_t 933 (by decide +kernel), ⟨2, rfl, by decide +kernel⟩, ⟨_, rfl, rfl⟩⟩⟩
theorem hc_8_168 : ai_CF (cn_of 8) M_98 (.invokevirtual 168) 0 := ⟨168, Or.inl ⟨rfl, rfl, ww_t 1506 (by decide +kernel), ww_t 1507 (by decide +kernel), ww_t 1508 (by decide +kernel), ⟨2, rfl, by decide +kernel⟩, ⟨_, rfl, rfl⟩⟩⟩
theorem hc_8_169 : ai_CF (cn_of 8) M_47 (.invokevirtual 169) 0 := ⟨169, Or.inl ⟨rfl, rfl, ww_t 935 (by decide +kernel), ww_t 936 (by decide +kernel), ww_t 937 (by decide +kernel), ⟨2, rfl, by decide +kernel⟩, ⟨_, rfl, rfl⟩⟩⟩
theorem hc_8_172 : ai_CF (cn_of 8) M_132 (.invokevirtual 172) 0 := ⟨172, Or.inl ⟨rfl, rfl, ww_t 1510 (by decide +kernel), ww_t 1511 (by decide +kernel), ww_t 1512 (by decide +kernel), ⟨2, rfl, by decide +kernel⟩, ⟨_, rfl, rfl⟩⟩⟩
theorem hc_8_173 : ai_CF (cn_of 8) M_14 (.invokevirtual 173) 0 := ⟨173, Or.inl ⟨rfl, rfl, ww_t 939 (by decide +kernel), ww_t 940 (by decide +kernel), ww_t 941 (by decide +kernel), ⟨1, rfl, by decide +kernel⟩, ⟨_, rfl, rfl⟩⟩⟩
theorem hc_8_176 : ai_CF (cn_of 8) M_93 (.invokevirtual 176) 0 := ⟨176, Or.inl ⟨rfl, rfl, ww_t 1514 (by decide +kernel), ww_t 1515 (by decide +kernel), ww_t 1516 (by decide +kernel), ⟨1, rfl, by decide +kernel⟩, ⟨_, rfl, rfl⟩⟩⟩
theorem hc_8_177 : ai_CF (cn_of 8) M_43 (.invokevirtual 177) 0 := ⟨177, Or.inl ⟨rfl, rfl, ww_t 947 (by decide +kernel), ww_t 948 (by decide +kernel), ww_t 949 (by decide +kernel), ⟨2, rfl, by decide +kernel⟩, ⟨_, rfl, rfl⟩⟩⟩
theorem hc_8_180 : ai_CF (cn_of 8) M_130 (.invokevirtual 180) 0 := ⟨180, Or.inl ⟨rfl, rfl, ww_t 1522 (by decide +kernel), ww_t 1523 (by decide +kernel), ww_t 1524 (by decide +kernel), ⟨2, rfl, by decide +kernel⟩, ⟨_, rfl, rfl⟩⟩⟩
theorem hc_8_181 : ai_CF (cn_of 8) M_32 (.invokevirtual 181) 0 := ⟨181, Or.inl ⟨rfl, rfl, ww_t 951 (by decide +kernel), ww_t 952 (by decide +kernel), ww_t 953 (by decide +kernel), ⟨3, rfl, by decide +kernel⟩, ⟨_, rfl, rfl⟩⟩⟩
theorem hc_8_184 : ai_CF (cn_of 8) M_115 (.invokevirtual 184) 0 := ⟨184, Or.inl ⟨rfl, rfl, ww_t 1526 (by decide +kernel), ww_t 1527 (by decide +kernel), ww_t 1528 (by decide +kernel), ⟨3, rfl, by decide +kernel⟩, ⟨_, rfl, rfl⟩⟩⟩
theorem hc_8_185 : ai_CF (cn_of 8) M_30 (.invokevirtual 185) 0 := ⟨185, Or.inl ⟨rfl, rfl, ww_t 960 (by decide +kernel), ww_t 961 (by decide +kernel), ww_t 962 (by decide +kernel), ⟨2, rfl, by decide +kernel⟩, ⟨_, rfl, rfl⟩⟩⟩
theorem hc_8_188 : ai_CF (cn_of 8) M_113 (.invokevirtual 188) 0 := ⟨188, Or.inl ⟨rfl, rfl, ww_t 1530 (by decide +kernel), ww_t 1531 (by decide +kernel), ww_t 1532 (by decide +kernel), ⟨2, rfl, by decide +kernel⟩, ⟨_, rfl, rfl⟩⟩⟩
theorem hc_8_189 : ai_CF (cn_of 8) M_34 (.invokevirtual 189) 0 := ⟨189, Or.inl ⟨rfl, rfl, ww_t 836 (by decide +kernel), ww_t 837 (by decide +kernel), ww_t 838 (by decide +kernel), ⟨1, rfl, by decide +kernel⟩, ⟨_, rfl, rfl⟩⟩⟩
theorem hc_8_192 : ai_CF (cn_of 8) M_120 (.invokevirtual 192) 0 := ⟨192, Or.inl ⟨rfl, rfl, ww_t 1534 (by decide +kernel), ww_t 1535 (by decide +kernel), ww_t 1536 (by decide +kernel), ⟨1, rfl, by decide +kernel⟩, ⟨_, rfl, rfl⟩⟩⟩
theorem hc_8_193 : ai_CF (cn_of 8) M_16 (.invokevirtual 193) 0 := ⟨193, Or.inl ⟨rfl, rfl, ww_t 849 (by decide +kernel), ww_t 850 (by decide +kernel), ww_t 851 (by decide +kernel), ⟨2, rfl, by decide +kernel⟩, ⟨_, rfl, rfl⟩⟩⟩
theorem hc_8_196 : ai_CF (cn_of 8) M_95 (.invokevirtual 196) 0 := ⟨196, Or.inl ⟨rfl, rfl, ww_t 1542 (by decide +kernel), ww_t 1543 (by decide +kernel), ww_t 1544 (by decide +kernel), ⟨2, rfl, by decide +kernel⟩, ⟨_, rfl, rfl⟩⟩⟩
theorem hc_8_197 : ai_CF (cn_of 8) M_4 (.invokevirtual 197) 0 := ⟨197, Or.inl ⟨rfl, rfl, ww_t 964 (by decide +kernel), ww_t 965 (by decide +kernel), ww_t 966 (by decide +kernel), ⟨2, rfl, by decide +kernel⟩, ⟨_, rfl, rfl⟩⟩⟩
theorem hc_8_200 : ai_CF (cn_of 8) M_83 (.invokevirtual 200) 0 := ⟨200, Or.inl ⟨rfl, rfl, ww_t 1550 (by decide +kernel), ww_t 1551 (by decide +kernel), ww_t 1552 (by decide +kernel), ⟨2, rfl, by decide +kernel⟩, ⟨_, rfl, rfl⟩⟩⟩
theorem hc_8_201 : ai_CF (cn_of 8) M_49 (.invokevirtual 201) 0 := ⟨201, Or.inl ⟨rfl, rfl, ww_t 974 (by decide +kernel), ww_t 975 (by decide +kernel), ww_t 976 (by decide +kernel), ⟨0, rfl, by decide +kernel⟩, ⟨_, rfl, rfl⟩⟩⟩
theorem hc_8_204 : ai_CF (cn_of 8) M_134 (.invokevirtual 204) 0 := ⟨204, Or.inl ⟨rfl, rfl, ww_t 1561 (by decide +kernel), ww_t 1562 (by decide +kernel), ww_t 1563 (by decide +kernel), ⟨0, rfl, by decide +kernel⟩, ⟨_, rfl, rfl⟩⟩⟩
theorem hc_8_205 : ai_CF (cn_of 8) M_41 (.invokevirtual 205) 0 := ⟨205, Or.inl ⟨rfl, rfl, ww_t 979 (by decide +kernel), ww_t 980 (by decide +kernel), ww_t 981 (by decide +kernel), ⟨1, rfl, by decide +kernel⟩, ⟨_, rfl, rfl⟩⟩⟩
theorem hc_8_208 : ai_CF (cn_of 8) M_128 (.invokevirtual 208) 0 := ⟨208, Or.inl ⟨rfl, rfl, ww_t 1565 (by decide +kernel), ww_t 1566 (by decide +kernel), ww_t 1567 (by decide +kernel), ⟨1, rfl, by decide +kernel⟩, ⟨_, rfl, rfl⟩⟩⟩
theorem hc_8_209 : ai_CF (cn_of 8) M_26 (.invokevirtual 209) 0 := ⟨209, Or.inl ⟨rfl, rfl, ww_t 983 (by decide +kernel), ww_t 984 (by decide +kernel), ww_t 985 (by decide +kernel), ⟨0, rfl, by decide +kernel⟩, ⟨_, rfl, rfl⟩⟩⟩
theorem hc_8_212 : ai_CF (cn_of 8) M_103 (.invokevirtual 212) 0 := ⟨212, Or.inl ⟨rfl, rfl, ww_t 1569 (by decide +kernel), ww_t 1570 (by decide +kernel), ww_t 1571 (by decide +kernel), ⟨0, rfl, by decide +kernel⟩, ⟨_, rfl, rfl⟩⟩⟩
theorem hc_8_213 : ai_CF (cn_of 8) M_3 (.invokevirtual 213) 0 := ⟨213, Or.inl ⟨rfl, rfl, ww_t 987 (by decide +kernel), ww_t 988 (by decide +kernel), ww_t 989 (by decide +kernel), ⟨0, rfl, by decide +kernel⟩, ⟨_, rfl, rfl⟩⟩⟩
theorem hc_8_216 : ai_CF (cn_of 8) M_82 (.invokevirtual 216) 0 := ⟨216, Or.inl ⟨rfl, rfl, ww_t 1578 (by decide +kernel), ww_t 1579 (by decide +kernel), ww_t 1580 (by decide +kernel), ⟨0, rfl, by decide +kernel⟩, ⟨_, rfl, rfl⟩⟩⟩
theorem hc_8_217 : ai_CF (cn_of 8) M_48 (.invokevirtual 217) 0 := ⟨217, Or.inl ⟨rfl, rfl, ww_t 991 (by decide +kernel), ww_t 992 (by decide +kernel), ww_t 993 (by decide +kernel), ⟨1, rfl, by decide +kernel⟩, ⟨_, rfl, rfl⟩⟩⟩
theorem hc_8_220 : ai_CF (cn_of 8) M_133 (.invokevirtual 220) 0 := ⟨220, Or.inl ⟨rfl, rfl, ww_t 1582 (by decide +kernel), ww_t 1583 (by decide +kernel), ww_t 1584 (by decide +kernel), ⟨1, rfl, by decide +kernel⟩, ⟨_, rfl, rfl⟩⟩⟩
end
section
/-! ===== the code is so, 1 ===== -/
theorem ek_0_0 : ∀ x ∈ C_0_0, ai_EK ai_mt M_0 x := List.forall_mem_cons.mpr ⟨ek_0 (by decide +kernel) rfl rfl, List.forall_mem_cons.mpr ⟨ek_5 (by decide +kernel) ho_0_3, List.forall_mem_cons.mpr ⟨ek_0 (by decide +kernel) rfl rfl, List.forall_mem_cons.mpr ⟨ek_0 (by decide +kernel) rfl rfl, List.forall_mem_cons.mpr ⟨ek_3 (by decide +kernel) rfl ha_0_9, List.forall_mem_cons.mpr ⟨ek_3 (by decide +kernel) rfl hf_0_11, List.forall_mem_cons.mpr ⟨ek_0 (by decide +kernel) rfl rfl, List.forall_mem_cons.mpr ⟨ek_0 (by decide +kernel) rfl rfl, List.forall_mem_cons.mpr ⟨ek_3 (by decide +kernel) rfl ha_0_9, List.forall_mem_cons.mpr ⟨ek_3 (by decide +kernel) rfl hf_0_15, List.forall_mem_cons.mpr ⟨ek_0 (by decide +kernel) rfl rfl, List.forall_mem_cons.mpr ⟨ek_0 (by decide +kernel) rfl rfl, List.forall_mem_cons.mpr ⟨ek_3 (by decide +kernel) rfl ha_0_18, List.forall_mem_cons.mpr ⟨ek_3 (by decide +kernel) rfl hf_0_20, List.forall_mem_cons.mpr ⟨ek_0 (by decide +kernel) rfl rfl, List.forall_mem_cons.mpr ⟨ek_3 (by decide +kernel) rfl hn_0_24, List.forall_mem_cons.mpr ⟨ek_0 (by decide +kernel) rfl rfl, List.forall_mem_cons.mpr ⟨ek_4 (by decide +kernel) rfl hc_0_26, List.forall_mem_cons.mpr ⟨ek_3 (by decide +kernel) rfl hf_0_27, List.forall_mem_cons.mpr ⟨ek_0 (by decide +kernel) rfl rfl, List.forall_mem_cons.mpr ⟨ek_3 (by decide +kernel) rfl hn_0_31, List.forall_mem_cons.mpr ⟨ek_0 (by decide +kernel) rfl rfl, List.forall_mem_cons.mpr ⟨ek_4 (by decide +kernel) rfl hc_0_33, List.forall_mem_cons.mpr ⟨ek_3 (by decide +kernel) rfl hf_0_34, List.forall_mem_cons.mpr ⟨ek_0 (by decide +kernel) rfl rfl, List.forall_mem_cons.mpr ⟨ek_3 (by decide +kernel) rfl hn_0_38, List.forall_mem_cons.mpr ⟨ek_0 (by decide +kernel) rfl rfl, List.forall_mem_cons.mpr ⟨ek_4 (by decide +kernel) rfl hc_0_40, List.forall_mem_cons.mpr ⟨ek_3 (by decide +kernel) rfl hf_0_41, List.forall_mem_cons.mpr ⟨ek_0 (by decide +kernel) rfl rfl, List.forall_mem_cons.mpr ⟨ek_3 (by decide +kernel) rfl hn_0_38, List.forall_mem_cons.mpr ⟨ek_0 (by decide +kernel) rfl rfl, List.forall_mem_cons.mpr ⟨ek_4 (by decide +kernel) rfl hc_0_40, List.forall_mem_cons.mpr ⟨ek_3 (by decide +kernel) rfl hf_0_45, List.forall_mem_cons.mpr ⟨ek_0 (by decide +kernel) rfl rfl, List.forall_mem_cons.mpr ⟨ek_3 (by decide +kernel) rfl hn_0_9, List.forall_mem_cons.mpr ⟨ek_0 (by decide +kernel) rfl rfl, List.forall_mem_cons.mpr ⟨ek_4 (by decide +kernel) rfl hc_0_48, List.forall_mem_cons.mpr ⟨ek_3 (by decide +kernel) rfl hf_0_49, List.forall_mem_cons.mpr ⟨ek_0 (by decide +kernel) rfl rfl, List.forall_mem_cons.mpr ⟨ek_0 (by decide +kernel) rfl rfl, List.forall_mem_cons.mpr ⟨ek_3 (by decide +kernel) rfl trivial, List.forall_mem_cons.mpr ⟨ek_3 (by decide +kernel) rfl hf_0_53, List.forall_mem_cons.mpr ⟨ek_0 (by decide +kernel) rfl rfl, List.forall_mem_cons.mpr ⟨ek_0 (by decide +kernel) rfl rfl, List.forall_mem_cons.mpr ⟨ek_3 (by decide +kernel) rfl trivial, List.forall_mem_cons.mpr ⟨ek_3 (by decide +kernel) rfl hf_0_57, List.forall_mem_cons.mpr ⟨ek_0 (by decide +kernel) rfl rfl, List.forall_mem_cons.mpr ⟨ek_0 (by decide +kernel) rfl rfl, List.forall_mem_cons.mpr ⟨ek_3 (by decide +kernel) rfl hf_0_60, fun _ h => absurd h List.not_mem_nil⟩⟩⟩⟩⟩⟩⟩⟩⟩⟩⟩⟩⟩⟩⟩⟩⟩⟩⟩⟩⟩⟩⟩⟩⟩⟩⟩⟩⟩⟩⟩⟩⟩⟩⟩⟩⟩⟩⟩⟩⟩⟩⟩⟩⟩⟩⟩⟩⟩⟩
theorem ek_0_1 : ∀ x ∈ C_0_1, ai_EK ai_mt M_0 x := List.forall_mem_cons.mpr ⟨ek_0 (by decide +kernel) rfl rfl, List.forall_mem_cons.mpr ⟨ek_0 (by decide +kernel) rfl rfl, List.forall_mem_cons.mpr ⟨ek_3 (by decide +kernel) rfl hf_0_64, List.forall_mem_cons.mpr ⟨ek_0 (by decide +kernel) rfl rfl, List.forall_mem_cons.mpr ⟨ek_0 (by decide +kernel) rfl rfl, List.forall_mem_cons.mpr ⟨ek_3 (by decide +kernel) rfl hf_0_67, List.forall_mem_cons.mpr ⟨ek_0 (by decide +kernel) rfl rfl, List.forall_mem_cons.mpr ⟨ek_0 (by decide +kernel) rfl rfl, List.forall_mem_cons.mpr ⟨ek_0 (by decide +kernel) rfl rfl, List.forall_mem_cons.mpr ⟨ek_0 (by decide +kernel) rfl rfl, List.forall_mem_cons.mpr ⟨ek_2 (by decide +kernel) rfl rfl, List.forall_mem_cons.mpr ⟨ek_0 (by decide +kernel) rfl rfl, List.forall_mem_cons.mpr ⟨ek_3 (by decide +kernel) rfl hf_0_11, List.forall_mem_cons.mpr ⟨ek_0 (by decide +kernel) rfl rfl, List.forall_mem_cons.mpr ⟨ek_3 (by decide +kernel) rfl hn_0_9, List.forall_mem_cons.mpr ⟨ek_0 (by decide +kernel) rfl rfl, List.forall_mem_cons.mpr ⟨ek_4 (by decide +kernel) rfl hc_0_48, List.forall_mem_cons.mpr ⟨ek_3 (by decide +kernel) rfl trivial, List.forall_mem_cons.mpr ⟨ek_0 (by decide +kernel) rfl rfl, List.forall_mem_cons.mpr ⟨ek_3 (by decide +kernel) rfl hf_0_15, List.forall_mem_cons.mpr ⟨ek_0 (by decide +kernel) rfl rfl, List.forall_mem_cons.mpr ⟨ek_3 (by decide +kernel) rfl hn_0_9, List.forall_mem_cons.mpr ⟨ek_0 (by decide +kernel) rfl rfl, List.forall_mem_cons.mpr ⟨ek_4 (by decide +kernel) rfl hc_0_48, List.forall_mem_cons.mpr ⟨ek_3 (by decide +kernel) rfl trivial, List.forall_mem_cons.mpr ⟨ek_0 (by decide +kernel) rfl rfl, List.forall_mem_cons.mpr ⟨ek_2 (by decide +kernel) rfl rfl, List.forall_mem_cons.mpr ⟨ek_0 (by decide +kernel) rfl rfl, List.forall_mem_cons.mpr ⟨ek_0 (by decide +kernel) rfl rfl, List.forall_mem_cons.mpr ⟨ek_0 (by decide +kernel) rfl rfl, List.forall_mem_cons.mpr ⟨ek_0 (by decide +kernel) rfl rfl, List.forall_mem_cons.mpr ⟨ek_2 (by decide +kernel) rfl rfl, List.forall_mem_cons.mpr ⟨ek_0 (by decide +kernel) rfl rfl, List.forall_mem_cons.mpr ⟨ek_3 (by decide +kernel) rfl hf_0_20, List.forall_mem_cons.mpr ⟨ek_0 (by decide +kernel) rfl rfl, List.forall_mem_cons.mpr ⟨ek_3 (by decide +kernel) rfl hn_0_18, List.forall_mem_cons.mpr ⟨ek_0 (by decide +kernel) rfl rfl, List.forall_mem_cons.mpr ⟨ek_4 (by decide +kernel) rfl hc_0_71, List.forall_mem_cons.mpr ⟨ek_3 (by decide +kernel) rfl trivial, List.forall_mem_cons.mpr ⟨ek_0 (by decide +kernel) rfl rfl, List.forall_mem_cons.mpr ⟨ek_2 (by decide +kernel) rfl rfl, List.forall_mem_cons.mpr ⟨ek_6 (by decide +kernel), fun _ h => absurd h List.not_mem_nil⟩⟩⟩⟩⟩⟩⟩⟩⟩⟩⟩⟩⟩⟩⟩⟩⟩⟩⟩⟩⟩⟩⟩⟩⟩⟩⟩⟩⟩⟩⟩⟩⟩⟩⟩⟩⟩⟩⟩⟩⟩⟩
theorem ea_0 : ∀ x ∈ ai_cd M_0, ai_EK ai_mt M_0 x := List.forall_mem_append.mpr ⟨ek_0_0, ek_0_1⟩
theorem nk_0 : ai_NK ai_mt M_0 := ⟨ww_t 22 (by decide +kernel), ww_t 1 (by decide +kernel), by decide +kernel, ⟨by decide +kernel, by decide +kernel⟩, rfl, by decide, fun _ => rfl, ea_0⟩
theorem ek_1_0 : ∀ x ∈ C_1_0, ai_EK ai_mt M_1 x := List.forall_mem_cons.mpr ⟨ek_0 (by decide +kernel) rfl rfl, List.forall_mem_cons.mpr ⟨ek_0 (by decide +kernel) rfl rfl, List.forall_mem_cons.mpr ⟨ek_4 (by decide +kernel) rfl hc_0_138, List.forall_mem_cons.mpr ⟨ek_0 (by decide +kernel) rfl rfl, List.forall_mem_cons.mpr ⟨ek_0 (by decide +kernel) rfl rfl, List.forall_mem_cons.mpr ⟨ek_2 (by decide +kernel) rfl rfl, List.forall_mem_cons.mpr ⟨ek_0 (by decide +kernel) rfl rfl, List.forall_mem_cons.mpr ⟨ek_0 (by decide +kernel) rfl rfl, List.forall_mem_cons.mpr ⟨ek_4 (by decide +kernel) rfl hc_0_76, List.forall_mem_cons.mpr ⟨ek_6 (by decide +kernel), fun _ h => absurd h List.not_mem_nil⟩⟩⟩⟩⟩⟩⟩⟩⟩⟩
theorem ea_1 : ∀ x ∈ ai_cd M_1, ai_EK ai_mt M_1 x := ek_1_0
theorem nk_1 : ai_NK ai_mt M_1 := ⟨ww_t 726 (by decide +kernel), ww_t 1 (by decide +kernel), by decide +kernel, ⟨by decide +kernel, by decide +kernel⟩, rfl, by decide, (fun h => by cases h), ea_1⟩
theorem ek_2_0 : ∀ x ∈ C_2_0, ai_EK ai_mt M_2 x := List.forall_mem_cons.mpr ⟨ek_0 (by decide +kernel) rfl rfl, List.forall_mem_cons.mpr ⟨ek_0 (by decide +kernel) rfl rfl, List.forall_mem_cons.mpr ⟨ek_4 (by decide +kernel) rfl hc_0_138, List.forall_mem_cons.mpr ⟨ek_0 (by decide +kernel) rfl rfl, List.forall_mem_cons.mpr ⟨ek_0 (by decide +kernel) rfl rfl, List.forall_mem_cons.mpr ⟨ek_2 (by decide +kernel) rfl rfl, List.forall_mem_cons.mpr ⟨ek_0 (by decide +kernel) rfl rfl, List.forall_mem_cons.mpr ⟨ek_0 (by decide +kernel) rfl rfl, List.forall_mem_cons.mpr ⟨ek_4 (by decide +kernel) rfl hc_0_76, List.forall_mem_cons.mpr ⟨ek_6 (by decide +kernel), fun _ h => absurd h List.not_mem_nil⟩⟩⟩⟩⟩⟩⟩⟩⟩⟩
theorem ea_2 : ∀ x ∈ ai_cd M_2, ai_EK ai_mt M_2 x := ek_2_0
theorem nk_2 : ai_NK ai_mt M_2 := ⟨ww_t 711 (by decide +kernel), ww_t 1 (by decide +kernel), by decide +kernel, ⟨by decide +kernel, by decide +kernel⟩, rfl, by decide, (fun h => by cases h), ea_2⟩
theorem ek_3_0 : ∀ x ∈ C_3_0, ai_EK ai_mt M_3 x := List.forall_mem_cons.mpr ⟨ek_0 (by decide +kernel) rfl rfl, List.forall_mem_cons.mpr ⟨ek_3 (by decide +kernel) rfl hf_0_64, List.forall_mem_cons.mpr ⟨ek_0 (by decide +kernel) rfl rfl, List.forall_mem_cons.mpr ⟨ek_2 (by decide +kernel) rfl rfl, List.forall_mem_cons.mpr ⟨ek_0 (by decide +kernel) rfl rfl, List.forall_mem_cons.mpr ⟨ek_0 (by decide +kernel) rfl rfl, List.forall_mem_cons.mpr ⟨ek_4 (by decide +kernel) rfl hc_0_76, List.forall_mem_cons.mpr ⟨ek_6 (by decide +kernel), fun _ h => absurd h List.not_mem_nil⟩⟩⟩⟩⟩⟩⟩⟩
theorem ea_3 : ∀ x ∈ ai_cd M_3, ai_EK ai_mt M_3 x := ek_3_0
theorem nk_3 : ai_NK ai_mt M_3 := ⟨ww_t 990 (by decide +kernel), ww_t 1 (by decide +kernel), by decide +kernel, ⟨by decide +kernel, by decide +kernel⟩, rfl, by decide, (fun h => by cases h), ea_3⟩
theorem ek_4_0 : ∀ x ∈ C_4_0, ai_EK ai_mt M_4 x := List.forall_mem_cons.mpr ⟨ek_0 (by decide +kernel) rfl rfl, List.forall_mem_cons.mpr ⟨ek_0 (by decide +kernel) rfl rfl, List.forall_mem_cons.mpr ⟨ek_0 (by decide +kernel) rfl rfl, List.forall_mem_cons.mpr ⟨ek_4 (by decide +kernel) rfl hc_0_265, List.forall_mem_cons.mpr ⟨ek_0 (by decide +kernel) rfl rfl, List.forall_mem_cons.mpr ⟨ek_0 (by decide +kernel) rfl rfl, List.forall_mem_cons.mpr ⟨ek_2 (by decide +kernel) rfl rfl, List.forall_mem_cons.mpr ⟨ek_0 (by decide +kernel) rfl rfl, List.forall_mem_cons.mpr ⟨ek_0 (by decide +kernel) rfl rfl, List.forall_mem_cons.mpr ⟨ek_4 (by decide +kernel) rfl hc_0_76, List.forall_mem_cons.mpr ⟨ek_6 (by decide +kernel), fun _ h => absurd h List.not_mem_nil⟩⟩⟩⟩⟩⟩⟩⟩⟩⟩⟩
theorem ea_4 : ∀ x ∈ ai_cd M_4, ai_EK ai_mt M_4 x := ek_4_0
theorem nk_4 : ai_NK ai_mt M_4 := ⟨ww_t 967 (by decide +kernel), ww_t 1 (by decide +kernel), by decide +kernel, ⟨by decide +kernel, by decide +kernel⟩, rfl, by decide, (fun h => by cases h), ea_4⟩
theorem ek_5_0 : ∀ x ∈ C_5_0, ai_EK ai_mt M_5 x := List.forall_mem_cons.mpr ⟨ek_0 (by decide +kernel) rfl rfl, List.forall_mem_cons.mpr ⟨ek_0 (by decide +kernel) rfl rfl, List.forall_mem_cons.mpr ⟨ek_0 (by decide +kernel) rfl rfl, List.forall_mem_cons.mpr ⟨ek_4 (by decide +kernel) rfl hc_0_265, List.forall_mem_cons.mpr ⟨ek_0 (by decide +kernel) rfl rfl, List.forall_mem_cons.mpr ⟨ek_0 (by decide +kernel) rfl rfl, List.forall_mem_cons.mpr ⟨ek_2 (by decide +kernel) rfl rfl, List.forall_mem_cons.mpr ⟨ek_0 (by decide +kernel) rfl rfl, List.forall_mem_cons.mpr ⟨ek_0 (by decide +kernel) rfl rfl, List.forall_mem_cons.mpr ⟨ek_4 (by decide +kernel) rfl hc_0_76, List.forall_mem_cons.mpr ⟨ek_6 (by decide +kernel), fun _ h => absurd h List.not_mem_nil⟩⟩⟩⟩⟩⟩⟩⟩⟩⟩⟩
theorem ea_5 : ∀ x ∈ ai_cd M_5, ai_EK ai_mt M_5 x := ek_5_0
theorem nk_5 : ai_NK ai_mt M_5 := ⟨ww_t 835 (by decide +kernel), ww_t 1 (by decide +kernel), by decide +kernel, ⟨by decide +kernel, by decide +kernel⟩, rfl, by decide, (fun h => by cases h), ea_5⟩
theorem ek_6_0 : ∀ x ∈ C_6_0, ai_EK ai_mt M_6 x := List.forall_mem_cons.mpr ⟨ek_0 (by decide +kernel) rfl rfl, List.forall_mem_cons.mpr ⟨ek_0 (by decide +kernel) rfl rfl, List.forall_mem_cons.mpr ⟨ek_0 (by decide +kernel) rfl rfl, List.forall_mem_cons.mpr ⟨ek_4 (by decide +kernel) rfl hc_0_134, List.forall_mem_cons.mpr ⟨ek_0 (by decide +kernel) rfl rfl, List.forall_mem_cons.mpr ⟨ek_0 (by decide +kernel) rfl rfl, List.forall_mem_cons.mpr ⟨ek_2 (by decide +kernel) rfl rfl, List.forall_mem_cons.mpr ⟨ek_0 (by decide +kernel) rfl rfl, List.forall_mem_cons.mpr ⟨ek_0 (by decide +kernel) rfl rfl, List.forall_mem_cons.mpr ⟨ek_4 (by decide +kernel) rfl hc_0_76, List.forall_mem_cons.mpr ⟨ek_6 (by decide +kernel), fun _ h => absurd h List.not_mem_nil⟩⟩⟩⟩⟩⟩⟩⟩⟩⟩⟩
theorem ea_6 : ∀ x ∈ ai_cd M_6, ai_EK ai_mt M_6 x := ek_6_0
theorem nk_6 : ai_NK ai_mt M_6 := ⟨ww_t 430 (by decide +kernel), ww_t 1 (by decide +kernel), by decide +kernel, ⟨by decide +kernel, by decide +kernel⟩, rfl, by decide, (fun h => by cases h), ea_6⟩
theorem ek_7_0 : ∀ x ∈ C_7_0, ai_EK ai_mt M_7 x := List.forall_mem_cons.mpr ⟨ek_0 (by decide +kernel) rfl rfl, List.forall_mem_cons.mpr ⟨ek_2t (by decide +kernel) (by decide +kernel), List.forall_mem_cons.mpr ⟨ek_0 (by decide +kernel) rfl rfl, List.forall_mem_cons.mpr ⟨ek_2 (by decide +kernel) rfl rfl, List.forall_mem_cons.mpr ⟨ek_0 (by decide +kernel) rfl rfl, List.forall_mem_cons.mpr ⟨ek_0 (by decide +kernel) rfl rfl, List.forall_mem_cons.mpr ⟨ek_2 (by decide +kernel) rfl rfl, List.forall_mem_cons.mpr ⟨ek_0 (by decide +kernel) rfl rfl, List.forall_mem_cons.mpr ⟨ek_2 (by decide +kernel) rfl rfl, List.forall_mem_cons.mpr ⟨ek_0 (by decide +kernel) rfl rfl, List.forall_mem_cons.mpr ⟨ek_6 (by decide +kernel), List.forall_mem_cons.mpr ⟨ek_0 (by decide +kernel) rfl rfl, List.forall_mem_cons.mpr ⟨ek_0 (by decide +kernel) rfl rfl, List.forall_mem_cons.mpr ⟨ek_2 (by decide +kernel) rfl rfl, List.forall_mem_cons.mpr ⟨ek_0 (by decide +kernel) rfl rfl, List.forall_mem_cons.mpr ⟨ek_2 (by decide +kernel) rfl rfl, List.forall_mem_cons.mpr ⟨ek_0 (by decide +kernel) rfl rfl, List.forall_mem_cons.mpr ⟨ek_0 (by decide +kernel) rfl rfl, List.forall_mem_cons.mpr ⟨ek_2 (by decide +kernel) rfl rfl, List.forall_mem_cons.mpr ⟨ek_0 (by decide +kernel) rfl rfl, List.forall_mem_cons.mpr ⟨ek_2 (by decide +kernel) rfl rfl, List.forall_mem_cons.mpr ⟨ek_0 (by decide +kernel) rfl rfl, List.forall_mem_cons.mpr ⟨ek_6 (by decide +kernel), List.forall_mem_cons.mpr ⟨ek_0 (by decide +kernel) rfl rfl, List.forall_mem_cons.mpr ⟨ek_2 (by decide +kernel) rfl rfl, List.forall_mem_cons.mpr ⟨ek_0 (by decide +kernel) rfl rfl, List.forall_mem_cons.mpr ⟨ek_0 (by decide +kernel) rfl rfl, List.forall_mem_cons.mpr ⟨ek_2 (by decide +kernel) rfl rfl, List.forall_mem_cons.mpr ⟨ek_0 (by decide +kernel) rfl rfl, List.forall_mem_cons.mpr ⟨ek_2 (by decide +kernel) rfl rfl, List.forall_mem_cons.mpr ⟨ek_0 (by decide +kernel) rfl rfl, List.forall_mem_cons.mpr ⟨ek_6 (by decide +kernel), List.forall_mem_cons.mpr ⟨ek_0 (by decide +kernel) rfl rfl, List.forall_mem_cons.mpr ⟨ek_6 (by decide +kernel), fun _ h => absurd h List.not_mem_nil⟩⟩⟩⟩⟩⟩⟩⟩⟩⟩⟩⟩⟩⟩⟩⟩⟩⟩⟩⟩⟩⟩⟩⟩⟩⟩⟩⟩⟩⟩⟩⟩⟩⟩
theorem ea_7 : ∀ x ∈ ai_cd M_7, ai_EK ai_mt M_7 x := ek_7_0
theorem nk_7 : ai_NK ai_mt M_7 := ⟨ww_t 406 (by decide +kernel), ww_t 1 (by decide +kernel), by decide +kernel, ⟨by decide +kernel, by decide +kernel⟩, rfl, by decide, (fun h => by cases h), ea_7⟩
theorem ek_8_0 : ∀ x ∈ C_8_0, ai_EK ai_mt M_8 x := List.forall_mem_cons.mpr ⟨ek_0 (by decide +kernel) rfl rfl, List.forall_mem_cons.mpr ⟨ek_0 (by decide +kernel) rfl rfl, List.forall_mem_cons.mpr ⟨ek_4 (by decide +kernel) rfl hc_0_138, List.forall_mem_cons.mpr ⟨ek_0 (by decide +kernel) rfl rfl, List.forall_mem_cons.mpr ⟨ek_0 (by decide +kernel) rfl rfl, List.forall_mem_cons.mpr ⟨ek_2 (by decide +kernel) rfl rfl, List.forall_mem_cons.mpr ⟨ek_0 (by decide +kernel) rfl rfl, List.forall_mem_cons.mpr ⟨ek_0 (by decide +kernel) rfl rfl, List.forall_mem_cons.mpr ⟨ek_4 (by decide +kernel) rfl hc_0_76, List.forall_mem_cons.mpr ⟨ek_6 (by decide +kernel), fun _ h => absurd h List.not_mem_nil⟩⟩⟩⟩⟩⟩⟩⟩⟩⟩
theorem ea_8 : ∀ x ∈ ai_cd M_8, ai_EK ai_mt M_8 x := ek_8_0
theorem nk_8 : ai_NK ai_mt M_8 := ⟨ww_t 757 (by decide +kernel), ww_t 1 (by decide +kernel), by decide +kernel, ⟨by decide +kernel, by decide +kernel⟩, rfl, by decide, (fun h => by cases h), ea_8⟩
theorem ek_9_0 : ∀ x ∈ C_9_0, ai_EK ai_mt M_9 x := List.forall_mem_cons.mpr ⟨ek_0 (by decide +kernel) rfl rfl, List.forall_mem_cons.mpr ⟨ek_0 (by decide +kernel) rfl rfl, List.forall_mem_cons.mpr ⟨ek_4 (by decide +kernel) rfl hc_0_72, List.forall_mem_cons.mpr ⟨ek_0 (by decide +kernel) rfl rfl, List.forall_mem_cons.mpr ⟨ek_0 (by decide +kernel) rfl rfl, List.forall_mem_cons.mpr ⟨ek_0 (by decide +kernel) rfl rfl, List.forall_mem_cons.mpr ⟨ek_4 (by decide +kernel) rfl hc_0_72, List.forall_mem_cons.mpr ⟨ek_0 (by decide +kernel) rfl rfl, List.forall_mem_cons.mpr ⟨ek_0 (by decide +kernel) rfl rfl, List.forall_mem_cons.mpr ⟨ek_2 (by decide +kernel) rfl rfl, List.forall_mem_cons.mpr ⟨ek_0 (by decide +kernel) rfl rfl, List.forall_mem_cons.mpr ⟨ek_2 (by decide +kernel) rfl rfl, List.forall_mem_cons.mpr ⟨ek_0 (by decide +kernel) rfl rfl, List.forall_mem_cons.mpr ⟨ek_0 (by decide +kernel) rfl rfl, List.forall_mem_cons.mpr ⟨ek_4 (by decide +kernel) rfl hc_0_76, List.forall_mem_cons.mpr ⟨ek_6 (by decide +kernel), List.forall_mem_cons.mpr ⟨ek_0 (by decide +kernel) rfl rfl, List.forall_mem_cons.mpr ⟨ek_4 (by decide +kernel) rfl hc_0_95, List.forall_mem_cons.mpr ⟨ek_2 (by decide +kernel) rfl rfl, List.forall_mem_cons.mpr ⟨ek_0 (by decide +kernel) rfl rfl, List.forall_mem_cons.mpr ⟨ek_4 (by decide +kernel) rfl hc_0_95, List.forall_mem_cons.mpr ⟨ek_2 (by decide +kernel) rfl rfl, List.forall_mem_cons.mpr ⟨ek_0 (by decide +kernel) rfl rfl, List.forall_mem_cons.mpr ⟨ek_3 (by decide +kernel) rfl hf_0_99, List.forall_mem_cons.mpr ⟨ek_0 (by decide +kernel) rfl rfl, List.forall_mem_cons.mpr ⟨ek_2 (by decide +kernel) rfl rfl, List.forall_mem_cons.mpr ⟨ek_0 (by decide +kernel) rfl rfl, List.forall_mem_cons.mpr ⟨ek_3 (by decide +kernel) rfl hf_0_99, List.forall_mem_cons.mpr ⟨ek_0 (by decide +kernel) rfl rfl, List.forall_mem_cons.mpr ⟨ek_2 (by decide +kernel) rfl rfl, List.forall_mem_cons.mpr ⟨ek_0 (by decide +kernel) rfl rfl, List.forall_mem_cons.mpr ⟨ek_0 (by decide +kernel) rfl rfl, List.forall_mem_cons.mpr ⟨ek_4 (by decide +kernel) rfl hc_0_76, List.forall_mem_cons.mpr ⟨ek_6 (by decide +kernel), fun _ h => absurd h List.not_mem_nil⟩⟩⟩⟩⟩⟩⟩⟩⟩⟩⟩⟩⟩⟩⟩⟩⟩⟩⟩⟩⟩⟩⟩⟩⟩⟩⟩⟩⟩⟩⟩⟩⟩⟩
theorem ea_9 : ∀ x ∈ ai_cd M_9, ai_EK ai_mt M_9 x := ek_9_0
theorem nk_9 : ai_NK ai_mt M_9 := ⟨ww_t 383 (by decide +kernel), ww_t 1 (by decide +kernel), by decide +kernel, ⟨by decide +kernel, by decide +kernel⟩, rfl, by decide, (fun h => by cases h), ea_9⟩
theorem ek_10_0 : ∀ x ∈ C_10_0, ai_EK ai_mt M_10 x := List.forall_mem_cons.mpr ⟨ek_0 (by decide +kernel) rfl rfl, List.forall_mem_cons.mpr ⟨ek_0 (by decide +kernel) rfl rfl, List.forall_mem_cons.mpr ⟨ek_0 (by decide +kernel) rfl rfl, List.forall_mem_cons.mpr ⟨ek_0 (by decide +kernel) rfl rfl, List.forall_mem_cons.mpr ⟨ek_4 (by decide +kernel) rfl hc_0_257, List.forall_mem_cons.mpr ⟨ek_0 (by decide +kernel) rfl rfl, List.forall_mem_cons.mpr ⟨ek_0 (by decide +kernel) rfl rfl, List.forall_mem_cons.mpr ⟨ek_2 (by decide +kernel) rfl rfl, List.forall_mem_cons.mpr ⟨ek_0 (by decide +kernel) rfl rfl, List.forall_mem_cons.mpr ⟨ek_0 (by decide +kernel) rfl rfl, List.forall_mem_cons.mpr ⟨ek_4 (by decide +kernel) rfl hc_0_76, List.forall_mem_cons.mpr ⟨ek_6 (by decide +kernel), fun _ h => absurd h List.not_mem_nil⟩⟩⟩⟩⟩⟩⟩⟩⟩⟩⟩⟩
theorem ea_10 : ∀ x ∈ ai_cd M_10, ai_EK ai_mt M_10 x := ek_10_0
theorem nk_10 : ai_NK ai_mt M_10 := ⟨ww_t 778 (by decide +kernel), ww_t 1 (by decide +kernel), by decide +kernel, ⟨by decide +kernel, by decide +kernel⟩, rfl, by decide, (fun h => by cases h), ea_10⟩
theorem ek_11_0 : ∀ x ∈ C_11_0, ai_EK ai_mt M_11 x := List.forall_mem_cons.mpr ⟨ek_0 (by decide +kernel) rfl rfl, List.forall_mem_cons.mpr ⟨ek_0 (by decide +kernel) rfl rfl, List.forall_mem_cons.mpr ⟨ek_4 (by decide +kernel) rfl hc_0_138, List.forall_mem_cons.mpr ⟨ek_0 (by decide +kernel) rfl rfl, List.forall_mem_cons.mpr ⟨ek_0 (by decide +kernel) rfl rfl, List.forall_mem_cons.mpr ⟨ek_2 (by decide +kernel) rfl rfl, List.forall_mem_cons.mpr ⟨ek_0 (by decide +kernel) rfl rfl, List.forall_mem_cons.mpr ⟨ek_2 (by decide +kernel) rfl rfl, List.forall_mem_cons.mpr ⟨ek_6 (by decide +kernel), fun _ h => absurd h List.not_mem_nil⟩⟩⟩⟩⟩⟩⟩⟩⟩
theorem ea_11 : ∀ x ∈ ai_cd M_11, ai_EK ai_mt M_11 x := ek_11_0
theorem nk_11 : ai_NK ai_mt M_11 := ⟨ww_t 717 (by decide +kernel), ww_t 1 (by decide +kernel), by decide +kernel, ⟨by decide +kernel, by decide +kernel⟩, rfl, by decide, (fun h => by cases h), ea_11⟩
theorem ek_12_0 : ∀ x ∈ C_12_0, ai_EK ai_mt M_12 x := List.forall_mem_cons.mpr ⟨ek_0 (by decide +kernel) rfl rfl, List.forall_mem_cons.mpr ⟨ek_0 (by decide +kernel) rfl rfl, List.forall_mem_cons.mpr ⟨ek_0 (by decide +kernel) rfl rfl, List.forall_mem_cons.mpr ⟨ek_4 (by decide +kernel) rfl hc_0_265, List.forall_mem_cons.mpr ⟨ek_0 (by decide +kernel) rfl rfl, List.forall_mem_cons.mpr ⟨ek_0 (by decide +kernel) rfl rfl, List.forall_mem_cons.mpr ⟨ek_2 (by decide +kernel) rfl rfl, List.forall_mem_cons.mpr ⟨ek_0 (by decide +kernel) rfl rfl, List.forall_mem_cons.mpr ⟨ek_0 (by decide +kernel) rfl rfl, List.forall_mem_cons.mpr ⟨ek_4 (by decide +kernel) rfl hc_0_76, List.forall_mem_cons.mpr ⟨ek_6 (by decide +kernel), fun _ h => absurd h List.not_mem_nil⟩⟩⟩⟩⟩⟩⟩⟩⟩⟩⟩
theorem ea_12 : ∀ x ∈ ai_cd M_12, ai_EK ai_mt M_12 x := ek_12_0
theorem nk_12 : ai_NK ai_mt M_12 := ⟨ww_t 782 (by decide +kernel), ww_t 1 (by decide +kernel), by decide +kernel, ⟨by decide +kernel, by decide +kernel⟩, rfl, by decide, (fun h => by cases h), ea_12⟩
theorem ek_13_0 : ∀ x ∈ C_13_0, ai_EK ai_mt M_13 x := List.forall_mem_cons.mpr ⟨ek_0 (by decide +kernel) rfl rfl, List.forall_mem_cons.mpr ⟨ek_0 (by decide +kernel) rfl rfl, List.forall_mem_cons.mpr ⟨ek_0 (by decide +kernel) rfl rfl, List.forall_mem_cons.mpr ⟨ek_4 (by decide +kernel) rfl hc_0_265, List.forall_mem_cons.mpr ⟨ek_0 (by decide +kernel) rfl rfl, List.forall_mem_cons.mpr ⟨ek_0 (by decide +kernel) rfl rfl, List.forall_mem_cons.mpr ⟨ek_2 (by decide +kernel) rfl rfl, List.forall_mem_cons.mpr ⟨ek_0 (by decide +kernel) rfl rfl, List.forall_mem_cons.mpr ⟨ek_0 (by decide +kernel) rfl rfl, List.forall_mem_cons.mpr ⟨ek_4 (by decide +kernel) rfl hc_0_76, List.forall_mem_cons.mpr ⟨ek_6 (by decide +kernel), fun _ h => absurd h List.not_mem_nil⟩⟩⟩⟩⟩⟩⟩⟩⟩⟩⟩
theorem ea_13 : ∀ x ∈ ai_cd M_13, ai_EK ai_mt M_13 x := ek_13_0
theorem nk_13 : ai_NK ai_mt M_13 := ⟨ww_t 790 (by decide +kernel), ww_t 1 (by decide +kernel), by decide +kernel, ⟨by decide +kernel, by decide +kernel⟩, rfl, by decide, (fun h => by cases h), ea_13⟩
theorem ek_14_0 : ∀ x ∈ C_14_0, ai_EK ai_mt M_14 x := List.forall_mem_cons.mpr ⟨ek_0 (by decide +kernel) rfl rfl, List.forall_mem_cons.mpr ⟨ek_0 (by decide +kernel) rfl rfl, List.forall_mem_cons.mpr ⟨ek_4 (by decide +kernel) rfl hc_0_138, List.forall_mem_cons.mpr ⟨ek_0 (by decide +kernel) rfl rfl, List.forall_mem_cons.mpr ⟨ek_0 (by decide +kernel) rfl rfl, List.forall_mem_cons.mpr ⟨ek_2 (by decide +kernel) rfl rfl, List.forall_mem_cons.mpr ⟨ek_0 (by decide +kernel) rfl rfl, List.forall_mem_cons.mpr ⟨ek_0 (by decide +kernel) rfl rfl, List.forall_mem_cons.mpr ⟨ek_4 (by decide +kernel) rfl hc_0_76, List.forall_mem_cons.mpr ⟨ek_6 (by decide +kernel), fun _ h => absurd h List.not_mem_nil⟩⟩⟩⟩⟩⟩⟩⟩⟩⟩
theorem ea_14 : ∀ x ∈ ai_cd M_14, ai_EK ai_mt M_14 x := ek_14_0
theorem nk_14 : ai_NK ai_mt M_14 := ⟨ww_t 942 (by decide +kernel), ww_t 1 (by decide +kernel), by decide +kernel, ⟨by decide +kernel, by decide +kernel⟩, rfl, by decide, (fun h => by cases h), ea_14⟩
theorem ek_15_0 : ∀ x ∈ C_15_0, ai_EK ai_mt M_15 x := List.forall_mem_cons.mpr ⟨ek_0 (by decide +kernel) rfl rfl, List.forall_mem_cons.mpr ⟨ek_0 (by decide +kernel) rfl rfl, List.forall_mem_cons.mpr ⟨ek_4 (by decide +kernel) rfl hc_0_72, List.forall_mem_cons.mpr ⟨ek_0 (by decide +kernel) rfl rfl, List.forall_mem_cons.mpr ⟨ek_0 (by decide +kernel) rfl rfl, List.forall_mem_cons.mpr ⟨ek_2 (by decide +kernel) rfl rfl, List.forall_mem_cons.mpr ⟨ek_0 (by decide +kernel) rfl rfl, List.forall_mem_cons.mpr ⟨ek_4 (by decide +kernel) rfl hc_0_84, List.forall_mem_cons.mpr ⟨ek_2 (by decide +kernel) rfl rfl, List.forall_mem_cons.mpr ⟨ek_0 (by decide +kernel) rfl rfl, List.forall_mem_cons.mpr ⟨ek_6 (by decide +kernel), fun _ h => absurd h List.not_mem_nil⟩⟩⟩⟩⟩⟩⟩⟩⟩⟩⟩
theorem ea_15 : ∀ x ∈ ai_cd M_15, ai_EK ai_mt M_15 x := ek_15_0
theorem nk_15 : ai_NK ai_mt M_15 := ⟨ww_t 391 (by decide +kernel), ww_t 1 (by decide +kernel), by decide +kernel, ⟨by decide +kernel, by decide +kernel⟩, rfl, by decide, (fun h => by cases h), ea_15⟩
theorem ek_16_0 : ∀ x ∈ C_16_0, ai_EK ai_mt M_16 x := List.forall_mem_cons.mpr ⟨ek_0 (by decide +kernel) rfl rfl, List.forall_mem_cons.mpr ⟨ek_0 (by decide +kernel) rfl rfl, List.forall_mem_cons.mpr ⟨ek_4 (by decide +kernel) rfl hc_0_138, List.forall_mem_cons.mpr ⟨ek_0 (by decide +kernel) rfl rfl, List.forall_mem_cons.mpr ⟨ek_0 (by decide +kernel) rfl rfl, List.forall_mem_cons.mpr ⟨ek_2 (by decide +kernel) rfl rfl, List.forall_mem_cons.mpr ⟨ek_0 (by decide +kernel) rfl rfl, List.forall_mem_cons.mpr ⟨ek_6 (by decide +kernel), fun _ h => absurd h List.not_mem_nil⟩⟩⟩⟩⟩⟩⟩⟩
theorem ea_16 : ∀ x ∈ ai_cd M_16, ai_EK ai_mt M_16 x := ek_16_0
theorem nk_16 : ai_NK ai_mt M_16 := ⟨ww_t 852 (by decide +kernel), ww_t 1 (by decide +kernel), by decide +kernel, ⟨by decide +kernel, by decide +kernel⟩, rfl, by decide, (fun h => by cases h), ea_16⟩
theorem ek_17_0 : ∀ x ∈ C_17_0, ai_EK ai_mt M_17 x := List.forall_mem_cons.mpr ⟨ek_0 (by decide +kernel) rfl rfl, List.forall_mem_cons.mpr ⟨ek_0 (by decide +kernel) rfl rfl, List.forall_mem_cons.mpr ⟨ek_2 (by decide +kernel) rfl rfl, List.forall_mem_cons.mpr ⟨ek_0 (by decide +kernel) rfl rfl, List.forall_mem_cons.mpr ⟨ek_0 (by decide +kernel) rfl rfl, List.forall_mem_cons.mpr ⟨ek_2 (by decide +kernel) rfl rfl, List.forall_mem_cons.mpr ⟨ek_0 (by decide +kernel) rfl rfl, List.forall_mem_cons.mpr ⟨ek_0 (by decide +kernel) rfl rfl, List.forall_mem_cons.mpr ⟨ek_4 (by decide +kernel) rfl hc_0_76, List.forall_mem_cons.mpr ⟨ek_6 (by decide +kernel), List.forall_mem_cons.mpr ⟨ek_0 (by decide +kernel) rfl rfl, List.forall_mem_cons.mpr ⟨ek_3 (by decide +kernel) rfl hf_0_27, List.forall_mem_cons.mpr ⟨ek_3 (by decide +kernel) rfl hf_0_161, List.forall_mem_cons.mpr ⟨ek_0 (by decide +kernel) rfl rfl, List.forall_mem_cons.mpr ⟨ek_1 (by decide +kernel) rfl, List.forall_mem_cons.mpr ⟨ek_0 (by decide +kernel) rfl rfl, List.forall_mem_cons.mpr ⟨ek_2 (by decide +kernel) rfl rfl, List.forall_mem_cons.mpr ⟨ek_0 (by decide +kernel) rfl rfl, List.forall_mem_cons.mpr ⟨ek_0 (by decide +kernel) rfl rfl, List.forall_mem_cons.mpr ⟨ek_1 (by decide +kernel) rfl, List.forall_mem_cons.mpr ⟨ek_0 (by decide +kernel) rfl rfl, List.forall_mem_cons.mpr ⟨ek_0 (by decide +kernel) rfl rfl, List.forall_mem_cons.mpr ⟨ek_2 (by decide +kernel) rfl rfl, List.forall_mem_cons.mpr ⟨ek_0 (by decide +kernel) rfl rfl, List.forall_mem_cons.mpr ⟨ek_3 (by decide +kernel) rfl hf_0_27, List.forall_mem_cons.mpr ⟨ek_0 (by decide +kernel) rfl rfl, List.forall_mem_cons.mpr ⟨ek_0 (by decide +kernel) rfl rfl, List.forall_mem_cons.mpr ⟨ek_0 (by decide +kernel) rfl rfl, List.forall_mem_cons.mpr ⟨ek_1 (by decide +kernel) rfl, List.forall_mem_cons.mpr ⟨ek_1 (by decide +kernel) rfl, List.forall_mem_cons.mpr ⟨ek_1 (by decide +kernel) rfl, List.forall_mem_cons.mpr ⟨ek_4 (by decide +kernel) rfl hc_0_162, List.forall_mem_cons.mpr ⟨ek_0 (by decide +kernel) rfl rfl, List.forall_mem_cons.mpr ⟨ek_2 (by decide +kernel) rfl rfl, List.forall_mem_cons.mpr ⟨ek_0 (by decide +kernel) rfl rfl, List.forall_mem_cons.mpr ⟨ek_3 (by decide +kernel) rfl hf_0_27, List.forall_mem_cons.mpr ⟨ek_3 (by decide +kernel) rfl hf_0_161, List.forall_mem_cons.mpr ⟨ek_6 (by decide +kernel), fun _ h => absurd h List.not_mem_nil⟩⟩⟩⟩⟩⟩⟩⟩⟩⟩⟩⟩⟩⟩⟩⟩⟩⟩⟩⟩⟩⟩⟩⟩⟩⟩⟩⟩⟩⟩⟩⟩⟩⟩⟩⟩⟩⟩
theorem ea_17 : ∀ x ∈ ai_cd M_17, ai_EK ai_mt M_17 x := ek_17_0
theorem nk_17 : ai_NK ai_mt M_17 := ⟨ww_t 547 (by decide +kernel), ww_t 1 (by decide +kernel), by decide +kernel, ⟨by decide +kernel, by decide +kernel⟩, rfl, by decide, (fun h => by cases h), ea_17⟩
theorem ek_18_0 : ∀ x ∈ C_18_0, ai_EK ai_mt M_18 x := List.forall_mem_cons.mpr ⟨ek_0 (by decide +kernel) rfl rfl, List.forall_mem_cons.mpr ⟨ek_0 (by decide +kernel) rfl rfl, List.forall_mem_cons.mpr ⟨ek_0 (by decide +kernel) rfl rfl, List.forall_mem_cons.mpr ⟨ek_4 (by decide +kernel) rfl hc_0_265, List.forall_mem_cons.mpr ⟨ek_0 (by decide +kernel) rfl rfl, List.forall_mem_cons.mpr ⟨ek_0 (by decide +kernel) rfl rfl, List.forall_mem_cons.mpr ⟨ek_2 (by decide +kernel) rfl rfl, List.forall_mem_cons.mpr ⟨ek_0 (by decide +kernel) rfl rfl, List.forall_mem_cons.mpr ⟨ek_0 (by decide +kernel) rfl rfl, List.forall_mem_cons.mpr ⟨ek_4 (by decide +kernel) rfl hc_0_76, List.forall_mem_cons.mpr ⟨ek_6 (by decide +kernel), fun _ h => absurd h List.not_mem_nil⟩⟩⟩⟩⟩⟩⟩⟩⟩⟩⟩
theorem ea_18 : ∀ x ∈ ai_cd M_18, ai_EK ai_mt M_18 x := ek_18_0
theorem nk_18 : ai_NK ai_mt M_18 := ⟨ww_t 861 (by decide +kernel), ww_t 1 (by decide +kernel), by decide +kernel, ⟨by decide +kernel, by decide +kernel⟩, rfl, by decide, (fun h => by cases h), ea_18⟩
theorem ek_19_0 : ∀ x ∈ C_19_0, ai_EK ai_mt M_19 x := List.forall_mem_cons.mpr ⟨ek_0 (by decide +kernel) rfl rfl, List.forall_mem_cons.mpr ⟨ek_0 (by decide +kernel) rfl rfl, List.forall_mem_cons.mpr ⟨ek_0 (by decide +kernel) rfl rfl, List.forall_mem_cons.mpr ⟨ek_4 (by decide +kernel) rfl hc_0_265, List.forall_mem_cons.mpr ⟨ek_0 (by decide +kernel) rfl rfl, List.forall_mem_cons.mpr ⟨ek_0 (by decide +kernel) rfl rfl, List.forall_mem_cons.mpr ⟨ek_2 (by decide +kernel) rfl rfl, List.forall_mem_cons.mpr ⟨ek_0 (by decide +kernel) rfl rfl, List.forall_mem_cons.mpr ⟨ek_0 (by decide +kernel) rfl rfl, List.forall_mem_cons.mpr ⟨ek_4 (by decide +kernel) rfl hc_0_76, List.forall_mem_cons.mpr ⟨ek_6 (by decide +kernel), fun _ h => absurd h List.not_mem_nil⟩⟩⟩⟩⟩⟩⟩⟩⟩⟩⟩
theorem ea_19 : ∀ x ∈ ai_cd M_19, ai_EK ai_mt M_19 x := ek_19_0
theorem nk_19 : ai_NK ai_mt M_19 := ⟨ww_t 934 (by decide +kernel), ww_t 1 (by decide +kernel), by decide +kernel, ⟨by decide +kernel, by decide +kernel⟩, rfl, by decide, (fun h => by cases h), ea_19⟩
theorem ek_20_0 : ∀ x ∈ C_20_0, ai_EK ai_mt M_20 x := List.forall_mem_cons.mpr ⟨ek_0 (by decide +kernel) rfl rfl, List.forall_mem_cons.mpr ⟨ek_3 (by decide +kernel) rfl hf_0_60, List.forall_mem_cons.mpr ⟨ek_2 (by decide +kernel) rfl rfl, List.forall_mem_cons.mpr ⟨ek_0 (by decide +kernel) rfl rfl, List.forall_mem_cons.mpr ⟨ek_3 (by decide +kernel) rfl hf_0_60, List.forall_mem_cons.mpr ⟨ek_0 (by decide +kernel) rfl rfl, List.forall_mem_cons.mpr ⟨ek_2 (by decide +kernel) rfl rfl, List.forall_mem_cons.mpr ⟨ek_0 (by decide +kernel) rfl rfl, List.forall_mem_cons.mpr ⟨ek_3 (by decide +kernel) rfl hf_0_27, List.forall_mem_cons.mpr ⟨ek_0 (by decide +kernel) rfl rfl, List.forall_mem_cons.mpr ⟨ek_3 (by decide +kernel) rfl hf_0_11, List.forall_mem_cons.mpr ⟨ek_0 (by decide +kernel) rfl rfl, List.forall_mem_cons.mpr ⟨ek_3 (by decide +kernel) rfl hf_0_60, List.forall_mem_cons.mpr ⟨ek_3 (by decide +kernel) rfl trivial, List.forall_mem_cons.mpr ⟨ek_4 (by decide +kernel) rfl hc_0_166, List.forall_mem_cons.mpr ⟨ek_0 (by decide +kernel) rfl rfl, List.forall_mem_cons.mpr ⟨ek_0 (by decide +kernel) rfl rfl, List.forall_mem_cons.mpr ⟨ek_3 (by decide +kernel) rfl hf_0_27, List.forall_mem_cons.mpr ⟨ek_0 (by decide +kernel) rfl rfl, List.forall_mem_cons.mpr ⟨ek_3 (by decide +kernel) rfl hf_0_161, List.forall_mem_cons.mpr ⟨ek_0 (by decide +kernel) rfl rfl, List.forall_mem_cons.mpr ⟨ek_0 (by decide +kernel) rfl rfl, List.forall_mem_cons.mpr ⟨ek_2 (by decide +kernel) rfl rfl, List.forall_mem_cons.mpr ⟨ek_0 (by decide +kernel) rfl rfl, List.forall_mem_cons.mpr ⟨ek_0 (by decide +kernel) rfl rfl, List.forall_mem_cons.mpr ⟨ek_4 (by decide +kernel) rfl hc_0_76, List.forall_mem_cons.mpr ⟨ek_0 (by decide +kernel) rfl rfl, List.forall_mem_cons.mpr ⟨ek_0 (by decide +kernel) rfl rfl, List.forall_mem_cons.mpr ⟨ek_0 (by decide +kernel) rfl rfl, List.forall_mem_cons.mpr ⟨ek_1 (by decide +kernel) rfl, List.forall_mem_cons.mpr ⟨ek_6 (by decide +kernel), fun _ h => absurd h List.not_mem_nil⟩⟩⟩⟩⟩⟩⟩⟩⟩⟩⟩⟩⟩⟩⟩⟩⟩⟩⟩⟩⟩⟩⟩⟩⟩⟩⟩⟩⟩⟩⟩
theorem ea_20 : ∀ x ∈ ai_cd M_20, ai_EK ai_mt M_20 x := ek_20_0
theorem nk_20 : ai_NK ai_mt M_20 := ⟨ww_t 559 (by decide +kernel), ww_t 1 (by decide +kernel), by decide +kernel, ⟨by decide +kernel, by decide +kernel⟩, rfl, by decide, (fun h => by cases h), ea_20⟩
theorem ek_21_0 : ∀ x ∈ C_21_0, ai_EK ai_mt M_21 x := List.forall_mem_cons.mpr ⟨ek_0 (by decide +kernel) rfl rfl, List.forall_mem_cons.mpr ⟨ek_2 (by decide +kernel) rfl rfl, List.forall_mem_cons.mpr ⟨ek_0 (by decide +kernel) rfl rfl, List.forall_mem_cons.mpr ⟨ek_0 (by decide +kernel) rfl rfl, List.forall_mem_cons.mpr ⟨ek_3 (by decide +kernel) rfl hf_0_60, List.forall_mem_cons.mpr ⟨ek_2 (by decide +kernel) rfl rfl, List.forall_mem_cons.mpr ⟨ek_0 (by decide +kernel) rfl rfl, List.forall_mem_cons.mpr ⟨ek_6 (by decide +kernel), fun _ h => absurd h List.not_mem_nil⟩⟩⟩⟩⟩⟩⟩⟩
theorem ea_21 : ∀ x ∈ ai_cd M_21, ai_EK ai_mt M_21 x := ek_21_0
theorem nk_21 : ai_NK ai_mt M_21 := ⟨ww_t 438 (by decide +kernel), ww_t 1 (by decide +kernel), by decide +kernel, ⟨by decide +kernel, by decide +kernel⟩, rfl, by decide, (fun h => by cases h), ea_21⟩
theorem ek_22_0 : ∀ x ∈ C_22_0, ai_EK ai_mt M_22 x := List.forall_mem_cons.mpr ⟨ek_0 (by decide +kernel) rfl rfl, List.forall_mem_cons.mpr ⟨ek_0 (by decide +kernel) rfl rfl, List.forall_mem_cons.mpr ⟨ek_4 (by decide +kernel) rfl hc_0_138, List.forall_mem_cons.mpr ⟨ek_0 (by decide +kernel) rfl rfl, List.forall_mem_cons.mpr ⟨ek_0 (by decide +kernel) rfl rfl, List.forall_mem_cons.mpr ⟨ek_2 (by decide +kernel) rfl rfl, List.forall_mem_cons.mpr ⟨ek_0 (by decide +kernel) rfl rfl, List.forall_mem_cons.mpr ⟨ek_0 (by decide +kernel) rfl rfl, List.forall_mem_cons.mpr ⟨ek_4 (by decide +kernel) rfl hc_0_76, List.forall_mem_cons.mpr ⟨ek_6 (by decide +kernel), fun _ h => absurd h List.not_mem_nil⟩⟩⟩⟩⟩⟩⟩⟩⟩⟩
theorem ea_22 : ∀ x ∈ ai_cd M_22, ai_EK ai_mt M_22 x := ek_22_0
theorem nk_22 : ai_NK ai_mt M_22 := ⟨ww_t 696 (by decide +kernel), ww_t 1 (by decide +kernel), by decide +kernel, ⟨by decide +kernel, by decide +kernel⟩, rfl, by decide, (fun h => by cases h), ea_22⟩
theorem ek_23_0 : ∀ x ∈ C_23_0, ai_EK ai_mt M_23 x := List.forall_mem_cons.mpr ⟨ek_0 (by decide +kernel) rfl rfl, List.forall_mem_cons.mpr ⟨ek_2 (by decide +kernel) rfl rfl, List.forall_mem_cons.mpr ⟨ek_0 (by decide +kernel) rfl rfl, List.forall_mem_cons.mpr ⟨ek_0 (by decide +kernel) rfl rfl, List.forall_mem_cons.mpr ⟨ek_2 (by decide +kernel) rfl rfl, List.forall_mem_cons.mpr ⟨ek_0 (by decide +kernel) rfl rfl, List.forall_mem_cons.mpr ⟨ek_0 (by decide +kernel) rfl rfl, List.forall_mem_cons.mpr ⟨ek_4 (by decide +kernel) rfl hc_0_138, List.forall_mem_cons.mpr ⟨ek_2 (by decide +kernel) rfl rfl, List.forall_mem_cons.mpr ⟨ek_0 (by decide +kernel) rfl rfl, List.forall_mem_cons.mpr ⟨ek_6 (by decide +kernel), fun _ h => absurd h List.not_mem_nil⟩⟩⟩⟩⟩⟩⟩⟩⟩⟩⟩
theorem ea_23 : ∀ x ∈ ai_cd M_23, ai_EK ai_mt M_23 x := ek_23_0
theorem nk_23 : ai_NK ai_mt M_23 := ⟨ww_t 786 (by decide +kernel), ww_t 1 (by decide +kernel), by decide +kernel, ⟨by decide +kernel, by decide +kernel⟩, rfl, by decide, (fun h => by cases h), ea_23⟩
theorem ek_24_0 : ∀ x ∈ C_24_0, ai_EK ai_mt M_24 x := List.forall_mem_cons.mpr ⟨ek_0 (by decide +kernel) rfl rfl, List.forall_mem_cons.mpr ⟨ek_0 (by decide +kernel) rfl rfl, List.forall_mem_cons.mpr ⟨ek_4 (by decide +kernel) rfl hc_0_138, List.forall_mem_cons.mpr ⟨ek_0 (by decide +kernel) rfl rfl, List.forall_mem_cons.mpr ⟨ek_0 (by decide +kernel) rfl rfl, List.forall_mem_cons.mpr ⟨ek_2 (by decide +kernel) rfl rfl, List.forall_mem_cons.mpr ⟨ek_0 (by decide +kernel) rfl rfl, List.forall_mem_cons.mpr ⟨ek_6 (by decide +kernel), fun _ h => absurd h List.not_mem_nil⟩⟩⟩⟩⟩⟩⟩⟩
theorem ea_24 : ∀ x ∈ ai_cd M_24, ai_EK ai_mt M_24 x := ek_24_0
theorem nk_24 : ai_NK ai_mt M_24 := ⟨ww_t 705 (by decide +kernel), ww_t 1 (by decide +kernel), by decide +kernel, ⟨by decide +kernel, by decide +kernel⟩, rfl, by decide, (fun h => by cases h), ea_24⟩
theorem ek_25_0 : ∀ x ∈ C_25_0, ai_EK ai_mt M_25 x := List.forall_mem_cons.mpr ⟨ek_0 (by decide +kernel) rfl rfl, List.forall_mem_cons.mpr ⟨ek_0 (by decide +kernel) rfl rfl, List.forall_mem_cons.mpr ⟨ek_4 (by decide +kernel) rfl hc_0_72, List.forall_mem_cons.mpr ⟨ek_0 (by decide +kernel) rfl rfl, List.forall_mem_cons.mpr ⟨ek_0 (by decide +kernel) rfl rfl, List.forall_mem_cons.mpr ⟨ek_2 (by decide +kernel) rfl rfl, List.forall_mem_cons.mpr ⟨ek_0 (by decide +kernel) rfl rfl, List.forall_mem_cons.mpr ⟨ek_2 (by decide +kernel) rfl rfl, List.forall_mem_cons.mpr ⟨ek_0 (by decide +kernel) rfl rfl, List.forall_mem_cons.mpr ⟨ek_3 (by decide +kernel) rfl hf_0_99, List.forall_mem_cons.mpr ⟨ek_6 (by decide +kernel), fun _ h => absurd h List.not_mem_nil⟩⟩⟩⟩⟩⟩⟩⟩⟩⟩⟩
theorem ea_25 : ∀ x ∈ ai_cd M_25, ai_EK ai_mt M_25 x := ek_25_0
theorem nk_25 : ai_NK ai_mt M_25 := ⟨ww_t 399 (by decide +kernel), ww_t 1 (by decide +kernel), by decide +kernel, ⟨by decide +kernel, by decide +kernel⟩, rfl, by decide, (fun h => by cases h), ea_25⟩
theorem ek_26_0 : ∀ x ∈ C_26_0, ai_EK ai_mt M_26 x := List.forall_mem_cons.mpr ⟨ek_0 (by decide +kernel) rfl rfl, List.forall_mem_cons.mpr ⟨ek_0 (by decide +kernel) rfl rfl, List.forall_mem_cons.mpr ⟨ek_0 (by decide +kernel) rfl rfl, List.forall_mem_cons.mpr ⟨ek_0 (by decide +kernel) rfl rfl, List.forall_mem_cons.mpr ⟨ek_2 (by decide +kernel) rfl rfl, List.forall_mem_cons.mpr ⟨ek_0 (by decide +kernel) rfl rfl, List.forall_mem_cons.mpr ⟨ek_3 (by decide +kernel) rfl hf_0_15, List.forall_mem_cons.mpr ⟨ek_0 (by decide +kernel) rfl rfl, List.forall_mem_cons.mpr ⟨ek_3 (by decide +kernel) rfl trivial, List.forall_mem_cons.mpr ⟨ek_0 (by decide +kernel) rfl rfl, List.forall_mem_cons.mpr ⟨ek_3 (by decide +kernel) rfl hf_0_11, List.forall_mem_cons.mpr ⟨ek_0 (by decide +kernel) rfl rfl, List.forall_mem_cons.mpr ⟨ek_3 (by decide +kernel) rfl trivial, List.forall_mem_cons.mpr ⟨ek_4 (by decide +kernel) rfl hc_0_322, List.forall_mem_cons.mpr ⟨ek_0 (by decide +kernel) rfl rfl, List.forall_mem_cons.mpr ⟨ek_2 (by decide +kernel) rfl rfl, List.forall_mem_cons.mpr ⟨ek_0 (by decide +kernel) rfl rfl, List.forall_mem_cons.mpr ⟨ek_0 (by decide +kernel) rfl rfl, List.forall_mem_cons.mpr ⟨ek_3 (by decide +kernel) rfl hf_0_60, List.forall_mem_cons.mpr ⟨ek_3 (by decide +kernel) rfl hf_0_64, List.forall_mem_cons.mpr ⟨ek_0 (by decide +kernel) rfl rfl, List.forall_mem_cons.mpr ⟨ek_6 (by decide +kernel), fun _ h => absurd h List.not_mem_nil⟩⟩⟩⟩⟩⟩⟩⟩⟩⟩⟩⟩⟩⟩⟩⟩⟩⟩⟩⟩⟩⟩
theorem ea_26 : ∀ x ∈ ai_cd M_26, ai_EK ai_mt M_26 x := ek_26_0
theorem nk_26 : ai_NK ai_mt M_26 := ⟨ww_t 986 (by decide +kernel), ww_t 1 (by decide +kernel), by decide +kernel, ⟨by decide +kernel, by decide +kernel⟩, rfl, by decide, (fun h => by cases h), ea_26⟩
theorem ek_27_0 : ∀ x ∈ C_27_0, ai_EK ai_mt M_27 x := List.forall_mem_cons.mpr ⟨ek_0 (by decide +kernel) rfl rfl, List.forall_mem_cons.mpr ⟨ek_0 (by decide +kernel) rfl rfl, List.forall_mem_cons.mpr ⟨ek_0 (by decide +kernel) rfl rfl, List.forall_mem_cons.mpr ⟨ek_0 (by decide +kernel) rfl rfl, List.forall_mem_cons.mpr ⟨ek_4 (by decide +kernel) rfl hc_0_257, List.forall_mem_cons.mpr ⟨ek_0 (by decide +kernel) rfl rfl, List.forall_mem_cons.mpr ⟨ek_0 (by decide +kernel) rfl rfl, List.forall_mem_cons.mpr ⟨ek_2 (by decide +kernel) rfl rfl, List.forall_mem_cons.mpr ⟨ek_0 (by decide +kernel) rfl rfl, List.forall_mem_cons.mpr ⟨ek_0 (by decide +kernel) rfl rfl, List.forall_mem_cons.mpr ⟨ek_4 (by decide +kernel) rfl hc_0_76, List.forall_mem_cons.mpr ⟨ek_6 (by decide +kernel), fun _ h => absurd h List.not_mem_nil⟩⟩⟩⟩⟩⟩⟩⟩⟩⟩⟩⟩
theorem ea_27 : ∀ x ∈ ai_cd M_27, ai_EK ai_mt M_27 x := ek_27_0
theorem nk_27 : ai_NK ai_mt M_27 := ⟨ww_t 765 (by decide +kernel), ww_t 1 (by decide +kernel), by decide +kernel, ⟨by decide +kernel, by decide +kernel⟩, rfl, by decide, (fun h => by cases h), ea_27⟩
theorem ek_28_0 : ∀ x ∈ C_28_0, ai_EK ai_mt M_28 x := List.forall_mem_cons.mpr ⟨ek_0 (by decide +kernel) rfl rfl, List.forall_mem_cons.mpr ⟨ek_0 (by decide +kernel) rfl rfl, List.forall_mem_cons.mpr ⟨ek_0 (by decide +kernel) rfl rfl, List.forall_mem_cons.mpr ⟨ek_4 (by decide +kernel) rfl hc_0_265, List.forall_mem_cons.mpr ⟨ek_0 (by decide +kernel) rfl rfl, List.forall_mem_cons.mpr ⟨ek_0 (by decide +kernel) rfl rfl, List.forall_mem_cons.mpr ⟨ek_2 (by decide +kernel) rfl rfl, List.forall_mem_cons.mpr ⟨ek_0 (by decide +kernel) rfl rfl, List.forall_mem_cons.mpr ⟨ek_0 (by decide +kernel) rfl rfl, List.forall_mem_cons.mpr ⟨ek_4 (by decide +kernel) rfl hc_0_76, List.forall_mem_cons.mpr ⟨ek_6 (by decide +kernel), fun _ h => absurd h List.not_mem_nil⟩⟩⟩⟩⟩⟩⟩⟩⟩⟩⟩
theorem ea_28 : ∀ x ∈ ai_cd M_28, ai_EK ai_mt M_28 x := ek_28_0
theorem nk_28 : ai_NK ai_mt M_28 := ⟨ww_t 930 (by decide +kernel), ww_t 1 (by decide +kernel), by decide +kernel, ⟨by decide +kernel, by decide +kernel⟩, rfl, by decide, (fun h => by cases h), ea_28⟩
theorem ek_29_0 : ∀ x ∈ C_29_0, ai_EK ai_mt M_29 x := List.forall_mem_cons.mpr ⟨ek_0 (by decide +kernel) rfl rfl, List.forall_mem_cons.mpr ⟨ek_0 (by decide +kernel) rfl rfl, List.forall_mem_cons.mpr ⟨ek_0 (by decide +kernel) rfl rfl, List.forall_mem_cons.mpr ⟨ek_4 (by decide +kernel) rfl hc_0_134, List.forall_mem_cons.mpr ⟨ek_0 (by decide +kernel) rfl rfl, List.forall_mem_cons.mpr ⟨ek_0 (by decide +kernel) rfl rfl, List.forall_mem_cons.mpr ⟨ek_2 (by decide +kernel) rfl rfl, List.forall_mem_cons.mpr ⟨ek_0 (by decide +kernel) rfl rfl, List.forall_mem_cons.mpr ⟨ek_0 (by decide +kernel) rfl rfl, List.forall_mem_cons.mpr ⟨ek_4 (by decide +kernel) rfl hc_0_76, List.forall_mem_cons.mpr ⟨ek_6 (by decide +kernel), fun _ h => absurd h List.not_mem_nil⟩⟩⟩⟩⟩⟩⟩⟩⟩⟩⟩
theorem ea_29 : ∀ x ∈ ai_cd M_29, ai_EK ai_mt M_29 x := ek_29_0
theorem nk_29 : ai_NK ai_mt M_29 := ⟨ww_t 539 (by decide +kernel), ww_t 1 (by decide +kernel), by decide +kernel, ⟨by decide +kernel, by decide +kernel⟩, rfl, by decide, (fun h => by cases h), ea_29⟩
theorem ek_30_0 : ∀ x ∈ C_30_0, ai_EK ai_mt M_30 x := List.forall_mem_cons.mpr ⟨ek_0 (by decide +kernel) rfl rfl, List.forall_mem_cons.mpr ⟨ek_0 (by decide +kernel) rfl rfl, List.forall_mem_cons.mpr ⟨ek_0 (by decide +kernel) rfl rfl, List.forall_mem_cons.mpr ⟨ek_4 (by decide +kernel) rfl hc_0_265, List.forall_mem_cons.mpr ⟨ek_0 (by decide +kernel) rfl rfl, List.forall_mem_cons.mpr ⟨ek_0 (by decide +kernel) rfl rfl, List.forall_mem_cons.mpr ⟨ek_2 (by decide +kernel) rfl rfl, List.forall_mem_cons.mpr ⟨ek_0 (by decide +kernel) rfl rfl, List.forall_mem_cons.mpr ⟨ek_0 (by decide +kernel) rfl rfl, List.forall_mem_cons.mpr ⟨ek_4 (by decide +kernel) rfl hc_0_76, List.forall_mem_cons.mpr ⟨ek_6 (by decide +kernel), fun _ h => absurd h List.not_mem_nil⟩⟩⟩⟩⟩⟩⟩⟩⟩⟩⟩
theorem ea_30 : ∀ x ∈ ai_cd M_30, ai_EK ai_mt M_30 x := ek_30_0
theorem nk_30 : ai_NK ai_mt M_30 := ⟨ww_t 963 (by decide +kernel), ww_t 1 (by decide +kernel), by decide +kernel, ⟨by decide +kernel, by decide +kernel⟩, rfl, by decide, (fun h => by cases h), ea_30⟩
theorem ek_31_0 : ∀ x ∈ C_31_0, ai_EK ai_mt M_31 x := List.forall_mem_cons.mpr ⟨ek_0 (by decide +kernel) rfl rfl, List.forall_mem_cons.mpr ⟨ek_0 (by decide +kernel) rfl rfl, List.forall_mem_cons.mpr ⟨ek_4 (by decide +kernel) rfl hc_0_72, List.forall_mem_cons.mpr ⟨ek_0 (by decide +kernel) rfl rfl, List.forall_mem_cons.mpr ⟨ek_0 (by decide +kernel) rfl rfl, List.forall_mem_cons.mpr ⟨ek_2 (by decide +kernel) rfl rfl, List.forall_mem_cons.mpr ⟨ek_0 (by decide +kernel) rfl rfl, List.forall_mem_cons.mpr ⟨ek_0 (by decide +kernel) rfl rfl, List.forall_mem_cons.mpr ⟨ek_2 (by decide +kernel) rfl rfl, List.forall_mem_cons.mpr ⟨ek_0 (by decide +kernel) rfl rfl, List.forall_mem_cons.mpr ⟨ek_0 (by decide +kernel) rfl rfl, List.forall_mem_cons.mpr ⟨ek_2 (by decide +kernel) rfl rfl, List.forall_mem_cons.mpr ⟨ek_0 (by decide +kernel) rfl rfl, List.forall_mem_cons.mpr ⟨ek_2 (by decide +kernel) rfl rfl, List.forall_mem_cons.mpr ⟨ek_0 (by decide +kernel) rfl rfl, List.forall_mem_cons.mpr ⟨ek_0 (by decide +kernel) rfl rfl, List.forall_mem_cons.mpr ⟨ek_2 (by decide +kernel) rfl rfl, List.forall_mem_cons.mpr ⟨ek_0 (by decide +kernel) rfl rfl, List.forall_mem_cons.mpr ⟨ek_0 (by decide +kernel) rfl rfl, List.forall_mem_cons.mpr ⟨ek_4 (by decide +kernel) rfl hc_0_116, List.forall_mem_cons.mpr ⟨ek_2 (by decide +kernel) rfl rfl, List.forall_mem_cons.mpr ⟨ek_0 (by decide +kernel) rfl rfl, List.forall_mem_cons.mpr ⟨ek_0 (by decide +kernel) rfl rfl, List.forall_mem_cons.mpr ⟨ek_4 (by decide +kernel) rfl hc_0_76, List.forall_mem_cons.mpr ⟨ek_6 (by decide +kernel), List.forall_mem_cons.mpr ⟨ek_0 (by decide +kernel) rfl rfl, List.forall_mem_cons.mpr ⟨ek_0 (by decide +kernel) rfl rfl, List.forall_mem_cons.mpr ⟨ek_0 (by decide +kernel) rfl rfl, List.forall_mem_cons.mpr ⟨ek_0 (by decide +kernel) rfl rfl, List.forall_mem_cons.mpr ⟨ek_4 (by decide +kernel) rfl hc_0_120, List.forall_mem_cons.mpr ⟨ek_0 (by decide +kernel) rfl rfl, List.forall_mem_cons.mpr ⟨ek_6 (by decide +kernel), fun _ h => absurd h List.not_mem_nil⟩⟩⟩⟩⟩⟩⟩⟩⟩⟩⟩⟩⟩⟩⟩⟩⟩⟩⟩⟩⟩⟩⟩⟩⟩⟩⟩⟩⟩⟩⟩⟩
theorem ea_31 : ∀ x ∈ ai_cd M_31, ai_EK ai_mt M_31 x := ek_31_0
theorem nk_31 : ai_NK ai_mt M_31 := ⟨ww_t 403 (by decide +kernel), ww_t 1 (by decide +kernel), by decide +kernel, ⟨by decide +kernel, by decide +kernel⟩, rfl, by decide, (fun h => by cases h), ea_31⟩
theorem ek_32_0 : ∀ x ∈ C_32_0, ai_EK ai_mt M_32 x := List.forall_mem_cons.mpr ⟨ek_0 (by decide +kernel) rfl rfl, List.forall_mem_cons.mpr ⟨ek_0 (by decide +kernel) rfl rfl, List.forall_mem_cons.mpr ⟨ek_0 (by decide +kernel) rfl rfl, List.forall_mem_cons.mpr ⟨ek_4 (by decide +kernel) rfl hc_0_265, List.forall_mem_cons.mpr ⟨ek_0 (by decide +kernel) rfl rfl, List.forall_mem_cons.mpr ⟨ek_0 (by decide +kernel) rfl rfl, List.forall_mem_cons.mpr ⟨ek_2 (by decide +kernel) rfl rfl, List.forall_mem_cons.mpr ⟨ek_0 (by decide +kernel) rfl rfl, List.forall_mem_cons.mpr ⟨ek_0 (by decide +kernel) rfl rfl, List.forall_mem_cons.mpr ⟨ek_4 (by decide +kernel) rfl hc_0_76, List.forall_mem_cons.mpr ⟨ek_6 (by decide +kernel), fun _ h => absurd h List.not_mem_nil⟩⟩⟩⟩⟩⟩⟩⟩⟩⟩⟩
theorem ea_32 : ∀ x ∈ ai_cd M_32, ai_EK ai_mt M_32 x := ek_32_0
theorem nk_32 : ai_NK ai_mt M_32 := ⟨ww_t 954 (by decide +kernel), ww_t 1 (by decide +kernel), by decide +kernel, ⟨by decide +kernel, by decide +kernel⟩, rfl, by decide, (fun h => by cases h), ea_32⟩
theorem ek_33_0 : ∀ x ∈ C_33_0, ai_EK ai_mt M_33 x := List.forall_mem_cons.mpr ⟨ek_0 (by decide +kernel) rfl rfl, List.forall_mem_cons.mpr ⟨ek_0 (by decide +kernel) rfl rfl, List.forall_mem_cons.mpr ⟨ek_0 (by decide +kernel) rfl rfl, List.forall_mem_cons.mpr ⟨ek_4 (by decide +kernel) rfl hc_0_265, List.forall_mem_cons.mpr ⟨ek_0 (by decide +kernel) rfl rfl, List.forall_mem_cons.mpr ⟨ek_0 (by decide +kernel) rfl rfl, List.forall_mem_cons.mpr ⟨ek_2 (by decide +kernel) rfl rfl, List.forall_mem_cons.mpr ⟨ek_0 (by decide +kernel) rfl rfl, List.forall_mem_cons.mpr ⟨ek_0 (by decide +kernel) rfl rfl, List.forall_mem_cons.mpr ⟨ek_4 (by decide +kernel) rfl hc_0_76, List.forall_mem_cons.mpr ⟨ek_6 (by decide +kernel), fun _ h => absurd h List.not_mem_nil⟩⟩⟩⟩⟩⟩⟩⟩⟩⟩⟩
theorem ea_33 : ∀ x ∈ ai_cd M_33, ai_EK ai_mt M_33 x := ek_33_0
theorem nk_33 : ai_NK ai_mt M_33 := ⟨ww_t 802 (by decide +kernel), ww_t 1 (by decide +kernel), by decide +kernel, ⟨by decide +kernel, by decide +kernel⟩, rfl, by decide, (fun h => by cases h), ea_33⟩
theorem ek_34_0 : ∀ x ∈ C_34_0, ai_EK ai_mt M_34 x := List.forall_mem_cons.mpr ⟨ek_0 (by decide +kernel) rfl rfl, List.forall_mem_cons.mpr ⟨ek_0 (by decide +kernel) rfl rfl, List.forall_mem_cons.mpr ⟨ek_4 (by decide +kernel) rfl hc_0_138, List.forall_mem_cons.mpr ⟨ek_0 (by decide +kernel) rfl rfl, List.forall_mem_cons.mpr ⟨ek_0 (by decide +kernel) rfl rfl, List.forall_mem_cons.mpr ⟨ek_2 (by decide +kernel) rfl rfl, List.forall_mem_cons.mpr ⟨ek_0 (by decide +kernel) rfl rfl, List.forall_mem_cons.mpr ⟨ek_0 (by decide +kernel) rfl rfl, List.forall_mem_cons.mpr ⟨ek_4 (by decide +kernel) rfl hc_0_76, List.forall_mem_cons.mpr ⟨ek_6 (by decide +kernel), fun _ h => absurd h List.not_mem_nil⟩⟩⟩⟩⟩⟩⟩⟩⟩⟩
theorem ea_34 : ∀ x ∈ ai_cd M_34, ai_EK ai_mt M_34 x := ek_34_0
theorem nk_34 : ai_NK ai_mt M_34 := ⟨ww_t 839 (by decide +kernel), ww_t 1 (by decide +kernel), by decide +kernel, ⟨by decide +kernel, by decide +kernel⟩, rfl, by decide, (fun h => by cases h), ea_34⟩
theorem ek_35_0 : ∀ x ∈ C_35_0, ai_EK ai_mt M_35 x := List.forall_mem_cons.mpr ⟨ek_0 (by decide +kernel) rfl rfl, List.forall_mem_cons.mpr ⟨ek_0 (by decide +kernel) rfl rfl, List.forall_mem_cons.mpr ⟨ek_4 (by decide +kernel) rfl hc_0_138, List.forall_mem_cons.mpr ⟨ek_0 (by decide +kernel) rfl rfl, List.forall_mem_cons.mpr ⟨ek_0 (by decide +kernel) rfl rfl, List.forall_mem_cons.mpr ⟨ek_2 (by decide +kernel) rfl rfl, List.forall_mem_cons.mpr ⟨ek_0 (by decide +kernel) rfl rfl, List.forall_mem_cons.mpr ⟨ek_0 (by decide +kernel) rfl rfl, List.forall_mem_cons.mpr ⟨ek_4 (by decide +kernel) rfl hc_0_76, List.forall_mem_cons.mpr ⟨ek_6 (by decide +kernel), fun _ h => absurd h List.not_mem_nil⟩⟩⟩⟩⟩⟩⟩⟩⟩⟩
theorem ea_35 : ∀ x ∈ ai_cd M_35, ai_EK ai_mt M_35 x := ek_35_0
theorem nk_35 : ai_NK ai_mt M_35 := ⟨ww_t 761 (by decide +kernel), ww_t 1 (by decide +kernel), by decide +kernel, ⟨by decide +kernel, by decide +kernel⟩, rfl, by decide, (fun h => by cases h), ea_35⟩
theorem ek_36_0 : ∀ x ∈ C_36_0, ai_EK ai_mt M_36 x := List.forall_mem_cons.mpr ⟨ek_0 (by decide +kernel) rfl rfl, List.forall_mem_cons.mpr ⟨ek_0 (by decide +kernel) rfl rfl, List.forall_mem_cons.mpr ⟨ek_4 (by decide +kernel) rfl hc_0_138, List.forall_mem_cons.mpr ⟨ek_0 (by decide +kernel) rfl rfl, List.forall_mem_cons.mpr ⟨ek_0 (by decide +kernel) rfl rfl, List.forall_mem_cons.mpr ⟨ek_2 (by decide +kernel) rfl rfl, List.forall_mem_cons.mpr ⟨ek_0 (by decide +kernel) rfl rfl, List.forall_mem_cons.mpr ⟨ek_0 (by decide +kernel) rfl rfl, List.forall_mem_cons.mpr ⟨ek_4 (by decide +kernel) rfl hc_0_76, List.forall_mem_cons.mpr ⟨ek_6 (by decide +kernel), fun _ h => absurd h List.not_mem_nil⟩⟩⟩⟩⟩⟩⟩⟩⟩⟩
theorem ea_36 : ∀ x ∈ ai_cd M_36, ai_EK ai_mt M_36 x := ek_36_0
theorem nk_36 : ai_NK ai_mt M_36 := ⟨ww_t 743 (by decide +kernel), ww_t 1 (by decide +kernel), by decide +kernel, ⟨by decide +kernel, by decide +kernel⟩, rfl, by decide, (fun h => by cases h), ea_36⟩
theorem ek_37_0 : ∀ x ∈ C_37_0, ai_EK ai_mt M_37 x := List.forall_mem_cons.mpr ⟨ek_0 (by decide +kernel) rfl rfl, List.forall_mem_cons.mpr ⟨ek_0 (by decide +kernel) rfl rfl, List.forall_mem_cons.mpr ⟨ek_1 (by decide +kernel) rfl, List.forall_mem_cons.mpr ⟨ek_0 (by decide +kernel) rfl rfl, List.forall_mem_cons.mpr ⟨ek_0 (by decide +kernel) rfl rfl, List.forall_mem_cons.mpr ⟨ek_2 (by decide +kernel) rfl rfl, List.forall_mem_cons.mpr ⟨ek_0 (by decide +kernel) rfl rfl, List.forall_mem_cons.mpr ⟨ek_0 (by decide +kernel) rfl rfl, List.forall_mem_cons.mpr ⟨ek_3 (by decide +kernel) rfl hf_0_57, List.forall_mem_cons.mpr ⟨ek_3 (by decide +kernel) rfl trivial, List.forall_mem_cons.mpr ⟨ek_2 (by decide +kernel) rfl rfl, List.forall_mem_cons.mpr ⟨ek_0 (by decide +kernel) rfl rfl, List.forall_mem_cons.mpr ⟨ek_3 (by decide +kernel) rfl hf_0_57, List.forall_mem_cons.mpr ⟨ek_0 (by decide +kernel) rfl rfl, List.forall_mem_cons.mpr ⟨ek_0 (by decide +kernel) rfl rfl, List.forall_mem_cons.mpr ⟨ek_3 (by decide +kernel) rfl trivial, List.forall_mem_cons.mpr ⟨ek_0 (by decide +kernel) rfl rfl, List.forall_mem_cons.mpr ⟨ek_1 (by decide +kernel) rfl, List.forall_mem_cons.mpr ⟨ek_3 (by decide +kernel) rfl trivial, List.forall_mem_cons.mpr ⟨ek_0 (by decide +kernel) rfl rfl, List.forall_mem_cons.mpr ⟨ek_6 (by decide +kernel), fun _ h => absurd h List.not_mem_nil⟩⟩⟩⟩⟩⟩⟩⟩⟩⟩⟩⟩⟩⟩⟩⟩⟩⟩⟩⟩⟩
theorem ea_37 : ∀ x ∈ ai_cd M_37, ai_EK ai_mt M_37 x := ek_37_0
theorem nk_37 : ai_NK ai_mt M_37 := ⟨ww_t 356 (by decide +kernel), ww_t 1 (by decide +kernel), by decide +kernel, ⟨by decide +kernel, by decide +kernel⟩, rfl, by decide, (fun h => by cases h), ea_37⟩
theorem ek_38_0 : ∀ x ∈ C_38_0, ai_EK ai_mt M_38 x := List.forall_mem_cons.mpr ⟨ek_0 (by decide +kernel) rfl rfl, List.forall_mem_cons.mpr ⟨ek_0 (by decide +kernel) rfl rfl, List.forall_mem_cons.mpr ⟨ek_0 (by decide +kernel) rfl rfl, List.forall_mem_cons.mpr ⟨ek_4 (by decide +kernel) rfl hc_0_265, List.forall_mem_cons.mpr ⟨ek_0 (by decide +kernel) rfl rfl, List.forall_mem_cons.mpr ⟨ek_0 (by decide +kernel) rfl rfl, List.forall_mem_cons.mpr ⟨ek_2 (by decide +kernel) rfl rfl, List.forall_mem_cons.mpr ⟨ek_0 (by decide +kernel) rfl rfl, List.forall_mem_cons.mpr ⟨ek_0 (by decide +kernel) rfl rfl, List.forall_mem_cons.mpr ⟨ek_4 (by decide +kernel) rfl hc_0_76, List.forall_mem_cons.mpr ⟨ek_6 (by decide +kernel), fun _ h => absurd h List.not_mem_nil⟩⟩⟩⟩⟩⟩⟩⟩⟩⟩⟩
theorem ea_38 : ∀ x ∈ ai_cd M_38, ai_EK ai_mt M_38 x := ek_38_0
theorem nk_38 : ai_NK ai_mt M_38 := ⟨ww_t 827 (by decide +kernel), ww_t 1 (by decide +kernel), by decide +kernel, ⟨by decide +kernel, by decide +kernel⟩, rfl, by decide, (fun h => by cases h), ea_38⟩
theorem ek_39_0 : ∀ x ∈ C_39_0, ai_EK ai_mt M_39 x := List.forall_mem_cons.mpr ⟨ek_0 (by decide +kernel) rfl rfl, List.forall_mem_cons.mpr ⟨ek_0 (by decide +kernel) rfl rfl, List.forall_mem_cons.mpr ⟨ek_4 (by decide +kernel) rfl hc_0_72, List.forall_mem_cons.mpr ⟨ek_0 (by decide +kernel) rfl rfl, List.forall_mem_cons.mpr ⟨ek_0 (by decide +kernel) rfl rfl, List.forall_mem_cons.mpr ⟨ek_2 (by decide +kernel) rfl rfl, List.forall_mem_cons.mpr ⟨ek_0 (by decide +kernel) rfl rfl, List.forall_mem_cons.mpr ⟨ek_2 (by decide +kernel) rfl rfl, List.forall_mem_cons.mpr ⟨ek_0 (by decide +kernel) rfl rfl, List.forall_mem_cons.mpr ⟨ek_0 (by decide +kernel) rfl rfl, List.forall_mem_cons.mpr ⟨ek_2 (by decide +kernel) rfl rfl, List.forall_mem_cons.mpr ⟨ek_0 (by decide +kernel) rfl rfl, List.forall_mem_cons.mpr ⟨ek_2 (by decide +kernel) rfl rfl, List.forall_mem_cons.mpr ⟨ek_0 (by decide +kernel) rfl rfl, List.forall_mem_cons.mpr ⟨ek_0 (by decide +kernel) rfl rfl, List.forall_mem_cons.mpr ⟨ek_2 (by decide +kernel) rfl rfl, List.forall_mem_cons.mpr ⟨ek_0 (by decide +kernel) rfl rfl, List.forall_mem_cons.mpr ⟨ek_0 (by decide +kernel) rfl rfl, List.forall_mem_cons.mpr ⟨ek_4 (by decide +kernel) rfl hc_0_76, List.forall_mem_cons.mpr ⟨ek_6 (by decide +kernel), List.forall_mem_cons.mpr ⟨ek_0 (by decide +kernel) rfl rfl, List.forall_mem_cons.mpr ⟨ek_0 (by decide +kernel) rfl rfl, List.forall_mem_cons.mpr ⟨ek_0 (by decide +kernel) rfl rfl, List.forall_mem_cons.mpr ⟨ek_4 (by decide +kernel) rfl hc_0_80, List.forall_mem_cons.mpr ⟨ek_0 (by decide +kernel) rfl rfl, List.forall_mem_cons.mpr ⟨ek_6 (by decide +kernel), fun _ h => absurd h List.not_mem_nil⟩⟩⟩⟩⟩⟩⟩⟩⟩⟩⟩⟩⟩⟩⟩⟩⟩⟩⟩⟩⟩⟩⟩⟩⟩⟩
theorem ea_39 : ∀ x ∈ ai_cd M_39, ai_EK ai_mt M_39 x := ek_39_0
theorem nk_39 : ai_NK ai_mt M_39 := ⟨ww_t 348 (by decide +kernel), ww_t 1 (by decide +kernel), by decide +kernel, ⟨by decide +kernel, by decide +kernel⟩, rfl, by decide, (fun h => by cases h), ea_39⟩
theorem ek_40_0 : ∀ x ∈ C_40_0, ai_EK ai_mt M_40 x := List.forall_mem_cons.mpr ⟨ek_0 (by decide +kernel) rfl rfl, List.forall_mem_cons.mpr ⟨ek_0 (by decide +kernel) rfl rfl, List.forall_mem_cons.mpr ⟨ek_4 (by decide +kernel) rfl hc_0_72, List.forall_mem_cons.mpr ⟨ek_0 (by decide +kernel) rfl rfl, List.forall_mem_cons.mpr ⟨ek_0 (by decide +kernel) rfl rfl, List.forall_mem_cons.mpr ⟨ek_2 (by decide +kernel) rfl rfl, List.forall_mem_cons.mpr ⟨ek_0 (by decide +kernel) rfl rfl, List.forall_mem_cons.mpr ⟨ek_2 (by decide +kernel) rfl rfl, List.forall_mem_cons.mpr ⟨ek_0 (by decide +kernel) rfl rfl, List.forall_mem_cons.mpr ⟨ek_0 (by decide +kernel) rfl rfl, List.forall_mem_cons.mpr ⟨ek_2 (by decide +kernel) rfl rfl, List.forall_mem_cons.mpr ⟨ek_0 (by decide +kernel) rfl rfl, List.forall_mem_cons.mpr ⟨ek_0 (by decide +kernel) rfl rfl, List.forall_mem_cons.mpr ⟨ek_4 (by decide +kernel) rfl hc_0_76, List.forall_mem_cons.mpr ⟨ek_6 (by decide +kernel), List.forall_mem_cons.mpr ⟨ek_0 (by decide +kernel) rfl rfl, List.forall_mem_cons.mpr ⟨ek_4 (by decide +kernel) rfl hc_0_124, List.forall_mem_cons.mpr ⟨ek_0 (by decide +kernel) rfl rfl, List.forall_mem_cons.mpr ⟨ek_0 (by decide +kernel) rfl rfl, List.forall_mem_cons.mpr ⟨ek_2 (by decide +kernel) rfl rfl, List.forall_mem_cons.mpr ⟨ek_0 (by decide +kernel) rfl rfl, List.forall_mem_cons.mpr ⟨ek_0 (by decide +kernel) rfl rfl, List.forall_mem_cons.mpr ⟨ek_4 (by decide +kernel) rfl hc_0_76, List.forall_mem_cons.mpr ⟨ek_6 (by decide +kernel), fun _ h => absurd h List.not_mem_nil⟩⟩⟩⟩⟩⟩⟩⟩⟩⟩⟩⟩⟩⟩⟩⟩⟩⟩⟩⟩⟩⟩⟩⟩
theorem ea_40 : ∀ x ∈ ai_cd M_40, ai_EK ai_mt M_40 x := ek_40_0
theorem nk_40 : ai_NK ai_mt M_40 := ⟨ww_t 414 (by decide +kernel), ww_t 1 (by decide +kernel), by decide +kernel, ⟨by decide +kernel, by decide +kernel⟩, rfl, by decide, (fun h => by cases h), ea_40⟩
theorem ek_41_0 : ∀ x ∈ C_41_0, ai_EK ai_mt M_41 x := List.forall_mem_cons.mpr ⟨ek_0 (by decide +kernel) rfl rfl, List.forall_mem_cons.mpr ⟨ek_2 (by decide +kernel) rfl rfl, List.forall_mem_cons.mpr ⟨ek_0 (by decide +kernel) rfl rfl, List.forall_mem_cons.mpr ⟨ek_0 (by decide +kernel) rfl rfl, List.forall_mem_cons.mpr ⟨ek_2 (by decide +kernel) rfl rfl, List.forall_mem_cons.mpr ⟨ek_0 (by decide +kernel) rfl rfl, List.forall_mem_cons.mpr ⟨ek_0 (by decide +kernel) rfl rfl, List.forall_mem_cons.mpr ⟨ek_4 (by decide +kernel) rfl hc_0_76, List.forall_mem_cons.mpr ⟨ek_6 (by decide +kernel), List.forall_mem_cons.mpr ⟨ek_0 (by decide +kernel) rfl rfl, List.forall_mem_cons.mpr ⟨ek_3 (by decide +kernel) rfl hf_0_67, List.forall_mem_cons.mpr ⟨ek_2 (by decide +kernel) rfl rfl, List.forall_mem_cons.mpr ⟨ek_0 (by decide +kernel) rfl rfl, List.forall_mem_cons.mpr ⟨ek_0 (by decide +kernel) rfl rfl, List.forall_mem_cons.mpr ⟨ek_4 (by decide +kernel) rfl hc_0_76, List.forall_mem_cons.mpr ⟨ek_6 (by decide +kernel), fun _ h => absurd h List.not_mem_nil⟩⟩⟩⟩⟩⟩⟩⟩⟩⟩⟩⟩⟩⟩⟩⟩
theorem ea_41 : ∀ x ∈ ai_cd M_41, ai_EK ai_mt M_41 x := ek_41_0
theorem nk_41 : ai_NK ai_mt M_41 := ⟨ww_t 982 (by decide +kernel), ww_t 1 (by decide +kernel), by decide +kernel, ⟨by decide +kernel, by decide +kernel⟩, rfl, by decide, (fun h => by cases h), ea_41⟩
theorem ek_42_0 : ∀ x ∈ C_42_0, ai_EK ai_mt M_42 x := List.forall_mem_cons.mpr ⟨ek_0 (by decide +kernel) rfl rfl, List.forall_mem_cons.mpr ⟨ek_0 (by decide +kernel) rfl rfl, List.forall_mem_cons.mpr ⟨ek_4 (by decide +kernel) rfl hc_0_72, List.forall_mem_cons.mpr ⟨ek_0 (by decide +kernel) rfl rfl, List.forall_mem_cons.mpr ⟨ek_0 (by decide +kernel) rfl rfl, List.forall_mem_cons.mpr ⟨ek_2 (by decide +kernel) rfl rfl, List.forall_mem_cons.mpr ⟨ek_0 (by decide +kernel) rfl rfl, List.forall_mem_cons.mpr ⟨ek_0 (by decide +kernel) rfl rfl, List.forall_mem_cons.mpr ⟨ek_4 (by decide +kernel) rfl hc_0_76, List.forall_mem_cons.mpr ⟨ek_6 (by decide +kernel), List.forall_mem_cons.mpr ⟨ek_0 (by decide +kernel) rfl rfl, List.forall_mem_cons.mpr ⟨ek_4 (by decide +kernel) rfl hc_0_84, List.forall_mem_cons.mpr ⟨ek_0 (by decide +kernel) rfl rfl, List.forall_mem_cons.mpr ⟨ek_0 (by decide +kernel) rfl rfl, List.forall_mem_cons.mpr ⟨ek_2 (by decide +kernel) rfl rfl, List.forall_mem_cons.mpr ⟨ek_0 (by decide +kernel) rfl rfl, List.forall_mem_cons.mpr ⟨ek_0 (by decide +kernel) rfl rfl, List.forall_mem_cons.mpr ⟨ek_4 (by decide +kernel) rfl hc_0_76, List.forall_mem_cons.mpr ⟨ek_6 (by decide +kernel), fun _ h => absurd h List.not_mem_nil⟩⟩⟩⟩⟩⟩⟩⟩⟩⟩⟩⟩⟩⟩⟩⟩⟩⟩⟩
theorem ea_42 : ∀ x ∈ ai_cd M_42, ai_EK ai_mt M_42 x := ek_42_0
theorem nk_42 : ai_NK ai_mt M_42 := ⟨ww_t 367 (by decide +kernel), ww_t 1 (by decide +kernel), by decide +kernel, ⟨by decide +kernel, by decide +kernel⟩, rfl, by decide, (fun h => by cases h), ea_42⟩
theorem ek_43_0 : ∀ x ∈ C_43_0, ai_EK ai_mt M_43 x := List.forall_mem_cons.mpr ⟨ek_0 (by decide +kernel) rfl rfl, List.forall_mem_cons.mpr ⟨ek_0 (by decide +kernel) rfl rfl, List.forall_mem_cons.mpr ⟨ek_0 (by decide +kernel) rfl rfl, List.forall_mem_cons.mpr ⟨ek_4 (by decide +kernel) rfl hc_0_265, List.forall_mem_cons.mpr ⟨ek_0 (by decide +kernel) rfl rfl, List.forall_mem_cons.mpr ⟨ek_0 (by decide +kernel) rfl rfl, List.forall_mem_cons.mpr ⟨ek_2 (by decide +kernel) rfl rfl, List.forall_mem_cons.mpr ⟨ek_0 (by decide +kernel) rfl rfl, List.forall_mem_cons.mpr ⟨ek_0 (by decide +kernel) rfl rfl, List.forall_mem_cons.mpr ⟨ek_4 (by decide +kernel) rfl hc_0_76, List.forall_mem_cons.mpr ⟨ek_6 (by decide +kernel), fun _ h => absurd h List.not_mem_nil⟩⟩⟩⟩⟩⟩⟩⟩⟩⟩⟩
theorem ea_43 : ∀ x ∈ ai_cd M_43, ai_EK ai_mt M_43 x := ek_43_0
theorem nk_43 : ai_NK ai_mt M_43 := ⟨ww_t 950 (by decide +kernel), ww_t 1 (by decide +kernel), by decide +kernel, ⟨by decide +kernel, by decide +kernel⟩, rfl, by decide, (fun h => by cases h), ea_43⟩
theorem ek_44_0 : ∀ x ∈ C_44_0, ai_EK ai_mt M_44 x := List.forall_mem_cons.mpr ⟨ek_0 (by decide +kernel) rfl rfl, List.forall_mem_cons.mpr ⟨ek_2 (by decide +kernel) rfl rfl, List.forall_mem_cons.mpr ⟨ek_0 (by decide +kernel) rfl rfl, List.forall_mem_cons.mpr ⟨ek_0 (by decide +kernel) rfl rfl, List.forall_mem_cons.mpr ⟨ek_2 (by decide +kernel) rfl rfl, List.forall_mem_cons.mpr ⟨ek_0 (by decide +kernel) rfl rfl, List.forall_mem_cons.mpr ⟨ek_3 (by decide +kernel) rfl hf_0_20, List.forall_mem_cons.mpr ⟨ek_0 (by decide +kernel) rfl rfl, List.forall_mem_cons.mpr ⟨ek_3 (by decide +kernel) rfl trivial, List.forall_mem_cons.mpr ⟨ek_2 (by decide +kernel) rfl rfl, List.forall_mem_cons.mpr ⟨ek_0 (by decide +kernel) rfl rfl, List.forall_mem_cons.mpr ⟨ek_6 (by decide +kernel), fun _ h => absurd h List.not_mem_nil⟩⟩⟩⟩⟩⟩⟩⟩⟩⟩⟩⟩
theorem ea_44 : ∀ x ∈ ai_cd M_44, ai_EK ai_mt M_44 x := ek_44_0
theorem nk_44 : ai_NK ai_mt M_44 := ⟨ww_t 352 (by decide +kernel), ww_t 1 (by decide +kernel), by decide +kernel, ⟨by decide +kernel, by decide +kernel⟩, rfl, by decide, (fun h => by cases h), ea_44⟩
theorem ek_45_0 : ∀ x ∈ C_45_0, ai_EK ai_mt M_45 x := List.forall_mem_cons.mpr ⟨ek_0 (by decide +kernel) rfl rfl, List.forall_mem_cons.mpr ⟨ek_0 (by decide +kernel) rfl rfl, List.forall_mem_cons.mpr ⟨ek_0 (by decide +kernel) rfl rfl, List.forall_mem_cons.mpr ⟨ek_0 (by decide +kernel) rfl rfl, List.forall_mem_cons.mpr ⟨ek_0 (by decide +kernel) rfl rfl, List.forall_mem_cons.mpr ⟨ek_0 (by decide +kernel) rfl rfl, List.forall_mem_cons.mpr ⟨ek_2 (by decide +kernel) rfl rfl, List.forall_mem_cons.mpr ⟨ek_0 (by decide +kernel) rfl rfl, List.forall_mem_cons.mpr ⟨ek_3 (by decide +kernel) rfl hf_0_20, List.forall_mem_cons.mpr ⟨ek_0 (by decide +kernel) rfl rfl, List.forall_mem_cons.mpr ⟨ek_3 (by decide +kernel) rfl trivial, List.forall_mem_cons.mpr ⟨ek_3 (by decide +kernel) rfl hf_0_99, List.forall_mem_cons.mpr ⟨ek_0 (by decide +kernel) rfl rfl, List.forall_mem_cons.mpr ⟨ek_2 (by decide +kernel) rfl rfl, List.forall_mem_cons.mpr ⟨ek_0 (by decide +kernel) rfl rfl, List.forall_mem_cons.mpr ⟨ek_2 (by decide +kernel) rfl rfl, List.forall_mem_cons.mpr ⟨ek_0 (by decide +kernel) rfl rfl, List.forall_mem_cons.mpr ⟨ek_6 (by decide +kernel), fun _ h => absurd h List.not_mem_nil⟩⟩⟩⟩⟩⟩⟩⟩⟩⟩⟩⟩⟩⟩⟩⟩⟩⟩
theorem ea_45 : ∀ x ∈ ai_cd M_45, ai_EK ai_mt M_45 x := ek_45_0
theorem nk_45 : ai_NK ai_mt M_45 := ⟨ww_t 998 (by decide +kernel), ww_t 1 (by decide +kernel), by decide +kernel, ⟨by decide +kernel, by decide +kernel⟩, rfl, by decide, (fun h => by cases h), ea_45⟩
theorem ek_46_0 : ∀ x ∈ C_46_0, ai_EK ai_mt M_46 x := List.forall_mem_cons.mpr ⟨ek_0 (by decide +kernel) rfl rfl, List.forall_mem_cons.mpr ⟨ek_0 (by decide +kernel) rfl rfl, List.forall_mem_cons.mpr ⟨ek_0 (by decide +kernel) rfl rfl, List.forall_mem_cons.mpr ⟨ek_4 (by decide +kernel) rfl hc_0_265, List.forall_mem_cons.mpr ⟨ek_0 (by decide +kernel) rfl rfl, List.forall_mem_cons.mpr ⟨ek_0 (by decide +kernel) rfl rfl, List.forall_mem_cons.mpr ⟨ek_2 (by decide +kernel) rfl rfl, List.forall_mem_cons.mpr ⟨ek_0 (by decide +kernel) rfl rfl, List.forall_mem_cons.mpr ⟨ek_0 (by decide +kernel) rfl rfl, List.forall_mem_cons.mpr ⟨ek_4 (by decide +kernel) rfl hc_0_76, List.forall_mem_cons.mpr ⟨ek_6 (by decide +kernel), fun _ h => absurd h List.not_mem_nil⟩⟩⟩⟩⟩⟩⟩⟩⟩⟩⟩
theorem ea_46 : ∀ x ∈ ai_cd M_46, ai_EK ai_mt M_46 x := ek_46_0
theorem nk_46 : ai_NK ai_mt M_46 := ⟨ww_t 811 (by decide +kernel), ww_t 1 (by decide +kernel), by decide +kernel, ⟨by decide +kernel, by decide +kernel⟩, rfl, by decide, (fun h => by cases h), ea_46⟩
theorem ek_47_0 : ∀ x ∈ C_47_0, ai_EK ai_mt M_47 x := List.forall_mem_cons.mpr ⟨ek_0 (by decide +kernel) rfl rfl, List.forall_mem_cons.mpr ⟨ek_0 (by decide +kernel) rfl rfl, List.forall_mem_cons.mpr ⟨ek_0 (by decide +kernel) rfl rfl, List.forall_mem_cons.mpr ⟨ek_4 (by decide +kernel) rfl hc_0_265, List.forall_mem_cons.mpr ⟨ek_0 (by decide +kernel) rfl rfl, List.forall_mem_cons.mpr ⟨ek_0 (by decide +kernel) rfl rfl, List.forall_mem_cons.mpr ⟨ek_2 (by decide +kernel) rfl rfl, List.forall_mem_cons.mpr ⟨ek_0 (by decide +kernel) rfl rfl, List.forall_mem_cons.mpr ⟨ek_0 (by decide +kernel) rfl rfl, List.forall_mem_cons.mpr ⟨ek_4 (by decide +kernel) rfl hc_0_76, List.forall_mem_cons.mpr ⟨ek_6 (by decide +kernel), fun _ h => absurd h List.not_mem_nil⟩⟩⟩⟩⟩⟩⟩⟩⟩⟩⟩
theorem ea_47 : ∀ x ∈ ai_cd M_47, ai_EK ai_mt M_47 x := ek_47_0
theorem nk_47 : ai_NK ai_mt M_47 := ⟨ww_t 938 (by decide +kernel), ww_t 1 (by decide +kernel), by decide +kernel, ⟨by decide +kernel, by decide +kernel⟩, rfl, by decide, (fun h => by cases h), ea_47⟩
theorem ek_48_0 : ∀ x ∈ C_48_0, ai_EK ai_mt M_48 x := List.forall_mem_cons.mpr ⟨ek_0 (by decide +kernel) rfl rfl, List.forall_mem_cons.mpr ⟨ek_2 (by decide +kernel) rfl rfl, List.forall_mem_cons.mpr ⟨ek_0 (by decide +kernel) rfl rfl, List.forall_mem_cons.mpr ⟨ek_3 (by decide +kernel) rfl hf_0_60, List.forall_mem_cons.mpr ⟨ek_6 (by decide +kernel), List.forall_mem_cons.mpr ⟨ek_0 (by decide +kernel) rfl rfl, List.forall_mem_cons.mpr ⟨ek_0 (by decide +kernel) rfl rfl, List.forall_mem_cons.mpr ⟨ek_2 (by decide +kernel) rfl rfl, List.forall_mem_cons.mpr ⟨ek_0 (by decide +kernel) rfl rfl, List.forall_mem_cons.mpr ⟨ek_3 (by decide +kernel) rfl hf_0_27, List.forall_mem_cons.mpr ⟨ek_3 (by decide +kernel) rfl hf_0_161, List.forall_mem_cons.mpr ⟨ek_6 (by decide +kernel), List.forall_mem_cons.mpr ⟨ek_0 (by decide +kernel) rfl rfl, List.forall_mem_cons.mpr ⟨ek_0 (by decide +kernel) rfl rfl, List.forall_mem_cons.mpr ⟨ek_2 (by decide +kernel) rfl rfl, List.forall_mem_cons.mpr ⟨ek_0 (by decide +kernel) rfl rfl, List.forall_mem_cons.mpr ⟨ek_4 (by decide +kernel) rfl hc_0_339, List.forall_mem_cons.mpr ⟨ek_6 (by decide +kernel), List.forall_mem_cons.mpr ⟨ek_0 (by decide +kernel) rfl rfl, List.forall_mem_cons.mpr ⟨ek_0 (by decide +kernel) rfl rfl, List.forall_mem_cons.mpr ⟨ek_1 (by decide +kernel) rfl, List.forall_mem_cons.mpr ⟨ek_0 (by decide +kernel) rfl rfl, List.forall_mem_cons.mpr ⟨ek_0 (by decide +kernel) rfl rfl, List.forall_mem_cons.mpr ⟨ek_2 (by decide +kernel) rfl rfl, List.forall_mem_cons.mpr ⟨ek_0 (by decide +kernel) rfl rfl, List.forall_mem_cons.mpr ⟨ek_0 (by decide +kernel) rfl rfl, List.forall_mem_cons.mpr ⟨ek_3 (by decide +kernel) rfl hf_0_57, List.forall_mem_cons.mpr ⟨ek_3 (by decide +kernel) rfl trivial, List.forall_mem_cons.mpr ⟨ek_2 (by decide +kernel) rfl rfl, List.forall_mem_cons.mpr ⟨ek_0 (by decide +kernel) rfl rfl, List.forall_mem_cons.mpr ⟨ek_3 (by decide +kernel) rfl hf_0_57, List.forall_mem_cons.mpr ⟨ek_0 (by decide +kernel) rfl rfl, List.forall_mem_cons.mpr ⟨ek_3 (by decide +kernel) rfl trivial, List.forall_mem_cons.mpr ⟨ek_2 (by decide +kernel) rfl rfl, List.forall_mem_cons.mpr ⟨ek_0 (by decide +kernel) rfl rfl, List.forall_mem_cons.mpr ⟨ek_6 (by decide +kernel), fun _ h => absurd h List.not_mem_nil⟩⟩⟩⟩⟩⟩⟩⟩⟩⟩⟩⟩⟩⟩⟩⟩⟩⟩⟩⟩⟩⟩⟩⟩⟩⟩⟩⟩⟩⟩⟩⟩⟩⟩⟩⟩
theorem ea_48 : ∀ x ∈ ai_cd M_48, ai_EK ai_mt M_48 x := ek_48_0
theorem nk_48 : ai_NK ai_mt M_48 := ⟨ww_t 994 (by decide +kernel), ww_t 1 (by decide +kernel), by decide +kernel, ⟨by decide +kernel, by decide +kernel⟩, rfl, by decide, (fun h => by cases h), ea_48⟩
theorem ek_49_0 : ∀ x ∈ C_49_0, ai_EK ai_mt M_49 x := List.forall_mem_cons.mpr ⟨ek_0 (by decide +kernel) rfl rfl, List.forall_mem_cons.mpr ⟨ek_3 (by decide +kernel) rfl hf_0_67, List.forall_mem_cons.mpr ⟨ek_2 (by decide +kernel) rfl rfl, List.forall_mem_cons.mpr ⟨ek_0 (by decide +kernel) rfl rfl, List.forall_mem_cons.mpr ⟨ek_0 (by decide +kernel) rfl rfl, List.forall_mem_cons.mpr ⟨ek_4 (by decide +kernel) rfl hc_0_76, List.forall_mem_cons.mpr ⟨ek_6 (by decide +kernel), fun _ h => absurd h List.not_mem_nil⟩⟩⟩⟩⟩⟩⟩
theorem ea_49 : ∀ x ∈ ai_cd M_49, ai_EK ai_mt M_49 x := ek_49_0
theorem nk_49 : ai_NK ai_mt M_49 := ⟨ww_t 977 (by decide +kernel), ww_t 1 (by decide +kernel), by decide +kernel, ⟨by decide +kernel, by decide +kernel⟩, rfl, by decide, (fun h => by cases h), ea_49⟩
theorem ek_50_0 : ∀ x ∈ C_50_0, ai_EK ai_mt M_50 x := List.forall_mem_cons.mpr ⟨ek_0 (by decide +kernel) rfl rfl, List.forall_mem_cons.mpr ⟨ek_0 (by decide +kernel) rfl rfl, List.forall_mem_cons.mpr ⟨ek_4 (by decide +kernel) rfl hc_0_138, List.forall_mem_cons.mpr ⟨ek_0 (by decide +kernel) rfl rfl, List.forall_mem_cons.mpr ⟨ek_0 (by decide +kernel) rfl rfl, List.forall_mem_cons.mpr ⟨ek_2 (by decide +kernel) rfl rfl, List.forall_mem_cons.mpr ⟨ek_0 (by decide +kernel) rfl rfl, List.forall_mem_cons.mpr ⟨ek_0 (by decide +kernel) rfl rfl, List.forall_mem_cons.mpr ⟨ek_4 (by decide +kernel) rfl hc_0_76, List.forall_mem_cons.mpr ⟨ek_6 (by decide +kernel), fun _ h => absurd h List.not_mem_nil⟩⟩⟩⟩⟩⟩⟩⟩⟩⟩
theorem ea_50 : ∀ x ∈ ai_cd M_50, ai_EK ai_mt M_50 x := ek_50_0
theorem nk_50 : ai_NK ai_mt M_50 := ⟨ww_t 738 (by decide +kernel), ww_t 1 (by decide +kernel), by decide +kernel, ⟨by decide +kernel, by decide +kernel⟩, rfl, by decide, (fun h => by cases h), ea_50⟩
theorem ek_51_0 : ∀ x ∈ C_51_0, ai_EK ai_mt M_51 x := List.forall_mem_cons.mpr ⟨ek_0 (by decide +kernel) rfl rfl, List.forall_mem_cons.mpr ⟨ek_0 (by decide +kernel) rfl rfl, List.forall_mem_cons.mpr ⟨ek_0 (by decide +kernel) rfl rfl, List.forall_mem_cons.mpr ⟨ek_4 (by decide +kernel) rfl hc_0_265, List.forall_mem_cons.mpr ⟨ek_0 (by decide +kernel) rfl rfl, List.forall_mem_cons.mpr ⟨ek_0 (by decide +kernel) rfl rfl, List.forall_mem_cons.mpr ⟨ek_2 (by decide +kernel) rfl rfl, List.forall_mem_cons.mpr ⟨ek_0 (by decide +kernel) rfl rfl, List.forall_mem_cons.mpr ⟨ek_0 (by decide +kernel) rfl rfl, List.forall_mem_cons.mpr ⟨ek_4 (by decide +kernel) rfl hc_0_76, List.forall_mem_cons.mpr ⟨ek_6 (by decide +kernel), fun _ h => absurd h List.not_mem_nil⟩⟩⟩⟩⟩⟩⟩⟩⟩⟩⟩
theorem ea_51 : ∀ x ∈ ai_cd M_51, ai_EK ai_mt M_51 x := ek_51_0
theorem nk_51 : ai_NK ai_mt M_51 := ⟨ww_t 798 (by decide +kernel), ww_t 1 (by decide +kernel), by decide +kernel, ⟨by decide +kernel, by decide +kernel⟩, rfl, by decide, (fun h => by cases h), ea_51⟩
theorem ek_52_0 : ∀ x ∈ C_52_0, ai_EK ai_mt M_52 x := List.forall_mem_cons.mpr ⟨ek_0 (by decide +kernel) rfl rfl, List.forall_mem_cons.mpr ⟨ek_0 (by decide +kernel) rfl rfl, List.forall_mem_cons.mpr ⟨ek_4 (by decide +kernel) rfl hc_0_138, List.forall_mem_cons.mpr ⟨ek_0 (by decide +kernel) rfl rfl, List.forall_mem_cons.mpr ⟨ek_0 (by decide +kernel) rfl rfl, List.forall_mem_cons.mpr ⟨ek_2 (by decide +kernel) rfl rfl, List.forall_mem_cons.mpr ⟨ek_0 (by decide +kernel) rfl rfl, List.forall_mem_cons.mpr ⟨ek_0 (by decide +kernel) rfl rfl, List.forall_mem_cons.mpr ⟨ek_4 (by decide +kernel) rfl hc_0_76, List.forall_mem_cons.mpr ⟨ek_6 (by decide +kernel), fun _ h => absurd h List.not_mem_nil⟩⟩⟩⟩⟩⟩⟩⟩⟩⟩
theorem ea_52 : ∀ x ∈ ai_cd M_52, ai_EK ai_mt M_52 x := ek_52_0
theorem nk_52 : ai_NK ai_mt M_52 := ⟨ww_t 701 (by decide +kernel), ww_t 1 (by decide +kernel), by decide +kernel, ⟨by decide +kernel, by decide +kernel⟩, rfl, by decide, (fun h => by cases h), ea_52⟩
theorem ek_53_0 : ∀ x ∈ C_53_0, ai_EK ai_mt M_53 x := List.forall_mem_cons.mpr ⟨ek_0 (by decide +kernel) rfl rfl, List.forall_mem_cons.mpr ⟨ek_0 (by decide +kernel) rfl rfl, List.forall_mem_cons.mpr ⟨ek_0 (by decide +kernel) rfl rfl, List.forall_mem_cons.mpr ⟨ek_4 (by decide +kernel) rfl hc_0_265, List.forall_mem_cons.mpr ⟨ek_0 (by decide +kernel) rfl rfl, List.forall_mem_cons.mpr ⟨ek_0 (by decide +kernel) rfl rfl, List.forall_mem_cons.mpr ⟨ek_2 (by decide +kernel) rfl rfl, List.forall_mem_cons.mpr ⟨ek_0 (by decide +kernel) rfl rfl, List.forall_mem_cons.mpr ⟨ek_0 (by decide +kernel) rfl rfl, List.forall_mem_cons.mpr ⟨ek_4 (by decide +kernel) rfl hc_0_76, List.forall_mem_cons.mpr ⟨ek_6 (by decide +kernel), fun _ h => absurd h List.not_mem_nil⟩⟩⟩⟩⟩⟩⟩⟩⟩⟩⟩
theorem ea_53 : ∀ x ∈ ai_cd M_53, ai_EK ai_mt M_53 x := ek_53_0
theorem nk_53 : ai_NK ai_mt M_53 := ⟨ww_t 819 (by decide +kernel), ww_t 1 (by decide +kernel), by decide +kernel, ⟨by decide +kernel, by decide +kernel⟩, rfl, by decide, (fun h => by cases h), ea_53⟩
theorem ek_54_0 : ∀ x ∈ C_54_0, ai_EK ai_mt M_54 x := List.forall_mem_cons.mpr ⟨ek_0 (by decide +kernel) rfl rfl, List.forall_mem_cons.mpr ⟨ek_0 (by decide +kernel) rfl rfl, List.forall_mem_cons.mpr ⟨ek_4 (by decide +kernel) rfl hc_0_138, List.forall_mem_cons.mpr ⟨ek_0 (by decide +kernel) rfl rfl, List.forall_mem_cons.mpr ⟨ek_0 (by decide +kernel) rfl rfl, List.forall_mem_cons.mpr ⟨ek_2 (by decide +kernel) rfl rfl, List.forall_mem_cons.mpr ⟨ek_0 (by decide +kernel) rfl rfl, List.forall_mem_cons.mpr ⟨ek_0 (by decide +kernel) rfl rfl, List.forall_mem_cons.mpr ⟨ek_4 (by decide +kernel) rfl hc_0_76, List.forall_mem_cons.mpr ⟨ek_6 (by decide +kernel), fun _ h => absurd h List.not_mem_nil⟩⟩⟩⟩⟩⟩⟩⟩⟩⟩
theorem ea_54 : ∀ x ∈ ai_cd M_54, ai_EK ai_mt M_54 x := ek_54_0
theorem nk_54 : ai_NK ai_mt M_54 := ⟨ww_t 722 (by decide +kernel), ww_t 1 (by decide +kernel), by decide +kernel, ⟨by decide +kernel, by decide +kernel⟩, rfl, by decide, (fun h => by cases h), ea_54⟩
theorem ek_55_0 : ∀ x ∈ C_55_0, ai_EK ai_mt M_55 x := List.forall_mem_cons.mpr ⟨ek_0 (by decide +kernel) rfl rfl, List.forall_mem_cons.mpr ⟨ek_3 (by decide +kernel) rfl hf_0_27, List.forall_mem_cons.mpr ⟨ek_3 (by decide +kernel) rfl hf_0_161, List.forall_mem_cons.mpr ⟨ek_0 (by decide +kernel) rfl rfl, List.forall_mem_cons.mpr ⟨ek_0 (by decide +kernel) rfl rfl, List.forall_mem_cons.mpr ⟨ek_3 (by decide +kernel) rfl hf_0_27, List.forall_mem_cons.mpr ⟨ek_0 (by decide +kernel) rfl rfl, List.forall_mem_cons.mpr ⟨ek_3 (by decide +kernel) rfl hf_0_161, List.forall_mem_cons.mpr ⟨ek_0 (by decide +kernel) rfl rfl, List.forall_mem_cons.mpr ⟨ek_6 (by decide +kernel), fun _ h => absurd h List.not_mem_nil⟩⟩⟩⟩⟩⟩⟩⟩⟩⟩
theorem ea_55 : ∀ x ∈ ai_cd M_55, ai_EK ai_mt M_55 x := ek_55_0
theorem nk_55 : ai_NK ai_mt M_55 := ⟨ww_t 555 (by decide +kernel), ww_t 1 (by decide +kernel), by decide +kernel, ⟨by decide +kernel, by decide +kernel⟩, rfl, by decide, (fun h => by cases h), ea_55⟩
theorem ek_56_0 : ∀ x ∈ C_56_0, ai_EK ai_mt M_56 x := List.forall_mem_cons.mpr ⟨ek_0 (by decide +kernel) rfl rfl, List.forall_mem_cons.mpr ⟨ek_0 (by decide +kernel) rfl rfl, List.forall_mem_cons.mpr ⟨ek_4 (by decide +kernel) rfl hc_0_72, List.forall_mem_cons.mpr ⟨ek_0 (by decide +kernel) rfl rfl, List.forall_mem_cons.mpr ⟨ek_0 (by decide +kernel) rfl rfl, List.forall_mem_cons.mpr ⟨ek_0 (by decide +kernel) rfl rfl, List.forall_mem_cons.mpr ⟨ek_4 (by decide +kernel) rfl hc_0_138, List.forall_mem_cons.mpr ⟨ek_2 (by decide +kernel) rfl rfl, List.forall_mem_cons.mpr ⟨ek_0 (by decide +kernel) rfl rfl, List.forall_mem_cons.mpr ⟨ek_6 (by decide +kernel), fun _ h => absurd h List.not_mem_nil⟩⟩⟩⟩⟩⟩⟩⟩⟩⟩
theorem ea_56 : ∀ x ∈ ai_cd M_56, ai_EK ai_mt M_56 x := ek_56_0
theorem nk_56 : ai_NK ai_mt M_56 := ⟨ww_t 769 (by decide +kernel), ww_t 1 (by decide +kernel), by decide +kernel, ⟨by decide +kernel, by decide +kernel⟩, rfl, by decide, (fun h => by cases h), ea_56⟩
theorem ek_57_0 : ∀ x ∈ C_57_0, ai_EK ai_mt M_57 x := List.forall_mem_cons.mpr ⟨ek_0 (by decide +kernel) rfl rfl, List.forall_mem_cons.mpr ⟨ek_0 (by decide +kernel) rfl rfl, List.forall_mem_cons.mpr ⟨ek_4 (by decide +kernel) rfl hc_0_72, List.forall_mem_cons.mpr ⟨ek_0 (by decide +kernel) rfl rfl, List.forall_mem_cons.mpr ⟨ek_0 (by decide +kernel) rfl rfl, List.forall_mem_cons.mpr ⟨ek_0 (by decide +kernel) rfl rfl, List.forall_mem_cons.mpr ⟨ek_4 (by decide +kernel) rfl hc_0_138, List.forall_mem_cons.mpr ⟨ek_2 (by decide +kernel) rfl rfl, List.forall_mem_cons.mpr ⟨ek_0 (by decide +kernel) rfl rfl, List.forall_mem_cons.mpr ⟨ek_6 (by decide +kernel), fun _ h => absurd h List.not_mem_nil⟩⟩⟩⟩⟩⟩⟩⟩⟩⟩
theorem ea_57 : ∀ x ∈ ai_cd M_57, ai_EK ai_mt M_57 x := ek_57_0
theorem nk_57 : ai_NK ai_mt M_57 := ⟨ww_t 434 (by decide +kernel), ww_t 1 (by decide +kernel), by decide +kernel, ⟨by decide +kernel, by decide +kernel⟩, rfl, by decide, (fun h => by cases h), ea_57⟩
theorem ek_58_0 : ∀ x ∈ C_58_0, ai_EK ai_mt M_58 x := List.forall_mem_cons.mpr ⟨ek_0 (by decide +kernel) rfl rfl, List.forall_mem_cons.mpr ⟨ek_5 (by decide +kernel) ho_1_3, List.forall_mem_cons.mpr ⟨ek_0 (by decide +kernel) rfl rfl, List.forall_mem_cons.mpr ⟨ek_0 (by decide +kernel) rfl rfl, List.forall_mem_cons.mpr ⟨ek_3 (by decide +kernel) rfl hf_1_9, List.forall_mem_cons.mpr ⟨ek_0 (by decide +kernel) rfl rfl, List.forall_mem_cons.mpr ⟨ek_0 (by decide +kernel) rfl rfl, List.forall_mem_cons.mpr ⟨ek_3 (by decide +kernel) rfl hf_1_15, List.forall_mem_cons.mpr ⟨ek_0 (by decide +kernel) rfl rfl, List.forall_mem_cons.mpr ⟨ek_0 (by decide +kernel) rfl rfl, List.forall_mem_cons.mpr ⟨ek_3 (by decide +kernel) rfl hf_1_18, List.forall_mem_cons.mpr ⟨ek_0 (by decide +kernel) rfl rfl, List.forall_mem_cons.mpr ⟨ek_0 (by decide +kernel) rfl rfl, List.forall_mem_cons.mpr ⟨ek_3 (by decide +kernel) rfl hf_1_22, List.forall_mem_cons.mpr ⟨ek_0 (by decide +kernel) rfl rfl, List.forall_mem_cons.mpr ⟨ek_0 (by decide +kernel) rfl rfl, List.forall_mem_cons.mpr ⟨ek_3 (by decide +kernel) rfl hf_1_25, List.forall_mem_cons.mpr ⟨ek_0 (by decide +kernel) rfl rfl, List.forall_mem_cons.mpr ⟨ek_0 (by decide +kernel) rfl rfl, List.forall_mem_cons.mpr ⟨ek_3 (by decide +kernel) rfl hf_1_28, List.forall_mem_cons.mpr ⟨ek_0 (by decide +kernel) rfl rfl, List.forall_mem_cons.mpr ⟨ek_0 (by decide +kernel) rfl rfl, List.forall_mem_cons.mpr ⟨ek_3 (by decide +kernel) rfl hf_1_31, List.forall_mem_cons.mpr ⟨ek_0 (by decide +kernel) rfl rfl, List.forall_mem_cons.mpr ⟨ek_0 (by decide +kernel) rfl rfl, List.forall_mem_cons.mpr ⟨ek_3 (by decide +kernel) rfl hf_1_34, List.forall_mem_cons.mpr ⟨ek_0 (by decide +kernel) rfl rfl, List.forall_mem_cons.mpr ⟨ek_0 (by decide +kernel) rfl rfl, List.forall_mem_cons.mpr ⟨ek_3 (by decide +kernel) rfl hf_1_37, List.forall_mem_cons.mpr ⟨ek_0 (by decide +kernel) rfl rfl, List.forall_mem_cons.mpr ⟨ek_0 (by decide +kernel) rfl rfl, List.forall_mem_cons.mpr ⟨ek_3 (by decide +kernel) rfl trivial, List.forall_mem_cons.mpr ⟨ek_3 (by decide +kernel) rfl hf_1_40, List.forall_mem_cons.mpr ⟨ek_0 (by decide +kernel) rfl rfl, List.forall_mem_cons.mpr ⟨ek_0 (by decide +kernel) rfl rfl, List.forall_mem_cons.mpr ⟨ek_3 (by decide +kernel) rfl trivial, List.forall_mem_cons.mpr ⟨ek_3 (by decide +kernel) rfl hf_1_44, List.forall_mem_cons.mpr ⟨ek_0 (by decide +kernel) rfl rfl, List.forall_mem_cons.mpr ⟨ek_0 (by decide +kernel) rfl rfl, List.forall_mem_cons.mpr ⟨ek_3 (by decide +kernel) rfl trivial, List.forall_mem_cons.mpr ⟨ek_3 (by decide +kernel) rfl hf_1_47, List.forall_mem_cons.mpr ⟨ek_0 (by decide +kernel) rfl rfl, List.forall_mem_cons.mpr ⟨ek_0 (by decide +kernel) rfl rfl, List.forall_mem_cons.mpr ⟨ek_3 (by decide +kernel) rfl trivial, List.forall_mem_cons.mpr ⟨ek_3 (by decide +kernel) rfl hf_1_50, List.forall_mem_cons.mpr ⟨ek_0 (by decide +kernel) rfl rfl, List.forall_mem_cons.mpr ⟨ek_0 (by decide +kernel) rfl rfl, List.forall_mem_cons.mpr ⟨ek_3 (by decide +kernel) rfl trivial, List.forall_mem_cons.mpr ⟨ek_3 (by decide +kernel) rfl hf_1_54, List.forall_mem_cons.mpr ⟨ek_0 (by decide +kernel) rfl rfl, fun _ h => absurd h List.not_mem_nil⟩⟩⟩⟩⟩⟩⟩⟩⟩⟩⟩⟩⟩⟩⟩⟩⟩⟩⟩⟩⟩⟩⟩⟩⟩⟩⟩⟩⟩⟩⟩⟩⟩⟩⟩⟩⟩⟩⟩⟩⟩⟩⟩⟩⟩⟩⟩⟩⟩⟩
theorem ek_58_1 : ∀ x ∈ C_58_1, ai_EK ai_mt M_58 x := List.forall_mem_cons.mpr ⟨ek_0 (by decide +kernel) rfl rfl, List.forall_mem_cons.mpr ⟨ek_3 (by decide +kernel) rfl trivial, List.forall_mem_cons.mpr ⟨ek_3 (by decide +kernel) rfl hf_1_57, List.forall_mem_cons.mpr ⟨ek_0 (by decide +kernel) rfl rfl, List.forall_mem_cons.mpr ⟨ek_0 (by decide +kernel) rfl rfl, List.forall_mem_cons.mpr ⟨ek_3 (by decide +kernel) rfl trivial, List.forall_mem_cons.mpr ⟨ek_3 (by decide +kernel) rfl hf_1_60, List.forall_mem_cons.mpr ⟨ek_0 (by decide +kernel) rfl rfl, List.forall_mem_cons.mpr ⟨ek_0 (by decide +kernel) rfl rfl, List.forall_mem_cons.mpr ⟨ek_0 (by decide +kernel) rfl rfl, List.forall_mem_cons.mpr ⟨ek_3 (by decide +kernel) rfl hm_1_63, List.forall_mem_cons.mpr ⟨ek_3 (by decide +kernel) rfl hf_1_65, List.forall_mem_cons.mpr ⟨ek_6 (by decide +kernel), fun _ h => absurd h List.not_mem_nil⟩⟩⟩⟩⟩⟩⟩⟩⟩⟩⟩⟩⟩
theorem ea_58 : ∀ x ∈ ai_cd M_58, ai_EK ai_mt M_58 x := List.forall_mem_append.mpr ⟨ek_58_0, ek_58_1⟩
theorem nk_58 : ai_NK ai_mt M_58 := ⟨ww_t 184 (by decide +kernel), ww_t 5 (by decide +kernel), by decide +kernel, ⟨by decide +kernel, by decide +kernel⟩, rfl, by decide, fun _ => rfl, ea_58⟩
theorem ek_59_0 : ∀ x ∈ C_59_0, ai_EK ai_mt M_59 x := List.forall_mem_cons.mpr ⟨ek_0 (by decide +kernel) rfl rfl, List.forall_mem_cons.mpr ⟨ek_0 (by decide +kernel) rfl rfl, List.forall_mem_cons.mpr ⟨ek_3 (by decide +kernel) rfl hf_1_9, List.forall_mem_cons.mpr ⟨ek_3 (by decide +kernel) rfl hf_1_9, List.forall_mem_cons.mpr ⟨ek_0 (by decide +kernel) rfl rfl, List.forall_mem_cons.mpr ⟨ek_0 (by decide +kernel) rfl rfl, List.forall_mem_cons.mpr ⟨ek_3 (by decide +kernel) rfl hf_1_15, List.forall_mem_cons.mpr ⟨ek_3 (by decide +kernel) rfl hf_1_15, List.forall_mem_cons.mpr ⟨ek_0 (by decide +kernel) rfl rfl, List.forall_mem_cons.mpr ⟨ek_0 (by decide +kernel) rfl rfl, List.forall_mem_cons.mpr ⟨ek_3 (by decide +kernel) rfl hf_1_18, List.forall_mem_cons.mpr ⟨ek_3 (by decide +kernel) rfl hf_1_18, List.forall_mem_cons.mpr ⟨ek_0 (by decide +kernel) rfl rfl, List.forall_mem_cons.mpr ⟨ek_0 (by decide +kernel) rfl rfl, List.forall_mem_cons.mpr ⟨ek_3 (by decide +kernel) rfl hf_1_22, List.forall_mem_cons.mpr ⟨ek_3 (by decide +kernel) rfl hf_1_22, List.forall_mem_cons.mpr ⟨ek_0 (by decide +kernel) rfl rfl, List.forall_mem_cons.mpr ⟨ek_0 (by decide +kernel) rfl rfl, List.forall_mem_cons.mpr ⟨ek_3 (by decide +kernel) rfl hf_1_25, List.forall_mem_cons.mpr ⟨ek_3 (by decide +kernel) rfl hf_1_25, List.forall_mem_cons.mpr ⟨ek_0 (by decide +kernel) rfl rfl, List.forall_mem_cons.mpr ⟨ek_0 (by decide +kernel) rfl rfl, List.forall_mem_cons.mpr ⟨ek_3 (by decide +kernel) rfl hf_1_28, List.forall_mem_cons.mpr ⟨ek_3 (by decide +kernel) rfl hf_1_28, List.forall_mem_cons.mpr ⟨ek_0 (by decide +kernel) rfl rfl, List.forall_mem_cons.mpr ⟨ek_0 (by decide +kernel) rfl rfl, List.forall_mem_cons.mpr ⟨ek_3 (by decide +kernel) rfl hf_1_31, List.forall_mem_cons.mpr ⟨ek_3 (by decide +kernel) rfl hf_1_31, List.forall_mem_cons.mpr ⟨ek_0 (by decide +kernel) rfl rfl, List.forall_mem_cons.mpr ⟨ek_0 (by decide +kernel) rfl rfl, List.forall_mem_cons.mpr ⟨ek_3 (by decide +kernel) rfl hf_1_34, List.forall_mem_cons.mpr ⟨ek_3 (by decide +kernel) rfl hf_1_34, List.forall_mem_cons.mpr ⟨ek_0 (by decide +kernel) rfl rfl, List.forall_mem_cons.mpr ⟨ek_0 (by decide +kernel) rfl rfl, List.forall_mem_cons.mpr ⟨ek_3 (by decide +kernel) rfl hf_1_37, List.forall_mem_cons.mpr ⟨ek_3 (by decide +kernel) rfl hf_1_37, List.forall_mem_cons.mpr ⟨ek_0 (by decide +kernel) rfl rfl, List.forall_mem_cons.mpr ⟨ek_3 (by decide +kernel) rfl hf_1_40, List.forall_mem_cons.mpr ⟨ek_0 (by decide +kernel) rfl rfl, List.forall_mem_cons.mpr ⟨ek_0 (by decide +kernel) rfl rfl, List.forall_mem_cons.mpr ⟨ek_3 (by decide +kernel) rfl hf_1_40, List.forall_mem_cons.mpr ⟨ek_0 (by decide +kernel) rfl rfl, List.forall_mem_cons.mpr ⟨ek_0 (by decide +kernel) rfl rfl, List.forall_mem_cons.mpr ⟨ek_7 (by decide +kernel) hy_1_78, List.forall_mem_cons.mpr ⟨ek_0 (by decide +kernel) rfl rfl, List.forall_mem_cons.mpr ⟨ek_3 (by decide +kernel) rfl hf_1_44, List.forall_mem_cons.mpr ⟨ek_0 (by decide +kernel) rfl rfl, List.forall_mem_cons.mpr ⟨ek_0 (by decide +kernel) rfl rfl, List.forall_mem_cons.mpr ⟨ek_3 (by decide +kernel) rfl hf_1_44, List.forall_mem_cons.mpr ⟨ek_0 (by decide +kernel) rfl rfl, fun _ h => absurd h List.not_mem_nil⟩⟩⟩⟩⟩⟩⟩⟩⟩⟩⟩⟩⟩⟩⟩⟩⟩⟩⟩⟩⟩⟩⟩⟩⟩⟩⟩⟩⟩⟩⟩⟩⟩⟩⟩⟩⟩⟩⟩⟩⟩⟩⟩⟩⟩⟩⟩⟩⟩⟩
theorem ek_59_1 : ∀ x ∈ C_59_1, ai_EK ai_mt M_59 x := List.forall_mem_cons.mpr ⟨ek_0 (by decide +kernel) rfl rfl, List.forall_mem_cons.mpr ⟨ek_7 (by decide +kernel) hy_1_78, List.forall_mem_cons.mpr ⟨ek_0 (by decide +kernel) rfl rfl, List.forall_mem_cons.mpr ⟨ek_3 (by decide +kernel) rfl hf_1_47, List.forall_mem_cons.mpr ⟨ek_0 (by decide +kernel) rfl rfl, List.forall_mem_cons.mpr ⟨ek_0 (by decide +kernel) rfl rfl, List.forall_mem_cons.mpr ⟨ek_3 (by decide +kernel) rfl hf_1_47, List.forall_mem_cons.mpr ⟨ek_0 (by decide +kernel) rfl rfl, List.forall_mem_cons.mpr ⟨ek_0 (by decide +kernel) rfl rfl, List.forall_mem_cons.mpr ⟨ek_7 (by decide +kernel) hy_1_78, List.forall_mem_cons.mpr ⟨ek_0 (by decide +kernel) rfl rfl, List.forall_mem_cons.mpr ⟨ek_0 (by decide +kernel) rfl rfl, List.forall_mem_cons.mpr ⟨ek_0 (by decide +kernel) rfl rfl, List.forall_mem_cons.mpr ⟨ek_0 (by decide +kernel) rfl rfl, List.forall_mem_cons.mpr ⟨ek_2 (by decide +kernel) rfl rfl, List.forall_mem_cons.mpr ⟨ek_0 (by decide +kernel) rfl rfl, List.forall_mem_cons.mpr ⟨ek_3 (by decide +kernel) rfl hf_1_50, List.forall_mem_cons.mpr ⟨ek_0 (by decide +kernel) rfl rfl, List.forall_mem_cons.mpr ⟨ek_0 (by decide +kernel) rfl rfl, List.forall_mem_cons.mpr ⟨ek_3 (by decide +kernel) rfl hf_1_50, List.forall_mem_cons.mpr ⟨ek_0 (by decide +kernel) rfl rfl, List.forall_mem_cons.mpr ⟨ek_3 (by decide +kernel) rfl trivial, List.forall_mem_cons.mpr ⟨ek_3 (by decide +kernel) rfl trivial, List.forall_mem_cons.mpr ⟨ek_0 (by decide +kernel) rfl rfl, List.forall_mem_cons.mpr ⟨ek_3 (by decide +kernel) rfl hf_1_54, List.forall_mem_cons.mpr ⟨ek_0 (by decide +kernel) rfl rfl, List.forall_mem_cons.mpr ⟨ek_0 (by decide +kernel) rfl rfl, List.forall_mem_cons.mpr ⟨ek_3 (by decide +kernel) rfl hf_1_54, List.forall_mem_cons.mpr ⟨ek_0 (by decide +kernel) rfl rfl, List.forall_mem_cons.mpr ⟨ek_3 (by decide +kernel) rfl trivial, List.forall_mem_cons.mpr ⟨ek_3 (by decide +kernel) rfl trivial, List.forall_mem_cons.mpr ⟨ek_0 (by decide +kernel) rfl rfl, List.forall_mem_cons.mpr ⟨ek_2 (by decide +kernel) rfl rfl, List.forall_mem_cons.mpr ⟨ek_0 (by decide +kernel) rfl rfl, List.forall_mem_cons.mpr ⟨ek_3 (by decide +kernel) rfl hf_1_57, List.forall_mem_cons.mpr ⟨ek_0 (by decide +kernel) rfl rfl, List.forall_mem_cons.mpr ⟨ek_0 (by decide +kernel) rfl rfl, List.forall_mem_cons.mpr ⟨ek_3 (by decide +kernel) rfl hf_1_57, List.forall_mem_cons.mpr ⟨ek_0 (by decide +kernel) rfl rfl, List.forall_mem_cons.mpr ⟨ek_0 (by decide +kernel) rfl rfl, List.forall_mem_cons.mpr ⟨ek_7 (by decide +kernel) hy_1_78, List.forall_mem_cons.mpr ⟨ek_0 (by decide +kernel) rfl rfl, List.forall_mem_cons.mpr ⟨ek_3 (by decide +kernel) rfl hf_1_60, List.forall_mem_cons.mpr ⟨ek_0 (by decide +kernel) rfl rfl, List.forall_mem_cons.mpr ⟨ek_0 (by decide +kernel) rfl rfl, List.forall_mem_cons.mpr ⟨ek_3 (by decide +kernel) rfl hf_1_60, List.forall_mem_cons.mpr ⟨ek_0 (by decide +kernel) rfl rfl, List.forall_mem_cons.mpr ⟨ek_0 (by decide +kernel) rfl rfl, List.forall_mem_cons.mpr ⟨ek_7 (by decide +kernel) hy_1_78, List.forall_mem_cons.mpr ⟨ek_0 (by decide +kernel) rfl rfl, fun _ h => absurd h List.not_mem_nil⟩⟩⟩⟩⟩⟩⟩⟩⟩⟩⟩⟩⟩⟩⟩⟩⟩⟩⟩⟩⟩⟩⟩⟩⟩⟩⟩⟩⟩⟩⟩⟩⟩⟩⟩⟩⟩⟩⟩⟩⟩⟩⟩⟩⟩⟩⟩⟩⟩⟩
theorem ek_59_2 : ∀ x ∈ C_59_2, ai_EK ai_mt M_59 x := List.forall_mem_cons.mpr ⟨ek_0 (by decide +kernel) rfl rfl, List.forall_mem_cons.mpr ⟨ek_0 (by decide +kernel) rfl rfl, List.forall_mem_cons.mpr ⟨ek_0 (by decide +kernel) rfl rfl, List.forall_mem_cons.mpr ⟨ek_2 (by decide +kernel) rfl rfl, List.forall_mem_cons.mpr ⟨ek_0 (by decide +kernel) rfl rfl, List.forall_mem_cons.mpr ⟨ek_3 (by decide +kernel) rfl hf_1_65, List.forall_mem_cons.mpr ⟨ek_0 (by decide +kernel) rfl rfl, List.forall_mem_cons.mpr ⟨ek_3 (by decide +kernel) rfl trivial, List.forall_mem_cons.mpr ⟨ek_0 (by decide +kernel) rfl rfl, List.forall_mem_cons.mpr ⟨ek_0 (by decide +kernel) rfl rfl, List.forall_mem_cons.mpr ⟨ek_3 (by decide +kernel) rfl hf_1_65, List.forall_mem_cons.mpr ⟨ek_0 (by decide +kernel) rfl rfl, List.forall_mem_cons.mpr ⟨ek_3 (by decide +kernel) rfl trivial, List.forall_mem_cons.mpr ⟨ek_0 (by decide +kernel) rfl rfl, List.forall_mem_cons.mpr ⟨ek_0 (by decide +kernel) rfl rfl, List.forall_mem_cons.mpr ⟨ek_7 (by decide +kernel) hy_1_78, List.forall_mem_cons.mpr ⟨ek_0 (by decide +kernel) rfl rfl, List.forall_mem_cons.mpr ⟨ek_2 (by decide +kernel) rfl rfl, List.forall_mem_cons.mpr ⟨ek_6 (by decide +kernel), fun _ h => absurd h List.not_mem_nil⟩⟩⟩⟩⟩⟩⟩⟩⟩⟩⟩⟩⟩⟩⟩⟩⟩⟩⟩
theorem ea_59 : ∀ x ∈ ai_cd M_59, ai_EK ai_mt M_59 x := List.forall_mem_append.mpr ⟨ek_59_0, List.forall_mem_append.mpr ⟨ek_59_1, ek_59_2⟩⟩
theorem nk_59 : ai_NK ai_mt M_59 := ⟨ww_t 971 (by decide +kernel), ww_t 5 (by decide +kernel), by decide +kernel, ⟨by decide +kernel, by decide +kernel⟩, rfl, by decide, (fun h => by cases h), ea_59⟩
theorem ek_60_0 : ∀ x ∈ C_60_0, ai_EK ai_mt M_60 x := List.forall_mem_cons.mpr ⟨ek_0 (by decide +kernel) rfl rfl, List.forall_mem_cons.mpr ⟨ek_5 (by decide +kernel) ho_2_3, List.forall_mem_cons.mpr ⟨ek_0 (by decide +kernel) rfl rfl, List.forall_mem_cons.mpr ⟨ek_0 (by decide +kernel) rfl rfl, List.forall_mem_cons.mpr ⟨ek_3 (by decide +kernel) rfl hf_2_9, List.forall_mem_cons.mpr ⟨ek_0 (by decide +kernel) rfl rfl, List.forall_mem_cons.mpr ⟨ek_0 (by decide +kernel) rfl rfl, List.forall_mem_cons.mpr ⟨ek_3 (by decide +kernel) rfl hf_2_15, List.forall_mem_cons.mpr ⟨ek_0 (by decide +kernel) rfl rfl, List.forall_mem_cons.mpr ⟨ek_0 (by decide +kernel) rfl rfl, List.forall_mem_cons.mpr ⟨ek_3 (by decide +kernel) rfl hf_2_18, List.forall_mem_cons.mpr ⟨ek_0 (by decide +kernel) rfl rfl, List.forall_mem_cons.mpr ⟨ek_0 (by decide +kernel) rfl rfl, List.forall_mem_cons.mpr ⟨ek_3 (by decide +kernel) rfl hf_2_21, List.forall_mem_cons.mpr ⟨ek_0 (by decide +kernel) rfl rfl, List.forall_mem_cons.mpr ⟨ek_0 (by decide +kernel) rfl rfl, List.forall_mem_cons.mpr ⟨ek_3 (by decide +kernel) rfl hf_2_24, List.forall_mem_cons.mpr ⟨ek_0 (by decide +kernel) rfl rfl, List.forall_mem_cons.mpr ⟨ek_0 (by decide +kernel) rfl rfl, List.forall_mem_cons.mpr ⟨ek_3 (by decide +kernel) rfl hf_2_27, List.forall_mem_cons.mpr ⟨ek_0 (by decide +kernel) rfl rfl, List.forall_mem_cons.mpr ⟨ek_0 (by decide +kernel) rfl rfl, List.forall_mem_cons.mpr ⟨ek_3 (by decide +kernel) rfl hf_2_30, List.forall_mem_cons.mpr ⟨ek_0 (by decide +kernel) rfl rfl, List.forall_mem_cons.mpr ⟨ek_0 (by decide +kernel) rfl rfl, List.forall_mem_cons.mpr ⟨ek_3 (by decide +kernel) rfl hf_2_33, List.forall_mem_cons.mpr ⟨ek_0 (by decide +kernel) rfl rfl, List.forall_mem_cons.mpr ⟨ek_0 (by decide +kernel) rfl rfl, List.forall_mem_cons.mpr ⟨ek_3 (by decide +kernel) rfl hf_2_36, List.forall_mem_cons.mpr ⟨ek_0 (by decide +kernel) rfl rfl, List.forall_mem_cons.mpr ⟨ek_0 (by decide +kernel) rfl rfl, List.forall_mem_cons.mpr ⟨ek_3 (by decide +kernel) rfl trivial, List.forall_mem_cons.mpr ⟨ek_3 (by decide +kernel) rfl hf_2_39, List.forall_mem_cons.mpr ⟨ek_0 (by decide +kernel) rfl rfl, List.forall_mem_cons.mpr ⟨ek_0 (by decide +kernel) rfl rfl, List.forall_mem_cons.mpr ⟨ek_3 (by decide +kernel) rfl trivial, List.forall_mem_cons.mpr ⟨ek_3 (by decide +kernel) rfl hf_2_43, List.forall_mem_cons.mpr ⟨ek_0 (by decide +kernel) rfl rfl, List.forall_mem_cons.mpr ⟨ek_0 (by decide +kernel) rfl rfl, List.forall_mem_cons.mpr ⟨ek_3 (by decide +kernel) rfl trivial, List.forall_mem_cons.mpr ⟨ek_3 (by decide +kernel) rfl hf_2_47, List.forall_mem_cons.mpr ⟨ek_0 (by decide +kernel) rfl rfl, List.forall_mem_cons.mpr ⟨ek_0 (by decide +kernel) rfl rfl, List.forall_mem_cons.mpr ⟨ek_3 (by decide +kernel) rfl trivial, List.forall_mem_cons.mpr ⟨ek_3 (by decide +kernel) rfl hf_2_50, List.forall_mem_cons.mpr ⟨ek_0 (by decide +kernel) rfl rfl, List.forall_mem_cons.mpr ⟨ek_0 (by decide +kernel) rfl rfl, List.forall_mem_cons.mpr ⟨ek_3 (by decide +kernel) rfl trivial, List.forall_mem_cons.mpr ⟨ek_3 (by decide +kernel) rfl hf_2_53, List.forall_mem_cons.mpr ⟨ek_0 (by decide +kernel) rfl rfl, fun _ h => absurd h List.not_mem_nil⟩⟩⟩⟩⟩⟩⟩⟩⟩⟩⟩⟩⟩⟩⟩⟩⟩⟩⟩⟩⟩⟩⟩⟩⟩⟩⟩⟩⟩⟩⟩⟩⟩⟩⟩⟩⟩⟩⟩⟩⟩⟩⟩⟩⟩⟩⟩⟩⟩⟩
theorem ek_60_1 : ∀ x ∈ C_60_1, ai_EK ai_mt M_60 x := List.forall_mem_cons.mpr ⟨ek_3 (by decide +kernel) rfl hn_2_56, List.forall_mem_cons.mpr ⟨ek_0 (by decide +kernel) rfl rfl, List.forall_mem_cons.mpr ⟨ek_4 (by decide +kernel) rfl hc_2_58, List.forall_mem_cons.mpr ⟨ek_3 (by decide +kernel) rfl hf_2_59, List.forall_mem_cons.mpr ⟨ek_6 (by decide +kernel), fun _ h => absurd h List.not_mem_nil⟩⟩⟩⟩⟩
theorem ea_60 : ∀ x ∈ ai_cd M_60, ai_EK ai_mt M_60 x := List.forall_mem_append.mpr ⟨ek_60_0, ek_60_1⟩
theorem nk_60 : ai_NK ai_mt M_60 := ⟨ww_t 122 (by decide +kernel), ww_t 4 (by decide +kernel), by decide +kernel, ⟨by decide +kernel, by decide +kernel⟩, rfl, by decide, fun _ => rfl, ea_60⟩
theorem ek_61_0 : ∀ x ∈ C_61_0, ai_EK ai_mt M_61 x := List.forall_mem_cons.mpr ⟨ek_0 (by decide +kernel) rfl rfl, List.forall_mem_cons.mpr ⟨ek_5 (by decide +kernel) ho_3_3, List.forall_mem_cons.mpr ⟨ek_0 (by decide +kernel) rfl rfl, List.forall_mem_cons.mpr ⟨ek_0 (by decide +kernel) rfl rfl, List.forall_mem_cons.mpr ⟨ek_3 (by decide +kernel) rfl hf_3_9, List.forall_mem_cons.mpr ⟨ek_0 (by decide +kernel) rfl rfl, List.forall_mem_cons.mpr ⟨ek_0 (by decide +kernel) rfl rfl, List.forall_mem_cons.mpr ⟨ek_3 (by decide +kernel) rfl hf_3_15, List.forall_mem_cons.mpr ⟨ek_0 (by decide +kernel) rfl rfl, List.forall_mem_cons.mpr ⟨ek_0 (by decide +kernel) rfl rfl, List.forall_mem_cons.mpr ⟨ek_3 (by decide +kernel) rfl trivial, List.forall_mem_cons.mpr ⟨ek_3 (by decide +kernel) rfl hf_3_18, List.forall_mem_cons.mpr ⟨ek_0 (by decide +kernel) rfl rfl, List.forall_mem_cons.mpr ⟨ek_0 (by decide +kernel) rfl rfl, List.forall_mem_cons.mpr ⟨ek_3 (by decide +kernel) rfl hf_3_22, List.forall_mem_cons.mpr ⟨ek_0 (by decide +kernel) rfl rfl, List.forall_mem_cons.mpr ⟨ek_0 (by decide +kernel) rfl rfl, List.forall_mem_cons.mpr ⟨ek_3 (by decide +kernel) rfl hf_3_25, List.forall_mem_cons.mpr ⟨ek_6 (by decide +kernel), fun _ h => absurd h List.not_mem_nil⟩⟩⟩⟩⟩⟩⟩⟩⟩⟩⟩⟩⟩⟩⟩⟩⟩⟩⟩
theorem ea_61 : ∀ x ∈ ai_cd M_61, ai_EK ai_mt M_61 x := ek_61_0
theorem nk_61 : ai_NK ai_mt M_61 := ⟨ww_t 282 (by decide +kernel), ww_t 6 (by decide +kernel), by decide +kernel, ⟨by decide +kernel, by decide +kernel⟩, rfl, by decide, fun _ => rfl, ea_61⟩
theorem ek_62_0 : ∀ x ∈ C_62_0, ai_EK ai_mt M_62 x := List.forall_mem_cons.mpr ⟨ek_0 (by decide +kernel) rfl rfl, List.forall_mem_cons.mpr ⟨ek_0 (by decide +kernel) rfl rfl, List.forall_mem_cons.mpr ⟨ek_0 (by decide +kernel) rfl rfl, List.forall_mem_cons.mpr ⟨ek_1 (by decide +kernel) rfl, List.forall_mem_cons.mpr ⟨ek_3 (by decide +kernel) rfl hf_3_9, List.forall_mem_cons.mpr ⟨ek_0 (by decide +kernel) rfl rfl, List.forall_mem_cons.mpr ⟨ek_0 (by decide +kernel) rfl rfl, List.forall_mem_cons.mpr ⟨ek_3 (by decide +kernel) rfl hf_3_22, List.forall_mem_cons.mpr ⟨ek_0 (by decide +kernel) rfl rfl, List.forall_mem_cons.mpr ⟨ek_0 (by decide +kernel) rfl rfl, List.forall_mem_cons.mpr ⟨ek_3 (by decide +kernel) rfl hf_3_25, List.forall_mem_cons.mpr ⟨ek_6 (by decide +kernel), fun _ h => absurd h List.not_mem_nil⟩⟩⟩⟩⟩⟩⟩⟩⟩⟩⟩⟩
theorem ea_62 : ∀ x ∈ ai_cd M_62, ai_EK ai_mt M_62 x := ek_62_0
theorem nk_62 : ai_NK ai_mt M_62 := ⟨ww_t 410 (by decide +kernel), ww_t 6 (by decide +kernel), by decide +kernel, ⟨by decide +kernel, by decide +kernel⟩, rfl, by decide, (fun h => by cases h), ea_62⟩
theorem ek_63_0 : ∀ x ∈ C_63_0, ai_EK ai_mt M_63 x := List.forall_mem_cons.mpr ⟨ek_0 (by decide +kernel) rfl rfl, List.forall_mem_cons.mpr ⟨ek_0 (by decide +kernel) rfl rfl, List.forall_mem_cons.mpr ⟨ek_3 (by decide +kernel) rfl hf_3_9, List.forall_mem_cons.mpr ⟨ek_0 (by decide +kernel) rfl rfl, List.forall_mem_cons.mpr ⟨ek_0 (by decide +kernel) rfl rfl, List.forall_mem_cons.mpr ⟨ek_3 (by decide +kernel) rfl hf_3_15, List.forall_mem_cons.mpr ⟨ek_0 (by decide +kernel) rfl rfl, List.forall_mem_cons.mpr ⟨ek_3 (by decide +kernel) rfl hf_3_18, List.forall_mem_cons.mpr ⟨ek_0 (by decide +kernel) rfl rfl, List.forall_mem_cons.mpr ⟨ek_4 (by decide +kernel) rfl hc_3_28, List.forall_mem_cons.mpr ⟨ek_6 (by decide +kernel), fun _ h => absurd h List.not_mem_nil⟩⟩⟩⟩⟩⟩⟩⟩⟩⟩⟩
theorem ea_63 : ∀ x ∈ ai_cd M_63, ai_EK ai_mt M_63 x := ek_63_0
theorem nk_63 : ai_NK ai_mt M_63 := ⟨ww_t 360 (by decide +kernel), ww_t 6 (by decide +kernel), by decide +kernel, ⟨by decide +kernel, by decide +kernel⟩, rfl, by decide, (fun h => by cases h), ea_63⟩
theorem ek_64_0 : ∀ x ∈ C_64_0, ai_EK ai_mt M_64 x := List.forall_mem_cons.mpr ⟨ek_0 (by decide +kernel) rfl rfl, List.forall_mem_cons.mpr ⟨ek_3 (by decide +kernel) rfl hf_3_9, List.forall_mem_cons.mpr ⟨ek_0 (by decide +kernel) rfl rfl, List.forall_mem_cons.mpr ⟨ek_2 (by decide +kernel) rfl rfl, List.forall_mem_cons.mpr ⟨ek_0 (by decide +kernel) rfl rfl, List.forall_mem_cons.mpr ⟨ek_6 (by decide +kernel), fun _ h => absurd h List.not_mem_nil⟩⟩⟩⟩⟩⟩
theorem ea_64 : ∀ x ∈ ai_cd M_64, ai_EK ai_mt M_64 x := ek_64_0
theorem nk_64 : ai_NK ai_mt M_64 := ⟨ww_t 375 (by decide +kernel), ww_t 6 (by decide +kernel), by decide +kernel, ⟨by decide +kernel, by decide +kernel⟩, rfl, by decide, (fun h => by cases h), ea_64⟩
theorem ek_65_0 : ∀ x ∈ C_65_0, ai_EK ai_mt M_65 x := List.forall_mem_cons.mpr ⟨ek_0 (by decide +kernel) rfl rfl, List.forall_mem_cons.mpr ⟨ek_4 (by decide +kernel) rfl hc_3_34, List.forall_mem_cons.mpr ⟨ek_2 (by decide +kernel) rfl rfl, List.forall_mem_cons.mpr ⟨ek_0 (by decide +kernel) rfl rfl, List.forall_mem_cons.mpr ⟨ek_3 (by decide +kernel) rfl hf_3_9, List.forall_mem_cons.mpr ⟨ek_0 (by decide +kernel) rfl rfl, List.forall_mem_cons.mpr ⟨ek_2 (by decide +kernel) rfl rfl, List.forall_mem_cons.mpr ⟨ek_0 (by decide +kernel) rfl rfl, List.forall_mem_cons.mpr ⟨ek_2 (by decide +kernel) rfl rfl, List.forall_mem_cons.mpr ⟨ek_6 (by decide +kernel), fun _ h => absurd h List.not_mem_nil⟩⟩⟩⟩⟩⟩⟩⟩⟩⟩
theorem ea_65 : ∀ x ∈ ai_cd M_65, ai_EK ai_mt M_65 x := ek_65_0
theorem nk_65 : ai_NK ai_mt M_65 := ⟨ww_t 418 (by decide +kernel), ww_t 6 (by decide +kernel), by decide +kernel, ⟨by decide +kernel, by decide +kernel⟩, rfl, by decide, (fun h => by cases h), ea_65⟩
theorem ek_66_0 : ∀ x ∈ C_66_0, ai_EK ai_mt M_66 x := List.forall_mem_cons.mpr ⟨ek_0 (by decide +kernel) rfl rfl, List.forall_mem_cons.mpr ⟨ek_4 (by decide +kernel) rfl hc_3_34, List.forall_mem_cons.mpr ⟨ek_2 (by decide +kernel) rfl rfl, List.forall_mem_cons.mpr ⟨ek_0 (by decide +kernel) rfl rfl, List.forall_mem_cons.mpr ⟨ek_3 (by decide +kernel) rfl hf_3_9, List.forall_mem_cons.mpr ⟨ek_0 (by decide +kernel) rfl rfl, List.forall_mem_cons.mpr ⟨ek_2 (by decide +kernel) rfl rfl, List.forall_mem_cons.mpr ⟨ek_0 (by decide +kernel) rfl rfl, List.forall_mem_cons.mpr ⟨ek_2 (by decide +kernel) rfl rfl, List.forall_mem_cons.mpr ⟨ek_6 (by decide +kernel), fun _ h => absurd h List.not_mem_nil⟩⟩⟩⟩⟩⟩⟩⟩⟩⟩
theorem ea_66 : ∀ x ∈ ai_cd M_66, ai_EK ai_mt M_66 x := ek_66_0
theorem nk_66 : ai_NK ai_mt M_66 := ⟨ww_t 371 (by decide +kernel), ww_t 6 (by decide +kernel), by decide +kernel, ⟨by decide +kernel, by decide +kernel⟩, rfl, by decide, (fun h => by cases h), ea_66⟩
theorem ek_67_0 : ∀ x ∈ C_67_0, ai_EK ai_mt M_67 x := List.forall_mem_cons.mpr ⟨ek_0 (by decide +kernel) rfl rfl, List.forall_mem_cons.mpr ⟨ek_5 (by decide +kernel) ho_4_3, List.forall_mem_cons.mpr ⟨ek_0 (by decide +kernel) rfl rfl, List.forall_mem_cons.mpr ⟨ek_0 (by decide +kernel) rfl rfl, List.forall_mem_cons.mpr ⟨ek_3 (by decide +kernel) rfl hf_4_9, List.forall_mem_cons.mpr ⟨ek_0 (by decide +kernel) rfl rfl, List.forall_mem_cons.mpr ⟨ek_0 (by decide +kernel) rfl rfl, List.forall_mem_cons.mpr ⟨ek_3 (by decide +kernel) rfl trivial, List.forall_mem_cons.mpr ⟨ek_3 (by decide +kernel) rfl hf_4_15, List.forall_mem_cons.mpr ⟨ek_0 (by decide +kernel) rfl rfl, List.forall_mem_cons.mpr ⟨ek_0 (by decide +kernel) rfl rfl, List.forall_mem_cons.mpr ⟨ek_3 (by decide +kernel) rfl hf_4_19, List.forall_mem_cons.mpr ⟨ek_0 (by decide +kernel) rfl rfl, List.forall_mem_cons.mpr ⟨ek_0 (by decide +kernel) rfl rfl, List.forall_mem_cons.mpr ⟨ek_3 (by decide +kernel) rfl hf_4_22, List.forall_mem_cons.mpr ⟨ek_0 (by decide +kernel) rfl rfl, List.forall_mem_cons.mpr ⟨ek_0 (by decide +kernel) rfl rfl, List.forall_mem_cons.mpr ⟨ek_3 (by decide +kernel) rfl hf_4_25, List.forall_mem_cons.mpr ⟨ek_0 (by decide +kernel) rfl rfl, List.forall_mem_cons.mpr ⟨ek_0 (by decide +kernel) rfl rfl, List.forall_mem_cons.mpr ⟨ek_3 (by decide +kernel) rfl hf_4_28, List.forall_mem_cons.mpr ⟨ek_6 (by decide +kernel), fun _ h => absurd h List.not_mem_nil⟩⟩⟩⟩⟩⟩⟩⟩⟩⟩⟩⟩⟩⟩⟩⟩⟩⟩⟩⟩⟩⟩
theorem ea_67 : ∀ x ∈ ai_cd M_67, ai_EK ai_mt M_67 x := ek_67_0
theorem nk_67 : ai_NK ai_mt M_67 := ⟨ww_t 34 (by decide +kernel), ww_t 2 (by decide +kernel), by decide +kernel, ⟨by decide +kernel, by decide +kernel⟩, rfl, by decide, fun _ => rfl, ea_67⟩
theorem ek_68_0 : ∀ x ∈ C_68_0, ai_EK ai_mt M_68 x := List.forall_mem_cons.mpr ⟨ek_0 (by decide +kernel) rfl rfl, List.forall_mem_cons.mpr ⟨ek_3 (by decide +kernel) rfl hf_4_28, List.forall_mem_cons.mpr ⟨ek_0 (by decide +kernel) rfl rfl, List.forall_mem_cons.mpr ⟨ek_2 (by decide +kernel) rfl rfl, List.forall_mem_cons.mpr ⟨ek_0 (by decide +kernel) rfl rfl, List.forall_mem_cons.mpr ⟨ek_3 (by decide +kernel) rfl hf_4_19, List.forall_mem_cons.mpr ⟨ek_0 (by decide +kernel) rfl rfl, List.forall_mem_cons.mpr ⟨ek_2 (by decide +kernel) rfl rfl, List.forall_mem_cons.mpr ⟨ek_0 (by decide +kernel) rfl rfl, List.forall_mem_cons.mpr ⟨ek_6 (by decide +kernel), fun _ h => absurd h List.not_mem_nil⟩⟩⟩⟩⟩⟩⟩⟩⟩⟩
theorem ea_68 : ∀ x ∈ ai_cd M_68, ai_EK ai_mt M_68 x := ek_68_0
theorem nk_68 : ai_NK ai_mt M_68 := ⟨ww_t 588 (by decide +kernel), ww_t 2 (by decide +kernel), by decide +kernel, ⟨by decide +kernel, by decide +kernel⟩, rfl, by decide, (fun h => by cases h), ea_68⟩
theorem ek_69_0 : ∀ x ∈ C_69_0, ai_EK ai_mt M_69 x := List.forall_mem_cons.mpr ⟨ek_0 (by decide +kernel) rfl rfl, List.forall_mem_cons.mpr ⟨ek_3 (by decide +kernel) rfl hf_4_9, List.forall_mem_cons.mpr ⟨ek_2 (by decide +kernel) rfl rfl, List.forall_mem_cons.mpr ⟨ek_0 (by decide +kernel) rfl rfl, List.forall_mem_cons.mpr ⟨ek_3 (by decide +kernel) rfl hf_4_9, List.forall_mem_cons.mpr ⟨ek_0 (by decide +kernel) rfl rfl, List.forall_mem_cons.mpr ⟨ek_2 (by decide +kernel) rfl rfl, List.forall_mem_cons.mpr ⟨ek_0 (by decide +kernel) rfl rfl, List.forall_mem_cons.mpr ⟨ek_3 (by decide +kernel) rfl hf_4_15, List.forall_mem_cons.mpr ⟨ek_0 (by decide +kernel) rfl rfl, List.forall_mem_cons.mpr ⟨ek_3 (by decide +kernel) rfl hf_4_9, List.forall_mem_cons.mpr ⟨ek_0 (by decide +kernel) rfl rfl, List.forall_mem_cons.mpr ⟨ek_3 (by decide +kernel) rfl trivial, List.forall_mem_cons.mpr ⟨ek_0 (by decide +kernel) rfl rfl, List.forall_mem_cons.mpr ⟨ek_0 (by decide +kernel) rfl rfl, List.forall_mem_cons.mpr ⟨ek_3 (by decide +kernel) rfl hf_4_9, List.forall_mem_cons.mpr ⟨ek_0 (by decide +kernel) rfl rfl, List.forall_mem_cons.mpr ⟨ek_1 (by decide +kernel) rfl, List.forall_mem_cons.mpr ⟨ek_3 (by decide +kernel) rfl hf_4_9, List.forall_mem_cons.mpr ⟨ek_6 (by decide +kernel), fun _ h => absurd h List.not_mem_nil⟩⟩⟩⟩⟩⟩⟩⟩⟩⟩⟩⟩⟩⟩⟩⟩⟩⟩⟩⟩
theorem ea_69 : ∀ x ∈ ai_cd M_69, ai_EK ai_mt M_69 x := ek_69_0
theorem nk_69 : ai_NK ai_mt M_69 := ⟨ww_t 551 (by decide +kernel), ww_t 2 (by decide +kernel), by decide +kernel, ⟨by decide +kernel, by decide +kernel⟩, rfl, by decide, (fun h => by cases h), ea_69⟩
theorem ek_70_0 : ∀ x ∈ C_70_0, ai_EK ai_mt M_70 x := List.forall_mem_cons.mpr ⟨ek_0 (by decide +kernel) rfl rfl, List.forall_mem_cons.mpr ⟨ek_0 (by decide +kernel) rfl rfl, List.forall_mem_cons.mpr ⟨ek_3 (by decide +kernel) rfl hf_4_25, List.forall_mem_cons.mpr ⟨ek_3 (by decide +kernel) rfl hf_4_22, List.forall_mem_cons.mpr ⟨ek_0 (by decide +kernel) rfl rfl, List.forall_mem_cons.mpr ⟨ek_0 (by decide +kernel) rfl rfl, List.forall_mem_cons.mpr ⟨ek_0 (by decide +kernel) rfl rfl, List.forall_mem_cons.mpr ⟨ek_0 (by decide +kernel) rfl rfl, List.forall_mem_cons.mpr ⟨ek_2 (by decide +kernel) rfl rfl, List.forall_mem_cons.mpr ⟨ek_0 (by decide +kernel) rfl rfl, List.forall_mem_cons.mpr ⟨ek_3 (by decide +kernel) rfl hf_4_22, List.forall_mem_cons.mpr ⟨ek_0 (by decide +kernel) rfl rfl, List.forall_mem_cons.mpr ⟨ek_3 (by decide +kernel) rfl hf_4_9, List.forall_mem_cons.mpr ⟨ek_2 (by decide +kernel) rfl rfl, List.forall_mem_cons.mpr ⟨ek_0 (by decide +kernel) rfl rfl, List.forall_mem_cons.mpr ⟨ek_0 (by decide +kernel) rfl rfl, List.forall_mem_cons.mpr ⟨ek_0 (by decide +kernel) rfl rfl, List.forall_mem_cons.mpr ⟨ek_3 (by decide +kernel) rfl hf_4_22, List.forall_mem_cons.mpr ⟨ek_4 (by decide +kernel) rfl hc_4_157, List.forall_mem_cons.mpr ⟨ek_3 (by decide +kernel) rfl hf_4_19, List.forall_mem_cons.mpr ⟨ek_0 (by decide +kernel) rfl rfl, List.forall_mem_cons.mpr ⟨ek_0 (by decide +kernel) rfl rfl, List.forall_mem_cons.mpr ⟨ek_3 (by decide +kernel) rfl hf_4_22, List.forall_mem_cons.mpr ⟨ek_3 (by decide +kernel) rfl hf_4_25, List.forall_mem_cons.mpr ⟨ek_0 (by decide +kernel) rfl rfl, List.forall_mem_cons.mpr ⟨ek_3 (by decide +kernel) rfl hf_4_19, List.forall_mem_cons.mpr ⟨ek_0 (by decide +kernel) rfl rfl, List.forall_mem_cons.mpr ⟨ek_2 (by decide +kernel) rfl rfl, List.forall_mem_cons.mpr ⟨ek_0 (by decide +kernel) rfl rfl, List.forall_mem_cons.mpr ⟨ek_3 (by decide +kernel) rfl hf_4_19, List.forall_mem_cons.mpr ⟨ek_0 (by decide +kernel) rfl rfl, List.forall_mem_cons.mpr ⟨ek_2 (by decide +kernel) rfl rfl, List.forall_mem_cons.mpr ⟨ek_0 (by decide +kernel) rfl rfl, List.forall_mem_cons.mpr ⟨ek_3 (by decide +kernel) rfl hf_4_19, List.forall_mem_cons.mpr ⟨ek_2 (by decide +kernel) rfl rfl, List.forall_mem_cons.mpr ⟨ek_6 (by decide +kernel), fun _ h => absurd h List.not_mem_nil⟩⟩⟩⟩⟩⟩⟩⟩⟩⟩⟩⟩⟩⟩⟩⟩⟩⟩⟩⟩⟩⟩⟩⟩⟩⟩⟩⟩⟩⟩⟩⟩⟩⟩⟩⟩
theorem ea_70 : ∀ x ∈ ai_cd M_70, ai_EK ai_mt M_70 x := ek_70_0
theorem nk_70 : ai_NK ai_mt M_70 := ⟨ww_t 567 (by decide +kernel), ww_t 2 (by decide +kernel), by decide +kernel, ⟨by decide +kernel, by decide +kernel⟩, rfl, by decide, (fun h => by cases h), ea_70⟩
theorem ek_71_0 : ∀ x ∈ C_71_0, ai_EK ai_mt M_71 x := List.forall_mem_cons.mpr ⟨ek_0 (by decide +kernel) rfl rfl, List.forall_mem_cons.mpr ⟨ek_0 (by decide +kernel) rfl rfl, List.forall_mem_cons.mpr ⟨ek_4 (by decide +kernel) rfl hc_4_65, List.forall_mem_cons.mpr ⟨ek_2 (by decide +kernel) rfl rfl, List.forall_mem_cons.mpr ⟨ek_0 (by decide +kernel) rfl rfl, List.forall_mem_cons.mpr ⟨ek_0 (by decide +kernel) rfl rfl, List.forall_mem_cons.mpr ⟨ek_3 (by decide +kernel) rfl hf_4_22, List.forall_mem_cons.mpr ⟨ek_4 (by decide +kernel) rfl hc_4_41, List.forall_mem_cons.mpr ⟨ek_6 (by decide +kernel), fun _ h => absurd h List.not_mem_nil⟩⟩⟩⟩⟩⟩⟩⟩⟩
theorem ea_71 : ∀ x ∈ ai_cd M_71, ai_EK ai_mt M_71 x := ek_71_0
theorem nk_71 : ai_NK ai_mt M_71 := ⟨ww_t 584 (by decide +kernel), ww_t 2 (by decide +kernel), by decide +kernel, ⟨by decide +kernel, by decide +kernel⟩, rfl, by decide, (fun h => by cases h), ea_71⟩
theorem ek_72_0 : ∀ x ∈ C_72_0, ai_EK ai_mt M_72 x := List.forall_mem_cons.mpr ⟨ek_0 (by decide +kernel) rfl rfl, List.forall_mem_cons.mpr ⟨ek_3 (by decide +kernel) rfl hf_4_28, List.forall_mem_cons.mpr ⟨ek_0 (by decide +kernel) rfl rfl, List.forall_mem_cons.mpr ⟨ek_2 (by decide +kernel) rfl rfl, List.forall_mem_cons.mpr ⟨ek_0 (by decide +kernel) rfl rfl, List.forall_mem_cons.mpr ⟨ek_0 (by decide +kernel) rfl rfl, List.forall_mem_cons.mpr ⟨ek_3 (by decide +kernel) rfl hf_4_28, List.forall_mem_cons.mpr ⟨ek_6 (by decide +kernel), fun _ h => absurd h List.not_mem_nil⟩⟩⟩⟩⟩⟩⟩⟩
theorem ea_72 : ∀ x ∈ ai_cd M_72, ai_EK ai_mt M_72 x := ek_72_0
theorem nk_72 : ai_NK ai_mt M_72 := ⟨ww_t 640 (by decide +kernel), ww_t 2 (by decide +kernel), by decide +kernel, ⟨by decide +kernel, by decide +kernel⟩, rfl, by decide, (fun h => by cases h), ea_72⟩
theorem ek_73_0 : ∀ x ∈ C_73_0, ai_EK ai_mt M_73 x := List.forall_mem_cons.mpr ⟨ek_0 (by decide +kernel) rfl rfl, List.forall_mem_cons.mpr ⟨ek_2 (by decide +kernel) rfl rfl, List.forall_mem_cons.mpr ⟨ek_0 (by decide +kernel) rfl rfl, List.forall_mem_cons.mpr ⟨ek_0 (by decide +kernel) rfl rfl, List.forall_mem_cons.mpr ⟨ek_3 (by decide +kernel) rfl hf_4_9, List.forall_mem_cons.mpr ⟨ek_2 (by decide +kernel) rfl rfl, List.forall_mem_cons.mpr ⟨ek_0 (by decide +kernel) rfl rfl, List.forall_mem_cons.mpr ⟨ek_6 (by decide +kernel), fun _ h => absurd h List.not_mem_nil⟩⟩⟩⟩⟩⟩⟩⟩
theorem ea_73 : ∀ x ∈ ai_cd M_73, ai_EK ai_mt M_73 x := ek_73_0
theorem nk_73 : ai_NK ai_mt M_73 := ⟨ww_t 575 (by decide +kernel), ww_t 2 (by decide +kernel), by decide +kernel, ⟨by decide +kernel, by decide +kernel⟩, rfl, by decide, (fun h => by cases h), ea_73⟩
theorem ek_74_0 : ∀ x ∈ C_74_0, ai_EK ai_mt M_74 x := List.forall_mem_cons.mpr ⟨ek_0 (by decide +kernel) rfl rfl, List.forall_mem_cons.mpr ⟨ek_3 (by decide +kernel) rfl hf_4_28, List.forall_mem_cons.mpr ⟨ek_0 (by decide +kernel) rfl rfl, List.forall_mem_cons.mpr ⟨ek_2 (by decide +kernel) rfl rfl, List.forall_mem_cons.mpr ⟨ek_0 (by decide +kernel) rfl rfl, List.forall_mem_cons.mpr ⟨ek_6 (by decide +kernel), fun _ h => absurd h List.not_mem_nil⟩⟩⟩⟩⟩⟩
theorem ea_74 : ∀ x ∈ ai_cd M_74, ai_EK ai_mt M_74 x := ek_74_0
theorem nk_74 : ai_NK ai_mt M_74 := ⟨ww_t 644 (by decide +kernel), ww_t 2 (by decide +kernel), by decide +kernel, ⟨by decide +kernel, by decide +kernel⟩, rfl, by decide, (fun h => by cases h), ea_74⟩
theorem ek_75_0 : ∀ x ∈ C_75_0, ai_EK ai_mt M_75 x := List.forall_mem_cons.mpr ⟨ek_0 (by decide +kernel) rfl rfl, List.forall_mem_cons.mpr ⟨ek_0s (by decide +kernel) hs_4_45, List.forall_mem_cons.mpr ⟨ek_4 (by decide +kernel) rfl hc_4_47, List.forall_mem_cons.mpr ⟨ek_0 (by decide +kernel) rfl rfl, List.forall_mem_cons.mpr ⟨ek_0 (by decide +kernel) rfl rfl, List.forall_mem_cons.mpr ⟨ek_0 (by decide +kernel) rfl rfl, List.forall_mem_cons.mpr ⟨ek_4 (by decide +kernel) rfl hc_4_51, List.forall_mem_cons.mpr ⟨ek_0 (by decide +kernel) rfl rfl, List.forall_mem_cons.mpr ⟨ek_0 (by decide +kernel) rfl rfl, List.forall_mem_cons.mpr ⟨ek_0s (by decide +kernel) hs_4_55, List.forall_mem_cons.mpr ⟨ek_4 (by decide +kernel) rfl hc_4_47, List.forall_mem_cons.mpr ⟨ek_0 (by decide +kernel) rfl rfl, List.forall_mem_cons.mpr ⟨ek_0 (by decide +kernel) rfl rfl, List.forall_mem_cons.mpr ⟨ek_0 (by decide +kernel) rfl rfl, List.forall_mem_cons.mpr ⟨ek_4 (by decide +kernel) rfl hc_4_51, List.forall_mem_cons.mpr ⟨ek_0 (by decide +kernel) rfl rfl, List.forall_mem_cons.mpr ⟨ek_0 (by decide +kernel) rfl rfl, List.forall_mem_cons.mpr ⟨ek_3 (by decide +kernel) rfl hf_4_28, List.forall_mem_cons.mpr ⟨ek_0 (by decide +kernel) rfl rfl, List.forall_mem_cons.mpr ⟨ek_2 (by decide +kernel) rfl rfl, List.forall_mem_cons.mpr ⟨ek_6 (by decide +kernel), fun _ h => absurd h List.not_mem_nil⟩⟩⟩⟩⟩⟩⟩⟩⟩⟩⟩⟩⟩⟩⟩⟩⟩⟩⟩⟩⟩
theorem ea_75 : ∀ x ∈ ai_cd M_75, ai_EK ai_mt M_75 x := ek_75_0
theorem nk_75 : ai_NK ai_mt M_75 := ⟨ww_t 579 (by decide +kernel), ww_t 2 (by decide +kernel), by decide +kernel, ⟨by decide +kernel, by decide +kernel⟩, rfl, by decide, (fun h => by cases h), ea_75⟩
theorem ek_76_0 : ∀ x ∈ C_76_0, ai_EK ai_mt M_76 x := List.forall_mem_cons.mpr ⟨ek_0 (by decide +kernel) rfl rfl, List.forall_mem_cons.mpr ⟨ek_0 (by decide +kernel) rfl rfl, List.forall_mem_cons.mpr ⟨ek_3 (by decide +kernel) rfl hf_4_28, List.forall_mem_cons.mpr ⟨ek_0 (by decide +kernel) rfl rfl, List.forall_mem_cons.mpr ⟨ek_0 (by decide +kernel) rfl rfl, List.forall_mem_cons.mpr ⟨ek_3 (by decide +kernel) rfl hf_4_25, List.forall_mem_cons.mpr ⟨ek_0 (by decide +kernel) rfl rfl, List.forall_mem_cons.mpr ⟨ek_4 (by decide +kernel) rfl hc_4_31, List.forall_mem_cons.mpr ⟨ek_0 (by decide +kernel) rfl rfl, List.forall_mem_cons.mpr ⟨ek_0 (by decide +kernel) rfl rfl, List.forall_mem_cons.mpr ⟨ek_4 (by decide +kernel) rfl hc_4_34, List.forall_mem_cons.mpr ⟨ek_0 (by decide +kernel) rfl rfl, List.forall_mem_cons.mpr ⟨ek_0 (by decide +kernel) rfl rfl, List.forall_mem_cons.mpr ⟨ek_0 (by decide +kernel) rfl rfl, List.forall_mem_cons.mpr ⟨ek_0 (by decide +kernel) rfl rfl, List.forall_mem_cons.mpr ⟨ek_2 (by decide +kernel) rfl rfl, List.forall_mem_cons.mpr ⟨ek_0 (by decide +kernel) rfl rfl, List.forall_mem_cons.mpr ⟨ek_3 (by decide +kernel) rfl hf_4_28, List.forall_mem_cons.mpr ⟨ek_0 (by decide +kernel) rfl rfl, List.forall_mem_cons.mpr ⟨ek_2 (by decide +kernel) rfl rfl, List.forall_mem_cons.mpr ⟨ek_0 (by decide +kernel) rfl rfl, List.forall_mem_cons.mpr ⟨ek_3 (by decide +kernel) rfl hf_4_19, List.forall_mem_cons.mpr ⟨ek_2 (by decide +kernel) rfl rfl, List.forall_mem_cons.mpr ⟨ek_0 (by decide +kernel) rfl rfl, List.forall_mem_cons.mpr ⟨ek_3 (by decide +kernel) rfl hf_4_28, List.forall_mem_cons.mpr ⟨ek_6 (by decide +kernel), fun _ h => absurd h List.not_mem_nil⟩⟩⟩⟩⟩⟩⟩⟩⟩⟩⟩⟩⟩⟩⟩⟩⟩⟩⟩⟩⟩⟩⟩⟩⟩⟩
theorem ea_76 : ∀ x ∈ ai_cd M_76, ai_EK ai_mt M_76 x := ek_76_0
theorem nk_76 : ai_NK ai_mt M_76 := ⟨ww_t 563 (by decide +kernel), ww_t 2 (by decide +kernel), by decide +kernel, ⟨by decide +kernel, by decide +kernel⟩, rfl, by decide, (fun h => by cases h), ea_76⟩
theorem ek_77_0 : ∀ x ∈ C_77_0, ai_EK ai_mt M_77 x := List.forall_mem_cons.mpr ⟨ek_0 (by decide +kernel) rfl rfl, List.forall_mem_cons.mpr ⟨ek_5 (by decide +kernel) ho_5_3, List.forall_mem_cons.mpr ⟨ek_6 (by decide +kernel), fun _ h => absurd h List.not_mem_nil⟩⟩⟩
theorem ea_77 : ∀ x ∈ ai_cd M_77, ai_EK ai_mt M_77 x := ek_77_0
theorem nk_77 : ai_NK ai_mt M_77 := ⟨ww_t 61 (by decide +kernel), ww_t 3 (by decide +kernel), by decide +kernel, ⟨by decide +kernel, by decide +kernel⟩, rfl, by decide, fun _ => rfl, ea_77⟩
theorem ek_78_0 : ∀ x ∈ C_78_0, ai_EK ai_mt M_78 x := List.forall_mem_cons.mpr ⟨ek_0 (by decide +kernel) rfl rfl, List.forall_mem_cons.mpr ⟨ek_5 (by decide +kernel) ho_6_1, List.forall_mem_cons.mpr ⟨ek_0 (by decide +kernel) rfl rfl, List.forall_mem_cons.mpr ⟨ek_0 (by decide +kernel) rfl rfl, List.forall_mem_cons.mpr ⟨ek_3 (by decide +kernel) rfl trivial, List.forall_mem_cons.mpr ⟨ek_3 (by decide +kernel) rfl hf_6_7, List.forall_mem_cons.mpr ⟨ek_0 (by decide +kernel) rfl rfl, List.forall_mem_cons.mpr ⟨ek_0 (by decide +kernel) rfl rfl, List.forall_mem_cons.mpr ⟨ek_3 (by decide +kernel) rfl trivial, List.forall_mem_cons.mpr ⟨ek_3 (by decide +kernel) rfl hf_6_13, List.forall_mem_cons.mpr ⟨ek_0 (by decide +kernel) rfl rfl, List.forall_mem_cons.mpr ⟨ek_0 (by decide +kernel) rfl rfl, List.forall_mem_cons.mpr ⟨ek_3 (by decide +kernel) rfl trivial, List.forall_mem_cons.mpr ⟨ek_3 (by decide +kernel) rfl hf_6_16, List.forall_mem_cons.mpr ⟨ek_0 (by decide +kernel) rfl rfl, List.forall_mem_cons.mpr ⟨ek_0 (by decide +kernel) rfl rfl, List.forall_mem_cons.mpr ⟨ek_0 (by decide +kernel) rfl rfl, List.forall_mem_cons.mpr ⟨ek_3 (by decide +kernel) rfl hm_6_19, List.forall_mem_cons.mpr ⟨ek_3 (by decide +kernel) rfl hf_6_21, List.forall_mem_cons.mpr ⟨ek_0 (by decide +kernel) rfl rfl, List.forall_mem_cons.mpr ⟨ek_0 (by decide +kernel) rfl rfl, List.forall_mem_cons.mpr ⟨ek_3 (by decide +kernel) rfl trivial, List.forall_mem_cons.mpr ⟨ek_3 (by decide +kernel) rfl hf_6_24, List.forall_mem_cons.mpr ⟨ek_0 (by decide +kernel) rfl rfl, List.forall_mem_cons.mpr ⟨ek_0 (by decide +kernel) rfl rfl, List.forall_mem_cons.mpr ⟨ek_3 (by decide +kernel) rfl trivial, List.forall_mem_cons.mpr ⟨ek_3 (by decide +kernel) rfl hf_6_28, List.forall_mem_cons.mpr ⟨ek_0 (by decide +kernel) rfl rfl, List.forall_mem_cons.mpr ⟨ek_0 (by decide +kernel) rfl rfl, List.forall_mem_cons.mpr ⟨ek_3 (by decide +kernel) rfl trivial, List.forall_mem_cons.mpr ⟨ek_3 (by decide +kernel) rfl hf_6_31, List.forall_mem_cons.mpr ⟨ek_0 (by decide +kernel) rfl rfl, List.forall_mem_cons.mpr ⟨ek_0 (by decide +kernel) rfl rfl, List.forall_mem_cons.mpr ⟨ek_3 (by decide +kernel) rfl trivial, List.forall_mem_cons.mpr ⟨ek_3 (by decide +kernel) rfl hf_6_34, List.forall_mem_cons.mpr ⟨ek_0 (by decide +kernel) rfl rfl, List.forall_mem_cons.mpr ⟨ek_0 (by decide +kernel) rfl rfl, List.forall_mem_cons.mpr ⟨ek_3 (by decide +kernel) rfl trivial, List.forall_mem_cons.mpr ⟨ek_3 (by decide +kernel) rfl hf_6_37, List.forall_mem_cons.mpr ⟨ek_0 (by decide +kernel) rfl rfl, List.forall_mem_cons.mpr ⟨ek_0 (by decide +kernel) rfl rfl, List.forall_mem_cons.mpr ⟨ek_3 (by decide +kernel) rfl trivial, List.forall_mem_cons.mpr ⟨ek_3 (by decide +kernel) rfl hf_6_40, List.forall_mem_cons.mpr ⟨ek_0 (by decide +kernel) rfl rfl, List.forall_mem_cons.mpr ⟨ek_0 (by decide +kernel) rfl rfl, List.forall_mem_cons.mpr ⟨ek_0 (by decide +kernel) rfl rfl, List.forall_mem_cons.mpr ⟨ek_3 (by decide +kernel) rfl hm_6_43, List.forall_mem_cons.mpr ⟨ek_3 (by decide +kernel) rfl hf_6_45, List.forall_mem_cons.mpr ⟨ek_0 (by decide +kernel) rfl rfl, List.forall_mem_cons.mpr ⟨ek_0 (by decide +kernel) rfl rfl, fun _ h => absurd h List.not_mem_nil⟩⟩⟩⟩⟩⟩⟩⟩⟩⟩⟩⟩⟩⟩⟩⟩⟩⟩⟩⟩⟩⟩⟩⟩⟩⟩⟩⟩⟩⟩⟩⟩⟩⟩⟩⟩⟩⟩⟩⟩⟩⟩⟩⟩⟩⟩⟩⟩⟩⟩
theorem ek_78_1 : ∀ x ∈ C_78_1, ai_EK ai_mt M_78 x := List.forall_mem_cons.mpr ⟨ek_3 (by decide +kernel) rfl trivial, List.forall_mem_cons.mpr ⟨ek_3 (by decide +kernel) rfl hf_6_48, List.forall_mem_cons.mpr ⟨ek_0 (by decide +kernel) rfl rfl, List.forall_mem_cons.mpr ⟨ek_0 (by decide +kernel) rfl rfl, List.forall_mem_cons.mpr ⟨ek_0 (by decide +kernel) rfl rfl, List.forall_mem_cons.mpr ⟨ek_3 (by decide +kernel) rfl hm_6_43, List.forall_mem_cons.mpr ⟨ek_3 (by decide +kernel) rfl hf_6_51, List.forall_mem_cons.mpr ⟨ek_0 (by decide +kernel) rfl rfl, List.forall_mem_cons.mpr ⟨ek_0 (by decide +kernel) rfl rfl, List.forall_mem_cons.mpr ⟨ek_0 (by decide +kernel) rfl rfl, List.forall_mem_cons.mpr ⟨ek_3 (by decide +kernel) rfl hm_6_43, List.forall_mem_cons.mpr ⟨ek_3 (by decide +kernel) rfl hf_6_54, List.forall_mem_cons.mpr ⟨ek_0 (by decide +kernel) rfl rfl, List.forall_mem_cons.mpr ⟨ek_0 (by decide +kernel) rfl rfl, List.forall_mem_cons.mpr ⟨ek_0 (by decide +kernel) rfl rfl, List.forall_mem_cons.mpr ⟨ek_3 (by decide +kernel) rfl hm_6_43, List.forall_mem_cons.mpr ⟨ek_3 (by decide +kernel) rfl hf_6_57, List.forall_mem_cons.mpr ⟨ek_0 (by decide +kernel) rfl rfl, List.forall_mem_cons.mpr ⟨ek_0 (by decide +kernel) rfl rfl, List.forall_mem_cons.mpr ⟨ek_3 (by decide +kernel) rfl trivial, List.forall_mem_cons.mpr ⟨ek_3 (by decide +kernel) rfl hf_6_60, List.forall_mem_cons.mpr ⟨ek_0 (by decide +kernel) rfl rfl, List.forall_mem_cons.mpr ⟨ek_0 (by decide +kernel) rfl rfl, List.forall_mem_cons.mpr ⟨ek_3 (by decide +kernel) rfl trivial, List.forall_mem_cons.mpr ⟨ek_3 (by decide +kernel) rfl hf_6_63, List.forall_mem_cons.mpr ⟨ek_0 (by decide +kernel) rfl rfl, List.forall_mem_cons.mpr ⟨ek_0 (by decide +kernel) rfl rfl, List.forall_mem_cons.mpr ⟨ek_3 (by decide +kernel) rfl trivial, List.forall_mem_cons.mpr ⟨ek_3 (by decide +kernel) rfl hf_6_66, List.forall_mem_cons.mpr ⟨ek_0 (by decide +kernel) rfl rfl, List.forall_mem_cons.mpr ⟨ek_0 (by decide +kernel) rfl rfl, List.forall_mem_cons.mpr ⟨ek_3 (by decide +kernel) rfl trivial, List.forall_mem_cons.mpr ⟨ek_3 (by decide +kernel) rfl hf_6_69, List.forall_mem_cons.mpr ⟨ek_0 (by decide +kernel) rfl rfl, List.forall_mem_cons.mpr ⟨ek_0 (by decide +kernel) rfl rfl, List.forall_mem_cons.mpr ⟨ek_3 (by decide +kernel) rfl hf_6_72, List.forall_mem_cons.mpr ⟨ek_0 (by decide +kernel) rfl rfl, List.forall_mem_cons.mpr ⟨ek_0 (by decide +kernel) rfl rfl, List.forall_mem_cons.mpr ⟨ek_3 (by decide +kernel) rfl trivial, List.forall_mem_cons.mpr ⟨ek_3 (by decide +kernel) rfl hf_6_76, List.forall_mem_cons.mpr ⟨ek_0 (by decide +kernel) rfl rfl, List.forall_mem_cons.mpr ⟨ek_0 (by decide +kernel) rfl rfl, List.forall_mem_cons.mpr ⟨ek_3 (by decide +kernel) rfl trivial, List.forall_mem_cons.mpr ⟨ek_3 (by decide +kernel) rfl hf_6_79, List.forall_mem_cons.mpr ⟨ek_0 (by decide +kernel) rfl rfl, List.forall_mem_cons.mpr ⟨ek_0 (by decide +kernel) rfl rfl, List.forall_mem_cons.mpr ⟨ek_3 (by decide +kernel) rfl trivial, List.forall_mem_cons.mpr ⟨ek_3 (by decide +kernel) rfl hf_6_82, List.forall_mem_cons.mpr ⟨ek_0 (by decide +kernel) rfl rfl, List.forall_mem_cons.mpr ⟨ek_0 (by decide +kernel) rfl rfl, fun _ h => absurd h List.not_mem_nil⟩⟩⟩⟩⟩⟩⟩⟩⟩⟩⟩⟩⟩⟩⟩⟩⟩⟩⟩⟩⟩⟩⟩⟩⟩⟩⟩⟩⟩⟩⟩⟩⟩⟩⟩⟩⟩⟩⟩⟩⟩⟩⟩⟩⟩⟩⟩⟩⟩⟩
theorem ek_78_2 : ∀ x ∈ C_78_2, ai_EK ai_mt M_78 x := List.forall_mem_cons.mpr ⟨ek_3 (by decide +kernel) rfl trivial, List.forall_mem_cons.mpr ⟨ek_3 (by decide +kernel) rfl hf_6_85, List.forall_mem_cons.mpr ⟨ek_0 (by decide +kernel) rfl rfl, List.forall_mem_cons.mpr ⟨ek_3 (by decide +kernel) rfl hn_6_8, List.forall_mem_cons.mpr ⟨ek_0 (by decide +kernel) rfl rfl, List.forall_mem_cons.mpr ⟨ek_0 (by decide +kernel) rfl rfl, List.forall_mem_cons.mpr ⟨ek_4 (by decide +kernel) rfl hc_6_88, List.forall_mem_cons.mpr ⟨ek_3 (by decide +kernel) rfl hf_6_91, List.forall_mem_cons.mpr ⟨ek_6 (by decide +kernel), fun _ h => absurd h List.not_mem_nil⟩⟩⟩⟩⟩⟩⟩⟩⟩
theorem ea_78 : ∀ x ∈ ai_cd M_78, ai_EK ai_mt M_78 x := List.forall_mem_append.mpr ⟨ek_78_0, List.forall_mem_append.mpr ⟨ek_78_1, ek_78_2⟩⟩
theorem nk_78 : ai_NK ai_mt M_78 := ⟨ww_t 1003 (by decide +kernel), ww_t 7 (by decide +kernel), by decide +kernel, ⟨by decide +kernel, by decide +kernel⟩, rfl, by decide, fun _ => rfl, ea_78⟩
theorem ek_79_0 : ∀ x ∈ C_79_0, ai_EK ai_mt M_79 x := List.forall_mem_cons.mpr ⟨ek_0 (by decide +kernel) rfl rfl, List.forall_mem_cons.mpr ⟨ek_5 (by decide +kernel) ho_6_1, List.forall_mem_cons.mpr ⟨ek_0 (by decide +kernel) rfl rfl, List.forall_mem_cons.mpr ⟨ek_0 (by decide +kernel) rfl rfl, List.forall_mem_cons.mpr ⟨ek_3 (by decide +kernel) rfl trivial, List.forall_mem_cons.mpr ⟨ek_3 (by decide +kernel) rfl hf_6_7, List.forall_mem_cons.mpr ⟨ek_0 (by decide +kernel) rfl rfl, List.forall_mem_cons.mpr ⟨ek_0 (by decide +kernel) rfl rfl, List.forall_mem_cons.mpr ⟨ek_3 (by decide +kernel) rfl trivial, List.forall_mem_cons.mpr ⟨ek_3 (by decide +kernel) rfl hf_6_13, List.forall_mem_cons.mpr ⟨ek_0 (by decide +kernel) rfl rfl, List.forall_mem_cons.mpr ⟨ek_0 (by decide +kernel) rfl rfl, List.forall_mem_cons.mpr ⟨ek_3 (by decide +kernel) rfl trivial, List.forall_mem_cons.mpr ⟨ek_3 (by decide +kernel) rfl hf_6_16, List.forall_mem_cons.mpr ⟨ek_0 (by decide +kernel) rfl rfl, List.forall_mem_cons.mpr ⟨ek_0 (by decide +kernel) rfl rfl, List.forall_mem_cons.mpr ⟨ek_0 (by decide +kernel) rfl rfl, List.forall_mem_cons.mpr ⟨ek_3 (by decide +kernel) rfl hm_6_19, List.forall_mem_cons.mpr ⟨ek_3 (by decide +kernel) rfl hf_6_21, List.forall_mem_cons.mpr ⟨ek_0 (by decide +kernel) rfl rfl, List.forall_mem_cons.mpr ⟨ek_0 (by decide +kernel) rfl rfl, List.forall_mem_cons.mpr ⟨ek_3 (by decide +kernel) rfl trivial, List.forall_mem_cons.mpr ⟨ek_3 (by decide +kernel) rfl hf_6_24, List.forall_mem_cons.mpr ⟨ek_0 (by decide +kernel) rfl rfl, List.forall_mem_cons.mpr ⟨ek_0 (by decide +kernel) rfl rfl, List.forall_mem_cons.mpr ⟨ek_3 (by decide +kernel) rfl trivial, List.forall_mem_cons.mpr ⟨ek_3 (by decide +kernel) rfl hf_6_28, List.forall_mem_cons.mpr ⟨ek_0 (by decide +kernel) rfl rfl, List.forall_mem_cons.mpr ⟨ek_0 (by decide +kernel) rfl rfl, List.forall_mem_cons.mpr ⟨ek_3 (by decide +kernel) rfl trivial, List.forall_mem_cons.mpr ⟨ek_3 (by decide +kernel) rfl hf_6_31, List.forall_mem_cons.mpr ⟨ek_0 (by decide +kernel) rfl rfl, List.forall_mem_cons.mpr ⟨ek_0 (by decide +kernel) rfl rfl, List.forall_mem_cons.mpr ⟨ek_3 (by decide +kernel) rfl trivial, List.forall_mem_cons.mpr ⟨ek_3 (by decide +kernel) rfl hf_6_34, List.forall_mem_cons.mpr ⟨ek_0 (by decide +kernel) rfl rfl, List.forall_mem_cons.mpr ⟨ek_0 (by decide +kernel) rfl rfl, List.forall_mem_cons.mpr ⟨ek_3 (by decide +kernel) rfl trivial, List.forall_mem_cons.mpr ⟨ek_3 (by decide +kernel) rfl hf_6_37, List.forall_mem_cons.mpr ⟨ek_0 (by decide +kernel) rfl rfl, List.forall_mem_cons.mpr ⟨ek_0 (by decide +kernel) rfl rfl, List.forall_mem_cons.mpr ⟨ek_3 (by decide +kernel) rfl trivial, List.forall_mem_cons.mpr ⟨ek_3 (by decide +kernel) rfl hf_6_40, List.forall_mem_cons.mpr ⟨ek_0 (by decide +kernel) rfl rfl, List.forall_mem_cons.mpr ⟨ek_0 (by decide +kernel) rfl rfl, List.forall_mem_cons.mpr ⟨ek_0 (by decide +kernel) rfl rfl, List.forall_mem_cons.mpr ⟨ek_3 (by decide +kernel) rfl hm_6_43, List.forall_mem_cons.mpr ⟨ek_3 (by decide +kernel) rfl hf_6_45, List.forall_mem_cons.mpr ⟨ek_0 (by decide +kernel) rfl rfl, List.forall_mem_cons.mpr ⟨ek_0 (by decide +kernel) rfl rfl, fun _ h => absurd h List.not_mem_nil⟩⟩⟩⟩⟩⟩⟩⟩⟩⟩⟩⟩⟩⟩⟩⟩⟩⟩⟩⟩⟩⟩⟩⟩⟩⟩⟩⟩⟩⟩⟩⟩⟩⟩⟩⟩⟩⟩⟩⟩⟩⟩⟩⟩⟩⟩⟩⟩⟩⟩
theorem ek_79_1 : ∀ x ∈ C_79_1, ai_EK ai_mt M_79 x := List.forall_mem_cons.mpr ⟨ek_3 (by decide +kernel) rfl trivial, List.forall_mem_cons.mpr ⟨ek_3 (by decide +kernel) rfl hf_6_48, List.forall_mem_cons.mpr ⟨ek_0 (by decide +kernel) rfl rfl, List.forall_mem_cons.mpr ⟨ek_0 (by decide +kernel) rfl rfl, List.forall_mem_cons.mpr ⟨ek_0 (by decide +kernel) rfl rfl, List.forall_mem_cons.mpr ⟨ek_3 (by decide +kernel) rfl hm_6_43, List.forall_mem_cons.mpr ⟨ek_3 (by decide +kernel) rfl hf_6_51, List.forall_mem_cons.mpr ⟨ek_0 (by decide +kernel) rfl rfl, List.forall_mem_cons.mpr ⟨ek_0 (by decide +kernel) rfl rfl, List.forall_mem_cons.mpr ⟨ek_0 (by decide +kernel) rfl rfl, List.forall_mem_cons.mpr ⟨ek_3 (by decide +kernel) rfl hm_6_43, List.forall_mem_cons.mpr ⟨ek_3 (by decide +kernel) rfl hf_6_54, List.forall_mem_cons.mpr ⟨ek_0 (by decide +kernel) rfl rfl, List.forall_mem_cons.mpr ⟨ek_0 (by decide +kernel) rfl rfl, List.forall_mem_cons.mpr ⟨ek_0 (by decide +kernel) rfl rfl, List.forall_mem_cons.mpr ⟨ek_3 (by decide +kernel) rfl hm_6_43, List.forall_mem_cons.mpr ⟨ek_3 (by decide +kernel) rfl hf_6_57, List.forall_mem_cons.mpr ⟨ek_0 (by decide +kernel) rfl rfl, List.forall_mem_cons.mpr ⟨ek_0 (by decide +kernel) rfl rfl, List.forall_mem_cons.mpr ⟨ek_3 (by decide +kernel) rfl trivial, List.forall_mem_cons.mpr ⟨ek_3 (by decide +kernel) rfl hf_6_60, List.forall_mem_cons.mpr ⟨ek_0 (by decide +kernel) rfl rfl, List.forall_mem_cons.mpr ⟨ek_0 (by decide +kernel) rfl rfl, List.forall_mem_cons.mpr ⟨ek_3 (by decide +kernel) rfl trivial, List.forall_mem_cons.mpr ⟨ek_3 (by decide +kernel) rfl hf_6_63, List.forall_mem_cons.mpr ⟨ek_0 (by decide +kernel) rfl rfl, List.forall_mem_cons.mpr ⟨ek_0 (by decide +kernel) rfl rfl, List.forall_mem_cons.mpr ⟨ek_3 (by decide +kernel) rfl trivial, List.forall_mem_cons.mpr ⟨ek_3 (by decide +kernel) rfl hf_6_66, List.forall_mem_cons.mpr ⟨ek_0 (by decide +kernel) rfl rfl, List.forall_mem_cons.mpr ⟨ek_0 (by decide +kernel) rfl rfl, List.forall_mem_cons.mpr ⟨ek_3 (by decide +kernel) rfl trivial, List.forall_mem_cons.mpr ⟨ek_3 (by decide +kernel) rfl hf_6_69, List.forall_mem_cons.mpr ⟨ek_0 (by decide +kernel) rfl rfl, List.forall_mem_cons.mpr ⟨ek_0 (by decide +kernel) rfl rfl, List.forall_mem_cons.mpr ⟨ek_3 (by decide +kernel) rfl hf_6_72, List.forall_mem_cons.mpr ⟨ek_0 (by decide +kernel) rfl rfl, List.forall_mem_cons.mpr ⟨ek_0 (by decide +kernel) rfl rfl, List.forall_mem_cons.mpr ⟨ek_3 (by decide +kernel) rfl trivial, List.forall_mem_cons.mpr ⟨ek_3 (by decide +kernel) rfl hf_6_76, List.forall_mem_cons.mpr ⟨ek_0 (by decide +kernel) rfl rfl, List.forall_mem_cons.mpr ⟨ek_0 (by decide +kernel) rfl rfl, List.forall_mem_cons.mpr ⟨ek_3 (by decide +kernel) rfl trivial, List.forall_mem_cons.mpr ⟨ek_3 (by decide +kernel) rfl hf_6_79, List.forall_mem_cons.mpr ⟨ek_0 (by decide +kernel) rfl rfl, List.forall_mem_cons.mpr ⟨ek_0 (by decide +kernel) rfl rfl, List.forall_mem_cons.mpr ⟨ek_3 (by decide +kernel) rfl trivial, List.forall_mem_cons.mpr ⟨ek_3 (by decide +kernel) rfl hf_6_82, List.forall_mem_cons.mpr ⟨ek_0 (by decide +kernel) rfl rfl, List.forall_mem_cons.mpr ⟨ek_0 (by decide +kernel) rfl rfl, fun _ h => absurd h List.not_mem_nil⟩⟩⟩⟩⟩⟩⟩⟩⟩⟩⟩⟩⟩⟩⟩⟩⟩⟩⟩⟩⟩⟩⟩⟩⟩⟩⟩⟩⟩⟩⟩⟩⟩⟩⟩⟩⟩⟩⟩⟩⟩⟩⟩⟩⟩⟩⟩⟩⟩⟩
theorem ek_79_2 : ∀ x ∈ C_79_2, ai_EK ai_mt M_79 x := List.forall_mem_cons.mpr ⟨ek_3 (by decide +kernel) rfl trivial, List.forall_mem_cons.mpr ⟨ek_3 (by decide +kernel) rfl hf_6_85, List.forall_mem_cons.mpr ⟨ek_0 (by decide +kernel) rfl rfl, List.forall_mem_cons.mpr ⟨ek_0 (by decide +kernel) rfl rfl, List.forall_mem_cons.mpr ⟨ek_3 (by decide +kernel) rfl hf_6_91, List.forall_mem_cons.mpr ⟨ek_6 (by decide +kernel), fun _ h => absurd h List.not_mem_nil⟩⟩⟩⟩⟩⟩
theorem ea_79 : ∀ x ∈ ai_cd M_79, ai_EK ai_mt M_79 x := List.forall_mem_append.mpr ⟨ek_79_0, List.forall_mem_append.mpr ⟨ek_79_1, ek_79_2⟩⟩
theorem nk_79 : ai_NK ai_mt M_79 := ⟨ww_t 1011 (by decide +kernel), ww_t 7 (by decide +kernel), by decide +kernel, ⟨by decide +kernel, by decide +kernel⟩, rfl, by decide, fun _ => rfl, ea_79⟩
theorem ek_80_0 : ∀ x ∈ C_80_0, ai_EK ai_mt M_80 x := List.forall_mem_cons.mpr ⟨ek_0 (by decide +kernel) rfl rfl, List.forall_mem_cons.mpr ⟨ek_0 (by decide +kernel) rfl rfl, List.forall_mem_cons.mpr ⟨ek_4 (by decide +kernel) rfl hc_6_102, List.forall_mem_cons.mpr ⟨ek_2 (by decide +kernel) rfl rfl, List.forall_mem_cons.mpr ⟨ek_0 (by decide +kernel) rfl rfl, List.forall_mem_cons.mpr ⟨ek_0 (by decide +kernel) rfl rfl, List.forall_mem_cons.mpr ⟨ek_4 (by decide +kernel) rfl hc_6_112, List.forall_mem_cons.mpr ⟨ek_6 (by decide +kernel), fun _ h => absurd h List.not_mem_nil⟩⟩⟩⟩⟩⟩⟩⟩
theorem ea_80 : ∀ x ∈ ai_cd M_80, ai_EK ai_mt M_80 x := ek_80_0
theorem nk_80 : ai_NK ai_mt M_80 := ⟨ww_t 1370 (by decide +kernel), ww_t 7 (by decide +kernel), by decide +kernel, ⟨by decide +kernel, by decide +kernel⟩, rfl, by decide, (fun h => by cases h), ea_80⟩
theorem ek_81_0 : ∀ x ∈ C_81_0, ai_EK ai_mt M_81 x := List.forall_mem_cons.mpr ⟨ek_0 (by decide +kernel) rfl rfl, List.forall_mem_cons.mpr ⟨ek_0 (by decide +kernel) rfl rfl, List.forall_mem_cons.mpr ⟨ek_4 (by decide +kernel) rfl hc_6_102, List.forall_mem_cons.mpr ⟨ek_2 (by decide +kernel) rfl rfl, List.forall_mem_cons.mpr ⟨ek_0 (by decide +kernel) rfl rfl, List.forall_mem_cons.mpr ⟨ek_0 (by decide +kernel) rfl rfl, List.forall_mem_cons.mpr ⟨ek_4 (by decide +kernel) rfl hc_6_112, List.forall_mem_cons.mpr ⟨ek_6 (by decide +kernel), fun _ h => absurd h List.not_mem_nil⟩⟩⟩⟩⟩⟩⟩⟩
theorem ea_81 : ∀ x ∈ ai_cd M_81, ai_EK ai_mt M_81 x := ek_81_0
theorem nk_81 : ai_NK ai_mt M_81 := ⟨ww_t 1358 (by decide +kernel), ww_t 7 (by decide +kernel), by decide +kernel, ⟨by decide +kernel, by decide +kernel⟩, rfl, by decide, (fun h => by cases h), ea_81⟩
theorem ek_82_0 : ∀ x ∈ C_82_0, ai_EK ai_mt M_82 x := List.forall_mem_cons.mpr ⟨ek_0 (by decide +kernel) rfl rfl, List.forall_mem_cons.mpr ⟨ek_3 (by decide +kernel) rfl hf_6_402, List.forall_mem_cons.mpr ⟨ek_2 (by decide +kernel) rfl rfl, List.forall_mem_cons.mpr ⟨ek_0 (by decide +kernel) rfl rfl, List.forall_mem_cons.mpr ⟨ek_0 (by decide +kernel) rfl rfl, List.forall_mem_cons.mpr ⟨ek_4 (by decide +kernel) rfl hc_6_112, List.forall_mem_cons.mpr ⟨ek_6 (by decide +kernel), fun _ h => absurd h List.not_mem_nil⟩⟩⟩⟩⟩⟩⟩
theorem ea_82 : ∀ x ∈ ai_cd M_82, ai_EK ai_mt M_82 x := ek_82_0
theorem nk_82 : ai_NK ai_mt M_82 := ⟨ww_t 1581 (by decide +kernel), ww_t 7 (by decide +kernel), by decide +kernel, ⟨by decide +kernel, by decide +kernel⟩, rfl, by decide, (fun h => by cases h), ea_82⟩
theorem ek_83_0 : ∀ x ∈ C_83_0, ai_EK ai_mt M_83 x := List.forall_mem_cons.mpr ⟨ek_0 (by decide +kernel) rfl rfl, List.forall_mem_cons.mpr ⟨ek_0 (by decide +kernel) rfl rfl, List.forall_mem_cons.mpr ⟨ek_0 (by decide +kernel) rfl rfl, List.forall_mem_cons.mpr ⟨ek_4 (by decide +kernel) rfl hc_6_297, List.forall_mem_cons.mpr ⟨ek_2 (by decide +kernel) rfl rfl, List.forall_mem_cons.mpr ⟨ek_0 (by decide +kernel) rfl rfl, List.forall_mem_cons.mpr ⟨ek_0 (by decide +kernel) rfl rfl, List.forall_mem_cons.mpr ⟨ek_4 (by decide +kernel) rfl hc_6_112, List.forall_mem_cons.mpr ⟨ek_6 (by decide +kernel), fun _ h => absurd h List.not_mem_nil⟩⟩⟩⟩⟩⟩⟩⟩⟩
theorem ea_83 : ∀ x ∈ ai_cd M_83, ai_EK ai_mt M_83 x := ek_83_0
theorem nk_83 : ai_NK ai_mt M_83 := ⟨ww_t 1553 (by decide +kernel), ww_t 7 (by decide +kernel), by decide +kernel, ⟨by decide +kernel, by decide +kernel⟩, rfl, by decide, (fun h => by cases h), ea_83⟩
theorem ek_84_0 : ∀ x ∈ C_84_0, ai_EK ai_mt M_84 x := List.forall_mem_cons.mpr ⟨ek_0 (by decide +kernel) rfl rfl, List.forall_mem_cons.mpr ⟨ek_0s (by decide +kernel) hs_6_248, List.forall_mem_cons.mpr ⟨ek_4 (by decide +kernel) rfl hc_6_250, List.forall_mem_cons.mpr ⟨ek_2 (by decide +kernel) rfl rfl, List.forall_mem_cons.mpr ⟨ek_0 (by decide +kernel) rfl rfl, List.forall_mem_cons.mpr ⟨ek_6 (by decide +kernel), fun _ h => absurd h List.not_mem_nil⟩⟩⟩⟩⟩⟩
theorem ea_84 : ∀ x ∈ ai_cd M_84, ai_EK ai_mt M_84 x := ek_84_0
theorem nk_84 : ai_NK ai_mt M_84 := ⟨ww_t 1298 (by decide +kernel), ww_t 7 (by decide +kernel), by decide +kernel, ⟨by decide +kernel, by decide +kernel⟩, rfl, by decide, (fun h => by cases h), ea_84⟩
theorem ek_85_0 : ∀ x ∈ C_85_0, ai_EK ai_mt M_85 x := List.forall_mem_cons.mpr ⟨ek_0 (by decide +kernel) rfl rfl, List.forall_mem_cons.mpr ⟨ek_0 (by decide +kernel) rfl rfl, List.forall_mem_cons.mpr ⟨ek_0 (by decide +kernel) rfl rfl, List.forall_mem_cons.mpr ⟨ek_4 (by decide +kernel) rfl hc_6_297, List.forall_mem_cons.mpr ⟨ek_2 (by decide +kernel) rfl rfl, List.forall_mem_cons.mpr ⟨ek_0 (by decide +kernel) rfl rfl, List.forall_mem_cons.mpr ⟨ek_0 (by decide +kernel) rfl rfl, List.forall_mem_cons.mpr ⟨ek_4 (by decide +kernel) rfl hc_6_112, List.forall_mem_cons.mpr ⟨ek_6 (by decide +kernel), fun _ h => absurd h List.not_mem_nil⟩⟩⟩⟩⟩⟩⟩⟩⟩
theorem ea_85 : ∀ x ∈ ai_cd M_85, ai_EK ai_mt M_85 x := ek_85_0
theorem nk_85 : ai_NK ai_mt M_85 := ⟨ww_t 1460 (by decide +kernel), ww_t 7 (by decide +kernel), by decide +kernel, ⟨by decide +kernel, by decide +kernel⟩, rfl, by decide, (fun h => by cases h), ea_85⟩
theorem ek_86_0 : ∀ x ∈ C_86_0, ai_EK ai_mt M_86 x := List.forall_mem_cons.mpr ⟨ek_0 (by decide +kernel) rfl rfl, List.forall_mem_cons.mpr ⟨ek_0 (by decide +kernel) rfl rfl, List.forall_mem_cons.mpr ⟨ek_0 (by decide +kernel) rfl rfl, List.forall_mem_cons.mpr ⟨ek_4 (by decide +kernel) rfl hc_6_186, List.forall_mem_cons.mpr ⟨ek_0 (by decide +kernel) rfl rfl, List.forall_mem_cons.mpr ⟨ek_0 (by decide +kernel) rfl rfl, List.forall_mem_cons.mpr ⟨ek_2 (by decide +kernel) rfl rfl, List.forall_mem_cons.mpr ⟨ek_0 (by decide +kernel) rfl rfl, List.forall_mem_cons.mpr ⟨ek_2 (by decide +kernel) rfl rfl, List.forall_mem_cons.mpr ⟨ek_6 (by decide +kernel), fun _ h => absurd h List.not_mem_nil⟩⟩⟩⟩⟩⟩⟩⟩⟩⟩
theorem ea_86 : ∀ x ∈ ai_cd M_86, ai_EK ai_mt M_86 x := ek_86_0
theorem nk_86 : ai_NK ai_mt M_86 := ⟨ww_t 1192 (by decide +kernel), ww_t 7 (by decide +kernel), by decide +kernel, ⟨by decide +kernel, by decide +kernel⟩, rfl, by decide, (fun h => by cases h), ea_86⟩
theorem ek_87_0 : ∀ x ∈ C_87_0, ai_EK ai_mt M_87 x := List.forall_mem_cons.mpr ⟨ek_0 (by decide +kernel) rfl rfl, List.forall_mem_cons.mpr ⟨ek_0 (by decide +kernel) rfl rfl, List.forall_mem_cons.mpr ⟨ek_0 (by decide +kernel) rfl rfl, List.forall_mem_cons.mpr ⟨ek_4 (by decide +kernel) rfl hc_6_288, List.forall_mem_cons.mpr ⟨ek_2 (by decide +kernel) rfl rfl, List.forall_mem_cons.mpr ⟨ek_0 (by decide +kernel) rfl rfl, List.forall_mem_cons.mpr ⟨ek_0 (by decide +kernel) rfl rfl, List.forall_mem_cons.mpr ⟨ek_4 (by decide +kernel) rfl hc_6_112, List.forall_mem_cons.mpr ⟨ek_6 (by decide +kernel), fun _ h => absurd h List.not_mem_nil⟩⟩⟩⟩⟩⟩⟩⟩⟩
theorem ea_87 : ∀ x ∈ ai_cd M_87, ai_EK ai_mt M_87 x := ek_87_0
theorem nk_87 : ai_NK ai_mt M_87 := ⟨ww_t 1386 (by decide +kernel), ww_t 7 (by decide +kernel), by decide +kernel, ⟨by decide +kernel, by decide +kernel⟩, rfl, by decide, (fun h => by cases h), ea_87⟩
theorem ek_88_0 : ∀ x ∈ C_88_0, ai_EK ai_mt M_88 x := List.forall_mem_cons.mpr ⟨ek_0 (by decide +kernel) rfl rfl, List.forall_mem_cons.mpr ⟨ek_1 (by decide +kernel) rfl, List.forall_mem_cons.mpr ⟨ek_0 (by decide +kernel) rfl rfl, List.forall_mem_cons.mpr ⟨ek_0l (by decide +kernel) hl_6_106, List.forall_mem_cons.mpr ⟨ek_4 (by decide +kernel) rfl hc_6_98, List.forall_mem_cons.mpr ⟨ek_2 (by decide +kernel) rfl rfl, List.forall_mem_cons.mpr ⟨ek_0 (by decide +kernel) rfl rfl, List.forall_mem_cons.mpr ⟨ek_1 (by decide +kernel) rfl, List.forall_mem_cons.mpr ⟨ek_0 (by decide +kernel) rfl rfl, List.forall_mem_cons.mpr ⟨ek_0l (by decide +kernel) hl_6_106, List.forall_mem_cons.mpr ⟨ek_4 (by decide +kernel) rfl hc_6_98, List.forall_mem_cons.mpr ⟨ek_2 (by decide +kernel) rfl rfl, List.forall_mem_cons.mpr ⟨ek_0 (by decide +kernel) rfl rfl, List.forall_mem_cons.mpr ⟨ek_0 (by decide +kernel) rfl rfl, List.forall_mem_cons.mpr ⟨ek_4 (by decide +kernel) rfl hc_6_112, List.forall_mem_cons.mpr ⟨ek_6 (by decide +kernel), List.forall_mem_cons.mpr ⟨ek_0 (by decide +kernel) rfl rfl, List.forall_mem_cons.mpr ⟨ek_3 (by decide +kernel) rfl hf_6_7, List.forall_mem_cons.mpr ⟨ek_0 (by decide +kernel) rfl rfl, List.forall_mem_cons.mpr ⟨ek_3 (by decide +kernel) rfl trivial, List.forall_mem_cons.mpr ⟨ek_0 (by decide +kernel) rfl rfl, List.forall_mem_cons.mpr ⟨ek_2 (by decide +kernel) rfl rfl, List.forall_mem_cons.mpr ⟨ek_0 (by decide +kernel) rfl rfl, List.forall_mem_cons.mpr ⟨ek_3 (by decide +kernel) rfl hf_6_7, List.forall_mem_cons.mpr ⟨ek_0 (by decide +kernel) rfl rfl, List.forall_mem_cons.mpr ⟨ek_3 (by decide +kernel) rfl trivial, List.forall_mem_cons.mpr ⟨ek_0 (by decide +kernel) rfl rfl, List.forall_mem_cons.mpr ⟨ek_2 (by decide +kernel) rfl rfl, List.forall_mem_cons.mpr ⟨ek_0 (by decide +kernel) rfl rfl, List.forall_mem_cons.mpr ⟨ek_3 (by decide +kernel) rfl hf_6_7, List.forall_mem_cons.mpr ⟨ek_0 (by decide +kernel) rfl rfl, List.forall_mem_cons.mpr ⟨ek_3 (by decide +kernel) rfl trivial, List.forall_mem_cons.mpr ⟨ek_0 (by decide +kernel) rfl rfl, List.forall_mem_cons.mpr ⟨ek_2 (by decide +kernel) rfl rfl, List.forall_mem_cons.mpr ⟨ek_0 (by decide +kernel) rfl rfl, List.forall_mem_cons.mpr ⟨ek_3 (by decide +kernel) rfl hf_6_7, List.forall_mem_cons.mpr ⟨ek_0 (by decide +kernel) rfl rfl, List.forall_mem_cons.mpr ⟨ek_3 (by decide +kernel) rfl trivial, List.forall_mem_cons.mpr ⟨ek_2 (by decide +kernel) rfl rfl, List.forall_mem_cons.mpr ⟨ek_0 (by decide +kernel) rfl rfl, List.forall_mem_cons.mpr ⟨ek_0 (by decide +kernel) rfl rfl, List.forall_mem_cons.mpr ⟨ek_4 (by decide +kernel) rfl hc_6_112, List.forall_mem_cons.mpr ⟨ek_6 (by decide +kernel), fun _ h => absurd h List.not_mem_nil⟩⟩⟩⟩⟩⟩⟩⟩⟩⟩⟩⟩⟩⟩⟩⟩⟩⟩⟩⟩⟩⟩⟩⟩⟩⟩⟩⟩⟩⟩⟩⟩⟩⟩⟩⟩⟩⟩⟩⟩⟩⟩⟩
theorem ea_88 : ∀ x ∈ ai_cd M_88, ai_EK ai_mt M_88 x := ek_88_0
theorem nk_88 : ai_NK ai_mt M_88 := ⟨ww_t 1166 (by decide +kernel), ww_t 7 (by decide +kernel), by decide +kernel, ⟨by decide +kernel, by decide +kernel⟩, rfl, by decide, (fun h => by cases h), ea_88⟩
theorem ek_89_0 : ∀ x ∈ C_89_0, ai_EK ai_mt M_89 x := List.forall_mem_cons.mpr ⟨ek_0 (by decide +kernel) rfl rfl, List.forall_mem_cons.mpr ⟨ek_0 (by decide +kernel) rfl rfl, List.forall_mem_cons.mpr ⟨ek_0 (by decide +kernel) rfl rfl, List.forall_mem_cons.mpr ⟨ek_0 (by decide +kernel) rfl rfl, List.forall_mem_cons.mpr ⟨ek_4 (by decide +kernel) rfl hc_6_313, List.forall_mem_cons.mpr ⟨ek_0 (by decide +kernel) rfl rfl, List.forall_mem_cons.mpr ⟨ek_0 (by decide +kernel) rfl rfl, List.forall_mem_cons.mpr ⟨ek_2 (by decide +kernel) rfl rfl, List.forall_mem_cons.mpr ⟨ek_0 (by decide +kernel) rfl rfl, List.forall_mem_cons.mpr ⟨ek_6 (by decide +kernel), fun _ h => absurd h List.not_mem_nil⟩⟩⟩⟩⟩⟩⟩⟩⟩⟩
theorem ea_89 : ∀ x ∈ ai_cd M_89, ai_EK ai_mt M_89 x := ek_89_0
theorem nk_89 : ai_NK ai_mt M_89 := ⟨ww_t 1440 (by decide +kernel), ww_t 7 (by decide +kernel), by decide +kernel, ⟨by decide +kernel, by decide +kernel⟩, rfl, by decide, (fun h => by cases h), ea_89⟩
theorem ek_90_0 : ∀ x ∈ C_90_0, ai_EK ai_mt M_90 x := List.forall_mem_cons.mpr ⟨ek_0 (by decide +kernel) rfl rfl, List.forall_mem_cons.mpr ⟨ek_0 (by decide +kernel) rfl rfl, List.forall_mem_cons.mpr ⟨ek_0 (by decide +kernel) rfl rfl, List.forall_mem_cons.mpr ⟨ek_4 (by decide +kernel) rfl hc_6_288, List.forall_mem_cons.mpr ⟨ek_2 (by decide +kernel) rfl rfl, List.forall_mem_cons.mpr ⟨ek_0 (by decide +kernel) rfl rfl, List.forall_mem_cons.mpr ⟨ek_6 (by decide +kernel), fun _ h => absurd h List.not_mem_nil⟩⟩⟩⟩⟩⟩⟩
theorem ea_90 : ∀ x ∈ ai_cd M_90, ai_EK ai_mt M_90 x := ek_90_0
theorem nk_90 : ai_NK ai_mt M_90 := ⟨ww_t 1362 (by decide +kernel), ww_t 7 (by decide +kernel), by decide +kernel, ⟨by decide +kernel, by decide +kernel⟩, rfl, by decide, (fun h => by cases h), ea_90⟩
theorem ek_91_0 : ∀ x ∈ C_91_0, ai_EK ai_mt M_91 x := List.forall_mem_cons.mpr ⟨ek_0 (by decide +kernel) rfl rfl, List.forall_mem_cons.mpr ⟨ek_0 (by decide +kernel) rfl rfl, List.forall_mem_cons.mpr ⟨ek_0 (by decide +kernel) rfl rfl, List.forall_mem_cons.mpr ⟨ek_4 (by decide +kernel) rfl hc_6_297, List.forall_mem_cons.mpr ⟨ek_2 (by decide +kernel) rfl rfl, List.forall_mem_cons.mpr ⟨ek_0 (by decide +kernel) rfl rfl, List.forall_mem_cons.mpr ⟨ek_0 (by decide +kernel) rfl rfl, List.forall_mem_cons.mpr ⟨ek_4 (by decide +kernel) rfl hc_6_112, List.forall_mem_cons.mpr ⟨ek_6 (by decide +kernel), fun _ h => absurd h List.not_mem_nil⟩⟩⟩⟩⟩⟩⟩⟩⟩
theorem ea_91 : ∀ x ∈ ai_cd M_91, ai_EK ai_mt M_91 x := ek_91_0
theorem nk_91 : ai_NK ai_mt M_91 := ⟨ww_t 1394 (by decide +kernel), ww_t 7 (by decide +kernel), by decide +kernel, ⟨by decide +kernel, by decide +kernel⟩, rfl, by decide, (fun h => by cases h), ea_91⟩
theorem ek_92_0 : ∀ x ∈ C_92_0, ai_EK ai_mt M_92 x := List.forall_mem_cons.mpr ⟨ek_0 (by decide +kernel) rfl rfl, List.forall_mem_cons.mpr ⟨ek_0 (by decide +kernel) rfl rfl, List.forall_mem_cons.mpr ⟨ek_0 (by decide +kernel) rfl rfl, List.forall_mem_cons.mpr ⟨ek_4 (by decide +kernel) rfl hc_6_297, List.forall_mem_cons.mpr ⟨ek_2 (by decide +kernel) rfl rfl, List.forall_mem_cons.mpr ⟨ek_0 (by decide +kernel) rfl rfl, List.forall_mem_cons.mpr ⟨ek_0 (by decide +kernel) rfl rfl, List.forall_mem_cons.mpr ⟨ek_4 (by decide +kernel) rfl hc_6_112, List.forall_mem_cons.mpr ⟨ek_6 (by decide +kernel), fun _ h => absurd h List.not_mem_nil⟩⟩⟩⟩⟩⟩⟩⟩⟩
theorem ea_92 : ∀ x ∈ ai_cd M_92, ai_EK ai_mt M_92 x := ek_92_0
theorem nk_92 : ai_NK ai_mt M_92 := ⟨ww_t 1402 (by decide +kernel), ww_t 7 (by decide +kernel), by decide +kernel, ⟨by decide +kernel, by decide +kernel⟩, rfl, by decide, (fun h => by cases h), ea_92⟩
theorem ek_93_0 : ∀ x ∈ C_93_0, ai_EK ai_mt M_93 x := List.forall_mem_cons.mpr ⟨ek_0 (by decide +kernel) rfl rfl, List.forall_mem_cons.mpr ⟨ek_0 (by decide +kernel) rfl rfl, List.forall_mem_cons.mpr ⟨ek_4 (by decide +kernel) rfl hc_6_102, List.forall_mem_cons.mpr ⟨ek_2 (by decide +kernel) rfl rfl, List.forall_mem_cons.mpr ⟨ek_0 (by decide +kernel) rfl rfl, List.forall_mem_cons.mpr ⟨ek_0 (by decide +kernel) rfl rfl, List.forall_mem_cons.mpr ⟨ek_4 (by decide +kernel) rfl hc_6_112, List.forall_mem_cons.mpr ⟨ek_6 (by decide +kernel), fun _ h => absurd h List.not_mem_nil⟩⟩⟩⟩⟩⟩⟩⟩
theorem ea_93 : ∀ x ∈ ai_cd M_93, ai_EK ai_mt M_93 x := ek_93_0
theorem nk_93 : ai_NK ai_mt M_93 := ⟨ww_t 1517 (by decide +kernel), ww_t 7 (by decide +kernel), by decide +kernel, ⟨by decide +kernel, by decide +kernel⟩, rfl, by decide, (fun h => by cases h), ea_93⟩
theorem ek_94_0 : ∀ x ∈ C_94_0, ai_EK ai_mt M_94 x := List.forall_mem_cons.mpr ⟨ek_0 (by decide +kernel) rfl rfl, List.forall_mem_cons.mpr ⟨ek_1 (by decide +kernel) rfl, List.forall_mem_cons.mpr ⟨ek_0 (by decide +kernel) rfl rfl, List.forall_mem_cons.mpr ⟨ek_0l (by decide +kernel) hl_6_106, List.forall_mem_cons.mpr ⟨ek_4 (by decide +kernel) rfl hc_6_98, List.forall_mem_cons.mpr ⟨ek_2 (by decide +kernel) rfl rfl, List.forall_mem_cons.mpr ⟨ek_0 (by decide +kernel) rfl rfl, List.forall_mem_cons.mpr ⟨ek_3 (by decide +kernel) rfl hf_6_7, List.forall_mem_cons.mpr ⟨ek_0 (by decide +kernel) rfl rfl, List.forall_mem_cons.mpr ⟨ek_3 (by decide +kernel) rfl trivial, List.forall_mem_cons.mpr ⟨ek_0 (by decide +kernel) rfl rfl, List.forall_mem_cons.mpr ⟨ek_2 (by decide +kernel) rfl rfl, List.forall_mem_cons.mpr ⟨ek_0 (by decide +kernel) rfl rfl, List.forall_mem_cons.mpr ⟨ek_6 (by decide +kernel), fun _ h => absurd h List.not_mem_nil⟩⟩⟩⟩⟩⟩⟩⟩⟩⟩⟩⟩⟩⟩
theorem ea_94 : ∀ x ∈ ai_cd M_94, ai_EK ai_mt M_94 x := ek_94_0
theorem nk_94 : ai_NK ai_mt M_94 := ⟨ww_t 1170 (by decide +kernel), ww_t 7 (by decide +kernel), by decide +kernel, ⟨by decide +kernel, by decide +kernel⟩, rfl, by decide, (fun h => by cases h), ea_94⟩
theorem ek_95_0 : ∀ x ∈ C_95_0, ai_EK ai_mt M_95 x := List.forall_mem_cons.mpr ⟨ek_0 (by decide +kernel) rfl rfl, List.forall_mem_cons.mpr ⟨ek_0 (by decide +kernel) rfl rfl, List.forall_mem_cons.mpr ⟨ek_0 (by decide +kernel) rfl rfl, List.forall_mem_cons.mpr ⟨ek_4 (by decide +kernel) rfl hc_6_288, List.forall_mem_cons.mpr ⟨ek_2 (by decide +kernel) rfl rfl, List.forall_mem_cons.mpr ⟨ek_0 (by decide +kernel) rfl rfl, List.forall_mem_cons.mpr ⟨ek_6 (by decide +kernel), fun _ h => absurd h List.not_mem_nil⟩⟩⟩⟩⟩⟩⟩
theorem ea_95 : ∀ x ∈ ai_cd M_95, ai_EK ai_mt M_95 x := ek_95_0
theorem nk_95 : ai_NK ai_mt M_95 := ⟨ww_t 1545 (by decide +kernel), ww_t 7 (by decide +kernel), by decide +kernel, ⟨by decide +kernel, by decide +kernel⟩, rfl, by decide, (fun h => by cases h), ea_95⟩
theorem ek_96_0 : ∀ x ∈ C_96_0, ai_EK ai_mt M_96 x := List.forall_mem_cons.mpr ⟨ek_0 (by decide +kernel) rfl rfl, List.forall_mem_cons.mpr ⟨ek_1 (by decide +kernel) rfl, List.forall_mem_cons.mpr ⟨ek_0 (by decide +kernel) rfl rfl, List.forall_mem_cons.mpr ⟨ek_0l (by decide +kernel) hl_6_108, List.forall_mem_cons.mpr ⟨ek_4 (by decide +kernel) rfl hc_6_98, List.forall_mem_cons.mpr ⟨ek_2 (by decide +kernel) rfl rfl, List.forall_mem_cons.mpr ⟨ek_0 (by decide +kernel) rfl rfl, List.forall_mem_cons.mpr ⟨ek_0 (by decide +kernel) rfl rfl, List.forall_mem_cons.mpr ⟨ek_4 (by decide +kernel) rfl hc_6_112, List.forall_mem_cons.mpr ⟨ek_6 (by decide +kernel), List.forall_mem_cons.mpr ⟨ek_0 (by decide +kernel) rfl rfl, List.forall_mem_cons.mpr ⟨ek_0 (by decide +kernel) rfl rfl, List.forall_mem_cons.mpr ⟨ek_0 (by decide +kernel) rfl rfl, List.forall_mem_cons.mpr ⟨ek_3 (by decide +kernel) rfl hf_6_193, List.forall_mem_cons.mpr ⟨ek_1 (by decide +kernel) rfl, List.forall_mem_cons.mpr ⟨ek_2 (by decide +kernel) rfl rfl, List.forall_mem_cons.mpr ⟨ek_0 (by decide +kernel) rfl rfl, List.forall_mem_cons.mpr ⟨ek_0 (by decide +kernel) rfl rfl, List.forall_mem_cons.mpr ⟨ek_1 (by decide +kernel) rfl, List.forall_mem_cons.mpr ⟨ek_0 (by decide +kernel) rfl rfl, List.forall_mem_cons.mpr ⟨ek_0 (by decide +kernel) rfl rfl, List.forall_mem_cons.mpr ⟨ek_2 (by decide +kernel) rfl rfl, List.forall_mem_cons.mpr ⟨ek_0 (by decide +kernel) rfl rfl, List.forall_mem_cons.mpr ⟨ek_3 (by decide +kernel) rfl hf_6_37, List.forall_mem_cons.mpr ⟨ek_0 (by decide +kernel) rfl rfl, List.forall_mem_cons.mpr ⟨ek_0 (by decide +kernel) rfl rfl, List.forall_mem_cons.mpr ⟨ek_3 (by decide +kernel) rfl hf_6_193, List.forall_mem_cons.mpr ⟨ek_0 (by decide +kernel) rfl rfl, List.forall_mem_cons.mpr ⟨ek_0 (by decide +kernel) rfl rfl, List.forall_mem_cons.mpr ⟨ek_1 (by decide +kernel) rfl, List.forall_mem_cons.mpr ⟨ek_3 (by decide +kernel) rfl hf_6_193, List.forall_mem_cons.mpr ⟨ek_0 (by decide +kernel) rfl rfl, List.forall_mem_cons.mpr ⟨ek_0 (by decide +kernel) rfl rfl, List.forall_mem_cons.mpr ⟨ek_0 (by decide +kernel) rfl rfl, List.forall_mem_cons.mpr ⟨ek_1 (by decide +kernel) rfl, List.forall_mem_cons.mpr ⟨ek_1 (by decide +kernel) rfl, List.forall_mem_cons.mpr ⟨ek_0 (by decide +kernel) rfl rfl, List.forall_mem_cons.mpr ⟨ek_1 (by decide +kernel) rfl, List.forall_mem_cons.mpr ⟨ek_3 (by decide +kernel) rfl trivial, List.forall_mem_cons.mpr ⟨ek_0 (by decide +kernel) rfl rfl, List.forall_mem_cons.mpr ⟨ek_2 (by decide +kernel) rfl rfl, List.forall_mem_cons.mpr ⟨ek_0 (by decide +kernel) rfl rfl, List.forall_mem_cons.mpr ⟨ek_3 (by decide +kernel) rfl hf_6_193, List.forall_mem_cons.mpr ⟨ek_6 (by decide +kernel), fun _ h => absurd h List.not_mem_nil⟩⟩⟩⟩⟩⟩⟩⟩⟩⟩⟩⟩⟩⟩⟩⟩⟩⟩⟩⟩⟩⟩⟩⟩⟩⟩⟩⟩⟩⟩⟩⟩⟩⟩⟩⟩⟩⟩⟩⟩⟩⟩⟩⟩
theorem ea_96 : ∀ x ∈ ai_cd M_96, ai_EK ai_mt M_96 x := ek_96_0
theorem nk_96 : ai_NK ai_mt M_96 := ⟨ww_t 1269 (by decide +kernel), ww_t 7 (by decide +kernel), by decide +kernel, ⟨by decide +kernel, by decide +kernel⟩, rfl, by decide, (fun h => by cases h), ea_96⟩
theorem ek_97_0 : ∀ x ∈ C_97_0, ai_EK ai_mt M_97 x := List.forall_mem_cons.mpr ⟨ek_0 (by decide +kernel) rfl rfl, List.forall_mem_cons.mpr ⟨ek_0 (by decide +kernel) rfl rfl, List.forall_mem_cons.mpr ⟨ek_0 (by decide +kernel) rfl rfl, List.forall_mem_cons.mpr ⟨ek_4 (by decide +kernel) rfl hc_6_297, List.forall_mem_cons.mpr ⟨ek_2 (by decide +kernel) rfl rfl, List.forall_mem_cons.mpr ⟨ek_0 (by decide +kernel) rfl rfl, List.forall_mem_cons.mpr ⟨ek_0 (by decide +kernel) rfl rfl, List.forall_mem_cons.mpr ⟨ek_4 (by decide +kernel) rfl hc_6_112, List.forall_mem_cons.mpr ⟨ek_6 (by decide +kernel), fun _ h => absurd h List.not_mem_nil⟩⟩⟩⟩⟩⟩⟩⟩⟩
theorem ea_97 : ∀ x ∈ ai_cd M_97, ai_EK ai_mt M_97 x := ek_97_0
theorem nk_97 : ai_NK ai_mt M_97 := ⟨ww_t 1464 (by decide +kernel), ww_t 7 (by decide +kernel), by decide +kernel, ⟨by decide +kernel, by decide +kernel⟩, rfl, by decide, (fun h => by cases h), ea_97⟩
theorem ek_98_0 : ∀ x ∈ C_98_0, ai_EK ai_mt M_98 x := List.forall_mem_cons.mpr ⟨ek_0 (by decide +kernel) rfl rfl, List.forall_mem_cons.mpr ⟨ek_0 (by decide +kernel) rfl rfl, List.forall_mem_cons.mpr ⟨ek_0 (by decide +kernel) rfl rfl, List.forall_mem_cons.mpr ⟨ek_4 (by decide +kernel) rfl hc_6_297, List.forall_mem_cons.mpr ⟨ek_2 (by decide +kernel) rfl rfl, List.forall_mem_cons.mpr ⟨ek_0 (by decide +kernel) rfl rfl, List.forall_mem_cons.mpr ⟨ek_0 (by decide +kernel) rfl rfl, List.forall_mem_cons.mpr ⟨ek_4 (by decide +kernel) rfl hc_6_112, List.forall_mem_cons.mpr ⟨ek_6 (by decide +kernel), fun _ h => absurd h List.not_mem_nil⟩⟩⟩⟩⟩⟩⟩⟩⟩
theorem ea_98 : ∀ x ∈ ai_cd M_98, ai_EK ai_mt M_98 x := ek_98_0
theorem nk_98 : ai_NK ai_mt M_98 := ⟨ww_t 1509 (by decide +kernel), ww_t 7 (by decide +kernel), by decide +kernel, ⟨by decide +kernel, by decide +kernel⟩, rfl, by decide, (fun h => by cases h), ea_98⟩
theorem ek_99_0 : ∀ x ∈ C_99_0, ai_EK ai_mt M_99 x := List.forall_mem_cons.mpr ⟨ek_0 (by decide +kernel) rfl rfl, List.forall_mem_cons.mpr ⟨ek_3 (by decide +kernel) rfl hf_6_95, List.forall_mem_cons.mpr ⟨ek_0 (by decide +kernel) rfl rfl, List.forall_mem_cons.mpr ⟨ek_2 (by decide +kernel) rfl rfl, List.forall_mem_cons.mpr ⟨ek_0 (by decide +kernel) rfl rfl, List.forall_mem_cons.mpr ⟨ek_0 (by decide +kernel) rfl rfl, List.forall_mem_cons.mpr ⟨ek_3 (by decide +kernel) rfl hf_6_95, List.forall_mem_cons.mpr ⟨ek_4 (by decide +kernel) rfl hc_6_283, List.forall_mem_cons.mpr ⟨ek_0 (by decide +kernel) rfl rfl, List.forall_mem_cons.mpr ⟨ek_0 (by decide +kernel) rfl rfl, List.forall_mem_cons.mpr ⟨ek_0 (by decide +kernel) rfl rfl, List.forall_mem_cons.mpr ⟨ek_3 (by decide +kernel) rfl hf_6_193, List.forall_mem_cons.mpr ⟨ek_0 (by decide +kernel) rfl rfl, List.forall_mem_cons.mpr ⟨ek_2 (by decide +kernel) rfl rfl, List.forall_mem_cons.mpr ⟨ek_0 (by decide +kernel) rfl rfl, List.forall_mem_cons.mpr ⟨ek_0 (by decide +kernel) rfl rfl, List.forall_mem_cons.mpr ⟨ek_4 (by decide +kernel) rfl hc_6_112, List.forall_mem_cons.mpr ⟨ek_0 (by decide +kernel) rfl rfl, List.forall_mem_cons.mpr ⟨ek_0 (by decide +kernel) rfl rfl, List.forall_mem_cons.mpr ⟨ek_0 (by decide +kernel) rfl rfl, List.forall_mem_cons.mpr ⟨ek_3 (by decide +kernel) rfl hf_6_221, List.forall_mem_cons.mpr ⟨ek_1 (by decide +kernel) rfl, List.forall_mem_cons.mpr ⟨ek_6 (by decide +kernel), fun _ h => absurd h List.not_mem_nil⟩⟩⟩⟩⟩⟩⟩⟩⟩⟩⟩⟩⟩⟩⟩⟩⟩⟩⟩⟩⟩⟩⟩
theorem ea_99 : ∀ x ∈ ai_cd M_99, ai_EK ai_mt M_99 x := ek_99_0
theorem nk_99 : ai_NK ai_mt M_99 := ⟨ww_t 1277 (by decide +kernel), ww_t 7 (by decide +kernel), by decide +kernel, ⟨by decide +kernel, by decide +kernel⟩, rfl, by decide, (fun h => by cases h), ea_99⟩
theorem ek_100_0 : ∀ x ∈ C_100_0, ai_EK ai_mt M_100 x := List.forall_mem_cons.mpr ⟨ek_0 (by decide +kernel) rfl rfl, List.forall_mem_cons.mpr ⟨ek_0 (by decide +kernel) rfl rfl, List.forall_mem_cons.mpr ⟨ek_4 (by decide +kernel) rfl hc_6_102, List.forall_mem_cons.mpr ⟨ek_2 (by decide +kernel) rfl rfl, List.forall_mem_cons.mpr ⟨ek_0 (by decide +kernel) rfl rfl, List.forall_mem_cons.mpr ⟨ek_0 (by decide +kernel) rfl rfl, List.forall_mem_cons.mpr ⟨ek_4 (by decide +kernel) rfl hc_6_112, List.forall_mem_cons.mpr ⟨ek_6 (by decide +kernel), fun _ h => absurd h List.not_mem_nil⟩⟩⟩⟩⟩⟩⟩⟩
theorem ea_100 : ∀ x ∈ ai_cd M_100, ai_EK ai_mt M_100 x := ek_100_0
theorem nk_100 : ai_NK ai_mt M_100 := ⟨ww_t 1340 (by decide +kernel), ww_t 7 (by decide +kernel), by decide +kernel, ⟨by decide +kernel, by decide +kernel⟩, rfl, by decide, (fun h => by cases h), ea_100⟩
theorem ek_101_0 : ∀ x ∈ C_101_0, ai_EK ai_mt M_101 x := List.forall_mem_cons.mpr ⟨ek_0 (by decide +kernel) rfl rfl, List.forall_mem_cons.mpr ⟨ek_0 (by decide +kernel) rfl rfl, List.forall_mem_cons.mpr ⟨ek_4 (by decide +kernel) rfl hc_6_102, List.forall_mem_cons.mpr ⟨ek_2 (by decide +kernel) rfl rfl, List.forall_mem_cons.mpr ⟨ek_0 (by decide +kernel) rfl rfl, List.forall_mem_cons.mpr ⟨ek_6 (by decide +kernel), fun _ h => absurd h List.not_mem_nil⟩⟩⟩⟩⟩⟩
theorem ea_101 : ∀ x ∈ ai_cd M_101, ai_EK ai_mt M_101 x := ek_101_0
theorem nk_101 : ai_NK ai_mt M_101 := ⟨ww_t 1353 (by decide +kernel), ww_t 7 (by decide +kernel), by decide +kernel, ⟨by decide +kernel, by decide +kernel⟩, rfl, by decide, (fun h => by cases h), ea_101⟩
theorem ek_102_0 : ∀ x ∈ C_102_0, ai_EK ai_mt M_102 x := List.forall_mem_cons.mpr ⟨ek_0 (by decide +kernel) rfl rfl, List.forall_mem_cons.mpr ⟨ek_1 (by decide +kernel) rfl, List.forall_mem_cons.mpr ⟨ek_0 (by decide +kernel) rfl rfl, List.forall_mem_cons.mpr ⟨ek_0l (by decide +kernel) hl_6_106, List.forall_mem_cons.mpr ⟨ek_4 (by decide +kernel) rfl hc_6_98, List.forall_mem_cons.mpr ⟨ek_2 (by decide +kernel) rfl rfl, List.forall_mem_cons.mpr ⟨ek_0 (by decide +kernel) rfl rfl, List.forall_mem_cons.mpr ⟨ek_3 (by decide +kernel) rfl hf_6_7, List.forall_mem_cons.mpr ⟨ek_0 (by decide +kernel) rfl rfl, List.forall_mem_cons.mpr ⟨ek_3 (by decide +kernel) rfl trivial, List.forall_mem_cons.mpr ⟨ek_2 (by decide +kernel) rfl rfl, List.forall_mem_cons.mpr ⟨ek_0 (by decide +kernel) rfl rfl, List.forall_mem_cons.mpr ⟨ek_6 (by decide +kernel), fun _ h => absurd h List.not_mem_nil⟩⟩⟩⟩⟩⟩⟩⟩⟩⟩⟩⟩⟩
theorem ea_102 : ∀ x ∈ ai_cd M_102, ai_EK ai_mt M_102 x := ek_102_0
theorem nk_102 : ai_NK ai_mt M_102 := ⟨ww_t 1174 (by decide +kernel), ww_t 7 (by decide +kernel), by decide +kernel, ⟨by decide +kernel, by decide +kernel⟩, rfl, by decide, (fun h => by cases h), ea_102⟩
theorem ek_103_0 : ∀ x ∈ C_103_0, ai_EK ai_mt M_103 x := List.forall_mem_cons.mpr ⟨ek_0 (by decide +kernel) rfl rfl, List.forall_mem_cons.mpr ⟨ek_3 (by decide +kernel) rfl hf_6_402, List.forall_mem_cons.mpr ⟨ek_2 (by decide +kernel) rfl rfl, List.forall_mem_cons.mpr ⟨ek_0 (by decide +kernel) rfl rfl, List.forall_mem_cons.mpr ⟨ek_3 (by decide +kernel) rfl hn_6_8, List.forall_mem_cons.mpr ⟨ek_0 (by decide +kernel) rfl rfl, List.forall_mem_cons.mpr ⟨ek_4 (by decide +kernel) rfl hc_6_405, List.forall_mem_cons.mpr ⟨ek_3 (by decide +kernel) rfl hf_6_402, List.forall_mem_cons.mpr ⟨ek_0 (by decide +kernel) rfl rfl, List.forall_mem_cons.mpr ⟨ek_3 (by decide +kernel) rfl hf_6_402, List.forall_mem_cons.mpr ⟨ek_0 (by decide +kernel) rfl rfl, List.forall_mem_cons.mpr ⟨ek_4 (by decide +kernel) rfl hc_6_406, List.forall_mem_cons.mpr ⟨ek_0 (by decide +kernel) rfl rfl, List.forall_mem_cons.mpr ⟨ek_6 (by decide +kernel), fun _ h => absurd h List.not_mem_nil⟩⟩⟩⟩⟩⟩⟩⟩⟩⟩⟩⟩⟩⟩
theorem ea_103 : ∀ x ∈ ai_cd M_103, ai_EK ai_mt M_103 x := ek_103_0
theorem nk_103 : ai_NK ai_mt M_103 := ⟨ww_t 1572 (by decide +kernel), ww_t 7 (by decide +kernel), by decide +kernel, ⟨by decide +kernel, by decide +kernel⟩, rfl, by decide, (fun h => by cases h), ea_103⟩
theorem ek_104_0 : ∀ x ∈ C_104_0, ai_EK ai_mt M_104 x := List.forall_mem_cons.mpr ⟨ek_0 (by decide +kernel) rfl rfl, List.forall_mem_cons.mpr ⟨ek_0 (by decide +kernel) rfl rfl, List.forall_mem_cons.mpr ⟨ek_1 (by decide +kernel) rfl, List.forall_mem_cons.mpr ⟨ek_2 (by decide +kernel) rfl rfl, List.forall_mem_cons.mpr ⟨ek_0 (by decide +kernel) rfl rfl, List.forall_mem_cons.mpr ⟨ek_0 (by decide +kernel) rfl rfl, List.forall_mem_cons.mpr ⟨ek_1 (by decide +kernel) rfl, List.forall_mem_cons.mpr ⟨ek_2 (by decide +kernel) rfl rfl, List.forall_mem_cons.mpr ⟨ek_0 (by decide +kernel) rfl rfl, List.forall_mem_cons.mpr ⟨ek_2 (by decide +kernel) rfl rfl, List.forall_mem_cons.mpr ⟨ek_0 (by decide +kernel) rfl rfl, List.forall_mem_cons.mpr ⟨ek_6 (by decide +kernel), fun _ h => absurd h List.not_mem_nil⟩⟩⟩⟩⟩⟩⟩⟩⟩⟩⟩⟩
theorem ea_104 : ∀ x ∈ ai_cd M_104, ai_EK ai_mt M_104 x := ek_104_0
theorem nk_104 : ai_NK ai_mt M_104 := ⟨ww_t 1149 (by decide +kernel), ww_t 7 (by decide +kernel), by decide +kernel, ⟨by decide +kernel, by decide +kernel⟩, rfl, by decide, (fun h => by cases h), ea_104⟩
theorem ek_105_0 : ∀ x ∈ C_105_0, ai_EK ai_mt M_105 x := List.forall_mem_cons.mpr ⟨ek_0 (by decide +kernel) rfl rfl, List.forall_mem_cons.mpr ⟨ek_0 (by decide +kernel) rfl rfl, List.forall_mem_cons.mpr ⟨ek_4 (by decide +kernel) rfl hc_6_102, List.forall_mem_cons.mpr ⟨ek_2 (by decide +kernel) rfl rfl, List.forall_mem_cons.mpr ⟨ek_0 (by decide +kernel) rfl rfl, List.forall_mem_cons.mpr ⟨ek_6 (by decide +kernel), fun _ h => absurd h List.not_mem_nil⟩⟩⟩⟩⟩⟩
theorem ea_105 : ∀ x ∈ ai_cd M_105, ai_EK ai_mt M_105 x := ek_105_0
theorem nk_105 : ai_NK ai_mt M_105 := ⟨ww_t 1398 (by decide +kernel), ww_t 7 (by decide +kernel), by decide +kernel, ⟨by decide +kernel, by decide +kernel⟩, rfl, by decide, (fun h => by cases h), ea_105⟩
theorem ek_106_0 : ∀ x ∈ C_106_0, ai_EK ai_mt M_106 x := List.forall_mem_cons.mpr ⟨ek_0 (by decide +kernel) rfl rfl, List.forall_mem_cons.mpr ⟨ek_1 (by decide +kernel) rfl, List.forall_mem_cons.mpr ⟨ek_0 (by decide +kernel) rfl rfl, List.forall_mem_cons.mpr ⟨ek_0 (by decide +kernel) rfl rfl, List.forall_mem_cons.mpr ⟨ek_3 (by decide +kernel) rfl hf_6_95, List.forall_mem_cons.mpr ⟨ek_0 (by decide +kernel) rfl rfl, List.forall_mem_cons.mpr ⟨ek_1 (by decide +kernel) rfl, List.forall_mem_cons.mpr ⟨ek_1 (by decide +kernel) rfl, List.forall_mem_cons.mpr ⟨ek_4 (by decide +kernel) rfl hc_6_98, List.forall_mem_cons.mpr ⟨ek_6 (by decide +kernel), fun _ h => absurd h List.not_mem_nil⟩⟩⟩⟩⟩⟩⟩⟩⟩⟩
theorem ea_106 : ∀ x ∈ ai_cd M_106, ai_EK ai_mt M_106 x := ek_106_0
theorem nk_106 : ai_NK ai_mt M_106 := ⟨ww_t 1200 (by decide +kernel), ww_t 7 (by decide +kernel), by decide +kernel, ⟨by decide +kernel, by decide +kernel⟩, rfl, by decide, (fun h => by cases h), ea_106⟩
theorem ek_107_0 : ∀ x ∈ C_107_0, ai_EK ai_mt M_107 x := List.forall_mem_cons.mpr ⟨ek_0 (by decide +kernel) rfl rfl, List.forall_mem_cons.mpr ⟨ek_0 (by decide +kernel) rfl rfl, List.forall_mem_cons.mpr ⟨ek_4 (by decide +kernel) rfl hc_6_102, List.forall_mem_cons.mpr ⟨ek_2 (by decide +kernel) rfl rfl, List.forall_mem_cons.mpr ⟨ek_0 (by decide +kernel) rfl rfl, List.forall_mem_cons.mpr ⟨ek_6 (by decide +kernel), fun _ h => absurd h List.not_mem_nil⟩⟩⟩⟩⟩⟩
theorem ea_107 : ∀ x ∈ ai_cd M_107, ai_EK ai_mt M_107 x := ek_107_0
theorem nk_107 : ai_NK ai_mt M_107 := ⟨ww_t 1349 (by decide +kernel), ww_t 7 (by decide +kernel), by decide +kernel, ⟨by decide +kernel, by decide +kernel⟩, rfl, by decide, (fun h => by cases h), ea_107⟩
theorem ek_108_0 : ∀ x ∈ C_108_0, ai_EK ai_mt M_108 x := List.forall_mem_cons.mpr ⟨ek_0 (by decide +kernel) rfl rfl, List.forall_mem_cons.mpr ⟨ek_3 (by decide +kernel) rfl hf_6_206, List.forall_mem_cons.mpr ⟨ek_0 (by decide +kernel) rfl rfl, List.forall_mem_cons.mpr ⟨ek_2 (by decide +kernel) rfl rfl, List.forall_mem_cons.mpr ⟨ek_0 (by decide +kernel) rfl rfl, List.forall_mem_cons.mpr ⟨ek_6 (by decide +kernel), fun _ h => absurd h List.not_mem_nil⟩⟩⟩⟩⟩⟩
theorem ea_108 : ∀ x ∈ ai_cd M_108, ai_EK ai_mt M_108 x := ek_108_0
theorem nk_108 : ai_NK ai_mt M_108 := ⟨ww_t 1307 (by decide +kernel), ww_t 7 (by decide +kernel), by decide +kernel, ⟨by decide +kernel, by decide +kernel⟩, rfl, by decide, (fun h => by cases h), ea_108⟩
theorem ek_109_0 : ∀ x ∈ C_109_0, ai_EK ai_mt M_109 x := List.forall_mem_cons.mpr ⟨ek_0 (by decide +kernel) rfl rfl, List.forall_mem_cons.mpr ⟨ek_0 (by decide +kernel) rfl rfl, List.forall_mem_cons.mpr ⟨ek_0 (by decide +kernel) rfl rfl, List.forall_mem_cons.mpr ⟨ek_0 (by decide +kernel) rfl rfl, List.forall_mem_cons.mpr ⟨ek_4 (by decide +kernel) rfl hc_6_313, List.forall_mem_cons.mpr ⟨ek_0 (by decide +kernel) rfl rfl, List.forall_mem_cons.mpr ⟨ek_0 (by decide +kernel) rfl rfl, List.forall_mem_cons.mpr ⟨ek_2 (by decide +kernel) rfl rfl, List.forall_mem_cons.mpr ⟨ek_0 (by decide +kernel) rfl rfl, List.forall_mem_cons.mpr ⟨ek_2 (by decide +kernel) rfl rfl, List.forall_mem_cons.mpr ⟨ek_6 (by decide +kernel), fun _ h => absurd h List.not_mem_nil⟩⟩⟩⟩⟩⟩⟩⟩⟩⟩⟩
theorem ea_109 : ∀ x ∈ ai_cd M_109, ai_EK ai_mt M_109 x := ek_109_0
theorem nk_109 : ai_NK ai_mt M_109 := ⟨ww_t 1426 (by decide +kernel), ww_t 7 (by decide +kernel), by decide +kernel, ⟨by decide +kernel, by decide +kernel⟩, rfl, by decide, (fun h => by cases h), ea_109⟩
theorem ek_110_0 : ∀ x ∈ C_110_0, ai_EK ai_mt M_110 x := List.forall_mem_cons.mpr ⟨ek_0 (by decide +kernel) rfl rfl, List.forall_mem_cons.mpr ⟨ek_0 (by decide +kernel) rfl rfl, List.forall_mem_cons.mpr ⟨ek_0 (by decide +kernel) rfl rfl, List.forall_mem_cons.mpr ⟨ek_4 (by decide +kernel) rfl hc_6_297, List.forall_mem_cons.mpr ⟨ek_2 (by decide +kernel) rfl rfl, List.forall_mem_cons.mpr ⟨ek_0 (by decide +kernel) rfl rfl, List.forall_mem_cons.mpr ⟨ek_0 (by decide +kernel) rfl rfl, List.forall_mem_cons.mpr ⟨ek_4 (by decide +kernel) rfl hc_6_112, List.forall_mem_cons.mpr ⟨ek_6 (by decide +kernel), fun _ h => absurd h List.not_mem_nil⟩⟩⟩⟩⟩⟩⟩⟩⟩
theorem ea_110 : ∀ x ∈ ai_cd M_110, ai_EK ai_mt M_110 x := ek_110_0
theorem nk_110 : ai_NK ai_mt M_110 := ⟨ww_t 1505 (by decide +kernel), ww_t 7 (by decide +kernel), by decide +kernel, ⟨by decide +kernel, by decide +kernel⟩, rfl, by decide, (fun h => by cases h), ea_110⟩
theorem ek_111_0 : ∀ x ∈ C_111_0, ai_EK ai_mt M_111 x := List.forall_mem_cons.mpr ⟨ek_0 (by decide +kernel) rfl rfl, List.forall_mem_cons.mpr ⟨ek_3 (by decide +kernel) rfl hf_6_196, List.forall_mem_cons.mpr ⟨ek_0 (by decide +kernel) rfl rfl, List.forall_mem_cons.mpr ⟨ek_3 (by decide +kernel) rfl hf_6_193, List.forall_mem_cons.mpr ⟨ek_2 (by decide +kernel) rfl rfl, List.forall_mem_cons.mpr ⟨ek_0 (by decide +kernel) rfl rfl, List.forall_mem_cons.mpr ⟨ek_0 (by decide +kernel) rfl rfl, List.forall_mem_cons.mpr ⟨ek_3 (by decide +kernel) rfl hf_6_196, List.forall_mem_cons.mpr ⟨ek_3 (by decide +kernel) rfl hf_6_199, List.forall_mem_cons.mpr ⟨ek_0 (by decide +kernel) rfl rfl, List.forall_mem_cons.mpr ⟨ek_0 (by decide +kernel) rfl rfl, List.forall_mem_cons.mpr ⟨ek_3 (by decide +kernel) rfl hf_6_202, List.forall_mem_cons.mpr ⟨ek_0 (by decide +kernel) rfl rfl, List.forall_mem_cons.mpr ⟨ek_3 (by decide +kernel) rfl hf_6_196, List.forall_mem_cons.mpr ⟨ek_0 (by decide +kernel) rfl rfl, List.forall_mem_cons.mpr ⟨ek_3 (by decide +kernel) rfl hf_6_193, List.forall_mem_cons.mpr ⟨ek_2 (by decide +kernel) rfl rfl, List.forall_mem_cons.mpr ⟨ek_0 (by decide +kernel) rfl rfl, List.forall_mem_cons.mpr ⟨ek_0 (by decide +kernel) rfl rfl, List.forall_mem_cons.mpr ⟨ek_3 (by decide +kernel) rfl hf_6_206, List.forall_mem_cons.mpr ⟨ek_2 (by decide +kernel) rfl rfl, List.forall_mem_cons.mpr ⟨ek_6 (by decide +kernel), fun _ h => absurd h List.not_mem_nil⟩⟩⟩⟩⟩⟩⟩⟩⟩⟩⟩⟩⟩⟩⟩⟩⟩⟩⟩⟩⟩⟩
theorem ea_111 : ∀ x ∈ ai_cd M_111, ai_EK ai_mt M_111 x := ek_111_0
theorem nk_111 : ai_NK ai_mt M_111 := ⟨ww_t 1285 (by decide +kernel), ww_t 7 (by decide +kernel), by decide +kernel, ⟨by decide +kernel, by decide +kernel⟩, rfl, by decide, (fun h => by cases h), ea_111⟩
theorem ek_112_0 : ∀ x ∈ C_112_0, ai_EK ai_mt M_112 x := List.forall_mem_cons.mpr ⟨ek_0 (by decide +kernel) rfl rfl, List.forall_mem_cons.mpr ⟨ek_0 (by decide +kernel) rfl rfl, List.forall_mem_cons.mpr ⟨ek_0 (by decide +kernel) rfl rfl, List.forall_mem_cons.mpr ⟨ek_4 (by decide +kernel) rfl hc_6_186, List.forall_mem_cons.mpr ⟨ek_0 (by decide +kernel) rfl rfl, List.forall_mem_cons.mpr ⟨ek_0 (by decide +kernel) rfl rfl, List.forall_mem_cons.mpr ⟨ek_2 (by decide +kernel) rfl rfl, List.forall_mem_cons.mpr ⟨ek_0 (by decide +kernel) rfl rfl, List.forall_mem_cons.mpr ⟨ek_6 (by decide +kernel), fun _ h => absurd h List.not_mem_nil⟩⟩⟩⟩⟩⟩⟩⟩⟩
theorem ea_112 : ∀ x ∈ ai_cd M_112, ai_EK ai_mt M_112 x := ek_112_0
theorem nk_112 : ai_NK ai_mt M_112 := ⟨ww_t 1265 (by decide +kernel), ww_t 7 (by decide +kernel), by decide +kernel, ⟨by decide +kernel, by decide +kernel⟩, rfl, by decide, (fun h => by cases h), ea_112⟩
theorem ek_113_0 : ∀ x ∈ C_113_0, ai_EK ai_mt M_113 x := List.forall_mem_cons.mpr ⟨ek_0 (by decide +kernel) rfl rfl, List.forall_mem_cons.mpr ⟨ek_0 (by decide +kernel) rfl rfl, List.forall_mem_cons.mpr ⟨ek_0 (by decide +kernel) rfl rfl, List.forall_mem_cons.mpr ⟨ek_4 (by decide +kernel) rfl hc_6_297, List.forall_mem_cons.mpr ⟨ek_2 (by decide +kernel) rfl rfl, List.forall_mem_cons.mpr ⟨ek_0 (by decide +kernel) rfl rfl, List.forall_mem_cons.mpr ⟨ek_0 (by decide +kernel) rfl rfl, List.forall_mem_cons.mpr ⟨ek_4 (by decide +kernel) rfl hc_6_112, List.forall_mem_cons.mpr ⟨ek_6 (by decide +kernel), fun _ h => absurd h List.not_mem_nil⟩⟩⟩⟩⟩⟩⟩⟩⟩
theorem ea_113 : ∀ x ∈ ai_cd M_113, ai_EK ai_mt M_113 x := ek_113_0
theorem nk_113 : ai_NK ai_mt M_113 := ⟨ww_t 1533 (by decide +kernel), ww_t 7 (by decide +kernel), by decide +kernel, ⟨by decide +kernel, by decide +kernel⟩, rfl, by decide, (fun h => by cases h), ea_113⟩
theorem ek_114_0 : ∀ x ∈ C_114_0, ai_EK ai_mt M_114 x := List.forall_mem_cons.mpr ⟨ek_0 (by decide +kernel) rfl rfl, List.forall_mem_cons.mpr ⟨ek_1 (by decide +kernel) rfl, List.forall_mem_cons.mpr ⟨ek_0 (by decide +kernel) rfl rfl, List.forall_mem_cons.mpr ⟨ek_0l (by decide +kernel) hl_6_106, List.forall_mem_cons.mpr ⟨ek_4 (by decide +kernel) rfl hc_6_98, List.forall_mem_cons.mpr ⟨ek_2 (by decide +kernel) rfl rfl, List.forall_mem_cons.mpr ⟨ek_0 (by decide +kernel) rfl rfl, List.forall_mem_cons.mpr ⟨ek_1 (by decide +kernel) rfl, List.forall_mem_cons.mpr ⟨ek_0 (by decide +kernel) rfl rfl, List.forall_mem_cons.mpr ⟨ek_0l (by decide +kernel) hl_6_120, List.forall_mem_cons.mpr ⟨ek_4 (by decide +kernel) rfl hc_6_98, List.forall_mem_cons.mpr ⟨ek_2 (by decide +kernel) rfl rfl, List.forall_mem_cons.mpr ⟨ek_0 (by decide +kernel) rfl rfl, List.forall_mem_cons.mpr ⟨ek_1 (by decide +kernel) rfl, List.forall_mem_cons.mpr ⟨ek_0 (by decide +kernel) rfl rfl, List.forall_mem_cons.mpr ⟨ek_0l (by decide +kernel) hl_6_120, List.forall_mem_cons.mpr ⟨ek_4 (by decide +kernel) rfl hc_6_98, List.forall_mem_cons.mpr ⟨ek_2 (by decide +kernel) rfl rfl, List.forall_mem_cons.mpr ⟨ek_0 (by decide +kernel) rfl rfl, List.forall_mem_cons.mpr ⟨ek_2 (by decide +kernel) rfl rfl, List.forall_mem_cons.mpr ⟨ek_0 (by decide +kernel) rfl rfl, List.forall_mem_cons.mpr ⟨ek_0 (by decide +kernel) rfl rfl, List.forall_mem_cons.mpr ⟨ek_0 (by decide +kernel) rfl rfl, List.forall_mem_cons.mpr ⟨ek_0 (by decide +kernel) rfl rfl, List.forall_mem_cons.mpr ⟨ek_0 (by decide +kernel) rfl rfl, List.forall_mem_cons.mpr ⟨ek_2 (by decide +kernel) rfl rfl, List.forall_mem_cons.mpr ⟨ek_0 (by decide +kernel) rfl rfl, List.forall_mem_cons.mpr ⟨ek_1 (by decide +kernel) rfl, List.forall_mem_cons.mpr ⟨ek_0 (by decide +kernel) rfl rfl, List.forall_mem_cons.mpr ⟨ek_0l (by decide +kernel) hl_6_122, List.forall_mem_cons.mpr ⟨ek_4 (by decide +kernel) rfl hc_6_98, List.forall_mem_cons.mpr ⟨ek_2 (by decide +kernel) rfl rfl, List.forall_mem_cons.mpr ⟨ek_0 (by decide +kernel) rfl rfl, List.forall_mem_cons.mpr ⟨ek_2 (by decide +kernel) rfl rfl, List.forall_mem_cons.mpr ⟨ek_0 (by decide +kernel) rfl rfl, List.forall_mem_cons.mpr ⟨ek_1 (by decide +kernel) rfl, List.forall_mem_cons.mpr ⟨ek_0 (by decide +kernel) rfl rfl, List.forall_mem_cons.mpr ⟨ek_0 (by decide +kernel) rfl rfl, List.forall_mem_cons.mpr ⟨ek_0 (by decide +kernel) rfl rfl, List.forall_mem_cons.mpr ⟨ek_0 (by decide +kernel) rfl rfl, List.forall_mem_cons.mpr ⟨ek_2 (by decide +kernel) rfl rfl, List.forall_mem_cons.mpr ⟨ek_0 (by decide +kernel) rfl rfl, List.forall_mem_cons.mpr ⟨ek_1 (by decide +kernel) rfl, List.forall_mem_cons.mpr ⟨ek_0 (by decide +kernel) rfl rfl, List.forall_mem_cons.mpr ⟨ek_0l (by decide +kernel) hl_6_124, List.forall_mem_cons.mpr ⟨ek_4 (by decide +kernel) rfl hc_6_98, List.forall_mem_cons.mpr ⟨ek_2 (by decide +kernel) rfl rfl, List.forall_mem_cons.mpr ⟨ek_0 (by decide +kernel) rfl rfl, List.forall_mem_cons.mpr ⟨ek_0 (by decide +kernel) rfl rfl, List.forall_mem_cons.mpr ⟨ek_2 (by decide +kernel) rfl rfl, fun _ h => absurd h List.not_mem_nil⟩⟩⟩⟩⟩⟩⟩⟩⟩⟩⟩⟩⟩⟩⟩⟩⟩⟩⟩⟩⟩⟩⟩⟩⟩⟩⟩⟩⟩⟩⟩⟩⟩⟩⟩⟩⟩⟩⟩⟩⟩⟩⟩⟩⟩⟩⟩⟩⟩⟩
theorem ek_114_1 : ∀ x ∈ C_114_1, ai_EK ai_mt M_114 x := List.forall_mem_cons.mpr ⟨ek_0 (by decide +kernel) rfl rfl, List.forall_mem_cons.mpr ⟨ek_2 (by decide +kernel) rfl rfl, List.forall_mem_cons.mpr ⟨ek_0 (by decide +kernel) rfl rfl, List.forall_mem_cons.mpr ⟨ek_1 (by decide +kernel) rfl, List.forall_mem_cons.mpr ⟨ek_0 (by decide +kernel) rfl rfl, List.forall_mem_cons.mpr ⟨ek_0 (by decide +kernel) rfl rfl, List.forall_mem_cons.mpr ⟨ek_0 (by decide +kernel) rfl rfl, List.forall_mem_cons.mpr ⟨ek_0 (by decide +kernel) rfl rfl, List.forall_mem_cons.mpr ⟨ek_2 (by decide +kernel) rfl rfl, List.forall_mem_cons.mpr ⟨ek_0 (by decide +kernel) rfl rfl, List.forall_mem_cons.mpr ⟨ek_1 (by decide +kernel) rfl, List.forall_mem_cons.mpr ⟨ek_0 (by decide +kernel) rfl rfl, List.forall_mem_cons.mpr ⟨ek_0l (by decide +kernel) hl_6_124, List.forall_mem_cons.mpr ⟨ek_4 (by decide +kernel) rfl hc_6_98, List.forall_mem_cons.mpr ⟨ek_2 (by decide +kernel) rfl rfl, List.forall_mem_cons.mpr ⟨ek_0 (by decide +kernel) rfl rfl, List.forall_mem_cons.mpr ⟨ek_2 (by decide +kernel) rfl rfl, List.forall_mem_cons.mpr ⟨ek_0 (by decide +kernel) rfl rfl, List.forall_mem_cons.mpr ⟨ek_1 (by decide +kernel) rfl, List.forall_mem_cons.mpr ⟨ek_0 (by decide +kernel) rfl rfl, List.forall_mem_cons.mpr ⟨ek_0 (by decide +kernel) rfl rfl, List.forall_mem_cons.mpr ⟨ek_2 (by decide +kernel) rfl rfl, List.forall_mem_cons.mpr ⟨ek_0 (by decide +kernel) rfl rfl, List.forall_mem_cons.mpr ⟨ek_0 (by decide +kernel) rfl rfl, List.forall_mem_cons.mpr ⟨ek_4 (by decide +kernel) rfl hc_6_112, List.forall_mem_cons.mpr ⟨ek_6 (by decide +kernel), List.forall_mem_cons.mpr ⟨ek_0 (by decide +kernel) rfl rfl, List.forall_mem_cons.mpr ⟨ek_3 (by decide +kernel) rfl hf_6_7, List.forall_mem_cons.mpr ⟨ek_0 (by decide +kernel) rfl rfl, List.forall_mem_cons.mpr ⟨ek_0 (by decide +kernel) rfl rfl, List.forall_mem_cons.mpr ⟨ek_3 (by decide +kernel) rfl trivial, List.forall_mem_cons.mpr ⟨ek_0 (by decide +kernel) rfl rfl, List.forall_mem_cons.mpr ⟨ek_3 (by decide +kernel) rfl hf_6_28, List.forall_mem_cons.mpr ⟨ek_0 (by decide +kernel) rfl rfl, List.forall_mem_cons.mpr ⟨ek_0 (by decide +kernel) rfl rfl, List.forall_mem_cons.mpr ⟨ek_3 (by decide +kernel) rfl trivial, List.forall_mem_cons.mpr ⟨ek_0 (by decide +kernel) rfl rfl, List.forall_mem_cons.mpr ⟨ek_3 (by decide +kernel) rfl hf_6_31, List.forall_mem_cons.mpr ⟨ek_0 (by decide +kernel) rfl rfl, List.forall_mem_cons.mpr ⟨ek_0 (by decide +kernel) rfl rfl, List.forall_mem_cons.mpr ⟨ek_3 (by decide +kernel) rfl trivial, List.forall_mem_cons.mpr ⟨ek_0 (by decide +kernel) rfl rfl, List.forall_mem_cons.mpr ⟨ek_3 (by decide +kernel) rfl hf_6_34, List.forall_mem_cons.mpr ⟨ek_0 (by decide +kernel) rfl rfl, List.forall_mem_cons.mpr ⟨ek_0 (by decide +kernel) rfl rfl, List.forall_mem_cons.mpr ⟨ek_0 (by decide +kernel) rfl rfl, List.forall_mem_cons.mpr ⟨ek_2 (by decide +kernel) rfl rfl, List.forall_mem_cons.mpr ⟨ek_0 (by decide +kernel) rfl rfl, List.forall_mem_cons.mpr ⟨ek_2 (by decide +kernel) rfl rfl, List.forall_mem_cons.mpr ⟨ek_0 (by decide +kernel) rfl rfl, fun _ h => absurd h List.not_mem_nil⟩⟩⟩⟩⟩⟩⟩⟩⟩⟩⟩⟩⟩⟩⟩⟩⟩⟩⟩⟩⟩⟩⟩⟩⟩⟩⟩⟩⟩⟩⟩⟩⟩⟩⟩⟩⟩⟩⟩⟩⟩⟩⟩⟩⟩⟩⟩⟩⟩⟩
theorem ek_114_2 : ∀ x ∈ C_114_2, ai_EK ai_mt M_114 x := List.forall_mem_cons.mpr ⟨ek_0 (by decide +kernel) rfl rfl, List.forall_mem_cons.mpr ⟨ek_2 (by decide +kernel) rfl rfl, List.forall_mem_cons.mpr ⟨ek_0 (by decide +kernel) rfl rfl, List.forall_mem_cons.mpr ⟨ek_2 (by decide +kernel) rfl rfl, List.forall_mem_cons.mpr ⟨ek_0 (by decide +kernel) rfl rfl, List.forall_mem_cons.mpr ⟨ek_3 (by decide +kernel) rfl trivial, List.forall_mem_cons.mpr ⟨ek_0 (by decide +kernel) rfl rfl, List.forall_mem_cons.mpr ⟨ek_6 (by decide +kernel), fun _ h => absurd h List.not_mem_nil⟩⟩⟩⟩⟩⟩⟩⟩
theorem ea_114 : ∀ x ∈ ai_cd M_114, ai_EK ai_mt M_114 x := List.forall_mem_append.mpr ⟨ek_114_0, List.forall_mem_append.mpr ⟨ek_114_1, ek_114_2⟩⟩
theorem nk_114 : ai_NK ai_mt M_114 := ⟨ww_t 1178 (by decide +kernel), ww_t 7 (by decide +kernel), by decide +kernel, ⟨by decide +kernel, by decide +kernel⟩, rfl, by decide, (fun h => by cases h), ea_114⟩
theorem ek_115_0 : ∀ x ∈ C_115_0, ai_EK ai_mt M_115 x := List.forall_mem_cons.mpr ⟨ek_0 (by decide +kernel) rfl rfl, List.forall_mem_cons.mpr ⟨ek_0 (by decide +kernel) rfl rfl, List.forall_mem_cons.mpr ⟨ek_0 (by decide +kernel) rfl rfl, List.forall_mem_cons.mpr ⟨ek_4 (by decide +kernel) rfl hc_6_297, List.forall_mem_cons.mpr ⟨ek_2 (by decide +kernel) rfl rfl, List.forall_mem_cons.mpr ⟨ek_0 (by decide +kernel) rfl rfl, List.forall_mem_cons.mpr ⟨ek_0 (by decide +kernel) rfl rfl, List.forall_mem_cons.mpr ⟨ek_4 (by decide +kernel) rfl hc_6_112, List.forall_mem_cons.mpr ⟨ek_6 (by decide +kernel), fun _ h => absurd h List.not_mem_nil⟩⟩⟩⟩⟩⟩⟩⟩⟩
theorem ea_115 : ∀ x ∈ ai_cd M_115, ai_EK ai_mt M_115 x := ek_115_0
theorem nk_115 : ai_NK ai_mt M_115 := ⟨ww_t 1529 (by decide +kernel), ww_t 7 (by decide +kernel), by decide +kernel, ⟨by decide +kernel, by decide +kernel⟩, rfl, by decide, (fun h => by cases h), ea_115⟩
theorem ek_116_0 : ∀ x ∈ C_116_0, ai_EK ai_mt M_116 x := List.forall_mem_cons.mpr ⟨ek_0 (by decide +kernel) rfl rfl, List.forall_mem_cons.mpr ⟨ek_0 (by decide +kernel) rfl rfl, List.forall_mem_cons.mpr ⟨ek_4 (by decide +kernel) rfl hc_6_102, List.forall_mem_cons.mpr ⟨ek_2 (by decide +kernel) rfl rfl, List.forall_mem_cons.mpr ⟨ek_0 (by decide +kernel) rfl rfl, List.forall_mem_cons.mpr ⟨ek_0 (by decide +kernel) rfl rfl, List.forall_mem_cons.mpr ⟨ek_4 (by decide +kernel) rfl hc_6_112, List.forall_mem_cons.mpr ⟨ek_6 (by decide +kernel), fun _ h => absurd h List.not_mem_nil⟩⟩⟩⟩⟩⟩⟩⟩
theorem ea_116 : ∀ x ∈ ai_cd M_116, ai_EK ai_mt M_116 x := ek_116_0
theorem nk_116 : ai_NK ai_mt M_116 := ⟨ww_t 1196 (by decide +kernel), ww_t 7 (by decide +kernel), by decide +kernel, ⟨by decide +kernel, by decide +kernel⟩, rfl, by decide, (fun h => by cases h), ea_116⟩
theorem ek_117_0 : ∀ x ∈ C_117_0, ai_EK ai_mt M_117 x := List.forall_mem_cons.mpr ⟨ek_0 (by decide +kernel) rfl rfl, List.forall_mem_cons.mpr ⟨ek_0 (by decide +kernel) rfl rfl, List.forall_mem_cons.mpr ⟨ek_4 (by decide +kernel) rfl hc_6_102, List.forall_mem_cons.mpr ⟨ek_2 (by decide +kernel) rfl rfl, List.forall_mem_cons.mpr ⟨ek_0 (by decide +kernel) rfl rfl, List.forall_mem_cons.mpr ⟨ek_0 (by decide +kernel) rfl rfl, List.forall_mem_cons.mpr ⟨ek_4 (by decide +kernel) rfl hc_6_112, List.forall_mem_cons.mpr ⟨ek_6 (by decide +kernel), fun _ h => absurd h List.not_mem_nil⟩⟩⟩⟩⟩⟩⟩⟩
theorem ea_117 : ∀ x ∈ ai_cd M_117, ai_EK ai_mt M_117 x := ek_117_0
theorem nk_117 : ai_NK ai_mt M_117 := ⟨ww_t 1430 (by decide +kernel), ww_t 7 (by decide +kernel), by decide +kernel, ⟨by decide +kernel, by decide +kernel⟩, rfl, by decide, (fun h => by cases h), ea_117⟩
theorem ek_118_0 : ∀ x ∈ C_118_0, ai_EK ai_mt M_118 x := List.forall_mem_cons.mpr ⟨ek_0 (by decide +kernel) rfl rfl, List.forall_mem_cons.mpr ⟨ek_0 (by decide +kernel) rfl rfl, List.forall_mem_cons.mpr ⟨ek_0 (by decide +kernel) rfl rfl, List.forall_mem_cons.mpr ⟨ek_4 (by decide +kernel) rfl hc_6_297, List.forall_mem_cons.mpr ⟨ek_2 (by decide +kernel) rfl rfl, List.forall_mem_cons.mpr ⟨ek_0 (by decide +kernel) rfl rfl, List.forall_mem_cons.mpr ⟨ek_0 (by decide +kernel) rfl rfl, List.forall_mem_cons.mpr ⟨ek_4 (by decide +kernel) rfl hc_6_112, List.forall_mem_cons.mpr ⟨ek_6 (by decide +kernel), fun _ h => absurd h List.not_mem_nil⟩⟩⟩⟩⟩⟩⟩⟩⟩
theorem ea_118 : ∀ x ∈ ai_cd M_118, ai_EK ai_mt M_118 x := ek_118_0
theorem nk_118 : ai_NK ai_mt M_118 := ⟨ww_t 1414 (by decide +kernel), ww_t 7 (by decide +kernel), by decide +kernel, ⟨by decide +kernel, by decide +kernel⟩, rfl, by decide, (fun h => by cases h), ea_118⟩
theorem ek_119_0 : ∀ x ∈ C_119_0, ai_EK ai_mt M_119 x := List.forall_mem_cons.mpr ⟨ek_0 (by decide +kernel) rfl rfl, List.forall_mem_cons.mpr ⟨ek_0 (by decide +kernel) rfl rfl, List.forall_mem_cons.mpr ⟨ek_0 (by decide +kernel) rfl rfl, List.forall_mem_cons.mpr ⟨ek_0 (by decide +kernel) rfl rfl, List.forall_mem_cons.mpr ⟨ek_3 (by decide +kernel) rfl trivial, List.forall_mem_cons.mpr ⟨ek_2 (by decide +kernel) rfl rfl, List.forall_mem_cons.mpr ⟨ek_0 (by decide +kernel) rfl rfl, List.forall_mem_cons.mpr ⟨ek_0 (by decide +kernel) rfl rfl, List.forall_mem_cons.mpr ⟨ek_0 (by decide +kernel) rfl rfl, List.forall_mem_cons.mpr ⟨ek_0 (by decide +kernel) rfl rfl, List.forall_mem_cons.mpr ⟨ek_3 (by decide +kernel) rfl trivial, List.forall_mem_cons.mpr ⟨ek_3 (by decide +kernel) rfl trivial, List.forall_mem_cons.mpr ⟨ek_0 (by decide +kernel) rfl rfl, List.forall_mem_cons.mpr ⟨ek_2 (by decide +kernel) rfl rfl, List.forall_mem_cons.mpr ⟨ek_6 (by decide +kernel), fun _ h => absurd h List.not_mem_nil⟩⟩⟩⟩⟩⟩⟩⟩⟩⟩⟩⟩⟩⟩⟩
theorem ea_119 : ∀ x ∈ ai_cd M_119, ai_EK ai_mt M_119 x := ek_119_0
theorem nk_119 : ai_NK ai_mt M_119 := ⟨ww_t 1560 (by decide +kernel), ww_t 7 (by decide +kernel), by decide +kernel, ⟨by decide +kernel, by decide +kernel⟩, rfl, by decide, (fun h => by cases h), ea_119⟩
theorem ek_120_0 : ∀ x ∈ C_120_0, ai_EK ai_mt M_120 x := List.forall_mem_cons.mpr ⟨ek_0 (by decide +kernel) rfl rfl, List.forall_mem_cons.mpr ⟨ek_0 (by decide +kernel) rfl rfl, List.forall_mem_cons.mpr ⟨ek_4 (by decide +kernel) rfl hc_6_102, List.forall_mem_cons.mpr ⟨ek_2 (by decide +kernel) rfl rfl, List.forall_mem_cons.mpr ⟨ek_0 (by decide +kernel) rfl rfl, List.forall_mem_cons.mpr ⟨ek_0 (by decide +kernel) rfl rfl, List.forall_mem_cons.mpr ⟨ek_4 (by decide +kernel) rfl hc_6_112, List.forall_mem_cons.mpr ⟨ek_6 (by decide +kernel), fun _ h => absurd h List.not_mem_nil⟩⟩⟩⟩⟩⟩⟩⟩
theorem ea_120 : ∀ x ∈ ai_cd M_120, ai_EK ai_mt M_120 x := ek_120_0
theorem nk_120 : ai_NK ai_mt M_120 := ⟨ww_t 1537 (by decide +kernel), ww_t 7 (by decide +kernel), by decide +kernel, ⟨by decide +kernel, by decide +kernel⟩, rfl, by decide, (fun h => by cases h), ea_120⟩
theorem ek_121_0 : ∀ x ∈ C_121_0, ai_EK ai_mt M_121 x := List.forall_mem_cons.mpr ⟨ek_0 (by decide +kernel) rfl rfl, List.forall_mem_cons.mpr ⟨ek_0 (by decide +kernel) rfl rfl, List.forall_mem_cons.mpr ⟨ek_0 (by decide +kernel) rfl rfl, List.forall_mem_cons.mpr ⟨ek_4 (by decide +kernel) rfl hc_6_288, List.forall_mem_cons.mpr ⟨ek_2 (by decide +kernel) rfl rfl, List.forall_mem_cons.mpr ⟨ek_0 (by decide +kernel) rfl rfl, List.forall_mem_cons.mpr ⟨ek_0 (by decide +kernel) rfl rfl, List.forall_mem_cons.mpr ⟨ek_4 (by decide +kernel) rfl hc_6_112, List.forall_mem_cons.mpr ⟨ek_6 (by decide +kernel), fun _ h => absurd h List.not_mem_nil⟩⟩⟩⟩⟩⟩⟩⟩⟩
theorem ea_121 : ∀ x ∈ ai_cd M_121, ai_EK ai_mt M_121 x := ek_121_0
theorem nk_121 : ai_NK ai_mt M_121 := ⟨ww_t 1390 (by decide +kernel), ww_t 7 (by decide +kernel), by decide +kernel, ⟨by decide +kernel, by decide +kernel⟩, rfl, by decide, (fun h => by cases h), ea_121⟩
theorem ek_122_0 : ∀ x ∈ C_122_0, ai_EK ai_mt M_122 x := List.forall_mem_cons.mpr ⟨ek_0 (by decide +kernel) rfl rfl, List.forall_mem_cons.mpr ⟨ek_0 (by decide +kernel) rfl rfl, List.forall_mem_cons.mpr ⟨ek_0 (by decide +kernel) rfl rfl, List.forall_mem_cons.mpr ⟨ek_4 (by decide +kernel) rfl hc_6_288, List.forall_mem_cons.mpr ⟨ek_2 (by decide +kernel) rfl rfl, List.forall_mem_cons.mpr ⟨ek_0 (by decide +kernel) rfl rfl, List.forall_mem_cons.mpr ⟨ek_0 (by decide +kernel) rfl rfl, List.forall_mem_cons.mpr ⟨ek_4 (by decide +kernel) rfl hc_6_112, List.forall_mem_cons.mpr ⟨ek_6 (by decide +kernel), fun _ h => absurd h List.not_mem_nil⟩⟩⟩⟩⟩⟩⟩⟩⟩
theorem ea_122 : ∀ x ∈ ai_cd M_122, ai_EK ai_mt M_122 x := ek_122_0
theorem nk_122 : ai_NK ai_mt M_122 := ⟨ww_t 1382 (by decide +kernel), ww_t 7 (by decide +kernel), by decide +kernel, ⟨by decide +kernel, by decide +kernel⟩, rfl, by decide, (fun h => by cases h), ea_122⟩
theorem ek_123_0 : ∀ x ∈ C_123_0, ai_EK ai_mt M_123 x := List.forall_mem_cons.mpr ⟨ek_0 (by decide +kernel) rfl rfl, List.forall_mem_cons.mpr ⟨ek_0 (by decide +kernel) rfl rfl, List.forall_mem_cons.mpr ⟨ek_0 (by decide +kernel) rfl rfl, List.forall_mem_cons.mpr ⟨ek_0 (by decide +kernel) rfl rfl, List.forall_mem_cons.mpr ⟨ek_2 (by decide +kernel) rfl rfl, List.forall_mem_cons.mpr ⟨ek_0 (by decide +kernel) rfl rfl, List.forall_mem_cons.mpr ⟨ek_3 (by decide +kernel) rfl hf_6_45, List.forall_mem_cons.mpr ⟨ek_0 (by decide +kernel) rfl rfl, List.forall_mem_cons.mpr ⟨ek_3 (by decide +kernel) rfl trivial, List.forall_mem_cons.mpr ⟨ek_0 (by decide +kernel) rfl rfl, List.forall_mem_cons.mpr ⟨ek_0 (by decide +kernel) rfl rfl, List.forall_mem_cons.mpr ⟨ek_3 (by decide +kernel) rfl trivial, List.forall_mem_cons.mpr ⟨ek_0 (by decide +kernel) rfl rfl, List.forall_mem_cons.mpr ⟨ek_2 (by decide +kernel) rfl rfl, List.forall_mem_cons.mpr ⟨ek_0 (by decide +kernel) rfl rfl, List.forall_mem_cons.mpr ⟨ek_3 (by decide +kernel) rfl hf_6_45, List.forall_mem_cons.mpr ⟨ek_0 (by decide +kernel) rfl rfl, List.forall_mem_cons.mpr ⟨ek_3 (by decide +kernel) rfl trivial, List.forall_mem_cons.mpr ⟨ek_0 (by decide +kernel) rfl rfl, List.forall_mem_cons.mpr ⟨ek_0 (by decide +kernel) rfl rfl, List.forall_mem_cons.mpr ⟨ek_3 (by decide +kernel) rfl trivial, List.forall_mem_cons.mpr ⟨ek_0 (by decide +kernel) rfl rfl, List.forall_mem_cons.mpr ⟨ek_0 (by decide +kernel) rfl rfl, List.forall_mem_cons.mpr ⟨ek_0 (by decide +kernel) rfl rfl, List.forall_mem_cons.mpr ⟨ek_0 (by decide +kernel) rfl rfl, List.forall_mem_cons.mpr ⟨ek_2 (by decide +kernel) rfl rfl, List.forall_mem_cons.mpr ⟨ek_0 (by decide +kernel) rfl rfl, List.forall_mem_cons.mpr ⟨ek_3 (by decide +kernel) rfl hf_6_57, List.forall_mem_cons.mpr ⟨ek_0 (by decide +kernel) rfl rfl, List.forall_mem_cons.mpr ⟨ek_3 (by decide +kernel) rfl trivial, List.forall_mem_cons.mpr ⟨ek_0 (by decide +kernel) rfl rfl, List.forall_mem_cons.mpr ⟨ek_0 (by decide +kernel) rfl rfl, List.forall_mem_cons.mpr ⟨ek_3 (by decide +kernel) rfl trivial, List.forall_mem_cons.mpr ⟨ek_0 (by decide +kernel) rfl rfl, List.forall_mem_cons.mpr ⟨ek_2 (by decide +kernel) rfl rfl, List.forall_mem_cons.mpr ⟨ek_0 (by decide +kernel) rfl rfl, List.forall_mem_cons.mpr ⟨ek_0 (by decide +kernel) rfl rfl, List.forall_mem_cons.mpr ⟨ek_3 (by decide +kernel) rfl hf_6_196, List.forall_mem_cons.mpr ⟨ek_0 (by decide +kernel) rfl rfl, List.forall_mem_cons.mpr ⟨ek_4 (by decide +kernel) rfl hc_6_242, List.forall_mem_cons.mpr ⟨ek_0 (by decide +kernel) rfl rfl, List.forall_mem_cons.mpr ⟨ek_0 (by decide +kernel) rfl rfl, List.forall_mem_cons.mpr ⟨ek_4 (by decide +kernel) rfl hc_6_278, List.forall_mem_cons.mpr ⟨ek_2 (by decide +kernel) rfl rfl, List.forall_mem_cons.mpr ⟨ek_0 (by decide +kernel) rfl rfl, List.forall_mem_cons.mpr ⟨ek_6 (by decide +kernel), fun _ h => absurd h List.not_mem_nil⟩⟩⟩⟩⟩⟩⟩⟩⟩⟩⟩⟩⟩⟩⟩⟩⟩⟩⟩⟩⟩⟩⟩⟩⟩⟩⟩⟩⟩⟩⟩⟩⟩⟩⟩⟩⟩⟩⟩⟩⟩⟩⟩⟩⟩⟩
theorem ea_123 : ∀ x ∈ ai_cd M_123, ai_EK ai_mt M_123 x := ek_123_0
theorem nk_123 : ai_NK ai_mt M_123 := ⟨ww_t 1281 (by decide +kernel), ww_t 7 (by decide +kernel), by decide +kernel, ⟨by decide +kernel, by decide +kernel⟩, rfl, by decide, (fun h => by cases h), ea_123⟩
theorem ek_124_0 : ∀ x ∈ C_124_0, ai_EK ai_mt M_124 x := List.forall_mem_cons.mpr ⟨ek_0 (by decide +kernel) rfl rfl, List.forall_mem_cons.mpr ⟨ek_3 (by decide +kernel) rfl hf_6_40, List.forall_mem_cons.mpr ⟨ek_0 (by decide +kernel) rfl rfl, List.forall_mem_cons.mpr ⟨ek_1 (by decide +kernel) rfl, List.forall_mem_cons.mpr ⟨ek_0 (by decide +kernel) rfl rfl, List.forall_mem_cons.mpr ⟨ek_3 (by decide +kernel) rfl trivial, List.forall_mem_cons.mpr ⟨ek_0 (by decide +kernel) rfl rfl, List.forall_mem_cons.mpr ⟨ek_1 (by decide +kernel) rfl, List.forall_mem_cons.mpr ⟨ek_3 (by decide +kernel) rfl trivial, List.forall_mem_cons.mpr ⟨ek_0 (by decide +kernel) rfl rfl, List.forall_mem_cons.mpr ⟨ek_6 (by decide +kernel), fun _ h => absurd h List.not_mem_nil⟩⟩⟩⟩⟩⟩⟩⟩⟩⟩⟩
theorem ea_124 : ∀ x ∈ ai_cd M_124, ai_EK ai_mt M_124 x := ek_124_0
theorem nk_124 : ai_NK ai_mt M_124 := ⟨ww_t 1155 (by decide +kernel), ww_t 7 (by decide +kernel), by decide +kernel, ⟨by decide +kernel, by decide +kernel⟩, rfl, by decide, (fun h => by cases h), ea_124⟩
theorem ek_125_0 : ∀ x ∈ C_125_0, ai_EK ai_mt M_125 x := List.forall_mem_cons.mpr ⟨ek_0 (by decide +kernel) rfl rfl, List.forall_mem_cons.mpr ⟨ek_0 (by decide +kernel) rfl rfl, List.forall_mem_cons.mpr ⟨ek_0 (by decide +kernel) rfl rfl, List.forall_mem_cons.mpr ⟨ek_4 (by decide +kernel) rfl hc_6_297, List.forall_mem_cons.mpr ⟨ek_2 (by decide +kernel) rfl rfl, List.forall_mem_cons.mpr ⟨ek_0 (by decide +kernel) rfl rfl, List.forall_mem_cons.mpr ⟨ek_0 (by decide +kernel) rfl rfl, List.forall_mem_cons.mpr ⟨ek_4 (by decide +kernel) rfl hc_6_112, List.forall_mem_cons.mpr ⟨ek_6 (by decide +kernel), fun _ h => absurd h List.not_mem_nil⟩⟩⟩⟩⟩⟩⟩⟩⟩
theorem ea_125 : ∀ x ∈ ai_cd M_125, ai_EK ai_mt M_125 x := ek_125_0
theorem nk_125 : ai_NK ai_mt M_125 := ⟨ww_t 1452 (by decide +kernel), ww_t 7 (by decide +kernel), by decide +kernel, ⟨by decide +kernel, by decide +kernel⟩, rfl, by decide, (fun h => by cases h), ea_125⟩
theorem ek_126_0 : ∀ x ∈ C_126_0, ai_EK ai_mt M_126 x := List.forall_mem_cons.mpr ⟨ek_0 (by decide +kernel) rfl rfl, List.forall_mem_cons.mpr ⟨ek_1 (by decide +kernel) rfl, List.forall_mem_cons.mpr ⟨ek_0 (by decide +kernel) rfl rfl, List.forall_mem_cons.mpr ⟨ek_0l (by decide +kernel) hl_6_106, List.forall_mem_cons.mpr ⟨ek_4 (by decide +kernel) rfl hc_6_98, List.forall_mem_cons.mpr ⟨ek_2 (by decide +kernel) rfl rfl, List.forall_mem_cons.mpr ⟨ek_0 (by decide +kernel) rfl rfl, List.forall_mem_cons.mpr ⟨ek_1 (by decide +kernel) rfl, List.forall_mem_cons.mpr ⟨ek_0 (by decide +kernel) rfl rfl, List.forall_mem_cons.mpr ⟨ek_0l (by decide +kernel) hl_6_108, List.forall_mem_cons.mpr ⟨ek_4 (by decide +kernel) rfl hc_6_98, List.forall_mem_cons.mpr ⟨ek_2 (by decide +kernel) rfl rfl, List.forall_mem_cons.mpr ⟨ek_0 (by decide +kernel) rfl rfl, List.forall_mem_cons.mpr ⟨ek_1 (by decide +kernel) rfl, List.forall_mem_cons.mpr ⟨ek_0 (by decide +kernel) rfl rfl, List.forall_mem_cons.mpr ⟨ek_0l (by decide +kernel) hl_6_110, List.forall_mem_cons.mpr ⟨ek_4 (by decide +kernel) rfl hc_6_98, List.forall_mem_cons.mpr ⟨ek_2 (by decide +kernel) rfl rfl, List.forall_mem_cons.mpr ⟨ek_0 (by decide +kernel) rfl rfl, List.forall_mem_cons.mpr ⟨ek_0 (by decide +kernel) rfl rfl, List.forall_mem_cons.mpr ⟨ek_4 (by decide +kernel) rfl hc_6_112, List.forall_mem_cons.mpr ⟨ek_6 (by decide +kernel), List.forall_mem_cons.mpr ⟨ek_0 (by decide +kernel) rfl rfl, List.forall_mem_cons.mpr ⟨ek_3 (by decide +kernel) rfl hf_6_7, List.forall_mem_cons.mpr ⟨ek_0 (by decide +kernel) rfl rfl, List.forall_mem_cons.mpr ⟨ek_0 (by decide +kernel) rfl rfl, List.forall_mem_cons.mpr ⟨ek_3 (by decide +kernel) rfl trivial, List.forall_mem_cons.mpr ⟨ek_0 (by decide +kernel) rfl rfl, List.forall_mem_cons.mpr ⟨ek_3 (by decide +kernel) rfl hf_6_13, List.forall_mem_cons.mpr ⟨ek_0 (by decide +kernel) rfl rfl, List.forall_mem_cons.mpr ⟨ek_0 (by decide +kernel) rfl rfl, List.forall_mem_cons.mpr ⟨ek_3 (by decide +kernel) rfl trivial, List.forall_mem_cons.mpr ⟨ek_0 (by decide +kernel) rfl rfl, List.forall_mem_cons.mpr ⟨ek_3 (by decide +kernel) rfl hf_6_16, List.forall_mem_cons.mpr ⟨ek_0 (by decide +kernel) rfl rfl, List.forall_mem_cons.mpr ⟨ek_0 (by decide +kernel) rfl rfl, List.forall_mem_cons.mpr ⟨ek_3 (by decide +kernel) rfl trivial, List.forall_mem_cons.mpr ⟨ek_0 (by decide +kernel) rfl rfl, List.forall_mem_cons.mpr ⟨ek_0 (by decide +kernel) rfl rfl, List.forall_mem_cons.mpr ⟨ek_0 (by decide +kernel) rfl rfl, List.forall_mem_cons.mpr ⟨ek_0 (by decide +kernel) rfl rfl, List.forall_mem_cons.mpr ⟨ek_2 (by decide +kernel) rfl rfl, List.forall_mem_cons.mpr ⟨ek_0 (by decide +kernel) rfl rfl, List.forall_mem_cons.mpr ⟨ek_3 (by decide +kernel) rfl hf_6_21, List.forall_mem_cons.mpr ⟨ek_0 (by decide +kernel) rfl rfl, List.forall_mem_cons.mpr ⟨ek_3 (by decide +kernel) rfl trivial, List.forall_mem_cons.mpr ⟨ek_0 (by decide +kernel) rfl rfl, List.forall_mem_cons.mpr ⟨ek_0 (by decide +kernel) rfl rfl, List.forall_mem_cons.mpr ⟨ek_3 (by decide +kernel) rfl trivial, List.forall_mem_cons.mpr ⟨ek_0 (by decide +kernel) rfl rfl, fun _ h => absurd h List.not_mem_nil⟩⟩⟩⟩⟩⟩⟩⟩⟩⟩⟩⟩⟩⟩⟩⟩⟩⟩⟩⟩⟩⟩⟩⟩⟩⟩⟩⟩⟩⟩⟩⟩⟩⟩⟩⟩⟩⟩⟩⟩⟩⟩⟩⟩⟩⟩⟩⟩⟩⟩
theorem ek_126_1 : ∀ x ∈ C_126_1, ai_EK ai_mt M_126 x := List.forall_mem_cons.mpr ⟨ek_2 (by decide +kernel) rfl rfl, List.forall_mem_cons.mpr ⟨ek_0 (by decide +kernel) rfl rfl, List.forall_mem_cons.mpr ⟨ek_6 (by decide +kernel), fun _ h => absurd h List.not_mem_nil⟩⟩⟩
theorem ea_126 : ∀ x ∈ ai_cd M_126, ai_EK ai_mt M_126 x := List.forall_mem_append.mpr ⟨ek_126_0, ek_126_1⟩
theorem nk_126 : ai_NK ai_mt M_126 := ⟨ww_t 1145 (by decide +kernel), ww_t 7 (by decide +kernel), by decide +kernel, ⟨by decide +kernel, by decide +kernel⟩, rfl, by decide, (fun h => by cases h), ea_126⟩
theorem ek_127_0 : ∀ x ∈ C_127_0, ai_EK ai_mt M_127 x := List.forall_mem_cons.mpr ⟨ek_0 (by decide +kernel) rfl rfl, List.forall_mem_cons.mpr ⟨ek_1 (by decide +kernel) rfl, List.forall_mem_cons.mpr ⟨ek_0 (by decide +kernel) rfl rfl, List.forall_mem_cons.mpr ⟨ek_0l (by decide +kernel) hl_6_106, List.forall_mem_cons.mpr ⟨ek_4 (by decide +kernel) rfl hc_6_98, List.forall_mem_cons.mpr ⟨ek_2 (by decide +kernel) rfl rfl, List.forall_mem_cons.mpr ⟨ek_0 (by decide +kernel) rfl rfl, List.forall_mem_cons.mpr ⟨ek_1 (by decide +kernel) rfl, List.forall_mem_cons.mpr ⟨ek_0 (by decide +kernel) rfl rfl, List.forall_mem_cons.mpr ⟨ek_0l (by decide +kernel) hl_6_120, List.forall_mem_cons.mpr ⟨ek_4 (by decide +kernel) rfl hc_6_98, List.forall_mem_cons.mpr ⟨ek_2 (by decide +kernel) rfl rfl, List.forall_mem_cons.mpr ⟨ek_0 (by decide +kernel) rfl rfl, List.forall_mem_cons.mpr ⟨ek_0 (by decide +kernel) rfl rfl, List.forall_mem_cons.mpr ⟨ek_4 (by decide +kernel) rfl hc_6_112, List.forall_mem_cons.mpr ⟨ek_6 (by decide +kernel), List.forall_mem_cons.mpr ⟨ek_0 (by decide +kernel) rfl rfl, List.forall_mem_cons.mpr ⟨ek_3 (by decide +kernel) rfl hf_6_7, List.forall_mem_cons.mpr ⟨ek_0 (by decide +kernel) rfl rfl, List.forall_mem_cons.mpr ⟨ek_3 (by decide +kernel) rfl trivial, List.forall_mem_cons.mpr ⟨ek_0 (by decide +kernel) rfl rfl, List.forall_mem_cons.mpr ⟨ek_2 (by decide +kernel) rfl rfl, List.forall_mem_cons.mpr ⟨ek_0 (by decide +kernel) rfl rfl, List.forall_mem_cons.mpr ⟨ek_3 (by decide +kernel) rfl hf_6_7, List.forall_mem_cons.mpr ⟨ek_0 (by decide +kernel) rfl rfl, List.forall_mem_cons.mpr ⟨ek_3 (by decide +kernel) rfl trivial, List.forall_mem_cons.mpr ⟨ek_0 (by decide +kernel) rfl rfl, List.forall_mem_cons.mpr ⟨ek_2 (by decide +kernel) rfl rfl, List.forall_mem_cons.mpr ⟨ek_0 (by decide +kernel) rfl rfl, List.forall_mem_cons.mpr ⟨ek_3 (by decide +kernel) rfl hf_6_7, List.forall_mem_cons.mpr ⟨ek_0 (by decide +kernel) rfl rfl, List.forall_mem_cons.mpr ⟨ek_3 (by decide +kernel) rfl trivial, List.forall_mem_cons.mpr ⟨ek_2 (by decide +kernel) rfl rfl, List.forall_mem_cons.mpr ⟨ek_0 (by decide +kernel) rfl rfl, List.forall_mem_cons.mpr ⟨ek_0 (by decide +kernel) rfl rfl, List.forall_mem_cons.mpr ⟨ek_4 (by decide +kernel) rfl hc_6_112, List.forall_mem_cons.mpr ⟨ek_6 (by decide +kernel), fun _ h => absurd h List.not_mem_nil⟩⟩⟩⟩⟩⟩⟩⟩⟩⟩⟩⟩⟩⟩⟩⟩⟩⟩⟩⟩⟩⟩⟩⟩⟩⟩⟩⟩⟩⟩⟩⟩⟩⟩⟩⟩⟩
theorem ea_127 : ∀ x ∈ ai_cd M_127, ai_EK ai_mt M_127 x := ek_127_0
theorem nk_127 : ai_NK ai_mt M_127 := ⟨ww_t 1185 (by decide +kernel), ww_t 7 (by decide +kernel), by decide +kernel, ⟨by decide +kernel, by decide +kernel⟩, rfl, by decide, (fun h => by cases h), ea_127⟩
theorem ek_128_0 : ∀ x ∈ C_128_0, ai_EK ai_mt M_128 x := List.forall_mem_cons.mpr ⟨ek_0 (by decide +kernel) rfl rfl, List.forall_mem_cons.mpr ⟨ek_1 (by decide +kernel) rfl, List.forall_mem_cons.mpr ⟨ek_0 (by decide +kernel) rfl rfl, List.forall_mem_cons.mpr ⟨ek_0l (by decide +kernel) hl_6_120, List.forall_mem_cons.mpr ⟨ek_4 (by decide +kernel) rfl hc_6_98, List.forall_mem_cons.mpr ⟨ek_2 (by decide +kernel) rfl rfl, List.forall_mem_cons.mpr ⟨ek_0 (by decide +kernel) rfl rfl, List.forall_mem_cons.mpr ⟨ek_0 (by decide +kernel) rfl rfl, List.forall_mem_cons.mpr ⟨ek_4 (by decide +kernel) rfl hc_6_112, List.forall_mem_cons.mpr ⟨ek_6 (by decide +kernel), List.forall_mem_cons.mpr ⟨ek_0 (by decide +kernel) rfl rfl, List.forall_mem_cons.mpr ⟨ek_3 (by decide +kernel) rfl hf_6_72, List.forall_mem_cons.mpr ⟨ek_0 (by decide +kernel) rfl rfl, List.forall_mem_cons.mpr ⟨ek_2 (by decide +kernel) rfl rfl, List.forall_mem_cons.mpr ⟨ek_0 (by decide +kernel) rfl rfl, List.forall_mem_cons.mpr ⟨ek_0 (by decide +kernel) rfl rfl, List.forall_mem_cons.mpr ⟨ek_4 (by decide +kernel) rfl hc_6_112, List.forall_mem_cons.mpr ⟨ek_6 (by decide +kernel), fun _ h => absurd h List.not_mem_nil⟩⟩⟩⟩⟩⟩⟩⟩⟩⟩⟩⟩⟩⟩⟩⟩⟩⟩
theorem ea_128 : ∀ x ∈ ai_cd M_128, ai_EK ai_mt M_128 x := ek_128_0
theorem nk_128 : ai_NK ai_mt M_128 := ⟨ww_t 1568 (by decide +kernel), ww_t 7 (by decide +kernel), by decide +kernel, ⟨by decide +kernel, by decide +kernel⟩, rfl, by decide, (fun h => by cases h), ea_128⟩
theorem ek_129_0 : ∀ x ∈ C_129_0, ai_EK ai_mt M_129 x := List.forall_mem_cons.mpr ⟨ek_0 (by decide +kernel) rfl rfl, List.forall_mem_cons.mpr ⟨ek_1 (by decide +kernel) rfl, List.forall_mem_cons.mpr ⟨ek_0 (by decide +kernel) rfl rfl, List.forall_mem_cons.mpr ⟨ek_0l (by decide +kernel) hl_6_106, List.forall_mem_cons.mpr ⟨ek_4 (by decide +kernel) rfl hc_6_98, List.forall_mem_cons.mpr ⟨ek_2 (by decide +kernel) rfl rfl, List.forall_mem_cons.mpr ⟨ek_0 (by decide +kernel) rfl rfl, List.forall_mem_cons.mpr ⟨ek_0 (by decide +kernel) rfl rfl, List.forall_mem_cons.mpr ⟨ek_4 (by decide +kernel) rfl hc_6_112, List.forall_mem_cons.mpr ⟨ek_6 (by decide +kernel), List.forall_mem_cons.mpr ⟨ek_0 (by decide +kernel) rfl rfl, List.forall_mem_cons.mpr ⟨ek_3 (by decide +kernel) rfl hf_6_7, List.forall_mem_cons.mpr ⟨ek_0 (by decide +kernel) rfl rfl, List.forall_mem_cons.mpr ⟨ek_3 (by decide +kernel) rfl trivial, List.forall_mem_cons.mpr ⟨ek_0 (by decide +kernel) rfl rfl, List.forall_mem_cons.mpr ⟨ek_2 (by decide +kernel) rfl rfl, List.forall_mem_cons.mpr ⟨ek_0 (by decide +kernel) rfl rfl, List.forall_mem_cons.mpr ⟨ek_3 (by decide +kernel) rfl hf_6_7, List.forall_mem_cons.mpr ⟨ek_0 (by decide +kernel) rfl rfl, List.forall_mem_cons.mpr ⟨ek_3 (by decide +kernel) rfl trivial, List.forall_mem_cons.mpr ⟨ek_2 (by decide +kernel) rfl rfl, List.forall_mem_cons.mpr ⟨ek_0 (by decide +kernel) rfl rfl, List.forall_mem_cons.mpr ⟨ek_0 (by decide +kernel) rfl rfl, List.forall_mem_cons.mpr ⟨ek_4 (by decide +kernel) rfl hc_6_112, List.forall_mem_cons.mpr ⟨ek_6 (by decide +kernel), fun _ h => absurd h List.not_mem_nil⟩⟩⟩⟩⟩⟩⟩⟩⟩⟩⟩⟩⟩⟩⟩⟩⟩⟩⟩⟩⟩⟩⟩⟩⟩
theorem ea_129 : ∀ x ∈ ai_cd M_129, ai_EK ai_mt M_129 x := ek_129_0
theorem nk_129 : ai_NK ai_mt M_129 := ⟨ww_t 1159 (by decide +kernel), ww_t 7 (by decide +kernel), by decide +kernel, ⟨by decide +kernel, by decide +kernel⟩, rfl, by decide, (fun h => by cases h), ea_129⟩
theorem ek_130_0 : ∀ x ∈ C_130_0, ai_EK ai_mt M_130 x := List.forall_mem_cons.mpr ⟨ek_0 (by decide +kernel) rfl rfl, List.forall_mem_cons.mpr ⟨ek_0 (by decide +kernel) rfl rfl, List.forall_mem_cons.mpr ⟨ek_0 (by decide +kernel) rfl rfl, List.forall_mem_cons.mpr ⟨ek_4 (by decide +kernel) rfl hc_6_297, List.forall_mem_cons.mpr ⟨ek_2 (by decide +kernel) rfl rfl, List.forall_mem_cons.mpr ⟨ek_0 (by decide +kernel) rfl rfl, List.forall_mem_cons.mpr ⟨ek_0 (by decide +kernel) rfl rfl, List.forall_mem_cons.mpr ⟨ek_4 (by decide +kernel) rfl hc_6_112, List.forall_mem_cons.mpr ⟨ek_6 (by decide +kernel), fun _ h => absurd h List.not_mem_nil⟩⟩⟩⟩⟩⟩⟩⟩⟩
theorem ea_130 : ∀ x ∈ ai_cd M_130, ai_EK ai_mt M_130 x := ek_130_0
theorem nk_130 : ai_NK ai_mt M_130 := ⟨ww_t 1525 (by decide +kernel), ww_t 7 (by decide +kernel), by decide +kernel, ⟨by decide +kernel, by decide +kernel⟩, rfl, by decide, (fun h => by cases h), ea_130⟩
theorem ek_131_0 : ∀ x ∈ C_131_0, ai_EK ai_mt M_131 x := List.forall_mem_cons.mpr ⟨ek_0 (by decide +kernel) rfl rfl, List.forall_mem_cons.mpr ⟨ek_0 (by decide +kernel) rfl rfl, List.forall_mem_cons.mpr ⟨ek_0 (by decide +kernel) rfl rfl, List.forall_mem_cons.mpr ⟨ek_4 (by decide +kernel) rfl hc_6_297, List.forall_mem_cons.mpr ⟨ek_2 (by decide +kernel) rfl rfl, List.forall_mem_cons.mpr ⟨ek_0 (by decide +kernel) rfl rfl, List.forall_mem_cons.mpr ⟨ek_0 (by decide +kernel) rfl rfl, List.forall_mem_cons.mpr ⟨ek_4 (by decide +kernel) rfl hc_6_112, List.forall_mem_cons.mpr ⟨ek_6 (by decide +kernel), fun _ h => absurd h List.not_mem_nil⟩⟩⟩⟩⟩⟩⟩⟩⟩
theorem ea_131 : ∀ x ∈ ai_cd M_131, ai_EK ai_mt M_131 x := ek_131_0
theorem nk_131 : ai_NK ai_mt M_131 := ⟨ww_t 1422 (by decide +kernel), ww_t 7 (by decide +kernel), by decide +kernel, ⟨by decide +kernel, by decide +kernel⟩, rfl, by decide, (fun h => by cases h), ea_131⟩
theorem ek_132_0 : ∀ x ∈ C_132_0, ai_EK ai_mt M_132 x := List.forall_mem_cons.mpr ⟨ek_0 (by decide +kernel) rfl rfl, List.forall_mem_cons.mpr ⟨ek_0 (by decide +kernel) rfl rfl, List.forall_mem_cons.mpr ⟨ek_0 (by decide +kernel) rfl rfl, List.forall_mem_cons.mpr ⟨ek_4 (by decide +kernel) rfl hc_6_297, List.forall_mem_cons.mpr ⟨ek_2 (by decide +kernel) rfl rfl, List.forall_mem_cons.mpr ⟨ek_0 (by decide +kernel) rfl rfl, List.forall_mem_cons.mpr ⟨ek_0 (by decide +kernel) rfl rfl, List.forall_mem_cons.mpr ⟨ek_4 (by decide +kernel) rfl hc_6_112, List.forall_mem_cons.mpr ⟨ek_6 (by decide +kernel), fun _ h => absurd h List.not_mem_nil⟩⟩⟩⟩⟩⟩⟩⟩⟩
theorem ea_132 : ∀ x ∈ ai_cd M_132, ai_EK ai_mt M_132 x := ek_132_0
theorem nk_132 : ai_NK ai_mt M_132 := ⟨ww_t 1513 (by decide +kernel), ww_t 7 (by decide +kernel), by decide +kernel, ⟨by decide +kernel, by decide +kernel⟩, rfl, by decide, (fun h => by cases h), ea_132⟩
theorem ek_133_0 : ∀ x ∈ C_133_0, ai_EK ai_mt M_133 x := List.forall_mem_cons.mpr ⟨ek_0 (by decide +kernel) rfl rfl, List.forall_mem_cons.mpr ⟨ek_2t (by decide +kernel) (by decide +kernel), List.forall_mem_cons.mpr ⟨ek_0 (by decide +kernel) rfl rfl, List.forall_mem_cons.mpr ⟨ek_3 (by decide +kernel) rfl hf_6_95, List.forall_mem_cons.mpr ⟨ek_6 (by decide +kernel), List.forall_mem_cons.mpr ⟨ek_0 (by decide +kernel) rfl rfl, List.forall_mem_cons.mpr ⟨ek_3 (by decide +kernel) rfl hf_6_193, List.forall_mem_cons.mpr ⟨ek_6 (by decide +kernel), List.forall_mem_cons.mpr ⟨ek_0 (by decide +kernel) rfl rfl, List.forall_mem_cons.mpr ⟨ek_0 (by decide +kernel) rfl rfl, List.forall_mem_cons.mpr ⟨ek_0 (by decide +kernel) rfl rfl, List.forall_mem_cons.mpr ⟨ek_0 (by decide +kernel) rfl rfl, List.forall_mem_cons.mpr ⟨ek_0 (by decide +kernel) rfl rfl, List.forall_mem_cons.mpr ⟨ek_0 (by decide +kernel) rfl rfl, List.forall_mem_cons.mpr ⟨ek_2 (by decide +kernel) rfl rfl, List.forall_mem_cons.mpr ⟨ek_0 (by decide +kernel) rfl rfl, List.forall_mem_cons.mpr ⟨ek_0 (by decide +kernel) rfl rfl, List.forall_mem_cons.mpr ⟨ek_3 (by decide +kernel) rfl hf_6_7, List.forall_mem_cons.mpr ⟨ek_0 (by decide +kernel) rfl rfl, List.forall_mem_cons.mpr ⟨ek_3 (by decide +kernel) rfl trivial, List.forall_mem_cons.mpr ⟨ek_2 (by decide +kernel) rfl rfl, List.forall_mem_cons.mpr ⟨ek_0 (by decide +kernel) rfl rfl, List.forall_mem_cons.mpr ⟨ek_1 (by decide +kernel) rfl, List.forall_mem_cons.mpr ⟨ek_0 (by decide +kernel) rfl rfl, List.forall_mem_cons.mpr ⟨ek_0 (by decide +kernel) rfl rfl, List.forall_mem_cons.mpr ⟨ek_2 (by decide +kernel) rfl rfl, List.forall_mem_cons.mpr ⟨ek_0 (by decide +kernel) rfl rfl, List.forall_mem_cons.mpr ⟨ek_6 (by decide +kernel), List.forall_mem_cons.mpr ⟨ek_0 (by decide +kernel) rfl rfl, List.forall_mem_cons.mpr ⟨ek_1 (by decide +kernel) rfl, List.forall_mem_cons.mpr ⟨ek_0l (by decide +kernel) hl_6_410, List.forall_mem_cons.mpr ⟨ek_0l (by decide +kernel) hl_6_412, List.forall_mem_cons.mpr ⟨ek_4 (by decide +kernel) rfl hc_6_98, List.forall_mem_cons.mpr ⟨ek_2 (by decide +kernel) rfl rfl, List.forall_mem_cons.mpr ⟨ek_0 (by decide +kernel) rfl rfl, List.forall_mem_cons.mpr ⟨ek_3 (by decide +kernel) rfl hf_6_40, List.forall_mem_cons.mpr ⟨ek_0 (by decide +kernel) rfl rfl, List.forall_mem_cons.mpr ⟨ek_0 (by decide +kernel) rfl rfl, List.forall_mem_cons.mpr ⟨ek_1 (by decide +kernel) rfl, List.forall_mem_cons.mpr ⟨ek_3 (by decide +kernel) rfl trivial, List.forall_mem_cons.mpr ⟨ek_2 (by decide +kernel) rfl rfl, List.forall_mem_cons.mpr ⟨ek_0 (by decide +kernel) rfl rfl, List.forall_mem_cons.mpr ⟨ek_6 (by decide +kernel), fun _ h => absurd h List.not_mem_nil⟩⟩⟩⟩⟩⟩⟩⟩⟩⟩⟩⟩⟩⟩⟩⟩⟩⟩⟩⟩⟩⟩⟩⟩⟩⟩⟩⟩⟩⟩⟩⟩⟩⟩⟩⟩⟩⟩⟩⟩⟩⟩⟩
theorem ea_133 : ∀ x ∈ ai_cd M_133, ai_EK ai_mt M_133 x := ek_133_0
theorem nk_133 : ai_NK ai_mt M_133 := ⟨ww_t 1585 (by decide +kernel), ww_t 7 (by decide +kernel), by decide +kernel, ⟨by decide +kernel, by decide +kernel⟩, rfl, by decide, (fun h => by cases h), ea_133⟩
theorem ek_134_0 : ∀ x ∈ C_134_0, ai_EK ai_mt M_134 x := List.forall_mem_cons.mpr ⟨ek_0 (by decide +kernel) rfl rfl, List.forall_mem_cons.mpr ⟨ek_3 (by decide +kernel) rfl hf_6_72, List.forall_mem_cons.mpr ⟨ek_0 (by decide +kernel) rfl rfl, List.forall_mem_cons.mpr ⟨ek_2 (by decide +kernel) rfl rfl, List.forall_mem_cons.mpr ⟨ek_0 (by decide +kernel) rfl rfl, List.forall_mem_cons.mpr ⟨ek_0 (by decide +kernel) rfl rfl, List.forall_mem_cons.mpr ⟨ek_4 (by decide +kernel) rfl hc_6_112, List.forall_mem_cons.mpr ⟨ek_6 (by decide +kernel), fun _ h => absurd h List.not_mem_nil⟩⟩⟩⟩⟩⟩⟩⟩
theorem ea_134 : ∀ x ∈ ai_cd M_134, ai_EK ai_mt M_134 x := ek_134_0
theorem nk_134 : ai_NK ai_mt M_134 := ⟨ww_t 1564 (by decide +kernel), ww_t 7 (by decide +kernel), by decide +kernel, ⟨by decide +kernel, by decide +kernel⟩, rfl, by decide, (fun h => by cases h), ea_134⟩
theorem ek_135_0 : ∀ x ∈ C_135_0, ai_EK ai_mt M_135 x := List.forall_mem_cons.mpr ⟨ek_0 (by decide +kernel) rfl rfl, List.forall_mem_cons.mpr ⟨ek_0 (by decide +kernel) rfl rfl, List.forall_mem_cons.mpr ⟨ek_0 (by decide +kernel) rfl rfl, List.forall_mem_cons.mpr ⟨ek_4 (by decide +kernel) rfl hc_6_288, List.forall_mem_cons.mpr ⟨ek_2 (by decide +kernel) rfl rfl, List.forall_mem_cons.mpr ⟨ek_0 (by decide +kernel) rfl rfl, List.forall_mem_cons.mpr ⟨ek_0 (by decide +kernel) rfl rfl, List.forall_mem_cons.mpr ⟨ek_4 (by decide +kernel) rfl hc_6_112, List.forall_mem_cons.mpr ⟨ek_6 (by decide +kernel), fun _ h => absurd h List.not_mem_nil⟩⟩⟩⟩⟩⟩⟩⟩⟩
theorem ea_135 : ∀ x ∈ ai_cd M_135, ai_EK ai_mt M_135 x := ek_135_0
theorem nk_135 : ai_NK ai_mt M_135 := ⟨ww_t 1374 (by decide +kernel), ww_t 7 (by decide +kernel), by decide +kernel, ⟨by decide +kernel, by decide +kernel⟩, rfl, by decide, (fun h => by cases h), ea_135⟩
theorem ek_136_0 : ∀ x ∈ C_136_0, ai_EK ai_mt M_136 x := List.forall_mem_cons.mpr ⟨ek_0 (by decide +kernel) rfl rfl, List.forall_mem_cons.mpr ⟨ek_0 (by decide +kernel) rfl rfl, List.forall_mem_cons.mpr ⟨ek_0 (by decide +kernel) rfl rfl, List.forall_mem_cons.mpr ⟨ek_4 (by decide +kernel) rfl hc_6_297, List.forall_mem_cons.mpr ⟨ek_2 (by decide +kernel) rfl rfl, List.forall_mem_cons.mpr ⟨ek_0 (by decide +kernel) rfl rfl, List.forall_mem_cons.mpr ⟨ek_0 (by decide +kernel) rfl rfl, List.forall_mem_cons.mpr ⟨ek_4 (by decide +kernel) rfl hc_6_112, List.forall_mem_cons.mpr ⟨ek_6 (by decide +kernel), fun _ h => absurd h List.not_mem_nil⟩⟩⟩⟩⟩⟩⟩⟩⟩
theorem ea_136 : ∀ x ∈ ai_cd M_136, ai_EK ai_mt M_136 x := ek_136_0
theorem nk_136 : ai_NK ai_mt M_136 := ⟨ww_t 1410 (by decide +kernel), ww_t 7 (by decide +kernel), by decide +kernel, ⟨by decide +kernel, by decide +kernel⟩, rfl, by decide, (fun h => by cases h), ea_136⟩
theorem ek_137_0 : ∀ x ∈ C_137_0, ai_EK ai_mt M_137 x := List.forall_mem_cons.mpr ⟨ek_0 (by decide +kernel) rfl rfl, List.forall_mem_cons.mpr ⟨ek_3 (by decide +kernel) rfl hf_6_45, List.forall_mem_cons.mpr ⟨ek_0 (by decide +kernel) rfl rfl, List.forall_mem_cons.mpr ⟨ek_3 (by decide +kernel) rfl trivial, List.forall_mem_cons.mpr ⟨ek_0 (by decide +kernel) rfl rfl, List.forall_mem_cons.mpr ⟨ek_3 (by decide +kernel) rfl hf_6_45, List.forall_mem_cons.mpr ⟨ek_0 (by decide +kernel) rfl rfl, List.forall_mem_cons.mpr ⟨ek_3 (by decide +kernel) rfl trivial, List.forall_mem_cons.mpr ⟨ek_4 (by decide +kernel) rfl hc_6_392, List.forall_mem_cons.mpr ⟨ek_0 (by decide +kernel) rfl rfl, List.forall_mem_cons.mpr ⟨ek_3 (by decide +kernel) rfl hf_6_48, List.forall_mem_cons.mpr ⟨ek_0 (by decide +kernel) rfl rfl, List.forall_mem_cons.mpr ⟨ek_0 (by decide +kernel) rfl rfl, List.forall_mem_cons.mpr ⟨ek_3 (by decide +kernel) rfl hf_6_48, List.forall_mem_cons.mpr ⟨ek_0 (by decide +kernel) rfl rfl, List.forall_mem_cons.mpr ⟨ek_3 (by decide +kernel) rfl trivial, List.forall_mem_cons.mpr ⟨ek_3 (by decide +kernel) rfl trivial, List.forall_mem_cons.mpr ⟨ek_0 (by decide +kernel) rfl rfl, List.forall_mem_cons.mpr ⟨ek_3 (by decide +kernel) rfl hf_6_51, List.forall_mem_cons.mpr ⟨ek_0 (by decide +kernel) rfl rfl, List.forall_mem_cons.mpr ⟨ek_3 (by decide +kernel) rfl trivial, List.forall_mem_cons.mpr ⟨ek_0 (by decide +kernel) rfl rfl, List.forall_mem_cons.mpr ⟨ek_3 (by decide +kernel) rfl hf_6_51, List.forall_mem_cons.mpr ⟨ek_0 (by decide +kernel) rfl rfl, List.forall_mem_cons.mpr ⟨ek_3 (by decide +kernel) rfl trivial, List.forall_mem_cons.mpr ⟨ek_4 (by decide +kernel) rfl hc_6_392, List.forall_mem_cons.mpr ⟨ek_0 (by decide +kernel) rfl rfl, List.forall_mem_cons.mpr ⟨ek_3 (by decide +kernel) rfl hf_6_54, List.forall_mem_cons.mpr ⟨ek_0 (by decide +kernel) rfl rfl, List.forall_mem_cons.mpr ⟨ek_3 (by decide +kernel) rfl trivial, List.forall_mem_cons.mpr ⟨ek_0 (by decide +kernel) rfl rfl, List.forall_mem_cons.mpr ⟨ek_3 (by decide +kernel) rfl hf_6_54, List.forall_mem_cons.mpr ⟨ek_0 (by decide +kernel) rfl rfl, List.forall_mem_cons.mpr ⟨ek_3 (by decide +kernel) rfl trivial, List.forall_mem_cons.mpr ⟨ek_4 (by decide +kernel) rfl hc_6_392, List.forall_mem_cons.mpr ⟨ek_0 (by decide +kernel) rfl rfl, List.forall_mem_cons.mpr ⟨ek_3 (by decide +kernel) rfl hf_6_57, List.forall_mem_cons.mpr ⟨ek_0 (by decide +kernel) rfl rfl, List.forall_mem_cons.mpr ⟨ek_3 (by decide +kernel) rfl trivial, List.forall_mem_cons.mpr ⟨ek_0 (by decide +kernel) rfl rfl, List.forall_mem_cons.mpr ⟨ek_3 (by decide +kernel) rfl hf_6_57, List.forall_mem_cons.mpr ⟨ek_0 (by decide +kernel) rfl rfl, List.forall_mem_cons.mpr ⟨ek_3 (by decide +kernel) rfl trivial, List.forall_mem_cons.mpr ⟨ek_4 (by decide +kernel) rfl hc_6_392, List.forall_mem_cons.mpr ⟨ek_6 (by decide +kernel), fun _ h => absurd h List.not_mem_nil⟩⟩⟩⟩⟩⟩⟩⟩⟩⟩⟩⟩⟩⟩⟩⟩⟩⟩⟩⟩⟩⟩⟩⟩⟩⟩⟩⟩⟩⟩⟩⟩⟩⟩⟩⟩⟩⟩⟩⟩⟩⟩⟩⟩⟩
theorem ea_137 : ∀ x ∈ ai_cd M_137, ai_EK ai_mt M_137 x := ek_137_0
theorem nk_137 : ai_NK ai_mt M_137 := ⟨ww_t 1557 (by decide +kernel), ww_t 7 (by decide +kernel), by decide +kernel, ⟨by decide +kernel, by decide +kernel⟩, rfl, by decide, (fun h => by cases h), ea_137⟩
theorem ek_138_0 : ∀ x ∈ C_138_0, ai_EK ai_mt M_138 x := List.forall_mem_cons.mpr ⟨ek_0 (by decide +kernel) rfl rfl, List.forall_mem_cons.mpr ⟨ek_0 (by decide +kernel) rfl rfl, List.forall_mem_cons.mpr ⟨ek_3 (by decide +kernel) rfl hf_6_95, List.forall_mem_cons.mpr ⟨ek_3 (by decide +kernel) rfl hf_6_95, List.forall_mem_cons.mpr ⟨ek_0 (by decide +kernel) rfl rfl, List.forall_mem_cons.mpr ⟨ek_0 (by decide +kernel) rfl rfl, List.forall_mem_cons.mpr ⟨ek_0 (by decide +kernel) rfl rfl, List.forall_mem_cons.mpr ⟨ek_0 (by decide +kernel) rfl rfl, List.forall_mem_cons.mpr ⟨ek_2 (by decide +kernel) rfl rfl, List.forall_mem_cons.mpr ⟨ek_0 (by decide +kernel) rfl rfl, List.forall_mem_cons.mpr ⟨ek_0 (by decide +kernel) rfl rfl, List.forall_mem_cons.mpr ⟨ek_0 (by decide +kernel) rfl rfl, List.forall_mem_cons.mpr ⟨ek_0 (by decide +kernel) rfl rfl, List.forall_mem_cons.mpr ⟨ek_4 (by decide +kernel) rfl hc_6_396, List.forall_mem_cons.mpr ⟨ek_0 (by decide +kernel) rfl rfl, List.forall_mem_cons.mpr ⟨ek_2 (by decide +kernel) rfl rfl, List.forall_mem_cons.mpr ⟨ek_6 (by decide +kernel), fun _ h => absurd h List.not_mem_nil⟩⟩⟩⟩⟩⟩⟩⟩⟩⟩⟩⟩⟩⟩⟩⟩⟩
theorem ea_138 : ∀ x ∈ ai_cd M_138, ai_EK ai_mt M_138 x := ek_138_0
theorem nk_138 : ai_NK ai_mt M_138 := ⟨ww_t 1577 (by decide +kernel), ww_t 7 (by decide +kernel), by decide +kernel, ⟨by decide +kernel, by decide +kernel⟩, rfl, by decide, (fun h => by cases h), ea_138⟩
theorem ek_139_0 : ∀ x ∈ C_139_0, ai_EK ai_mt M_139 x := List.forall_mem_cons.mpr ⟨ek_0 (by decide +kernel) rfl rfl, List.forall_mem_cons.mpr ⟨ek_0 (by decide +kernel) rfl rfl, List.forall_mem_cons.mpr ⟨ek_0 (by decide +kernel) rfl rfl, List.forall_mem_cons.mpr ⟨ek_4 (by decide +kernel) rfl hc_6_288, List.forall_mem_cons.mpr ⟨ek_2 (by decide +kernel) rfl rfl, List.forall_mem_cons.mpr ⟨ek_0 (by decide +kernel) rfl rfl, List.forall_mem_cons.mpr ⟨ek_0 (by decide +kernel) rfl rfl, List.forall_mem_cons.mpr ⟨ek_4 (by decide +kernel) rfl hc_6_112, List.forall_mem_cons.mpr ⟨ek_6 (by decide +kernel), fun _ h => absurd h List.not_mem_nil⟩⟩⟩⟩⟩⟩⟩⟩⟩
theorem ea_139 : ∀ x ∈ ai_cd M_139, ai_EK ai_mt M_139 x := ek_139_0
theorem nk_139 : ai_NK ai_mt M_139 := ⟨ww_t 1345 (by decide +kernel), ww_t 7 (by decide +kernel), by decide +kernel, ⟨by decide +kernel, by decide +kernel⟩, rfl, by decide, (fun h => by cases h), ea_139⟩
theorem ek_140_0 : ∀ x ∈ C_140_0, ai_EK ai_mt M_140 x := List.forall_mem_cons.mpr ⟨ek_0 (by decide +kernel) rfl rfl, List.forall_mem_cons.mpr ⟨ek_0 (by decide +kernel) rfl rfl, List.forall_mem_cons.mpr ⟨ek_0 (by decide +kernel) rfl rfl, List.forall_mem_cons.mpr ⟨ek_4 (by decide +kernel) rfl hc_6_297, List.forall_mem_cons.mpr ⟨ek_2 (by decide +kernel) rfl rfl, List.forall_mem_cons.mpr ⟨ek_0 (by decide +kernel) rfl rfl, List.forall_mem_cons.mpr ⟨ek_0 (by decide +kernel) rfl rfl, List.forall_mem_cons.mpr ⟨ek_4 (by decide +kernel) rfl hc_6_112, List.forall_mem_cons.mpr ⟨ek_6 (by decide +kernel), fun _ h => absurd h List.not_mem_nil⟩⟩⟩⟩⟩⟩⟩⟩⟩
theorem ea_140 : ∀ x ∈ ai_cd M_140, ai_EK ai_mt M_140 x := ek_140_0
theorem nk_140 : ai_NK ai_mt M_140 := ⟨ww_t 1444 (by decide +kernel), ww_t 7 (by decide +kernel), by decide +kernel, ⟨by decide +kernel, by decide +kernel⟩, rfl, by decide, (fun h => by cases h), ea_140⟩
theorem ek_141_0 : ∀ x ∈ C_141_0, ai_EK ai_mt M_141 x := List.forall_mem_cons.mpr ⟨ek_0 (by decide +kernel) rfl rfl, List.forall_mem_cons.mpr ⟨ek_0 (by decide +kernel) rfl rfl, List.forall_mem_cons.mpr ⟨ek_4 (by decide +kernel) rfl hc_6_102, List.forall_mem_cons.mpr ⟨ek_2 (by decide +kernel) rfl rfl, List.forall_mem_cons.mpr ⟨ek_0 (by decide +kernel) rfl rfl, List.forall_mem_cons.mpr ⟨ek_0 (by decide +kernel) rfl rfl, List.forall_mem_cons.mpr ⟨ek_4 (by decide +kernel) rfl hc_6_112, List.forall_mem_cons.mpr ⟨ek_6 (by decide +kernel), fun _ h => absurd h List.not_mem_nil⟩⟩⟩⟩⟩⟩⟩⟩
theorem ea_141 : ∀ x ∈ ai_cd M_141, ai_EK ai_mt M_141 x := ek_141_0
theorem nk_141 : ai_NK ai_mt M_141 := ⟨ww_t 1366 (by decide +kernel), ww_t 7 (by decide +kernel), by decide +kernel, ⟨by decide +kernel, by decide +kernel⟩, rfl, by decide, (fun h => by cases h), ea_141⟩
theorem ek_142_0 : ∀ x ∈ C_142_0, ai_EK ai_mt M_142 x := List.forall_mem_cons.mpr ⟨ek_0 (by decide +kernel) rfl rfl, List.forall_mem_cons.mpr ⟨ek_3 (by decide +kernel) rfl hf_6_193, List.forall_mem_cons.mpr ⟨ek_0 (by decide +kernel) rfl rfl, List.forall_mem_cons.mpr ⟨ek_0 (by decide +kernel) rfl rfl, List.forall_mem_cons.mpr ⟨ek_0 (by decide +kernel) rfl rfl, List.forall_mem_cons.mpr ⟨ek_3 (by decide +kernel) rfl hf_6_193, List.forall_mem_cons.mpr ⟨ek_0 (by decide +kernel) rfl rfl, List.forall_mem_cons.mpr ⟨ek_6 (by decide +kernel), fun _ h => absurd h List.not_mem_nil⟩⟩⟩⟩⟩⟩⟩⟩
theorem ea_142 : ∀ x ∈ ai_cd M_142, ai_EK ai_mt M_142 x := ek_142_0
theorem nk_142 : ai_NK ai_mt M_142 := ⟨ww_t 1273 (by decide +kernel), ww_t 7 (by decide +kernel), by decide +kernel, ⟨by decide +kernel, by decide +kernel⟩, rfl, by decide, (fun h => by cases h), ea_142⟩
theorem ek_143_0 : ∀ x ∈ C_143_0, ai_EK ai_mt M_143 x := List.forall_mem_cons.mpr ⟨ek_0 (by decide +kernel) rfl rfl, List.forall_mem_cons.mpr ⟨ek_0 (by decide +kernel) rfl rfl, List.forall_mem_cons.mpr ⟨ek_4 (by decide +kernel) rfl hc_6_234, List.forall_mem_cons.mpr ⟨ek_2 (by decide +kernel) rfl rfl, List.forall_mem_cons.mpr ⟨ek_0 (by decide +kernel) rfl rfl, List.forall_mem_cons.mpr ⟨ek_4 (by decide +kernel) rfl hc_6_238, List.forall_mem_cons.mpr ⟨ek_6 (by decide +kernel), fun _ h => absurd h List.not_mem_nil⟩⟩⟩⟩⟩⟩⟩
theorem ea_143 : ∀ x ∈ ai_cd M_143, ai_EK ai_mt M_143 x := ek_143_0
theorem nk_143 : ai_NK ai_mt M_143 := ⟨ww_t 1303 (by decide +kernel), ww_t 7 (by decide +kernel), by decide +kernel, ⟨by decide +kernel, by decide +kernel⟩, rfl, by decide, (fun h => by cases h), ea_143⟩
theorem ek_144_0 : ∀ x ∈ C_144_0, ai_EK ai_mt M_144 x := List.forall_mem_cons.mpr ⟨ek_0 (by decide +kernel) rfl rfl, List.forall_mem_cons.mpr ⟨ek_0 (by decide +kernel) rfl rfl, List.forall_mem_cons.mpr ⟨ek_3 (by decide +kernel) rfl hf_6_199, List.forall_mem_cons.mpr ⟨ek_3 (by decide +kernel) rfl hf_6_221, List.forall_mem_cons.mpr ⟨ek_0 (by decide +kernel) rfl rfl, List.forall_mem_cons.mpr ⟨ek_6 (by decide +kernel), fun _ h => absurd h List.not_mem_nil⟩⟩⟩⟩⟩⟩
theorem ea_144 : ∀ x ∈ ai_cd M_144, ai_EK ai_mt M_144 x := ek_144_0
theorem nk_144 : ai_NK ai_mt M_144 := ⟨ww_t 1313 (by decide +kernel), ww_t 7 (by decide +kernel), by decide +kernel, ⟨by decide +kernel, by decide +kernel⟩, rfl, by decide, (fun h => by cases h), ea_144⟩
theorem ek_145_0 : ∀ x ∈ C_145_0, ai_EK ai_mt M_145 x := List.forall_mem_cons.mpr ⟨ek_0 (by decide +kernel) rfl rfl, List.forall_mem_cons.mpr ⟨ek_0 (by decide +kernel) rfl rfl, List.forall_mem_cons.mpr ⟨ek_0 (by decide +kernel) rfl rfl, List.forall_mem_cons.mpr ⟨ek_3 (by decide +kernel) rfl trivial, List.forall_mem_cons.mpr ⟨ek_0 (by decide +kernel) rfl rfl, List.forall_mem_cons.mpr ⟨ek_0 (by decide +kernel) rfl rfl, List.forall_mem_cons.mpr ⟨ek_0 (by decide +kernel) rfl rfl, List.forall_mem_cons.mpr ⟨ek_2 (by decide +kernel) rfl rfl, List.forall_mem_cons.mpr ⟨ek_0 (by decide +kernel) rfl rfl, List.forall_mem_cons.mpr ⟨ek_0 (by decide +kernel) rfl rfl, List.forall_mem_cons.mpr ⟨ek_0 (by decide +kernel) rfl rfl, List.forall_mem_cons.mpr ⟨ek_3 (by decide +kernel) rfl trivial, List.forall_mem_cons.mpr ⟨ek_0 (by decide +kernel) rfl rfl, List.forall_mem_cons.mpr ⟨ek_2 (by decide +kernel) rfl rfl, List.forall_mem_cons.mpr ⟨ek_6 (by decide +kernel), fun _ h => absurd h List.not_mem_nil⟩⟩⟩⟩⟩⟩⟩⟩⟩⟩⟩⟩⟩⟩⟩
theorem ea_145 : ∀ x ∈ ai_cd M_145, ai_EK ai_mt M_145 x := ek_145_0
theorem nk_145 : ai_NK ai_mt M_145 := ⟨ww_t 363 (by decide +kernel), ww_t 8 (by decide +kernel), by decide +kernel, ⟨by decide +kernel, by decide +kernel⟩, rfl, by decide, (fun h => by cases h), ea_145⟩
theorem ek_146_0 : ∀ x ∈ C_146_0, ai_EK ai_mt M_146 x := List.forall_mem_cons.mpr ⟨ek_0 (by decide +kernel) rfl rfl, List.forall_mem_cons.mpr ⟨ek_0 (by decide +kernel) rfl rfl, List.forall_mem_cons.mpr ⟨ek_3 (by decide +kernel) rfl trivial, List.forall_mem_cons.mpr ⟨ek_0 (by decide +kernel) rfl rfl, List.forall_mem_cons.mpr ⟨ek_1 (by decide +kernel) rfl, List.forall_mem_cons.mpr ⟨ek_2 (by decide +kernel) rfl rfl, List.forall_mem_cons.mpr ⟨ek_2t (by decide +kernel) (by decide +kernel), List.forall_mem_cons.mpr ⟨ek_0 (by decide +kernel) rfl rfl, List.forall_mem_cons.mpr ⟨ek_0 (by decide +kernel) rfl rfl, List.forall_mem_cons.mpr ⟨ek_0 (by decide +kernel) rfl rfl, List.forall_mem_cons.mpr ⟨ek_0 (by decide +kernel) rfl rfl, List.forall_mem_cons.mpr ⟨ek_1 (by decide +kernel) rfl, List.forall_mem_cons.mpr ⟨ek_3 (by decide +kernel) rfl trivial, List.forall_mem_cons.mpr ⟨ek_0 (by decide +kernel) rfl rfl, List.forall_mem_cons.mpr ⟨ek_0 (by decide +kernel) rfl rfl, List.forall_mem_cons.mpr ⟨ek_0 (by decide +kernel) rfl rfl, List.forall_mem_cons.mpr ⟨ek_1 (by decide +kernel) rfl, List.forall_mem_cons.mpr ⟨ek_3 (by decide +kernel) rfl trivial, List.forall_mem_cons.mpr ⟨ek_0 (by decide +kernel) rfl rfl, List.forall_mem_cons.mpr ⟨ek_0 (by decide +kernel) rfl rfl, List.forall_mem_cons.mpr ⟨ek_0 (by decide +kernel) rfl rfl, List.forall_mem_cons.mpr ⟨ek_1 (by decide +kernel) rfl, List.forall_mem_cons.mpr ⟨ek_3 (by decide +kernel) rfl trivial, List.forall_mem_cons.mpr ⟨ek_4 (by decide +kernel) rfl hc_8_13, List.forall_mem_cons.mpr ⟨ek_0 (by decide +kernel) rfl rfl, List.forall_mem_cons.mpr ⟨ek_0 (by decide +kernel) rfl rfl, List.forall_mem_cons.mpr ⟨ek_0 (by decide +kernel) rfl rfl, List.forall_mem_cons.mpr ⟨ek_0 (by decide +kernel) rfl rfl, List.forall_mem_cons.mpr ⟨ek_1 (by decide +kernel) rfl, List.forall_mem_cons.mpr ⟨ek_3 (by decide +kernel) rfl trivial, List.forall_mem_cons.mpr ⟨ek_0 (by decide +kernel) rfl rfl, List.forall_mem_cons.mpr ⟨ek_0 (by decide +kernel) rfl rfl, List.forall_mem_cons.mpr ⟨ek_0 (by decide +kernel) rfl rfl, List.forall_mem_cons.mpr ⟨ek_1 (by decide +kernel) rfl, List.forall_mem_cons.mpr ⟨ek_3 (by decide +kernel) rfl trivial, List.forall_mem_cons.mpr ⟨ek_0 (by decide +kernel) rfl rfl, List.forall_mem_cons.mpr ⟨ek_0 (by decide +kernel) rfl rfl, List.forall_mem_cons.mpr ⟨ek_0 (by decide +kernel) rfl rfl, List.forall_mem_cons.mpr ⟨ek_1 (by decide +kernel) rfl, List.forall_mem_cons.mpr ⟨ek_3 (by decide +kernel) rfl trivial, List.forall_mem_cons.mpr ⟨ek_4 (by decide +kernel) rfl hc_8_17, List.forall_mem_cons.mpr ⟨ek_2 (by decide +kernel) rfl rfl, List.forall_mem_cons.mpr ⟨ek_0 (by decide +kernel) rfl rfl, List.forall_mem_cons.mpr ⟨ek_0 (by decide +kernel) rfl rfl, List.forall_mem_cons.mpr ⟨ek_0 (by decide +kernel) rfl rfl, List.forall_mem_cons.mpr ⟨ek_0 (by decide +kernel) rfl rfl, List.forall_mem_cons.mpr ⟨ek_1 (by decide +kernel) rfl, List.forall_mem_cons.mpr ⟨ek_3 (by decide +kernel) rfl trivial, List.forall_mem_cons.mpr ⟨ek_0 (by decide +kernel) rfl rfl, List.forall_mem_cons.mpr ⟨ek_0 (by decide +kernel) rfl rfl, fun _ h => absurd h List.not_mem_nil⟩⟩⟩⟩⟩⟩⟩⟩⟩⟩⟩⟩⟩⟩⟩⟩⟩⟩⟩⟩⟩⟩⟩⟩⟩⟩⟩⟩⟩⟩⟩⟩⟩⟩⟩⟩⟩⟩⟩⟩⟩⟩⟩⟩⟩⟩⟩⟩⟩⟩
theorem ek_146_1 : ∀ x ∈ C_146_1, ai_EK ai_mt M_146 x := List.forall_mem_cons.mpr ⟨ek_0 (by decide +kernel) rfl rfl, List.forall_mem_cons.mpr ⟨ek_1 (by decide +kernel) rfl, List.forall_mem_cons.mpr ⟨ek_3 (by decide +kernel) rfl trivial, List.forall_mem_cons.mpr ⟨ek_0 (by decide +kernel) rfl rfl, List.forall_mem_cons.mpr ⟨ek_0 (by decide +kernel) rfl rfl, List.forall_mem_cons.mpr ⟨ek_0 (by decide +kernel) rfl rfl, List.forall_mem_cons.mpr ⟨ek_1 (by decide +kernel) rfl, List.forall_mem_cons.mpr ⟨ek_3 (by decide +kernel) rfl trivial, List.forall_mem_cons.mpr ⟨ek_1 (by decide +kernel) rfl, List.forall_mem_cons.mpr ⟨ek_0 (by decide +kernel) rfl rfl, List.forall_mem_cons.mpr ⟨ek_1 (by decide +kernel) rfl, List.forall_mem_cons.mpr ⟨ek_0 (by decide +kernel) rfl rfl, List.forall_mem_cons.mpr ⟨ek_0 (by decide +kernel) rfl rfl, List.forall_mem_cons.mpr ⟨ek_0 (by decide +kernel) rfl rfl, List.forall_mem_cons.mpr ⟨ek_1 (by decide +kernel) rfl, List.forall_mem_cons.mpr ⟨ek_3 (by decide +kernel) rfl trivial, List.forall_mem_cons.mpr ⟨ek_1 (by decide +kernel) rfl, List.forall_mem_cons.mpr ⟨ek_0l (by decide +kernel) hl_8_18, List.forall_mem_cons.mpr ⟨ek_1 (by decide +kernel) rfl, List.forall_mem_cons.mpr ⟨ek_1 (by decide +kernel) rfl, List.forall_mem_cons.mpr ⟨ek_4 (by decide +kernel) rfl hc_8_20, List.forall_mem_cons.mpr ⟨ek_0 (by decide +kernel) rfl rfl, List.forall_mem_cons.mpr ⟨ek_0 (by decide +kernel) rfl rfl, List.forall_mem_cons.mpr ⟨ek_0 (by decide +kernel) rfl rfl, List.forall_mem_cons.mpr ⟨ek_0 (by decide +kernel) rfl rfl, List.forall_mem_cons.mpr ⟨ek_1 (by decide +kernel) rfl, List.forall_mem_cons.mpr ⟨ek_3 (by decide +kernel) rfl trivial, List.forall_mem_cons.mpr ⟨ek_0 (by decide +kernel) rfl rfl, List.forall_mem_cons.mpr ⟨ek_0 (by decide +kernel) rfl rfl, List.forall_mem_cons.mpr ⟨ek_0 (by decide +kernel) rfl rfl, List.forall_mem_cons.mpr ⟨ek_1 (by decide +kernel) rfl, List.forall_mem_cons.mpr ⟨ek_3 (by decide +kernel) rfl trivial, List.forall_mem_cons.mpr ⟨ek_0 (by decide +kernel) rfl rfl, List.forall_mem_cons.mpr ⟨ek_0 (by decide +kernel) rfl rfl, List.forall_mem_cons.mpr ⟨ek_0 (by decide +kernel) rfl rfl, List.forall_mem_cons.mpr ⟨ek_1 (by decide +kernel) rfl, List.forall_mem_cons.mpr ⟨ek_3 (by decide +kernel) rfl trivial, List.forall_mem_cons.mpr ⟨ek_1 (by decide +kernel) rfl, List.forall_mem_cons.mpr ⟨ek_0 (by decide +kernel) rfl rfl, List.forall_mem_cons.mpr ⟨ek_1 (by decide +kernel) rfl, List.forall_mem_cons.mpr ⟨ek_0 (by decide +kernel) rfl rfl, List.forall_mem_cons.mpr ⟨ek_0 (by decide +kernel) rfl rfl, List.forall_mem_cons.mpr ⟨ek_0 (by decide +kernel) rfl rfl, List.forall_mem_cons.mpr ⟨ek_1 (by decide +kernel) rfl, List.forall_mem_cons.mpr ⟨ek_3 (by decide +kernel) rfl trivial, List.forall_mem_cons.mpr ⟨ek_1 (by decide +kernel) rfl, List.forall_mem_cons.mpr ⟨ek_0l (by decide +kernel) hl_8_18, List.forall_mem_cons.mpr ⟨ek_1 (by decide +kernel) rfl, List.forall_mem_cons.mpr ⟨ek_1 (by decide +kernel) rfl, List.forall_mem_cons.mpr ⟨ek_4 (by decide +kernel) rfl hc_8_24, fun _ h => absurd h List.not_mem_nil⟩⟩⟩⟩⟩⟩⟩⟩⟩⟩⟩⟩⟩⟩⟩⟩⟩⟩⟩⟩⟩⟩⟩⟩⟩⟩⟩⟩⟩⟩⟩⟩⟩⟩⟩⟩⟩⟩⟩⟩⟩⟩⟩⟩⟩⟩⟩⟩⟩⟩
theorem ek_146_2 : ∀ x ∈ C_146_2, ai_EK ai_mt M_146 x := List.forall_mem_cons.mpr ⟨ek_2 (by decide +kernel) rfl rfl, List.forall_mem_cons.mpr ⟨ek_0 (by decide +kernel) rfl rfl, List.forall_mem_cons.mpr ⟨ek_0 (by decide +kernel) rfl rfl, List.forall_mem_cons.mpr ⟨ek_0 (by decide +kernel) rfl rfl, List.forall_mem_cons.mpr ⟨ek_0 (by decide +kernel) rfl rfl, List.forall_mem_cons.mpr ⟨ek_1 (by decide +kernel) rfl, List.forall_mem_cons.mpr ⟨ek_3 (by decide +kernel) rfl trivial, List.forall_mem_cons.mpr ⟨ek_0 (by decide +kernel) rfl rfl, List.forall_mem_cons.mpr ⟨ek_0 (by decide +kernel) rfl rfl, List.forall_mem_cons.mpr ⟨ek_0 (by decide +kernel) rfl rfl, List.forall_mem_cons.mpr ⟨ek_1 (by decide +kernel) rfl, List.forall_mem_cons.mpr ⟨ek_3 (by decide +kernel) rfl trivial, List.forall_mem_cons.mpr ⟨ek_0 (by decide +kernel) rfl rfl, List.forall_mem_cons.mpr ⟨ek_0 (by decide +kernel) rfl rfl, List.forall_mem_cons.mpr ⟨ek_0 (by decide +kernel) rfl rfl, List.forall_mem_cons.mpr ⟨ek_1 (by decide +kernel) rfl, List.forall_mem_cons.mpr ⟨ek_3 (by decide +kernel) rfl trivial, List.forall_mem_cons.mpr ⟨ek_0 (by decide +kernel) rfl rfl, List.forall_mem_cons.mpr ⟨ek_0 (by decide +kernel) rfl rfl, List.forall_mem_cons.mpr ⟨ek_0 (by decide +kernel) rfl rfl, List.forall_mem_cons.mpr ⟨ek_1 (by decide +kernel) rfl, List.forall_mem_cons.mpr ⟨ek_3 (by decide +kernel) rfl trivial, List.forall_mem_cons.mpr ⟨ek_0 (by decide +kernel) rfl rfl, List.forall_mem_cons.mpr ⟨ek_0 (by decide +kernel) rfl rfl, List.forall_mem_cons.mpr ⟨ek_0 (by decide +kernel) rfl rfl, List.forall_mem_cons.mpr ⟨ek_1 (by decide +kernel) rfl, List.forall_mem_cons.mpr ⟨ek_3 (by decide +kernel) rfl trivial, List.forall_mem_cons.mpr ⟨ek_4 (by decide +kernel) rfl hc_8_25, List.forall_mem_cons.mpr ⟨ek_0 (by decide +kernel) rfl rfl, List.forall_mem_cons.mpr ⟨ek_0 (by decide +kernel) rfl rfl, List.forall_mem_cons.mpr ⟨ek_0 (by decide +kernel) rfl rfl, List.forall_mem_cons.mpr ⟨ek_0 (by decide +kernel) rfl rfl, List.forall_mem_cons.mpr ⟨ek_1 (by decide +kernel) rfl, List.forall_mem_cons.mpr ⟨ek_3 (by decide +kernel) rfl trivial, List.forall_mem_cons.mpr ⟨ek_0 (by decide +kernel) rfl rfl, List.forall_mem_cons.mpr ⟨ek_0 (by decide +kernel) rfl rfl, List.forall_mem_cons.mpr ⟨ek_0 (by decide +kernel) rfl rfl, List.forall_mem_cons.mpr ⟨ek_1 (by decide +kernel) rfl, List.forall_mem_cons.mpr ⟨ek_3 (by decide +kernel) rfl trivial, List.forall_mem_cons.mpr ⟨ek_0 (by decide +kernel) rfl rfl, List.forall_mem_cons.mpr ⟨ek_0 (by decide +kernel) rfl rfl, List.forall_mem_cons.mpr ⟨ek_0 (by decide +kernel) rfl rfl, List.forall_mem_cons.mpr ⟨ek_1 (by decide +kernel) rfl, List.forall_mem_cons.mpr ⟨ek_3 (by decide +kernel) rfl trivial, List.forall_mem_cons.mpr ⟨ek_0 (by decide +kernel) rfl rfl, List.forall_mem_cons.mpr ⟨ek_0 (by decide +kernel) rfl rfl, List.forall_mem_cons.mpr ⟨ek_0 (by decide +kernel) rfl rfl, List.forall_mem_cons.mpr ⟨ek_1 (by decide +kernel) rfl, List.forall_mem_cons.mpr ⟨ek_3 (by decide +kernel) rfl trivial, List.forall_mem_cons.mpr ⟨ek_0 (by decide +kernel) rfl rfl, fun _ h => absurd h List.not_mem_nil⟩⟩⟩⟩⟩⟩⟩⟩⟩⟩⟩⟩⟩⟩⟩⟩⟩⟩⟩⟩⟩⟩⟩⟩⟩⟩⟩⟩⟩⟩⟩⟩⟩⟩⟩⟩⟩⟩⟩⟩⟩⟩⟩⟩⟩⟩⟩⟩⟩⟩
theorem ek_146_3 : ∀ x ∈ C_146_3, ai_EK ai_mt M_146 x := List.forall_mem_cons.mpr ⟨ek_0 (by decide +kernel) rfl rfl, List.forall_mem_cons.mpr ⟨ek_0 (by decide +kernel) rfl rfl, List.forall_mem_cons.mpr ⟨ek_1 (by decide +kernel) rfl, List.forall_mem_cons.mpr ⟨ek_3 (by decide +kernel) rfl trivial, List.forall_mem_cons.mpr ⟨ek_4 (by decide +kernel) rfl hc_8_29, List.forall_mem_cons.mpr ⟨ek_2 (by decide +kernel) rfl rfl, List.forall_mem_cons.mpr ⟨ek_0 (by decide +kernel) rfl rfl, List.forall_mem_cons.mpr ⟨ek_0 (by decide +kernel) rfl rfl, List.forall_mem_cons.mpr ⟨ek_0 (by decide +kernel) rfl rfl, List.forall_mem_cons.mpr ⟨ek_0 (by decide +kernel) rfl rfl, List.forall_mem_cons.mpr ⟨ek_1 (by decide +kernel) rfl, List.forall_mem_cons.mpr ⟨ek_3 (by decide +kernel) rfl trivial, List.forall_mem_cons.mpr ⟨ek_0 (by decide +kernel) rfl rfl, List.forall_mem_cons.mpr ⟨ek_0 (by decide +kernel) rfl rfl, List.forall_mem_cons.mpr ⟨ek_0 (by decide +kernel) rfl rfl, List.forall_mem_cons.mpr ⟨ek_1 (by decide +kernel) rfl, List.forall_mem_cons.mpr ⟨ek_3 (by decide +kernel) rfl trivial, List.forall_mem_cons.mpr ⟨ek_4 (by decide +kernel) rfl hc_8_30, List.forall_mem_cons.mpr ⟨ek_0 (by decide +kernel) rfl rfl, List.forall_mem_cons.mpr ⟨ek_0 (by decide +kernel) rfl rfl, List.forall_mem_cons.mpr ⟨ek_0 (by decide +kernel) rfl rfl, List.forall_mem_cons.mpr ⟨ek_0 (by decide +kernel) rfl rfl, List.forall_mem_cons.mpr ⟨ek_1 (by decide +kernel) rfl, List.forall_mem_cons.mpr ⟨ek_3 (by decide +kernel) rfl trivial, List.forall_mem_cons.mpr ⟨ek_0 (by decide +kernel) rfl rfl, List.forall_mem_cons.mpr ⟨ek_0 (by decide +kernel) rfl rfl, List.forall_mem_cons.mpr ⟨ek_0 (by decide +kernel) rfl rfl, List.forall_mem_cons.mpr ⟨ek_1 (by decide +kernel) rfl, List.forall_mem_cons.mpr ⟨ek_3 (by decide +kernel) rfl trivial, List.forall_mem_cons.mpr ⟨ek_4 (by decide +kernel) rfl hc_8_34, List.forall_mem_cons.mpr ⟨ek_1 (by decide +kernel) rfl, List.forall_mem_cons.mpr ⟨ek_2 (by decide +kernel) rfl rfl, List.forall_mem_cons.mpr ⟨ek_0 (by decide +kernel) rfl rfl, List.forall_mem_cons.mpr ⟨ek_0 (by decide +kernel) rfl rfl, List.forall_mem_cons.mpr ⟨ek_0 (by decide +kernel) rfl rfl, List.forall_mem_cons.mpr ⟨ek_0 (by decide +kernel) rfl rfl, List.forall_mem_cons.mpr ⟨ek_1 (by decide +kernel) rfl, List.forall_mem_cons.mpr ⟨ek_3 (by decide +kernel) rfl trivial, List.forall_mem_cons.mpr ⟨ek_4 (by decide +kernel) rfl hc_8_35, List.forall_mem_cons.mpr ⟨ek_0 (by decide +kernel) rfl rfl, List.forall_mem_cons.mpr ⟨ek_0 (by decide +kernel) rfl rfl, List.forall_mem_cons.mpr ⟨ek_0 (by decide +kernel) rfl rfl, List.forall_mem_cons.mpr ⟨ek_0 (by decide +kernel) rfl rfl, List.forall_mem_cons.mpr ⟨ek_1 (by decide +kernel) rfl, List.forall_mem_cons.mpr ⟨ek_3 (by decide +kernel) rfl trivial, List.forall_mem_cons.mpr ⟨ek_4 (by decide +kernel) rfl hc_8_39, List.forall_mem_cons.mpr ⟨ek_2 (by decide +kernel) rfl rfl, List.forall_mem_cons.mpr ⟨ek_0 (by decide +kernel) rfl rfl, List.forall_mem_cons.mpr ⟨ek_0 (by decide +kernel) rfl rfl, List.forall_mem_cons.mpr ⟨ek_0 (by decide +kernel) rfl rfl, fun _ h => absurd h List.not_mem_nil⟩⟩⟩⟩⟩⟩⟩⟩⟩⟩⟩⟩⟩⟩⟩⟩⟩⟩⟩⟩⟩⟩⟩⟩⟩⟩⟩⟩⟩⟩⟩⟩⟩⟩⟩⟩⟩⟩⟩⟩⟩⟩⟩⟩⟩⟩⟩⟩⟩⟩
theorem ek_146_4 : ∀ x ∈ C_146_4, ai_EK ai_mt M_146 x := List.forall_mem_cons.mpr ⟨ek_0 (by decide +kernel) rfl rfl, List.forall_mem_cons.mpr ⟨ek_1 (by decide +kernel) rfl, List.forall_mem_cons.mpr ⟨ek_3 (by decide +kernel) rfl trivial, List.forall_mem_cons.mpr ⟨ek_0 (by decide +kernel) rfl rfl, List.forall_mem_cons.mpr ⟨ek_0 (by decide +kernel) rfl rfl, List.forall_mem_cons.mpr ⟨ek_0 (by decide +kernel) rfl rfl, List.forall_mem_cons.mpr ⟨ek_1 (by decide +kernel) rfl, List.forall_mem_cons.mpr ⟨ek_3 (by decide +kernel) rfl trivial, List.forall_mem_cons.mpr ⟨ek_0 (by decide +kernel) rfl rfl, List.forall_mem_cons.mpr ⟨ek_0 (by decide +kernel) rfl rfl, List.forall_mem_cons.mpr ⟨ek_0 (by decide +kernel) rfl rfl, List.forall_mem_cons.mpr ⟨ek_1 (by decide +kernel) rfl, List.forall_mem_cons.mpr ⟨ek_3 (by decide +kernel) rfl trivial, List.forall_mem_cons.mpr ⟨ek_0 (by decide +kernel) rfl rfl, List.forall_mem_cons.mpr ⟨ek_0 (by decide +kernel) rfl rfl, List.forall_mem_cons.mpr ⟨ek_0 (by decide +kernel) rfl rfl, List.forall_mem_cons.mpr ⟨ek_1 (by decide +kernel) rfl, List.forall_mem_cons.mpr ⟨ek_3 (by decide +kernel) rfl trivial, List.forall_mem_cons.mpr ⟨ek_4 (by decide +kernel) rfl hc_8_40, List.forall_mem_cons.mpr ⟨ek_0 (by decide +kernel) rfl rfl, List.forall_mem_cons.mpr ⟨ek_0 (by decide +kernel) rfl rfl, List.forall_mem_cons.mpr ⟨ek_0 (by decide +kernel) rfl rfl, List.forall_mem_cons.mpr ⟨ek_0 (by decide +kernel) rfl rfl, List.forall_mem_cons.mpr ⟨ek_1 (by decide +kernel) rfl, List.forall_mem_cons.mpr ⟨ek_3 (by decide +kernel) rfl trivial, List.forall_mem_cons.mpr ⟨ek_0 (by decide +kernel) rfl rfl, List.forall_mem_cons.mpr ⟨ek_0 (by decide +kernel) rfl rfl, List.forall_mem_cons.mpr ⟨ek_0 (by decide +kernel) rfl rfl, List.forall_mem_cons.mpr ⟨ek_1 (by decide +kernel) rfl, List.forall_mem_cons.mpr ⟨ek_3 (by decide +kernel) rfl trivial, List.forall_mem_cons.mpr ⟨ek_0 (by decide +kernel) rfl rfl, List.forall_mem_cons.mpr ⟨ek_0 (by decide +kernel) rfl rfl, List.forall_mem_cons.mpr ⟨ek_0 (by decide +kernel) rfl rfl, List.forall_mem_cons.mpr ⟨ek_1 (by decide +kernel) rfl, List.forall_mem_cons.mpr ⟨ek_3 (by decide +kernel) rfl trivial, List.forall_mem_cons.mpr ⟨ek_0 (by decide +kernel) rfl rfl, List.forall_mem_cons.mpr ⟨ek_0 (by decide +kernel) rfl rfl, List.forall_mem_cons.mpr ⟨ek_0 (by decide +kernel) rfl rfl, List.forall_mem_cons.mpr ⟨ek_1 (by decide +kernel) rfl, List.forall_mem_cons.mpr ⟨ek_3 (by decide +kernel) rfl trivial, List.forall_mem_cons.mpr ⟨ek_4 (by decide +kernel) rfl hc_8_44, List.forall_mem_cons.mpr ⟨ek_2 (by decide +kernel) rfl rfl, List.forall_mem_cons.mpr ⟨ek_0 (by decide +kernel) rfl rfl, List.forall_mem_cons.mpr ⟨ek_0 (by decide +kernel) rfl rfl, List.forall_mem_cons.mpr ⟨ek_0 (by decide +kernel) rfl rfl, List.forall_mem_cons.mpr ⟨ek_0 (by decide +kernel) rfl rfl, List.forall_mem_cons.mpr ⟨ek_1 (by decide +kernel) rfl, List.forall_mem_cons.mpr ⟨ek_3 (by decide +kernel) rfl trivial, List.forall_mem_cons.mpr ⟨ek_0 (by decide +kernel) rfl rfl, List.forall_mem_cons.mpr ⟨ek_0 (by decide +kernel) rfl rfl, fun _ h => absurd h List.not_mem_nil⟩⟩⟩⟩⟩⟩⟩⟩⟩⟩⟩⟩⟩⟩⟩⟩⟩⟩⟩⟩⟩⟩⟩⟩⟩⟩⟩⟩⟩⟩⟩⟩⟩⟩⟩⟩⟩⟩⟩⟩⟩⟩⟩⟩⟩⟩⟩⟩⟩⟩
theorem ek_146_5 : ∀ x ∈ C_146_5, ai_EK ai_mt M_146 x := List.forall_mem_cons.mpr ⟨ek_0 (by decide +kernel) rfl rfl, List.forall_mem_cons.mpr ⟨ek_1 (by decide +kernel) rfl, List.forall_mem_cons.mpr ⟨ek_3 (by decide +kernel) rfl trivial, List.forall_mem_cons.mpr ⟨ek_4 (by decide +kernel) rfl hc_8_45, List.forall_mem_cons.mpr ⟨ek_0 (by decide +kernel) rfl rfl, List.forall_mem_cons.mpr ⟨ek_0 (by decide +kernel) rfl rfl, List.forall_mem_cons.mpr ⟨ek_0 (by decide +kernel) rfl rfl, List.forall_mem_cons.mpr ⟨ek_0 (by decide +kernel) rfl rfl, List.forall_mem_cons.mpr ⟨ek_1 (by decide +kernel) rfl, List.forall_mem_cons.mpr ⟨ek_3 (by decide +kernel) rfl trivial, List.forall_mem_cons.mpr ⟨ek_0 (by decide +kernel) rfl rfl, List.forall_mem_cons.mpr ⟨ek_0 (by decide +kernel) rfl rfl, List.forall_mem_cons.mpr ⟨ek_0 (by decide +kernel) rfl rfl, List.forall_mem_cons.mpr ⟨ek_1 (by decide +kernel) rfl, List.forall_mem_cons.mpr ⟨ek_3 (by decide +kernel) rfl trivial, List.forall_mem_cons.mpr ⟨ek_4 (by decide +kernel) rfl hc_8_49, List.forall_mem_cons.mpr ⟨ek_2 (by decide +kernel) rfl rfl, List.forall_mem_cons.mpr ⟨ek_0 (by decide +kernel) rfl rfl, List.forall_mem_cons.mpr ⟨ek_0 (by decide +kernel) rfl rfl, List.forall_mem_cons.mpr ⟨ek_0 (by decide +kernel) rfl rfl, List.forall_mem_cons.mpr ⟨ek_0 (by decide +kernel) rfl rfl, List.forall_mem_cons.mpr ⟨ek_1 (by decide +kernel) rfl, List.forall_mem_cons.mpr ⟨ek_3 (by decide +kernel) rfl trivial, List.forall_mem_cons.mpr ⟨ek_0 (by decide +kernel) rfl rfl, List.forall_mem_cons.mpr ⟨ek_0 (by decide +kernel) rfl rfl, List.forall_mem_cons.mpr ⟨ek_0 (by decide +kernel) rfl rfl, List.forall_mem_cons.mpr ⟨ek_1 (by decide +kernel) rfl, List.forall_mem_cons.mpr ⟨ek_3 (by decide +kernel) rfl trivial, List.forall_mem_cons.mpr ⟨ek_4 (by decide +kernel) rfl hc_8_50, List.forall_mem_cons.mpr ⟨ek_0 (by decide +kernel) rfl rfl, List.forall_mem_cons.mpr ⟨ek_0 (by decide +kernel) rfl rfl, List.forall_mem_cons.mpr ⟨ek_0 (by decide +kernel) rfl rfl, List.forall_mem_cons.mpr ⟨ek_0 (by decide +kernel) rfl rfl, List.forall_mem_cons.mpr ⟨ek_1 (by decide +kernel) rfl, List.forall_mem_cons.mpr ⟨ek_3 (by decide +kernel) rfl trivial, List.forall_mem_cons.mpr ⟨ek_0 (by decide +kernel) rfl rfl, List.forall_mem_cons.mpr ⟨ek_0 (by decide +kernel) rfl rfl, List.forall_mem_cons.mpr ⟨ek_0 (by decide +kernel) rfl rfl, List.forall_mem_cons.mpr ⟨ek_1 (by decide +kernel) rfl, List.forall_mem_cons.mpr ⟨ek_3 (by decide +kernel) rfl trivial, List.forall_mem_cons.mpr ⟨ek_4 (by decide +kernel) rfl hc_8_53, List.forall_mem_cons.mpr ⟨ek_2 (by decide +kernel) rfl rfl, List.forall_mem_cons.mpr ⟨ek_0 (by decide +kernel) rfl rfl, List.forall_mem_cons.mpr ⟨ek_0 (by decide +kernel) rfl rfl, List.forall_mem_cons.mpr ⟨ek_0 (by decide +kernel) rfl rfl, List.forall_mem_cons.mpr ⟨ek_0 (by decide +kernel) rfl rfl, List.forall_mem_cons.mpr ⟨ek_1 (by decide +kernel) rfl, List.forall_mem_cons.mpr ⟨ek_3 (by decide +kernel) rfl trivial, List.forall_mem_cons.mpr ⟨ek_0 (by decide +kernel) rfl rfl, List.forall_mem_cons.mpr ⟨ek_0 (by decide +kernel) rfl rfl, fun _ h => absurd h List.not_mem_nil⟩⟩⟩⟩⟩⟩⟩⟩⟩⟩⟩⟩⟩⟩⟩⟩⟩⟩⟩⟩⟩⟩⟩⟩⟩⟩⟩⟩⟩⟩⟩⟩⟩⟩⟩⟩⟩⟩⟩⟩⟩⟩⟩⟩⟩⟩⟩⟩⟩⟩
theorem ek_146_6 : ∀ x ∈ C_146_6, ai_EK ai_mt M_146 x := List.forall_mem_cons.mpr ⟨ek_0 (by decide +kernel) rfl rfl, List.forall_mem_cons.mpr ⟨ek_1 (by decide +kernel) rfl, List.forall_mem_cons.mpr ⟨ek_3 (by decide +kernel) rfl trivial, List.forall_mem_cons.mpr ⟨ek_4 (by decide +kernel) rfl hc_8_54, List.forall_mem_cons.mpr ⟨ek_0 (by decide +kernel) rfl rfl, List.forall_mem_cons.mpr ⟨ek_0 (by decide +kernel) rfl rfl, List.forall_mem_cons.mpr ⟨ek_0 (by decide +kernel) rfl rfl, List.forall_mem_cons.mpr ⟨ek_0 (by decide +kernel) rfl rfl, List.forall_mem_cons.mpr ⟨ek_1 (by decide +kernel) rfl, List.forall_mem_cons.mpr ⟨ek_3 (by decide +kernel) rfl trivial, List.forall_mem_cons.mpr ⟨ek_0 (by decide +kernel) rfl rfl, List.forall_mem_cons.mpr ⟨ek_0 (by decide +kernel) rfl rfl, List.forall_mem_cons.mpr ⟨ek_0 (by decide +kernel) rfl rfl, List.forall_mem_cons.mpr ⟨ek_1 (by decide +kernel) rfl, List.forall_mem_cons.mpr ⟨ek_3 (by decide +kernel) rfl trivial, List.forall_mem_cons.mpr ⟨ek_4 (by decide +kernel) rfl hc_8_57, List.forall_mem_cons.mpr ⟨ek_2 (by decide +kernel) rfl rfl, List.forall_mem_cons.mpr ⟨ek_0 (by decide +kernel) rfl rfl, List.forall_mem_cons.mpr ⟨ek_0 (by decide +kernel) rfl rfl, List.forall_mem_cons.mpr ⟨ek_0 (by decide +kernel) rfl rfl, List.forall_mem_cons.mpr ⟨ek_0 (by decide +kernel) rfl rfl, List.forall_mem_cons.mpr ⟨ek_1 (by decide +kernel) rfl, List.forall_mem_cons.mpr ⟨ek_3 (by decide +kernel) rfl trivial, List.forall_mem_cons.mpr ⟨ek_0 (by decide +kernel) rfl rfl, List.forall_mem_cons.mpr ⟨ek_0 (by decide +kernel) rfl rfl, List.forall_mem_cons.mpr ⟨ek_0 (by decide +kernel) rfl rfl, List.forall_mem_cons.mpr ⟨ek_1 (by decide +kernel) rfl, List.forall_mem_cons.mpr ⟨ek_3 (by decide +kernel) rfl trivial, List.forall_mem_cons.mpr ⟨ek_4 (by decide +kernel) rfl hc_8_58, List.forall_mem_cons.mpr ⟨ek_0 (by decide +kernel) rfl rfl, List.forall_mem_cons.mpr ⟨ek_0 (by decide +kernel) rfl rfl, List.forall_mem_cons.mpr ⟨ek_0 (by decide +kernel) rfl rfl, List.forall_mem_cons.mpr ⟨ek_0 (by decide +kernel) rfl rfl, List.forall_mem_cons.mpr ⟨ek_1 (by decide +kernel) rfl, List.forall_mem_cons.mpr ⟨ek_3 (by decide +kernel) rfl trivial, List.forall_mem_cons.mpr ⟨ek_0 (by decide +kernel) rfl rfl, List.forall_mem_cons.mpr ⟨ek_0 (by decide +kernel) rfl rfl, List.forall_mem_cons.mpr ⟨ek_0 (by decide +kernel) rfl rfl, List.forall_mem_cons.mpr ⟨ek_1 (by decide +kernel) rfl, List.forall_mem_cons.mpr ⟨ek_3 (by decide +kernel) rfl trivial, List.forall_mem_cons.mpr ⟨ek_4 (by decide +kernel) rfl hc_8_61, List.forall_mem_cons.mpr ⟨ek_2 (by decide +kernel) rfl rfl, List.forall_mem_cons.mpr ⟨ek_0 (by decide +kernel) rfl rfl, List.forall_mem_cons.mpr ⟨ek_4 (by decide +kernel) rfl hc_8_62, List.forall_mem_cons.mpr ⟨ek_0 (by decide +kernel) rfl rfl, List.forall_mem_cons.mpr ⟨ek_4 (by decide +kernel) rfl hc_8_66, List.forall_mem_cons.mpr ⟨ek_2 (by decide +kernel) rfl rfl, List.forall_mem_cons.mpr ⟨ek_0 (by decide +kernel) rfl rfl, List.forall_mem_cons.mpr ⟨ek_4 (by decide +kernel) rfl hc_8_67, List.forall_mem_cons.mpr ⟨ek_0 (by decide +kernel) rfl rfl, fun _ h => absurd h List.not_mem_nil⟩⟩⟩⟩⟩⟩⟩⟩⟩⟩⟩⟩⟩⟩⟩⟩⟩⟩⟩⟩⟩⟩⟩⟩⟩⟩⟩⟩⟩⟩⟩⟩⟩⟩⟩⟩⟩⟩⟩⟩⟩⟩⟩⟩⟩⟩⟩⟩⟩⟩
theorem ek_146_7 : ∀ x ∈ C_146_7, ai_EK ai_mt M_146 x := List.forall_mem_cons.mpr ⟨ek_4 (by decide +kernel) rfl hc_8_70, List.forall_mem_cons.mpr ⟨ek_2 (by decide +kernel) rfl rfl, List.forall_mem_cons.mpr ⟨ek_0 (by decide +kernel) rfl rfl, List.forall_mem_cons.mpr ⟨ek_0 (by decide +kernel) rfl rfl, List.forall_mem_cons.mpr ⟨ek_0 (by decide +kernel) rfl rfl, List.forall_mem_cons.mpr ⟨ek_0 (by decide +kernel) rfl rfl, List.forall_mem_cons.mpr ⟨ek_1 (by decide +kernel) rfl, List.forall_mem_cons.mpr ⟨ek_3 (by decide +kernel) rfl trivial, List.forall_mem_cons.mpr ⟨ek_0 (by decide +kernel) rfl rfl, List.forall_mem_cons.mpr ⟨ek_0 (by decide +kernel) rfl rfl, List.forall_mem_cons.mpr ⟨ek_0 (by decide +kernel) rfl rfl, List.forall_mem_cons.mpr ⟨ek_1 (by decide +kernel) rfl, List.forall_mem_cons.mpr ⟨ek_3 (by decide +kernel) rfl trivial, List.forall_mem_cons.mpr ⟨ek_4 (by decide +kernel) rfl hc_8_71, List.forall_mem_cons.mpr ⟨ek_0 (by decide +kernel) rfl rfl, List.forall_mem_cons.mpr ⟨ek_0 (by decide +kernel) rfl rfl, List.forall_mem_cons.mpr ⟨ek_0 (by decide +kernel) rfl rfl, List.forall_mem_cons.mpr ⟨ek_0 (by decide +kernel) rfl rfl, List.forall_mem_cons.mpr ⟨ek_1 (by decide +kernel) rfl, List.forall_mem_cons.mpr ⟨ek_3 (by decide +kernel) rfl trivial, List.forall_mem_cons.mpr ⟨ek_0 (by decide +kernel) rfl rfl, List.forall_mem_cons.mpr ⟨ek_0 (by decide +kernel) rfl rfl, List.forall_mem_cons.mpr ⟨ek_0 (by decide +kernel) rfl rfl, List.forall_mem_cons.mpr ⟨ek_1 (by decide +kernel) rfl, List.forall_mem_cons.mpr ⟨ek_3 (by decide +kernel) rfl trivial, List.forall_mem_cons.mpr ⟨ek_4 (by decide +kernel) rfl hc_8_74, List.forall_mem_cons.mpr ⟨ek_2 (by decide +kernel) rfl rfl, List.forall_mem_cons.mpr ⟨ek_0 (by decide +kernel) rfl rfl, List.forall_mem_cons.mpr ⟨ek_0 (by decide +kernel) rfl rfl, List.forall_mem_cons.mpr ⟨ek_0 (by decide +kernel) rfl rfl, List.forall_mem_cons.mpr ⟨ek_0 (by decide +kernel) rfl rfl, List.forall_mem_cons.mpr ⟨ek_1 (by decide +kernel) rfl, List.forall_mem_cons.mpr ⟨ek_3 (by decide +kernel) rfl trivial, List.forall_mem_cons.mpr ⟨ek_0 (by decide +kernel) rfl rfl, List.forall_mem_cons.mpr ⟨ek_0 (by decide +kernel) rfl rfl, List.forall_mem_cons.mpr ⟨ek_0 (by decide +kernel) rfl rfl, List.forall_mem_cons.mpr ⟨ek_1 (by decide +kernel) rfl, List.forall_mem_cons.mpr ⟨ek_3 (by decide +kernel) rfl trivial, List.forall_mem_cons.mpr ⟨ek_0 (by decide +kernel) rfl rfl, List.forall_mem_cons.mpr ⟨ek_0 (by decide +kernel) rfl rfl, List.forall_mem_cons.mpr ⟨ek_0 (by decide +kernel) rfl rfl, List.forall_mem_cons.mpr ⟨ek_1 (by decide +kernel) rfl, List.forall_mem_cons.mpr ⟨ek_3 (by decide +kernel) rfl trivial, List.forall_mem_cons.mpr ⟨ek_4 (by decide +kernel) rfl hc_8_75, List.forall_mem_cons.mpr ⟨ek_0 (by decide +kernel) rfl rfl, List.forall_mem_cons.mpr ⟨ek_0 (by decide +kernel) rfl rfl, List.forall_mem_cons.mpr ⟨ek_0 (by decide +kernel) rfl rfl, List.forall_mem_cons.mpr ⟨ek_0 (by decide +kernel) rfl rfl, List.forall_mem_cons.mpr ⟨ek_1 (by decide +kernel) rfl, List.forall_mem_cons.mpr ⟨ek_3 (by decide +kernel) rfl trivial, fun _ h => absurd h List.not_mem_nil⟩⟩⟩⟩⟩⟩⟩⟩⟩⟩⟩⟩⟩⟩⟩⟩⟩⟩⟩⟩⟩⟩⟩⟩⟩⟩⟩⟩⟩⟩⟩⟩⟩⟩⟩⟩⟩⟩⟩⟩⟩⟩⟩⟩⟩⟩⟩⟩⟩⟩
theorem ek_146_8 : ∀ x ∈ C_146_8, ai_EK ai_mt M_146 x := List.forall_mem_cons.mpr ⟨ek_0 (by decide +kernel) rfl rfl, List.forall_mem_cons.mpr ⟨ek_0 (by decide +kernel) rfl rfl, List.forall_mem_cons.mpr ⟨ek_0 (by decide +kernel) rfl rfl, List.forall_mem_cons.mpr ⟨ek_1 (by decide +kernel) rfl, List.forall_mem_cons.mpr ⟨ek_3 (by decide +kernel) rfl trivial, List.forall_mem_cons.mpr ⟨ek_0 (by decide +kernel) rfl rfl, List.forall_mem_cons.mpr ⟨ek_0 (by decide +kernel) rfl rfl, List.forall_mem_cons.mpr ⟨ek_0 (by decide +kernel) rfl rfl, List.forall_mem_cons.mpr ⟨ek_1 (by decide +kernel) rfl, List.forall_mem_cons.mpr ⟨ek_3 (by decide +kernel) rfl trivial, List.forall_mem_cons.mpr ⟨ek_4 (by decide +kernel) rfl hc_8_78, List.forall_mem_cons.mpr ⟨ek_2 (by decide +kernel) rfl rfl, List.forall_mem_cons.mpr ⟨ek_0 (by decide +kernel) rfl rfl, List.forall_mem_cons.mpr ⟨ek_0 (by decide +kernel) rfl rfl, List.forall_mem_cons.mpr ⟨ek_0 (by decide +kernel) rfl rfl, List.forall_mem_cons.mpr ⟨ek_0 (by decide +kernel) rfl rfl, List.forall_mem_cons.mpr ⟨ek_1 (by decide +kernel) rfl, List.forall_mem_cons.mpr ⟨ek_3 (by decide +kernel) rfl trivial, List.forall_mem_cons.mpr ⟨ek_0 (by decide +kernel) rfl rfl, List.forall_mem_cons.mpr ⟨ek_0 (by decide +kernel) rfl rfl, List.forall_mem_cons.mpr ⟨ek_0 (by decide +kernel) rfl rfl, List.forall_mem_cons.mpr ⟨ek_1 (by decide +kernel) rfl, List.forall_mem_cons.mpr ⟨ek_3 (by decide +kernel) rfl trivial, List.forall_mem_cons.mpr ⟨ek_4 (by decide +kernel) rfl hc_8_79, List.forall_mem_cons.mpr ⟨ek_0 (by decide +kernel) rfl rfl, List.forall_mem_cons.mpr ⟨ek_0 (by decide +kernel) rfl rfl, List.forall_mem_cons.mpr ⟨ek_0 (by decide +kernel) rfl rfl, List.forall_mem_cons.mpr ⟨ek_0 (by decide +kernel) rfl rfl, List.forall_mem_cons.mpr ⟨ek_1 (by decide +kernel) rfl, List.forall_mem_cons.mpr ⟨ek_3 (by decide +kernel) rfl trivial, List.forall_mem_cons.mpr ⟨ek_0 (by decide +kernel) rfl rfl, List.forall_mem_cons.mpr ⟨ek_0 (by decide +kernel) rfl rfl, List.forall_mem_cons.mpr ⟨ek_0 (by decide +kernel) rfl rfl, List.forall_mem_cons.mpr ⟨ek_1 (by decide +kernel) rfl, List.forall_mem_cons.mpr ⟨ek_3 (by decide +kernel) rfl trivial, List.forall_mem_cons.mpr ⟨ek_4 (by decide +kernel) rfl hc_8_82, List.forall_mem_cons.mpr ⟨ek_1 (by decide +kernel) rfl, List.forall_mem_cons.mpr ⟨ek_2 (by decide +kernel) rfl rfl, List.forall_mem_cons.mpr ⟨ek_0 (by decide +kernel) rfl rfl, List.forall_mem_cons.mpr ⟨ek_0 (by decide +kernel) rfl rfl, List.forall_mem_cons.mpr ⟨ek_0 (by decide +kernel) rfl rfl, List.forall_mem_cons.mpr ⟨ek_0 (by decide +kernel) rfl rfl, List.forall_mem_cons.mpr ⟨ek_1 (by decide +kernel) rfl, List.forall_mem_cons.mpr ⟨ek_3 (by decide +kernel) rfl trivial, List.forall_mem_cons.mpr ⟨ek_0 (by decide +kernel) rfl rfl, List.forall_mem_cons.mpr ⟨ek_0 (by decide +kernel) rfl rfl, List.forall_mem_cons.mpr ⟨ek_0 (by decide +kernel) rfl rfl, List.forall_mem_cons.mpr ⟨ek_1 (by decide +kernel) rfl, List.forall_mem_cons.mpr ⟨ek_3 (by decide +kernel) rfl trivial, List.forall_mem_cons.mpr ⟨ek_4 (by decide +kernel) rfl hc_8_83, fun _ h => absurd h List.not_mem_nil⟩⟩⟩⟩⟩⟩⟩⟩⟩⟩⟩⟩⟩⟩⟩⟩⟩⟩⟩⟩⟩⟩⟩⟩⟩⟩⟩⟩⟩⟩⟩⟩⟩⟩⟩⟩⟩⟩⟩⟩⟩⟩⟩⟩⟩⟩⟩⟩⟩⟩
theorem ek_146_9 : ∀ x ∈ C_146_9, ai_EK ai_mt M_146 x := List.forall_mem_cons.mpr ⟨ek_0 (by decide +kernel) rfl rfl, List.forall_mem_cons.mpr ⟨ek_0 (by decide +kernel) rfl rfl, List.forall_mem_cons.mpr ⟨ek_0 (by decide +kernel) rfl rfl, List.forall_mem_cons.mpr ⟨ek_0 (by decide +kernel) rfl rfl, List.forall_mem_cons.mpr ⟨ek_1 (by decide +kernel) rfl, List.forall_mem_cons.mpr ⟨ek_3 (by decide +kernel) rfl trivial, List.forall_mem_cons.mpr ⟨ek_0 (by decide +kernel) rfl rfl, List.forall_mem_cons.mpr ⟨ek_0 (by decide +kernel) rfl rfl, List.forall_mem_cons.mpr ⟨ek_0 (by decide +kernel) rfl rfl, List.forall_mem_cons.mpr ⟨ek_1 (by decide +kernel) rfl, List.forall_mem_cons.mpr ⟨ek_3 (by decide +kernel) rfl trivial, List.forall_mem_cons.mpr ⟨ek_4 (by decide +kernel) rfl hc_8_86, List.forall_mem_cons.mpr ⟨ek_2 (by decide +kernel) rfl rfl, List.forall_mem_cons.mpr ⟨ek_0 (by decide +kernel) rfl rfl, List.forall_mem_cons.mpr ⟨ek_0 (by decide +kernel) rfl rfl, List.forall_mem_cons.mpr ⟨ek_0 (by decide +kernel) rfl rfl, List.forall_mem_cons.mpr ⟨ek_0 (by decide +kernel) rfl rfl, List.forall_mem_cons.mpr ⟨ek_1 (by decide +kernel) rfl, List.forall_mem_cons.mpr ⟨ek_3 (by decide +kernel) rfl trivial, List.forall_mem_cons.mpr ⟨ek_0 (by decide +kernel) rfl rfl, List.forall_mem_cons.mpr ⟨ek_0 (by decide +kernel) rfl rfl, List.forall_mem_cons.mpr ⟨ek_0 (by decide +kernel) rfl rfl, List.forall_mem_cons.mpr ⟨ek_1 (by decide +kernel) rfl, List.forall_mem_cons.mpr ⟨ek_3 (by decide +kernel) rfl trivial, List.forall_mem_cons.mpr ⟨ek_0 (by decide +kernel) rfl rfl, List.forall_mem_cons.mpr ⟨ek_0 (by decide +kernel) rfl rfl, List.forall_mem_cons.mpr ⟨ek_0 (by decide +kernel) rfl rfl, List.forall_mem_cons.mpr ⟨ek_1 (by decide +kernel) rfl, List.forall_mem_cons.mpr ⟨ek_3 (by decide +kernel) rfl trivial, List.forall_mem_cons.mpr ⟨ek_4 (by decide +kernel) rfl hc_8_87, List.forall_mem_cons.mpr ⟨ek_0 (by decide +kernel) rfl rfl, List.forall_mem_cons.mpr ⟨ek_0 (by decide +kernel) rfl rfl, List.forall_mem_cons.mpr ⟨ek_0 (by decide +kernel) rfl rfl, List.forall_mem_cons.mpr ⟨ek_0 (by decide +kernel) rfl rfl, List.forall_mem_cons.mpr ⟨ek_1 (by decide +kernel) rfl, List.forall_mem_cons.mpr ⟨ek_3 (by decide +kernel) rfl trivial, List.forall_mem_cons.mpr ⟨ek_0 (by decide +kernel) rfl rfl, List.forall_mem_cons.mpr ⟨ek_0 (by decide +kernel) rfl rfl, List.forall_mem_cons.mpr ⟨ek_0 (by decide +kernel) rfl rfl, List.forall_mem_cons.mpr ⟨ek_1 (by decide +kernel) rfl, List.forall_mem_cons.mpr ⟨ek_3 (by decide +kernel) rfl trivial, List.forall_mem_cons.mpr ⟨ek_0 (by decide +kernel) rfl rfl, List.forall_mem_cons.mpr ⟨ek_0 (by decide +kernel) rfl rfl, List.forall_mem_cons.mpr ⟨ek_0 (by decide +kernel) rfl rfl, List.forall_mem_cons.mpr ⟨ek_1 (by decide +kernel) rfl, List.forall_mem_cons.mpr ⟨ek_3 (by decide +kernel) rfl trivial, List.forall_mem_cons.mpr ⟨ek_4 (by decide +kernel) rfl hc_8_91, List.forall_mem_cons.mpr ⟨ek_1 (by decide +kernel) rfl, List.forall_mem_cons.mpr ⟨ek_2 (by decide +kernel) rfl rfl, List.forall_mem_cons.mpr ⟨ek_0 (by decide +kernel) rfl rfl, fun _ h => absurd h List.not_mem_nil⟩⟩⟩⟩⟩⟩⟩⟩⟩⟩⟩⟩⟩⟩⟩⟩⟩⟩⟩⟩⟩⟩⟩⟩⟩⟩⟩⟩⟩⟩⟩⟩⟩⟩⟩⟩⟩⟩⟩⟩⟩⟩⟩⟩⟩⟩⟩⟩⟩⟩
theorem ek_146_10 : ∀ x ∈ C_146_10, ai_EK ai_mt M_146 x := List.forall_mem_cons.mpr ⟨ek_0 (by decide +kernel) rfl rfl, List.forall_mem_cons.mpr ⟨ek_0 (by decide +kernel) rfl rfl, List.forall_mem_cons.mpr ⟨ek_0 (by decide +kernel) rfl rfl, List.forall_mem_cons.mpr ⟨ek_1 (by decide +kernel) rfl, List.forall_mem_cons.mpr ⟨ek_3 (by decide +kernel) rfl trivial, List.forall_mem_cons.mpr ⟨ek_0 (by decide +kernel) rfl rfl, List.forall_mem_cons.mpr ⟨ek_0 (by decide +kernel) rfl rfl, List.forall_mem_cons.mpr ⟨ek_0 (by decide +kernel) rfl rfl, List.forall_mem_cons.mpr ⟨ek_1 (by decide +kernel) rfl, List.forall_mem_cons.mpr ⟨ek_3 (by decide +kernel) rfl trivial, List.forall_mem_cons.mpr ⟨ek_0 (by decide +kernel) rfl rfl, List.forall_mem_cons.mpr ⟨ek_0 (by decide +kernel) rfl rfl, List.forall_mem_cons.mpr ⟨ek_0 (by decide +kernel) rfl rfl, List.forall_mem_cons.mpr ⟨ek_1 (by decide +kernel) rfl, List.forall_mem_cons.mpr ⟨ek_3 (by decide +kernel) rfl trivial, List.forall_mem_cons.mpr ⟨ek_2 (by decide +kernel) rfl rfl, List.forall_mem_cons.mpr ⟨ek_0 (by decide +kernel) rfl rfl, List.forall_mem_cons.mpr ⟨ek_2 (by decide +kernel) rfl rfl, List.forall_mem_cons.mpr ⟨ek_0 (by decide +kernel) rfl rfl, List.forall_mem_cons.mpr ⟨ek_4 (by decide +kernel) rfl hc_8_92, List.forall_mem_cons.mpr ⟨ek_0 (by decide +kernel) rfl rfl, List.forall_mem_cons.mpr ⟨ek_0 (by decide +kernel) rfl rfl, List.forall_mem_cons.mpr ⟨ek_0 (by decide +kernel) rfl rfl, List.forall_mem_cons.mpr ⟨ek_0 (by decide +kernel) rfl rfl, List.forall_mem_cons.mpr ⟨ek_1 (by decide +kernel) rfl, List.forall_mem_cons.mpr ⟨ek_3 (by decide +kernel) rfl trivial, List.forall_mem_cons.mpr ⟨ek_0 (by decide +kernel) rfl rfl, List.forall_mem_cons.mpr ⟨ek_0 (by decide +kernel) rfl rfl, List.forall_mem_cons.mpr ⟨ek_0 (by decide +kernel) rfl rfl, List.forall_mem_cons.mpr ⟨ek_1 (by decide +kernel) rfl, List.forall_mem_cons.mpr ⟨ek_3 (by decide +kernel) rfl trivial, List.forall_mem_cons.mpr ⟨ek_0 (by decide +kernel) rfl rfl, List.forall_mem_cons.mpr ⟨ek_0 (by decide +kernel) rfl rfl, List.forall_mem_cons.mpr ⟨ek_0 (by decide +kernel) rfl rfl, List.forall_mem_cons.mpr ⟨ek_1 (by decide +kernel) rfl, List.forall_mem_cons.mpr ⟨ek_3 (by decide +kernel) rfl trivial, List.forall_mem_cons.mpr ⟨ek_2 (by decide +kernel) rfl rfl, List.forall_mem_cons.mpr ⟨ek_0 (by decide +kernel) rfl rfl, List.forall_mem_cons.mpr ⟨ek_2 (by decide +kernel) rfl rfl, List.forall_mem_cons.mpr ⟨ek_0 (by decide +kernel) rfl rfl, List.forall_mem_cons.mpr ⟨ek_4 (by decide +kernel) rfl hc_8_96, List.forall_mem_cons.mpr ⟨ek_2 (by decide +kernel) rfl rfl, List.forall_mem_cons.mpr ⟨ek_0 (by decide +kernel) rfl rfl, List.forall_mem_cons.mpr ⟨ek_0 (by decide +kernel) rfl rfl, List.forall_mem_cons.mpr ⟨ek_0 (by decide +kernel) rfl rfl, List.forall_mem_cons.mpr ⟨ek_0 (by decide +kernel) rfl rfl, List.forall_mem_cons.mpr ⟨ek_1 (by decide +kernel) rfl, List.forall_mem_cons.mpr ⟨ek_3 (by decide +kernel) rfl trivial, List.forall_mem_cons.mpr ⟨ek_0 (by decide +kernel) rfl rfl, List.forall_mem_cons.mpr ⟨ek_0 (by decide +kernel) rfl rfl, fun _ h => absurd h List.not_mem_nil⟩⟩⟩⟩⟩⟩⟩⟩⟩⟩⟩⟩⟩⟩⟩⟩⟩⟩⟩⟩⟩⟩⟩⟩⟩⟩⟩⟩⟩⟩⟩⟩⟩⟩⟩⟩⟩⟩⟩⟩⟩⟩⟩⟩⟩⟩⟩⟩⟩⟩
theorem ek_146_11 : ∀ x ∈ C_146_11, ai_EK ai_mt M_146 x := List.forall_mem_cons.mpr ⟨ek_0 (by decide +kernel) rfl rfl, List.forall_mem_cons.mpr ⟨ek_1 (by decide +kernel) rfl, List.forall_mem_cons.mpr ⟨ek_3 (by decide +kernel) rfl trivial, List.forall_mem_cons.mpr ⟨ek_0 (by decide +kernel) rfl rfl, List.forall_mem_cons.mpr ⟨ek_0 (by decide +kernel) rfl rfl, List.forall_mem_cons.mpr ⟨ek_0 (by decide +kernel) rfl rfl, List.forall_mem_cons.mpr ⟨ek_1 (by decide +kernel) rfl, List.forall_mem_cons.mpr ⟨ek_3 (by decide +kernel) rfl trivial, List.forall_mem_cons.mpr ⟨ek_4 (by decide +kernel) rfl hc_8_97, List.forall_mem_cons.mpr ⟨ek_0 (by decide +kernel) rfl rfl, List.forall_mem_cons.mpr ⟨ek_0 (by decide +kernel) rfl rfl, List.forall_mem_cons.mpr ⟨ek_0 (by decide +kernel) rfl rfl, List.forall_mem_cons.mpr ⟨ek_0 (by decide +kernel) rfl rfl, List.forall_mem_cons.mpr ⟨ek_1 (by decide +kernel) rfl, List.forall_mem_cons.mpr ⟨ek_3 (by decide +kernel) rfl trivial, List.forall_mem_cons.mpr ⟨ek_0 (by decide +kernel) rfl rfl, List.forall_mem_cons.mpr ⟨ek_0 (by decide +kernel) rfl rfl, List.forall_mem_cons.mpr ⟨ek_0 (by decide +kernel) rfl rfl, List.forall_mem_cons.mpr ⟨ek_1 (by decide +kernel) rfl, List.forall_mem_cons.mpr ⟨ek_3 (by decide +kernel) rfl trivial, List.forall_mem_cons.mpr ⟨ek_0 (by decide +kernel) rfl rfl, List.forall_mem_cons.mpr ⟨ek_0 (by decide +kernel) rfl rfl, List.forall_mem_cons.mpr ⟨ek_0 (by decide +kernel) rfl rfl, List.forall_mem_cons.mpr ⟨ek_1 (by decide +kernel) rfl, List.forall_mem_cons.mpr ⟨ek_3 (by decide +kernel) rfl trivial, List.forall_mem_cons.mpr ⟨ek_4 (by decide +kernel) rfl hc_8_100, List.forall_mem_cons.mpr ⟨ek_2 (by decide +kernel) rfl rfl, List.forall_mem_cons.mpr ⟨ek_0 (by decide +kernel) rfl rfl, List.forall_mem_cons.mpr ⟨ek_0 (by decide +kernel) rfl rfl, List.forall_mem_cons.mpr ⟨ek_0 (by decide +kernel) rfl rfl, List.forall_mem_cons.mpr ⟨ek_0 (by decide +kernel) rfl rfl, List.forall_mem_cons.mpr ⟨ek_1 (by decide +kernel) rfl, List.forall_mem_cons.mpr ⟨ek_3 (by decide +kernel) rfl trivial, List.forall_mem_cons.mpr ⟨ek_0 (by decide +kernel) rfl rfl, List.forall_mem_cons.mpr ⟨ek_0 (by decide +kernel) rfl rfl, List.forall_mem_cons.mpr ⟨ek_0 (by decide +kernel) rfl rfl, List.forall_mem_cons.mpr ⟨ek_1 (by decide +kernel) rfl, List.forall_mem_cons.mpr ⟨ek_3 (by decide +kernel) rfl trivial, List.forall_mem_cons.mpr ⟨ek_0 (by decide +kernel) rfl rfl, List.forall_mem_cons.mpr ⟨ek_0 (by decide +kernel) rfl rfl, List.forall_mem_cons.mpr ⟨ek_0 (by decide +kernel) rfl rfl, List.forall_mem_cons.mpr ⟨ek_1 (by decide +kernel) rfl, List.forall_mem_cons.mpr ⟨ek_3 (by decide +kernel) rfl trivial, List.forall_mem_cons.mpr ⟨ek_4 (by decide +kernel) rfl hc_8_101, List.forall_mem_cons.mpr ⟨ek_0 (by decide +kernel) rfl rfl, List.forall_mem_cons.mpr ⟨ek_0 (by decide +kernel) rfl rfl, List.forall_mem_cons.mpr ⟨ek_0 (by decide +kernel) rfl rfl, List.forall_mem_cons.mpr ⟨ek_0 (by decide +kernel) rfl rfl, List.forall_mem_cons.mpr ⟨ek_1 (by decide +kernel) rfl, List.forall_mem_cons.mpr ⟨ek_3 (by decide +kernel) rfl trivial, fun _ h => absurd h List.not_mem_nil⟩⟩⟩⟩⟩⟩⟩⟩⟩⟩⟩⟩⟩⟩⟩⟩⟩⟩⟩⟩⟩⟩⟩⟩⟩⟩⟩⟩⟩⟩⟩⟩⟩⟩⟩⟩⟩⟩⟩⟩⟩⟩⟩⟩⟩⟩⟩⟩⟩⟩
end
section
/-! ===== the code is so, 2 ===== -/
theorem ek_146_12 : ∀ x ∈ C_146_12, ai_EK ai_mt M_146 x := List.forall_mem_cons.mpr ⟨ek_0 (by decide +kernel) rfl rfl, List.forall_mem_cons.mpr ⟨ek_0 (by decide +kernel) rfl rfl, List.forall_mem_cons.mpr ⟨ek_0 (by decide +kernel) rfl rfl, List.forall_mem_cons.mpr ⟨ek_1 (by decide +kernel) rfl, List.forall_mem_cons.mpr ⟨ek_3 (by decide +kernel) rfl trivial, List.forall_mem_cons.mpr ⟨ek_0 (by decide +kernel) rfl rfl, List.forall_mem_cons.mpr ⟨ek_0 (by decide +kernel) rfl rfl, List.forall_mem_cons.mpr ⟨ek_0 (by decide +kernel) rfl rfl, List.forall_mem_cons.mpr ⟨ek_1 (by decide +kernel) rfl, List.forall_mem_cons.mpr ⟨ek_3 (by decide +kernel) rfl trivial, List.forall_mem_cons.mpr ⟨ek_4 (by decide +kernel) rfl hc_8_104, List.forall_mem_cons.mpr ⟨ek_2 (by decide +kernel) rfl rfl, List.forall_mem_cons.mpr ⟨ek_0 (by decide +kernel) rfl rfl, List.forall_mem_cons.mpr ⟨ek_0 (by decide +kernel) rfl rfl, List.forall_mem_cons.mpr ⟨ek_0 (by decide +kernel) rfl rfl, List.forall_mem_cons.mpr ⟨ek_0 (by decide +kernel) rfl rfl, List.forall_mem_cons.mpr ⟨ek_1 (by decide +kernel) rfl, List.forall_mem_cons.mpr ⟨ek_3 (by decide +kernel) rfl trivial, List.forall_mem_cons.mpr ⟨ek_0 (by decide +kernel) rfl rfl, List.forall_mem_cons.mpr ⟨ek_0 (by decide +kernel) rfl rfl, List.forall_mem_cons.mpr ⟨ek_0 (by decide +kernel) rfl rfl, List.forall_mem_cons.mpr ⟨ek_1 (by decide +kernel) rfl, List.forall_mem_cons.mpr ⟨ek_3 (by decide +kernel) rfl trivial, List.forall_mem_cons.mpr ⟨ek_4 (by decide +kernel) rfl hc_8_105, List.forall_mem_cons.mpr ⟨ek_0 (by decide +kernel) rfl rfl, List.forall_mem_cons.mpr ⟨ek_0 (by decide +kernel) rfl rfl, List.forall_mem_cons.mpr ⟨ek_0 (by decide +kernel) rfl rfl, List.forall_mem_cons.mpr ⟨ek_0 (by decide +kernel) rfl rfl, List.forall_mem_cons.mpr ⟨ek_1 (by decide +kernel) rfl, List.forall_mem_cons.mpr ⟨ek_3 (by decide +kernel) rfl trivial, List.forall_mem_cons.mpr ⟨ek_0 (by decide +kernel) rfl rfl, List.forall_mem_cons.mpr ⟨ek_0 (by decide +kernel) rfl rfl, List.forall_mem_cons.mpr ⟨ek_0 (by decide +kernel) rfl rfl, List.forall_mem_cons.mpr ⟨ek_1 (by decide +kernel) rfl, List.forall_mem_cons.mpr ⟨ek_3 (by decide +kernel) rfl trivial, List.forall_mem_cons.mpr ⟨ek_4 (by decide +kernel) rfl hc_8_108, List.forall_mem_cons.mpr ⟨ek_2 (by decide +kernel) rfl rfl, List.forall_mem_cons.mpr ⟨ek_0 (by decide +kernel) rfl rfl, List.forall_mem_cons.mpr ⟨ek_0 (by decide +kernel) rfl rfl, List.forall_mem_cons.mpr ⟨ek_0 (by decide +kernel) rfl rfl, List.forall_mem_cons.mpr ⟨ek_0 (by decide +kernel) rfl rfl, List.forall_mem_cons.mpr ⟨ek_1 (by decide +kernel) rfl, List.forall_mem_cons.mpr ⟨ek_3 (by decide +kernel) rfl trivial, List.forall_mem_cons.mpr ⟨ek_0 (by decide +kernel) rfl rfl, List.forall_mem_cons.mpr ⟨ek_0 (by decide +kernel) rfl rfl, List.forall_mem_cons.mpr ⟨ek_0 (by decide +kernel) rfl rfl, List.forall_mem_cons.mpr ⟨ek_1 (by decide +kernel) rfl, List.forall_mem_cons.mpr ⟨ek_3 (by decide +kernel) rfl trivial, List.forall_mem_cons.mpr ⟨ek_0 (by decide +kernel) rfl rfl, List.forall_mem_cons.mpr ⟨ek_0 (by decide +kernel) rfl rfl, fun _ h => absurd h List.not_mem_nil⟩⟩⟩⟩⟩⟩⟩⟩⟩⟩⟩⟩⟩⟩⟩⟩⟩⟩⟩⟩⟩⟩⟩⟩⟩⟩⟩⟩⟩⟩⟩⟩⟩⟩⟩⟩⟩⟩⟩⟩⟩⟩⟩⟩⟩⟩⟩⟩⟩⟩
theorem ek_146_13 : ∀ x ∈ C_146_13, ai_EK ai_mt M_146 x := List.forall_mem_cons.mpr ⟨ek_0 (by decide +kernel) rfl rfl, List.forall_mem_cons.mpr ⟨ek_1 (by decide +kernel) rfl, List.forall_mem_cons.mpr ⟨ek_3 (by decide +kernel) rfl trivial, List.forall_mem_cons.mpr ⟨ek_4 (by decide +kernel) rfl hc_8_109, List.forall_mem_cons.mpr ⟨ek_0 (by decide +kernel) rfl rfl, List.forall_mem_cons.mpr ⟨ek_0 (by decide +kernel) rfl rfl, List.forall_mem_cons.mpr ⟨ek_0 (by decide +kernel) rfl rfl, List.forall_mem_cons.mpr ⟨ek_0 (by decide +kernel) rfl rfl, List.forall_mem_cons.mpr ⟨ek_1 (by decide +kernel) rfl, List.forall_mem_cons.mpr ⟨ek_3 (by decide +kernel) rfl trivial, List.forall_mem_cons.mpr ⟨ek_0 (by decide +kernel) rfl rfl, List.forall_mem_cons.mpr ⟨ek_0 (by decide +kernel) rfl rfl, List.forall_mem_cons.mpr ⟨ek_0 (by decide +kernel) rfl rfl, List.forall_mem_cons.mpr ⟨ek_1 (by decide +kernel) rfl, List.forall_mem_cons.mpr ⟨ek_3 (by decide +kernel) rfl trivial, List.forall_mem_cons.mpr ⟨ek_0 (by decide +kernel) rfl rfl, List.forall_mem_cons.mpr ⟨ek_0 (by decide +kernel) rfl rfl, List.forall_mem_cons.mpr ⟨ek_0 (by decide +kernel) rfl rfl, List.forall_mem_cons.mpr ⟨ek_1 (by decide +kernel) rfl, List.forall_mem_cons.mpr ⟨ek_3 (by decide +kernel) rfl trivial, List.forall_mem_cons.mpr ⟨ek_4 (by decide +kernel) rfl hc_8_112, List.forall_mem_cons.mpr ⟨ek_2 (by decide +kernel) rfl rfl, List.forall_mem_cons.mpr ⟨ek_0 (by decide +kernel) rfl rfl, List.forall_mem_cons.mpr ⟨ek_0 (by decide +kernel) rfl rfl, List.forall_mem_cons.mpr ⟨ek_0 (by decide +kernel) rfl rfl, List.forall_mem_cons.mpr ⟨ek_0 (by decide +kernel) rfl rfl, List.forall_mem_cons.mpr ⟨ek_1 (by decide +kernel) rfl, List.forall_mem_cons.mpr ⟨ek_3 (by decide +kernel) rfl trivial, List.forall_mem_cons.mpr ⟨ek_0 (by decide +kernel) rfl rfl, List.forall_mem_cons.mpr ⟨ek_0 (by decide +kernel) rfl rfl, List.forall_mem_cons.mpr ⟨ek_0 (by decide +kernel) rfl rfl, List.forall_mem_cons.mpr ⟨ek_1 (by decide +kernel) rfl, List.forall_mem_cons.mpr ⟨ek_3 (by decide +kernel) rfl trivial, List.forall_mem_cons.mpr ⟨ek_0 (by decide +kernel) rfl rfl, List.forall_mem_cons.mpr ⟨ek_0 (by decide +kernel) rfl rfl, List.forall_mem_cons.mpr ⟨ek_0 (by decide +kernel) rfl rfl, List.forall_mem_cons.mpr ⟨ek_1 (by decide +kernel) rfl, List.forall_mem_cons.mpr ⟨ek_3 (by decide +kernel) rfl trivial, List.forall_mem_cons.mpr ⟨ek_4 (by decide +kernel) rfl hc_8_113, List.forall_mem_cons.mpr ⟨ek_0 (by decide +kernel) rfl rfl, List.forall_mem_cons.mpr ⟨ek_0 (by decide +kernel) rfl rfl, List.forall_mem_cons.mpr ⟨ek_0 (by decide +kernel) rfl rfl, List.forall_mem_cons.mpr ⟨ek_0 (by decide +kernel) rfl rfl, List.forall_mem_cons.mpr ⟨ek_1 (by decide +kernel) rfl, List.forall_mem_cons.mpr ⟨ek_3 (by decide +kernel) rfl trivial, List.forall_mem_cons.mpr ⟨ek_0 (by decide +kernel) rfl rfl, List.forall_mem_cons.mpr ⟨ek_0 (by decide +kernel) rfl rfl, List.forall_mem_cons.mpr ⟨ek_0 (by decide +kernel) rfl rfl, List.forall_mem_cons.mpr ⟨ek_1 (by decide +kernel) rfl, List.forall_mem_cons.mpr ⟨ek_3 (by decide +kernel) rfl trivial, fun _ h => absurd h List.not_mem_nil⟩⟩⟩⟩⟩⟩⟩⟩⟩⟩⟩⟩⟩⟩⟩⟩⟩⟩⟩⟩⟩⟩⟩⟩⟩⟩⟩⟩⟩⟩⟩⟩⟩⟩⟩⟩⟩⟩⟩⟩⟩⟩⟩⟩⟩⟩⟩⟩⟩⟩
theorem ek_146_14 : ∀ x ∈ C_146_14, ai_EK ai_mt M_146 x := List.forall_mem_cons.mpr ⟨ek_0 (by decide +kernel) rfl rfl, List.forall_mem_cons.mpr ⟨ek_0 (by decide +kernel) rfl rfl, List.forall_mem_cons.mpr ⟨ek_0 (by decide +kernel) rfl rfl, List.forall_mem_cons.mpr ⟨ek_1 (by decide +kernel) rfl, List.forall_mem_cons.mpr ⟨ek_3 (by decide +kernel) rfl trivial, List.forall_mem_cons.mpr ⟨ek_4 (by decide +kernel) rfl hc_8_116, List.forall_mem_cons.mpr ⟨ek_2 (by decide +kernel) rfl rfl, List.forall_mem_cons.mpr ⟨ek_0 (by decide +kernel) rfl rfl, List.forall_mem_cons.mpr ⟨ek_0 (by decide +kernel) rfl rfl, List.forall_mem_cons.mpr ⟨ek_0 (by decide +kernel) rfl rfl, List.forall_mem_cons.mpr ⟨ek_0 (by decide +kernel) rfl rfl, List.forall_mem_cons.mpr ⟨ek_1 (by decide +kernel) rfl, List.forall_mem_cons.mpr ⟨ek_3 (by decide +kernel) rfl trivial, List.forall_mem_cons.mpr ⟨ek_0 (by decide +kernel) rfl rfl, List.forall_mem_cons.mpr ⟨ek_0 (by decide +kernel) rfl rfl, List.forall_mem_cons.mpr ⟨ek_0 (by decide +kernel) rfl rfl, List.forall_mem_cons.mpr ⟨ek_1 (by decide +kernel) rfl, List.forall_mem_cons.mpr ⟨ek_3 (by decide +kernel) rfl trivial, List.forall_mem_cons.mpr ⟨ek_0 (by decide +kernel) rfl rfl, List.forall_mem_cons.mpr ⟨ek_0 (by decide +kernel) rfl rfl, List.forall_mem_cons.mpr ⟨ek_0 (by decide +kernel) rfl rfl, List.forall_mem_cons.mpr ⟨ek_1 (by decide +kernel) rfl, List.forall_mem_cons.mpr ⟨ek_3 (by decide +kernel) rfl trivial, List.forall_mem_cons.mpr ⟨ek_0 (by decide +kernel) rfl rfl, List.forall_mem_cons.mpr ⟨ek_0 (by decide +kernel) rfl rfl, List.forall_mem_cons.mpr ⟨ek_0 (by decide +kernel) rfl rfl, List.forall_mem_cons.mpr ⟨ek_1 (by decide +kernel) rfl, List.forall_mem_cons.mpr ⟨ek_3 (by decide +kernel) rfl trivial, List.forall_mem_cons.mpr ⟨ek_4 (by decide +kernel) rfl hc_8_117, List.forall_mem_cons.mpr ⟨ek_0 (by decide +kernel) rfl rfl, List.forall_mem_cons.mpr ⟨ek_0 (by decide +kernel) rfl rfl, List.forall_mem_cons.mpr ⟨ek_0 (by decide +kernel) rfl rfl, List.forall_mem_cons.mpr ⟨ek_0 (by decide +kernel) rfl rfl, List.forall_mem_cons.mpr ⟨ek_1 (by decide +kernel) rfl, List.forall_mem_cons.mpr ⟨ek_3 (by decide +kernel) rfl trivial, List.forall_mem_cons.mpr ⟨ek_0 (by decide +kernel) rfl rfl, List.forall_mem_cons.mpr ⟨ek_0 (by decide +kernel) rfl rfl, List.forall_mem_cons.mpr ⟨ek_0 (by decide +kernel) rfl rfl, List.forall_mem_cons.mpr ⟨ek_1 (by decide +kernel) rfl, List.forall_mem_cons.mpr ⟨ek_3 (by decide +kernel) rfl trivial, List.forall_mem_cons.mpr ⟨ek_0 (by decide +kernel) rfl rfl, List.forall_mem_cons.mpr ⟨ek_0 (by decide +kernel) rfl rfl, List.forall_mem_cons.mpr ⟨ek_0 (by decide +kernel) rfl rfl, List.forall_mem_cons.mpr ⟨ek_1 (by decide +kernel) rfl, List.forall_mem_cons.mpr ⟨ek_3 (by decide +kernel) rfl trivial, List.forall_mem_cons.mpr ⟨ek_0 (by decide +kernel) rfl rfl, List.forall_mem_cons.mpr ⟨ek_0 (by decide +kernel) rfl rfl, List.forall_mem_cons.mpr ⟨ek_0 (by decide +kernel) rfl rfl, List.forall_mem_cons.mpr ⟨ek_1 (by decide +kernel) rfl, List.forall_mem_cons.mpr ⟨ek_3 (by decide +kernel) rfl trivial, fun _ h => absurd h List.not_mem_nil⟩⟩⟩⟩⟩⟩⟩⟩⟩⟩⟩⟩⟩⟩⟩⟩⟩⟩⟩⟩⟩⟩⟩⟩⟩⟩⟩⟩⟩⟩⟩⟩⟩⟩⟩⟩⟩⟩⟩⟩⟩⟩⟩⟩⟩⟩⟩⟩⟩⟩
theorem ek_146_15 : ∀ x ∈ C_146_15, ai_EK ai_mt M_146 x := List.forall_mem_cons.mpr ⟨ek_4 (by decide +kernel) rfl hc_8_120, List.forall_mem_cons.mpr ⟨ek_2 (by decide +kernel) rfl rfl, List.forall_mem_cons.mpr ⟨ek_0 (by decide +kernel) rfl rfl, List.forall_mem_cons.mpr ⟨ek_0 (by decide +kernel) rfl rfl, List.forall_mem_cons.mpr ⟨ek_0 (by decide +kernel) rfl rfl, List.forall_mem_cons.mpr ⟨ek_0 (by decide +kernel) rfl rfl, List.forall_mem_cons.mpr ⟨ek_1 (by decide +kernel) rfl, List.forall_mem_cons.mpr ⟨ek_3 (by decide +kernel) rfl trivial, List.forall_mem_cons.mpr ⟨ek_0 (by decide +kernel) rfl rfl, List.forall_mem_cons.mpr ⟨ek_0 (by decide +kernel) rfl rfl, List.forall_mem_cons.mpr ⟨ek_0 (by decide +kernel) rfl rfl, List.forall_mem_cons.mpr ⟨ek_1 (by decide +kernel) rfl, List.forall_mem_cons.mpr ⟨ek_3 (by decide +kernel) rfl trivial, List.forall_mem_cons.mpr ⟨ek_0 (by decide +kernel) rfl rfl, List.forall_mem_cons.mpr ⟨ek_0 (by decide +kernel) rfl rfl, List.forall_mem_cons.mpr ⟨ek_0 (by decide +kernel) rfl rfl, List.forall_mem_cons.mpr ⟨ek_1 (by decide +kernel) rfl, List.forall_mem_cons.mpr ⟨ek_3 (by decide +kernel) rfl trivial, List.forall_mem_cons.mpr ⟨ek_4 (by decide +kernel) rfl hc_8_121, List.forall_mem_cons.mpr ⟨ek_0 (by decide +kernel) rfl rfl, List.forall_mem_cons.mpr ⟨ek_0 (by decide +kernel) rfl rfl, List.forall_mem_cons.mpr ⟨ek_0 (by decide +kernel) rfl rfl, List.forall_mem_cons.mpr ⟨ek_0 (by decide +kernel) rfl rfl, List.forall_mem_cons.mpr ⟨ek_1 (by decide +kernel) rfl, List.forall_mem_cons.mpr ⟨ek_3 (by decide +kernel) rfl trivial, List.forall_mem_cons.mpr ⟨ek_0 (by decide +kernel) rfl rfl, List.forall_mem_cons.mpr ⟨ek_0 (by decide +kernel) rfl rfl, List.forall_mem_cons.mpr ⟨ek_0 (by decide +kernel) rfl rfl, List.forall_mem_cons.mpr ⟨ek_1 (by decide +kernel) rfl, List.forall_mem_cons.mpr ⟨ek_3 (by decide +kernel) rfl trivial, List.forall_mem_cons.mpr ⟨ek_0 (by decide +kernel) rfl rfl, List.forall_mem_cons.mpr ⟨ek_0 (by decide +kernel) rfl rfl, List.forall_mem_cons.mpr ⟨ek_0 (by decide +kernel) rfl rfl, List.forall_mem_cons.mpr ⟨ek_1 (by decide +kernel) rfl, List.forall_mem_cons.mpr ⟨ek_3 (by decide +kernel) rfl trivial, List.forall_mem_cons.mpr ⟨ek_4 (by decide +kernel) rfl hc_8_124, List.forall_mem_cons.mpr ⟨ek_2 (by decide +kernel) rfl rfl, List.forall_mem_cons.mpr ⟨ek_0 (by decide +kernel) rfl rfl, List.forall_mem_cons.mpr ⟨ek_0 (by decide +kernel) rfl rfl, List.forall_mem_cons.mpr ⟨ek_0 (by decide +kernel) rfl rfl, List.forall_mem_cons.mpr ⟨ek_0 (by decide +kernel) rfl rfl, List.forall_mem_cons.mpr ⟨ek_1 (by decide +kernel) rfl, List.forall_mem_cons.mpr ⟨ek_3 (by decide +kernel) rfl trivial, List.forall_mem_cons.mpr ⟨ek_0 (by decide +kernel) rfl rfl, List.forall_mem_cons.mpr ⟨ek_0 (by decide +kernel) rfl rfl, List.forall_mem_cons.mpr ⟨ek_0 (by decide +kernel) rfl rfl, List.forall_mem_cons.mpr ⟨ek_1 (by decide +kernel) rfl, List.forall_mem_cons.mpr ⟨ek_3 (by decide +kernel) rfl trivial, List.forall_mem_cons.mpr ⟨ek_4 (by decide +kernel) rfl hc_8_125, List.forall_mem_cons.mpr ⟨ek_0 (by decide +kernel) rfl rfl, fun _ h => absurd h List.not_mem_nil⟩⟩⟩⟩⟩⟩⟩⟩⟩⟩⟩⟩⟩⟩⟩⟩⟩⟩⟩⟩⟩⟩⟩⟩⟩⟩⟩⟩⟩⟩⟩⟩⟩⟩⟩⟩⟩⟩⟩⟩⟩⟩⟩⟩⟩⟩⟩⟩⟩⟩
theorem ek_146_16 : ∀ x ∈ C_146_16, ai_EK ai_mt M_146 x := List.forall_mem_cons.mpr ⟨ek_0 (by decide +kernel) rfl rfl, List.forall_mem_cons.mpr ⟨ek_0 (by decide +kernel) rfl rfl, List.forall_mem_cons.mpr ⟨ek_0 (by decide +kernel) rfl rfl, List.forall_mem_cons.mpr ⟨ek_1 (by decide +kernel) rfl, List.forall_mem_cons.mpr ⟨ek_3 (by decide +kernel) rfl trivial, List.forall_mem_cons.mpr ⟨ek_0 (by decide +kernel) rfl rfl, List.forall_mem_cons.mpr ⟨ek_0 (by decide +kernel) rfl rfl, List.forall_mem_cons.mpr ⟨ek_0 (by decide +kernel) rfl rfl, List.forall_mem_cons.mpr ⟨ek_1 (by decide +kernel) rfl, List.forall_mem_cons.mpr ⟨ek_3 (by decide +kernel) rfl trivial, List.forall_mem_cons.mpr ⟨ek_4 (by decide +kernel) rfl hc_8_128, List.forall_mem_cons.mpr ⟨ek_2 (by decide +kernel) rfl rfl, List.forall_mem_cons.mpr ⟨ek_0 (by decide +kernel) rfl rfl, List.forall_mem_cons.mpr ⟨ek_0 (by decide +kernel) rfl rfl, List.forall_mem_cons.mpr ⟨ek_0 (by decide +kernel) rfl rfl, List.forall_mem_cons.mpr ⟨ek_0 (by decide +kernel) rfl rfl, List.forall_mem_cons.mpr ⟨ek_1 (by decide +kernel) rfl, List.forall_mem_cons.mpr ⟨ek_3 (by decide +kernel) rfl trivial, List.forall_mem_cons.mpr ⟨ek_0 (by decide +kernel) rfl rfl, List.forall_mem_cons.mpr ⟨ek_0 (by decide +kernel) rfl rfl, List.forall_mem_cons.mpr ⟨ek_0 (by decide +kernel) rfl rfl, List.forall_mem_cons.mpr ⟨ek_1 (by decide +kernel) rfl, List.forall_mem_cons.mpr ⟨ek_3 (by decide +kernel) rfl trivial, List.forall_mem_cons.mpr ⟨ek_4 (by decide +kernel) rfl hc_8_129, List.forall_mem_cons.mpr ⟨ek_0 (by decide +kernel) rfl rfl, List.forall_mem_cons.mpr ⟨ek_0 (by decide +kernel) rfl rfl, List.forall_mem_cons.mpr ⟨ek_0 (by decide +kernel) rfl rfl, List.forall_mem_cons.mpr ⟨ek_0 (by decide +kernel) rfl rfl, List.forall_mem_cons.mpr ⟨ek_1 (by decide +kernel) rfl, List.forall_mem_cons.mpr ⟨ek_3 (by decide +kernel) rfl trivial, List.forall_mem_cons.mpr ⟨ek_0 (by decide +kernel) rfl rfl, List.forall_mem_cons.mpr ⟨ek_0 (by decide +kernel) rfl rfl, List.forall_mem_cons.mpr ⟨ek_0 (by decide +kernel) rfl rfl, List.forall_mem_cons.mpr ⟨ek_1 (by decide +kernel) rfl, List.forall_mem_cons.mpr ⟨ek_3 (by decide +kernel) rfl trivial, List.forall_mem_cons.mpr ⟨ek_4 (by decide +kernel) rfl hc_8_132, List.forall_mem_cons.mpr ⟨ek_2 (by decide +kernel) rfl rfl, List.forall_mem_cons.mpr ⟨ek_0 (by decide +kernel) rfl rfl, List.forall_mem_cons.mpr ⟨ek_0 (by decide +kernel) rfl rfl, List.forall_mem_cons.mpr ⟨ek_0 (by decide +kernel) rfl rfl, List.forall_mem_cons.mpr ⟨ek_0 (by decide +kernel) rfl rfl, List.forall_mem_cons.mpr ⟨ek_1 (by decide +kernel) rfl, List.forall_mem_cons.mpr ⟨ek_3 (by decide +kernel) rfl trivial, List.forall_mem_cons.mpr ⟨ek_0 (by decide +kernel) rfl rfl, List.forall_mem_cons.mpr ⟨ek_0 (by decide +kernel) rfl rfl, List.forall_mem_cons.mpr ⟨ek_0 (by decide +kernel) rfl rfl, List.forall_mem_cons.mpr ⟨ek_1 (by decide +kernel) rfl, List.forall_mem_cons.mpr ⟨ek_3 (by decide +kernel) rfl trivial, List.forall_mem_cons.mpr ⟨ek_4 (by decide +kernel) rfl hc_8_133, List.forall_mem_cons.mpr ⟨ek_0 (by decide +kernel) rfl rfl, fun _ h => absurd h List.not_mem_nil⟩⟩⟩⟩⟩⟩⟩⟩⟩⟩⟩⟩⟩⟩⟩⟩⟩⟩⟩⟩⟩⟩⟩⟩⟩⟩⟩⟩⟩⟩⟩⟩⟩⟩⟩⟩⟩⟩⟩⟩⟩⟩⟩⟩⟩⟩⟩⟩⟩⟩
theorem ek_146_17 : ∀ x ∈ C_146_17, ai_EK ai_mt M_146 x := List.forall_mem_cons.mpr ⟨ek_0 (by decide +kernel) rfl rfl, List.forall_mem_cons.mpr ⟨ek_0 (by decide +kernel) rfl rfl, List.forall_mem_cons.mpr ⟨ek_0 (by decide +kernel) rfl rfl, List.forall_mem_cons.mpr ⟨ek_1 (by decide +kernel) rfl, List.forall_mem_cons.mpr ⟨ek_3 (by decide +kernel) rfl trivial, List.forall_mem_cons.mpr ⟨ek_0 (by decide +kernel) rfl rfl, List.forall_mem_cons.mpr ⟨ek_0 (by decide +kernel) rfl rfl, List.forall_mem_cons.mpr ⟨ek_0 (by decide +kernel) rfl rfl, List.forall_mem_cons.mpr ⟨ek_1 (by decide +kernel) rfl, List.forall_mem_cons.mpr ⟨ek_3 (by decide +kernel) rfl trivial, List.forall_mem_cons.mpr ⟨ek_4 (by decide +kernel) rfl hc_8_136, List.forall_mem_cons.mpr ⟨ek_2 (by decide +kernel) rfl rfl, List.forall_mem_cons.mpr ⟨ek_0 (by decide +kernel) rfl rfl, List.forall_mem_cons.mpr ⟨ek_0 (by decide +kernel) rfl rfl, List.forall_mem_cons.mpr ⟨ek_0 (by decide +kernel) rfl rfl, List.forall_mem_cons.mpr ⟨ek_0 (by decide +kernel) rfl rfl, List.forall_mem_cons.mpr ⟨ek_1 (by decide +kernel) rfl, List.forall_mem_cons.mpr ⟨ek_3 (by decide +kernel) rfl trivial, List.forall_mem_cons.mpr ⟨ek_0 (by decide +kernel) rfl rfl, List.forall_mem_cons.mpr ⟨ek_0 (by decide +kernel) rfl rfl, List.forall_mem_cons.mpr ⟨ek_0 (by decide +kernel) rfl rfl, List.forall_mem_cons.mpr ⟨ek_1 (by decide +kernel) rfl, List.forall_mem_cons.mpr ⟨ek_3 (by decide +kernel) rfl trivial, List.forall_mem_cons.mpr ⟨ek_0 (by decide +kernel) rfl rfl, List.forall_mem_cons.mpr ⟨ek_0 (by decide +kernel) rfl rfl, List.forall_mem_cons.mpr ⟨ek_0 (by decide +kernel) rfl rfl, List.forall_mem_cons.mpr ⟨ek_1 (by decide +kernel) rfl, List.forall_mem_cons.mpr ⟨ek_3 (by decide +kernel) rfl trivial, List.forall_mem_cons.mpr ⟨ek_4 (by decide +kernel) rfl hc_8_137, List.forall_mem_cons.mpr ⟨ek_0 (by decide +kernel) rfl rfl, List.forall_mem_cons.mpr ⟨ek_0 (by decide +kernel) rfl rfl, List.forall_mem_cons.mpr ⟨ek_0 (by decide +kernel) rfl rfl, List.forall_mem_cons.mpr ⟨ek_0 (by decide +kernel) rfl rfl, List.forall_mem_cons.mpr ⟨ek_1 (by decide +kernel) rfl, List.forall_mem_cons.mpr ⟨ek_3 (by decide +kernel) rfl trivial, List.forall_mem_cons.mpr ⟨ek_0 (by decide +kernel) rfl rfl, List.forall_mem_cons.mpr ⟨ek_0 (by decide +kernel) rfl rfl, List.forall_mem_cons.mpr ⟨ek_0 (by decide +kernel) rfl rfl, List.forall_mem_cons.mpr ⟨ek_1 (by decide +kernel) rfl, List.forall_mem_cons.mpr ⟨ek_3 (by decide +kernel) rfl trivial, List.forall_mem_cons.mpr ⟨ek_0 (by decide +kernel) rfl rfl, List.forall_mem_cons.mpr ⟨ek_0 (by decide +kernel) rfl rfl, List.forall_mem_cons.mpr ⟨ek_0 (by decide +kernel) rfl rfl, List.forall_mem_cons.mpr ⟨ek_1 (by decide +kernel) rfl, List.forall_mem_cons.mpr ⟨ek_3 (by decide +kernel) rfl trivial, List.forall_mem_cons.mpr ⟨ek_4 (by decide +kernel) rfl hc_8_140, List.forall_mem_cons.mpr ⟨ek_2 (by decide +kernel) rfl rfl, List.forall_mem_cons.mpr ⟨ek_0 (by decide +kernel) rfl rfl, List.forall_mem_cons.mpr ⟨ek_0 (by decide +kernel) rfl rfl, List.forall_mem_cons.mpr ⟨ek_0 (by decide +kernel) rfl rfl, fun _ h => absurd h List.not_mem_nil⟩⟩⟩⟩⟩⟩⟩⟩⟩⟩⟩⟩⟩⟩⟩⟩⟩⟩⟩⟩⟩⟩⟩⟩⟩⟩⟩⟩⟩⟩⟩⟩⟩⟩⟩⟩⟩⟩⟩⟩⟩⟩⟩⟩⟩⟩⟩⟩⟩⟩
theorem ek_146_18 : ∀ x ∈ C_146_18, ai_EK ai_mt M_146 x := List.forall_mem_cons.mpr ⟨ek_0 (by decide +kernel) rfl rfl, List.forall_mem_cons.mpr ⟨ek_1 (by decide +kernel) rfl, List.forall_mem_cons.mpr ⟨ek_3 (by decide +kernel) rfl trivial, List.forall_mem_cons.mpr ⟨ek_0 (by decide +kernel) rfl rfl, List.forall_mem_cons.mpr ⟨ek_0 (by decide +kernel) rfl rfl, List.forall_mem_cons.mpr ⟨ek_0 (by decide +kernel) rfl rfl, List.forall_mem_cons.mpr ⟨ek_1 (by decide +kernel) rfl, List.forall_mem_cons.mpr ⟨ek_3 (by decide +kernel) rfl trivial, List.forall_mem_cons.mpr ⟨ek_0 (by decide +kernel) rfl rfl, List.forall_mem_cons.mpr ⟨ek_0 (by decide +kernel) rfl rfl, List.forall_mem_cons.mpr ⟨ek_0 (by decide +kernel) rfl rfl, List.forall_mem_cons.mpr ⟨ek_1 (by decide +kernel) rfl, List.forall_mem_cons.mpr ⟨ek_3 (by decide +kernel) rfl trivial, List.forall_mem_cons.mpr ⟨ek_4 (by decide +kernel) rfl hc_8_141, List.forall_mem_cons.mpr ⟨ek_0 (by decide +kernel) rfl rfl, List.forall_mem_cons.mpr ⟨ek_0 (by decide +kernel) rfl rfl, List.forall_mem_cons.mpr ⟨ek_0 (by decide +kernel) rfl rfl, List.forall_mem_cons.mpr ⟨ek_0 (by decide +kernel) rfl rfl, List.forall_mem_cons.mpr ⟨ek_1 (by decide +kernel) rfl, List.forall_mem_cons.mpr ⟨ek_3 (by decide +kernel) rfl trivial, List.forall_mem_cons.mpr ⟨ek_0 (by decide +kernel) rfl rfl, List.forall_mem_cons.mpr ⟨ek_0 (by decide +kernel) rfl rfl, List.forall_mem_cons.mpr ⟨ek_0 (by decide +kernel) rfl rfl, List.forall_mem_cons.mpr ⟨ek_1 (by decide +kernel) rfl, List.forall_mem_cons.mpr ⟨ek_3 (by decide +kernel) rfl trivial, List.forall_mem_cons.mpr ⟨ek_0 (by decide +kernel) rfl rfl, List.forall_mem_cons.mpr ⟨ek_0 (by decide +kernel) rfl rfl, List.forall_mem_cons.mpr ⟨ek_0 (by decide +kernel) rfl rfl, List.forall_mem_cons.mpr ⟨ek_1 (by decide +kernel) rfl, List.forall_mem_cons.mpr ⟨ek_3 (by decide +kernel) rfl trivial, List.forall_mem_cons.mpr ⟨ek_4 (by decide +kernel) rfl hc_8_144, List.forall_mem_cons.mpr ⟨ek_2 (by decide +kernel) rfl rfl, List.forall_mem_cons.mpr ⟨ek_0 (by decide +kernel) rfl rfl, List.forall_mem_cons.mpr ⟨ek_0 (by decide +kernel) rfl rfl, List.forall_mem_cons.mpr ⟨ek_0 (by decide +kernel) rfl rfl, List.forall_mem_cons.mpr ⟨ek_0 (by decide +kernel) rfl rfl, List.forall_mem_cons.mpr ⟨ek_1 (by decide +kernel) rfl, List.forall_mem_cons.mpr ⟨ek_3 (by decide +kernel) rfl trivial, List.forall_mem_cons.mpr ⟨ek_0 (by decide +kernel) rfl rfl, List.forall_mem_cons.mpr ⟨ek_0 (by decide +kernel) rfl rfl, List.forall_mem_cons.mpr ⟨ek_0 (by decide +kernel) rfl rfl, List.forall_mem_cons.mpr ⟨ek_1 (by decide +kernel) rfl, List.forall_mem_cons.mpr ⟨ek_3 (by decide +kernel) rfl trivial, List.forall_mem_cons.mpr ⟨ek_0 (by decide +kernel) rfl rfl, List.forall_mem_cons.mpr ⟨ek_0 (by decide +kernel) rfl rfl, List.forall_mem_cons.mpr ⟨ek_0 (by decide +kernel) rfl rfl, List.forall_mem_cons.mpr ⟨ek_1 (by decide +kernel) rfl, List.forall_mem_cons.mpr ⟨ek_3 (by decide +kernel) rfl trivial, List.forall_mem_cons.mpr ⟨ek_4 (by decide +kernel) rfl hc_8_145, List.forall_mem_cons.mpr ⟨ek_0 (by decide +kernel) rfl rfl, fun _ h => absurd h List.not_mem_nil⟩⟩⟩⟩⟩⟩⟩⟩⟩⟩⟩⟩⟩⟩⟩⟩⟩⟩⟩⟩⟩⟩⟩⟩⟩⟩⟩⟩⟩⟩⟩⟩⟩⟩⟩⟩⟩⟩⟩⟩⟩⟩⟩⟩⟩⟩⟩⟩⟩⟩
theorem ek_146_19 : ∀ x ∈ C_146_19, ai_EK ai_mt M_146 x := List.forall_mem_cons.mpr ⟨ek_0 (by decide +kernel) rfl rfl, List.forall_mem_cons.mpr ⟨ek_0 (by decide +kernel) rfl rfl, List.forall_mem_cons.mpr ⟨ek_0 (by decide +kernel) rfl rfl, List.forall_mem_cons.mpr ⟨ek_1 (by decide +kernel) rfl, List.forall_mem_cons.mpr ⟨ek_3 (by decide +kernel) rfl trivial, List.forall_mem_cons.mpr ⟨ek_0 (by decide +kernel) rfl rfl, List.forall_mem_cons.mpr ⟨ek_0 (by decide +kernel) rfl rfl, List.forall_mem_cons.mpr ⟨ek_0 (by decide +kernel) rfl rfl, List.forall_mem_cons.mpr ⟨ek_1 (by decide +kernel) rfl, List.forall_mem_cons.mpr ⟨ek_3 (by decide +kernel) rfl trivial, List.forall_mem_cons.mpr ⟨ek_0 (by decide +kernel) rfl rfl, List.forall_mem_cons.mpr ⟨ek_0 (by decide +kernel) rfl rfl, List.forall_mem_cons.mpr ⟨ek_0 (by decide +kernel) rfl rfl, List.forall_mem_cons.mpr ⟨ek_1 (by decide +kernel) rfl, List.forall_mem_cons.mpr ⟨ek_3 (by decide +kernel) rfl trivial, List.forall_mem_cons.mpr ⟨ek_4 (by decide +kernel) rfl hc_8_148, List.forall_mem_cons.mpr ⟨ek_2 (by decide +kernel) rfl rfl, List.forall_mem_cons.mpr ⟨ek_0 (by decide +kernel) rfl rfl, List.forall_mem_cons.mpr ⟨ek_0 (by decide +kernel) rfl rfl, List.forall_mem_cons.mpr ⟨ek_0 (by decide +kernel) rfl rfl, List.forall_mem_cons.mpr ⟨ek_0 (by decide +kernel) rfl rfl, List.forall_mem_cons.mpr ⟨ek_1 (by decide +kernel) rfl, List.forall_mem_cons.mpr ⟨ek_3 (by decide +kernel) rfl trivial, List.forall_mem_cons.mpr ⟨ek_0 (by decide +kernel) rfl rfl, List.forall_mem_cons.mpr ⟨ek_0 (by decide +kernel) rfl rfl, List.forall_mem_cons.mpr ⟨ek_0 (by decide +kernel) rfl rfl, List.forall_mem_cons.mpr ⟨ek_1 (by decide +kernel) rfl, List.forall_mem_cons.mpr ⟨ek_3 (by decide +kernel) rfl trivial, List.forall_mem_cons.mpr ⟨ek_4 (by decide +kernel) rfl hc_8_149, List.forall_mem_cons.mpr ⟨ek_0 (by decide +kernel) rfl rfl, List.forall_mem_cons.mpr ⟨ek_0 (by decide +kernel) rfl rfl, List.forall_mem_cons.mpr ⟨ek_0 (by decide +kernel) rfl rfl, List.forall_mem_cons.mpr ⟨ek_0 (by decide +kernel) rfl rfl, List.forall_mem_cons.mpr ⟨ek_1 (by decide +kernel) rfl, List.forall_mem_cons.mpr ⟨ek_3 (by decide +kernel) rfl trivial, List.forall_mem_cons.mpr ⟨ek_0 (by decide +kernel) rfl rfl, List.forall_mem_cons.mpr ⟨ek_0 (by decide +kernel) rfl rfl, List.forall_mem_cons.mpr ⟨ek_0 (by decide +kernel) rfl rfl, List.forall_mem_cons.mpr ⟨ek_1 (by decide +kernel) rfl, List.forall_mem_cons.mpr ⟨ek_3 (by decide +kernel) rfl trivial, List.forall_mem_cons.mpr ⟨ek_4 (by decide +kernel) rfl hc_8_152, List.forall_mem_cons.mpr ⟨ek_2 (by decide +kernel) rfl rfl, List.forall_mem_cons.mpr ⟨ek_0 (by decide +kernel) rfl rfl, List.forall_mem_cons.mpr ⟨ek_0 (by decide +kernel) rfl rfl, List.forall_mem_cons.mpr ⟨ek_0 (by decide +kernel) rfl rfl, List.forall_mem_cons.mpr ⟨ek_0 (by decide +kernel) rfl rfl, List.forall_mem_cons.mpr ⟨ek_1 (by decide +kernel) rfl, List.forall_mem_cons.mpr ⟨ek_3 (by decide +kernel) rfl trivial, List.forall_mem_cons.mpr ⟨ek_0 (by decide +kernel) rfl rfl, List.forall_mem_cons.mpr ⟨ek_0 (by decide +kernel) rfl rfl, fun _ h => absurd h List.not_mem_nil⟩⟩⟩⟩⟩⟩⟩⟩⟩⟩⟩⟩⟩⟩⟩⟩⟩⟩⟩⟩⟩⟩⟩⟩⟩⟩⟩⟩⟩⟩⟩⟩⟩⟩⟩⟩⟩⟩⟩⟩⟩⟩⟩⟩⟩⟩⟩⟩⟩⟩
theorem ek_146_20 : ∀ x ∈ C_146_20, ai_EK ai_mt M_146 x := List.forall_mem_cons.mpr ⟨ek_0 (by decide +kernel) rfl rfl, List.forall_mem_cons.mpr ⟨ek_1 (by decide +kernel) rfl, List.forall_mem_cons.mpr ⟨ek_3 (by decide +kernel) rfl trivial, List.forall_mem_cons.mpr ⟨ek_4 (by decide +kernel) rfl hc_8_153, List.forall_mem_cons.mpr ⟨ek_0 (by decide +kernel) rfl rfl, List.forall_mem_cons.mpr ⟨ek_0 (by decide +kernel) rfl rfl, List.forall_mem_cons.mpr ⟨ek_0 (by decide +kernel) rfl rfl, List.forall_mem_cons.mpr ⟨ek_0 (by decide +kernel) rfl rfl, List.forall_mem_cons.mpr ⟨ek_1 (by decide +kernel) rfl, List.forall_mem_cons.mpr ⟨ek_3 (by decide +kernel) rfl trivial, List.forall_mem_cons.mpr ⟨ek_0 (by decide +kernel) rfl rfl, List.forall_mem_cons.mpr ⟨ek_0 (by decide +kernel) rfl rfl, List.forall_mem_cons.mpr ⟨ek_0 (by decide +kernel) rfl rfl, List.forall_mem_cons.mpr ⟨ek_1 (by decide +kernel) rfl, List.forall_mem_cons.mpr ⟨ek_3 (by decide +kernel) rfl trivial, List.forall_mem_cons.mpr ⟨ek_4 (by decide +kernel) rfl hc_8_156, List.forall_mem_cons.mpr ⟨ek_2 (by decide +kernel) rfl rfl, List.forall_mem_cons.mpr ⟨ek_0 (by decide +kernel) rfl rfl, List.forall_mem_cons.mpr ⟨ek_0 (by decide +kernel) rfl rfl, List.forall_mem_cons.mpr ⟨ek_0 (by decide +kernel) rfl rfl, List.forall_mem_cons.mpr ⟨ek_0 (by decide +kernel) rfl rfl, List.forall_mem_cons.mpr ⟨ek_1 (by decide +kernel) rfl, List.forall_mem_cons.mpr ⟨ek_3 (by decide +kernel) rfl trivial, List.forall_mem_cons.mpr ⟨ek_0 (by decide +kernel) rfl rfl, List.forall_mem_cons.mpr ⟨ek_0 (by decide +kernel) rfl rfl, List.forall_mem_cons.mpr ⟨ek_0 (by decide +kernel) rfl rfl, List.forall_mem_cons.mpr ⟨ek_1 (by decide +kernel) rfl, List.forall_mem_cons.mpr ⟨ek_3 (by decide +kernel) rfl trivial, List.forall_mem_cons.mpr ⟨ek_4 (by decide +kernel) rfl hc_8_157, List.forall_mem_cons.mpr ⟨ek_0 (by decide +kernel) rfl rfl, List.forall_mem_cons.mpr ⟨ek_0 (by decide +kernel) rfl rfl, List.forall_mem_cons.mpr ⟨ek_0 (by decide +kernel) rfl rfl, List.forall_mem_cons.mpr ⟨ek_0 (by decide +kernel) rfl rfl, List.forall_mem_cons.mpr ⟨ek_1 (by decide +kernel) rfl, List.forall_mem_cons.mpr ⟨ek_3 (by decide +kernel) rfl trivial, List.forall_mem_cons.mpr ⟨ek_0 (by decide +kernel) rfl rfl, List.forall_mem_cons.mpr ⟨ek_0 (by decide +kernel) rfl rfl, List.forall_mem_cons.mpr ⟨ek_0 (by decide +kernel) rfl rfl, List.forall_mem_cons.mpr ⟨ek_1 (by decide +kernel) rfl, List.forall_mem_cons.mpr ⟨ek_3 (by decide +kernel) rfl trivial, List.forall_mem_cons.mpr ⟨ek_4 (by decide +kernel) rfl hc_8_160, List.forall_mem_cons.mpr ⟨ek_2 (by decide +kernel) rfl rfl, List.forall_mem_cons.mpr ⟨ek_0 (by decide +kernel) rfl rfl, List.forall_mem_cons.mpr ⟨ek_0 (by decide +kernel) rfl rfl, List.forall_mem_cons.mpr ⟨ek_0 (by decide +kernel) rfl rfl, List.forall_mem_cons.mpr ⟨ek_0 (by decide +kernel) rfl rfl, List.forall_mem_cons.mpr ⟨ek_1 (by decide +kernel) rfl, List.forall_mem_cons.mpr ⟨ek_3 (by decide +kernel) rfl trivial, List.forall_mem_cons.mpr ⟨ek_0 (by decide +kernel) rfl rfl, List.forall_mem_cons.mpr ⟨ek_0 (by decide +kernel) rfl rfl, fun _ h => absurd h List.not_mem_nil⟩⟩⟩⟩⟩⟩⟩⟩⟩⟩⟩⟩⟩⟩⟩⟩⟩⟩⟩⟩⟩⟩⟩⟩⟩⟩⟩⟩⟩⟩⟩⟩⟩⟩⟩⟩⟩⟩⟩⟩⟩⟩⟩⟩⟩⟩⟩⟩⟩⟩
theorem ek_146_21 : ∀ x ∈ C_146_21, ai_EK ai_mt M_146 x := List.forall_mem_cons.mpr ⟨ek_0 (by decide +kernel) rfl rfl, List.forall_mem_cons.mpr ⟨ek_1 (by decide +kernel) rfl, List.forall_mem_cons.mpr ⟨ek_3 (by decide +kernel) rfl trivial, List.forall_mem_cons.mpr ⟨ek_4 (by decide +kernel) rfl hc_8_161, List.forall_mem_cons.mpr ⟨ek_0 (by decide +kernel) rfl rfl, List.forall_mem_cons.mpr ⟨ek_0 (by decide +kernel) rfl rfl, List.forall_mem_cons.mpr ⟨ek_0 (by decide +kernel) rfl rfl, List.forall_mem_cons.mpr ⟨ek_0 (by decide +kernel) rfl rfl, List.forall_mem_cons.mpr ⟨ek_1 (by decide +kernel) rfl, List.forall_mem_cons.mpr ⟨ek_3 (by decide +kernel) rfl trivial, List.forall_mem_cons.mpr ⟨ek_0 (by decide +kernel) rfl rfl, List.forall_mem_cons.mpr ⟨ek_0 (by decide +kernel) rfl rfl, List.forall_mem_cons.mpr ⟨ek_0 (by decide +kernel) rfl rfl, List.forall_mem_cons.mpr ⟨ek_1 (by decide +kernel) rfl, List.forall_mem_cons.mpr ⟨ek_3 (by decide +kernel) rfl trivial, List.forall_mem_cons.mpr ⟨ek_4 (by decide +kernel) rfl hc_8_164, List.forall_mem_cons.mpr ⟨ek_2 (by decide +kernel) rfl rfl, List.forall_mem_cons.mpr ⟨ek_0 (by decide +kernel) rfl rfl, List.forall_mem_cons.mpr ⟨ek_0 (by decide +kernel) rfl rfl, List.forall_mem_cons.mpr ⟨ek_0 (by decide +kernel) rfl rfl, List.forall_mem_cons.mpr ⟨ek_0 (by decide +kernel) rfl rfl, List.forall_mem_cons.mpr ⟨ek_1 (by decide +kernel) rfl, List.forall_mem_cons.mpr ⟨ek_3 (by decide +kernel) rfl trivial, List.forall_mem_cons.mpr ⟨ek_0 (by decide +kernel) rfl rfl, List.forall_mem_cons.mpr ⟨ek_0 (by decide +kernel) rfl rfl, List.forall_mem_cons.mpr ⟨ek_0 (by decide +kernel) rfl rfl, List.forall_mem_cons.mpr ⟨ek_1 (by decide +kernel) rfl, List.forall_mem_cons.mpr ⟨ek_3 (by decide +kernel) rfl trivial, List.forall_mem_cons.mpr ⟨ek_4 (by decide +kernel) rfl hc_8_165, List.forall_mem_cons.mpr ⟨ek_0 (by decide +kernel) rfl rfl, List.forall_mem_cons.mpr ⟨ek_0 (by decide +kernel) rfl rfl, List.forall_mem_cons.mpr ⟨ek_0 (by decide +kernel) rfl rfl, List.forall_mem_cons.mpr ⟨ek_0 (by decide +kernel) rfl rfl, List.forall_mem_cons.mpr ⟨ek_1 (by decide +kernel) rfl, List.forall_mem_cons.mpr ⟨ek_3 (by decide +kernel) rfl trivial, List.forall_mem_cons.mpr ⟨ek_0 (by decide +kernel) rfl rfl, List.forall_mem_cons.mpr ⟨ek_0 (by decide +kernel) rfl rfl, List.forall_mem_cons.mpr ⟨ek_0 (by decide +kernel) rfl rfl, List.forall_mem_cons.mpr ⟨ek_1 (by decide +kernel) rfl, List.forall_mem_cons.mpr ⟨ek_3 (by decide +kernel) rfl trivial, List.forall_mem_cons.mpr ⟨ek_4 (by decide +kernel) rfl hc_8_168, List.forall_mem_cons.mpr ⟨ek_2 (by decide +kernel) rfl rfl, List.forall_mem_cons.mpr ⟨ek_0 (by decide +kernel) rfl rfl, List.forall_mem_cons.mpr ⟨ek_0 (by decide +kernel) rfl rfl, List.forall_mem_cons.mpr ⟨ek_0 (by decide +kernel) rfl rfl, List.forall_mem_cons.mpr ⟨ek_0 (by decide +kernel) rfl rfl, List.forall_mem_cons.mpr ⟨ek_1 (by decide +kernel) rfl, List.forall_mem_cons.mpr ⟨ek_3 (by decide +kernel) rfl trivial, List.forall_mem_cons.mpr ⟨ek_0 (by decide +kernel) rfl rfl, List.forall_mem_cons.mpr ⟨ek_0 (by decide +kernel) rfl rfl, fun _ h => absurd h List.not_mem_nil⟩⟩⟩⟩⟩⟩⟩⟩⟩⟩⟩⟩⟩⟩⟩⟩⟩⟩⟩⟩⟩⟩⟩⟩⟩⟩⟩⟩⟩⟩⟩⟩⟩⟩⟩⟩⟩⟩⟩⟩⟩⟩⟩⟩⟩⟩⟩⟩⟩⟩
theorem ek_146_22 : ∀ x ∈ C_146_22, ai_EK ai_mt M_146 x := List.forall_mem_cons.mpr ⟨ek_0 (by decide +kernel) rfl rfl, List.forall_mem_cons.mpr ⟨ek_1 (by decide +kernel) rfl, List.forall_mem_cons.mpr ⟨ek_3 (by decide +kernel) rfl trivial, List.forall_mem_cons.mpr ⟨ek_4 (by decide +kernel) rfl hc_8_169, List.forall_mem_cons.mpr ⟨ek_0 (by decide +kernel) rfl rfl, List.forall_mem_cons.mpr ⟨ek_0 (by decide +kernel) rfl rfl, List.forall_mem_cons.mpr ⟨ek_0 (by decide +kernel) rfl rfl, List.forall_mem_cons.mpr ⟨ek_0 (by decide +kernel) rfl rfl, List.forall_mem_cons.mpr ⟨ek_1 (by decide +kernel) rfl, List.forall_mem_cons.mpr ⟨ek_3 (by decide +kernel) rfl trivial, List.forall_mem_cons.mpr ⟨ek_0 (by decide +kernel) rfl rfl, List.forall_mem_cons.mpr ⟨ek_0 (by decide +kernel) rfl rfl, List.forall_mem_cons.mpr ⟨ek_0 (by decide +kernel) rfl rfl, List.forall_mem_cons.mpr ⟨ek_1 (by decide +kernel) rfl, List.forall_mem_cons.mpr ⟨ek_3 (by decide +kernel) rfl trivial, List.forall_mem_cons.mpr ⟨ek_4 (by decide +kernel) rfl hc_8_172, List.forall_mem_cons.mpr ⟨ek_2 (by decide +kernel) rfl rfl, List.forall_mem_cons.mpr ⟨ek_0 (by decide +kernel) rfl rfl, List.forall_mem_cons.mpr ⟨ek_0 (by decide +kernel) rfl rfl, List.forall_mem_cons.mpr ⟨ek_0 (by decide +kernel) rfl rfl, List.forall_mem_cons.mpr ⟨ek_0 (by decide +kernel) rfl rfl, List.forall_mem_cons.mpr ⟨ek_1 (by decide +kernel) rfl, List.forall_mem_cons.mpr ⟨ek_3 (by decide +kernel) rfl trivial, List.forall_mem_cons.mpr ⟨ek_4 (by decide +kernel) rfl hc_8_173, List.forall_mem_cons.mpr ⟨ek_0 (by decide +kernel) rfl rfl, List.forall_mem_cons.mpr ⟨ek_0 (by decide +kernel) rfl rfl, List.forall_mem_cons.mpr ⟨ek_0 (by decide +kernel) rfl rfl, List.forall_mem_cons.mpr ⟨ek_0 (by decide +kernel) rfl rfl, List.forall_mem_cons.mpr ⟨ek_1 (by decide +kernel) rfl, List.forall_mem_cons.mpr ⟨ek_3 (by decide +kernel) rfl trivial, List.forall_mem_cons.mpr ⟨ek_4 (by decide +kernel) rfl hc_8_176, List.forall_mem_cons.mpr ⟨ek_2 (by decide +kernel) rfl rfl, List.forall_mem_cons.mpr ⟨ek_0 (by decide +kernel) rfl rfl, List.forall_mem_cons.mpr ⟨ek_0 (by decide +kernel) rfl rfl, List.forall_mem_cons.mpr ⟨ek_0 (by decide +kernel) rfl rfl, List.forall_mem_cons.mpr ⟨ek_0 (by decide +kernel) rfl rfl, List.forall_mem_cons.mpr ⟨ek_1 (by decide +kernel) rfl, List.forall_mem_cons.mpr ⟨ek_3 (by decide +kernel) rfl trivial, List.forall_mem_cons.mpr ⟨ek_0 (by decide +kernel) rfl rfl, List.forall_mem_cons.mpr ⟨ek_0 (by decide +kernel) rfl rfl, List.forall_mem_cons.mpr ⟨ek_0 (by decide +kernel) rfl rfl, List.forall_mem_cons.mpr ⟨ek_1 (by decide +kernel) rfl, List.forall_mem_cons.mpr ⟨ek_3 (by decide +kernel) rfl trivial, List.forall_mem_cons.mpr ⟨ek_4 (by decide +kernel) rfl hc_8_177, List.forall_mem_cons.mpr ⟨ek_0 (by decide +kernel) rfl rfl, List.forall_mem_cons.mpr ⟨ek_0 (by decide +kernel) rfl rfl, List.forall_mem_cons.mpr ⟨ek_0 (by decide +kernel) rfl rfl, List.forall_mem_cons.mpr ⟨ek_0 (by decide +kernel) rfl rfl, List.forall_mem_cons.mpr ⟨ek_1 (by decide +kernel) rfl, List.forall_mem_cons.mpr ⟨ek_3 (by decide +kernel) rfl trivial, fun _ h => absurd h List.not_mem_nil⟩⟩⟩⟩⟩⟩⟩⟩⟩⟩⟩⟩⟩⟩⟩⟩⟩⟩⟩⟩⟩⟩⟩⟩⟩⟩⟩⟩⟩⟩⟩⟩⟩⟩⟩⟩⟩⟩⟩⟩⟩⟩⟩⟩⟩⟩⟩⟩⟩⟩
theorem ek_146_23 : ∀ x ∈ C_146_23, ai_EK ai_mt M_146 x := List.forall_mem_cons.mpr ⟨ek_0 (by decide +kernel) rfl rfl, List.forall_mem_cons.mpr ⟨ek_0 (by decide +kernel) rfl rfl, List.forall_mem_cons.mpr ⟨ek_0 (by decide +kernel) rfl rfl, List.forall_mem_cons.mpr ⟨ek_1 (by decide +kernel) rfl, List.forall_mem_cons.mpr ⟨ek_3 (by decide +kernel) rfl trivial, List.forall_mem_cons.mpr ⟨ek_4 (by decide +kernel) rfl hc_8_180, List.forall_mem_cons.mpr ⟨ek_2 (by decide +kernel) rfl rfl, List.forall_mem_cons.mpr ⟨ek_0 (by decide +kernel) rfl rfl, List.forall_mem_cons.mpr ⟨ek_0 (by decide +kernel) rfl rfl, List.forall_mem_cons.mpr ⟨ek_0 (by decide +kernel) rfl rfl, List.forall_mem_cons.mpr ⟨ek_0 (by decide +kernel) rfl rfl, List.forall_mem_cons.mpr ⟨ek_1 (by decide +kernel) rfl, List.forall_mem_cons.mpr ⟨ek_3 (by decide +kernel) rfl trivial, List.forall_mem_cons.mpr ⟨ek_0 (by decide +kernel) rfl rfl, List.forall_mem_cons.mpr ⟨ek_0 (by decide +kernel) rfl rfl, List.forall_mem_cons.mpr ⟨ek_0 (by decide +kernel) rfl rfl, List.forall_mem_cons.mpr ⟨ek_1 (by decide +kernel) rfl, List.forall_mem_cons.mpr ⟨ek_3 (by decide +kernel) rfl trivial, List.forall_mem_cons.mpr ⟨ek_0 (by decide +kernel) rfl rfl, List.forall_mem_cons.mpr ⟨ek_0 (by decide +kernel) rfl rfl, List.forall_mem_cons.mpr ⟨ek_0 (by decide +kernel) rfl rfl, List.forall_mem_cons.mpr ⟨ek_1 (by decide +kernel) rfl, List.forall_mem_cons.mpr ⟨ek_3 (by decide +kernel) rfl trivial, List.forall_mem_cons.mpr ⟨ek_4 (by decide +kernel) rfl hc_8_181, List.forall_mem_cons.mpr ⟨ek_0 (by decide +kernel) rfl rfl, List.forall_mem_cons.mpr ⟨ek_0 (by decide +kernel) rfl rfl, List.forall_mem_cons.mpr ⟨ek_0 (by decide +kernel) rfl rfl, List.forall_mem_cons.mpr ⟨ek_0 (by decide +kernel) rfl rfl, List.forall_mem_cons.mpr ⟨ek_1 (by decide +kernel) rfl, List.forall_mem_cons.mpr ⟨ek_3 (by decide +kernel) rfl trivial, List.forall_mem_cons.mpr ⟨ek_0 (by decide +kernel) rfl rfl, List.forall_mem_cons.mpr ⟨ek_0 (by decide +kernel) rfl rfl, List.forall_mem_cons.mpr ⟨ek_0 (by decide +kernel) rfl rfl, List.forall_mem_cons.mpr ⟨ek_1 (by decide +kernel) rfl, List.forall_mem_cons.mpr ⟨ek_3 (by decide +kernel) rfl trivial, List.forall_mem_cons.mpr ⟨ek_0 (by decide +kernel) rfl rfl, List.forall_mem_cons.mpr ⟨ek_0 (by decide +kernel) rfl rfl, List.forall_mem_cons.mpr ⟨ek_0 (by decide +kernel) rfl rfl, List.forall_mem_cons.mpr ⟨ek_1 (by decide +kernel) rfl, List.forall_mem_cons.mpr ⟨ek_3 (by decide +kernel) rfl trivial, List.forall_mem_cons.mpr ⟨ek_4 (by decide +kernel) rfl hc_8_184, List.forall_mem_cons.mpr ⟨ek_2 (by decide +kernel) rfl rfl, List.forall_mem_cons.mpr ⟨ek_0 (by decide +kernel) rfl rfl, List.forall_mem_cons.mpr ⟨ek_0 (by decide +kernel) rfl rfl, List.forall_mem_cons.mpr ⟨ek_0 (by decide +kernel) rfl rfl, List.forall_mem_cons.mpr ⟨ek_0 (by decide +kernel) rfl rfl, List.forall_mem_cons.mpr ⟨ek_1 (by decide +kernel) rfl, List.forall_mem_cons.mpr ⟨ek_3 (by decide +kernel) rfl trivial, List.forall_mem_cons.mpr ⟨ek_0 (by decide +kernel) rfl rfl, List.forall_mem_cons.mpr ⟨ek_0 (by decide +kernel) rfl rfl, fun _ h => absurd h List.not_mem_nil⟩⟩⟩⟩⟩⟩⟩⟩⟩⟩⟩⟩⟩⟩⟩⟩⟩⟩⟩⟩⟩⟩⟩⟩⟩⟩⟩⟩⟩⟩⟩⟩⟩⟩⟩⟩⟩⟩⟩⟩⟩⟩⟩⟩⟩⟩⟩⟩⟩⟩
theorem ek_146_24 : ∀ x ∈ C_146_24, ai_EK ai_mt M_146 x := List.forall_mem_cons.mpr ⟨ek_0 (by decide +kernel) rfl rfl, List.forall_mem_cons.mpr ⟨ek_1 (by decide +kernel) rfl, List.forall_mem_cons.mpr ⟨ek_3 (by decide +kernel) rfl trivial, List.forall_mem_cons.mpr ⟨ek_4 (by decide +kernel) rfl hc_8_185, List.forall_mem_cons.mpr ⟨ek_0 (by decide +kernel) rfl rfl, List.forall_mem_cons.mpr ⟨ek_0 (by decide +kernel) rfl rfl, List.forall_mem_cons.mpr ⟨ek_0 (by decide +kernel) rfl rfl, List.forall_mem_cons.mpr ⟨ek_0 (by decide +kernel) rfl rfl, List.forall_mem_cons.mpr ⟨ek_1 (by decide +kernel) rfl, List.forall_mem_cons.mpr ⟨ek_3 (by decide +kernel) rfl trivial, List.forall_mem_cons.mpr ⟨ek_0 (by decide +kernel) rfl rfl, List.forall_mem_cons.mpr ⟨ek_0 (by decide +kernel) rfl rfl, List.forall_mem_cons.mpr ⟨ek_0 (by decide +kernel) rfl rfl, List.forall_mem_cons.mpr ⟨ek_1 (by decide +kernel) rfl, List.forall_mem_cons.mpr ⟨ek_3 (by decide +kernel) rfl trivial, List.forall_mem_cons.mpr ⟨ek_4 (by decide +kernel) rfl hc_8_188, List.forall_mem_cons.mpr ⟨ek_2 (by decide +kernel) rfl rfl, List.forall_mem_cons.mpr ⟨ek_0 (by decide +kernel) rfl rfl, List.forall_mem_cons.mpr ⟨ek_0 (by decide +kernel) rfl rfl, List.forall_mem_cons.mpr ⟨ek_0 (by decide +kernel) rfl rfl, List.forall_mem_cons.mpr ⟨ek_0 (by decide +kernel) rfl rfl, List.forall_mem_cons.mpr ⟨ek_1 (by decide +kernel) rfl, List.forall_mem_cons.mpr ⟨ek_3 (by decide +kernel) rfl trivial, List.forall_mem_cons.mpr ⟨ek_4 (by decide +kernel) rfl hc_8_189, List.forall_mem_cons.mpr ⟨ek_0 (by decide +kernel) rfl rfl, List.forall_mem_cons.mpr ⟨ek_0 (by decide +kernel) rfl rfl, List.forall_mem_cons.mpr ⟨ek_0 (by decide +kernel) rfl rfl, List.forall_mem_cons.mpr ⟨ek_0 (by decide +kernel) rfl rfl, List.forall_mem_cons.mpr ⟨ek_1 (by decide +kernel) rfl, List.forall_mem_cons.mpr ⟨ek_3 (by decide +kernel) rfl trivial, List.forall_mem_cons.mpr ⟨ek_4 (by decide +kernel) rfl hc_8_192, List.forall_mem_cons.mpr ⟨ek_2 (by decide +kernel) rfl rfl, List.forall_mem_cons.mpr ⟨ek_0 (by decide +kernel) rfl rfl, List.forall_mem_cons.mpr ⟨ek_0 (by decide +kernel) rfl rfl, List.forall_mem_cons.mpr ⟨ek_0 (by decide +kernel) rfl rfl, List.forall_mem_cons.mpr ⟨ek_0 (by decide +kernel) rfl rfl, List.forall_mem_cons.mpr ⟨ek_1 (by decide +kernel) rfl, List.forall_mem_cons.mpr ⟨ek_3 (by decide +kernel) rfl trivial, List.forall_mem_cons.mpr ⟨ek_0 (by decide +kernel) rfl rfl, List.forall_mem_cons.mpr ⟨ek_0 (by decide +kernel) rfl rfl, List.forall_mem_cons.mpr ⟨ek_0 (by decide +kernel) rfl rfl, List.forall_mem_cons.mpr ⟨ek_1 (by decide +kernel) rfl, List.forall_mem_cons.mpr ⟨ek_3 (by decide +kernel) rfl trivial, List.forall_mem_cons.mpr ⟨ek_4 (by decide +kernel) rfl hc_8_193, List.forall_mem_cons.mpr ⟨ek_0 (by decide +kernel) rfl rfl, List.forall_mem_cons.mpr ⟨ek_0 (by decide +kernel) rfl rfl, List.forall_mem_cons.mpr ⟨ek_0 (by decide +kernel) rfl rfl, List.forall_mem_cons.mpr ⟨ek_0 (by decide +kernel) rfl rfl, List.forall_mem_cons.mpr ⟨ek_1 (by decide +kernel) rfl, List.forall_mem_cons.mpr ⟨ek_3 (by decide +kernel) rfl trivial, fun _ h => absurd h List.not_mem_nil⟩⟩⟩⟩⟩⟩⟩⟩⟩⟩⟩⟩⟩⟩⟩⟩⟩⟩⟩⟩⟩⟩⟩⟩⟩⟩⟩⟩⟩⟩⟩⟩⟩⟩⟩⟩⟩⟩⟩⟩⟩⟩⟩⟩⟩⟩⟩⟩⟩⟩
theorem ek_146_25 : ∀ x ∈ C_146_25, ai_EK ai_mt M_146 x := List.forall_mem_cons.mpr ⟨ek_0 (by decide +kernel) rfl rfl, List.forall_mem_cons.mpr ⟨ek_0 (by decide +kernel) rfl rfl, List.forall_mem_cons.mpr ⟨ek_0 (by decide +kernel) rfl rfl, List.forall_mem_cons.mpr ⟨ek_1 (by decide +kernel) rfl, List.forall_mem_cons.mpr ⟨ek_3 (by decide +kernel) rfl trivial, List.forall_mem_cons.mpr ⟨ek_4 (by decide +kernel) rfl hc_8_196, List.forall_mem_cons.mpr ⟨ek_1 (by decide +kernel) rfl, List.forall_mem_cons.mpr ⟨ek_2 (by decide +kernel) rfl rfl, List.forall_mem_cons.mpr ⟨ek_0 (by decide +kernel) rfl rfl, List.forall_mem_cons.mpr ⟨ek_0 (by decide +kernel) rfl rfl, List.forall_mem_cons.mpr ⟨ek_0 (by decide +kernel) rfl rfl, List.forall_mem_cons.mpr ⟨ek_0 (by decide +kernel) rfl rfl, List.forall_mem_cons.mpr ⟨ek_1 (by decide +kernel) rfl, List.forall_mem_cons.mpr ⟨ek_3 (by decide +kernel) rfl trivial, List.forall_mem_cons.mpr ⟨ek_0 (by decide +kernel) rfl rfl, List.forall_mem_cons.mpr ⟨ek_0 (by decide +kernel) rfl rfl, List.forall_mem_cons.mpr ⟨ek_0 (by decide +kernel) rfl rfl, List.forall_mem_cons.mpr ⟨ek_1 (by decide +kernel) rfl, List.forall_mem_cons.mpr ⟨ek_3 (by decide +kernel) rfl trivial, List.forall_mem_cons.mpr ⟨ek_4 (by decide +kernel) rfl hc_8_197, List.forall_mem_cons.mpr ⟨ek_0 (by decide +kernel) rfl rfl, List.forall_mem_cons.mpr ⟨ek_0 (by decide +kernel) rfl rfl, List.forall_mem_cons.mpr ⟨ek_0 (by decide +kernel) rfl rfl, List.forall_mem_cons.mpr ⟨ek_0 (by decide +kernel) rfl rfl, List.forall_mem_cons.mpr ⟨ek_1 (by decide +kernel) rfl, List.forall_mem_cons.mpr ⟨ek_3 (by decide +kernel) rfl trivial, List.forall_mem_cons.mpr ⟨ek_0 (by decide +kernel) rfl rfl, List.forall_mem_cons.mpr ⟨ek_0 (by decide +kernel) rfl rfl, List.forall_mem_cons.mpr ⟨ek_0 (by decide +kernel) rfl rfl, List.forall_mem_cons.mpr ⟨ek_1 (by decide +kernel) rfl, List.forall_mem_cons.mpr ⟨ek_3 (by decide +kernel) rfl trivial, List.forall_mem_cons.mpr ⟨ek_4 (by decide +kernel) rfl hc_8_200, List.forall_mem_cons.mpr ⟨ek_2 (by decide +kernel) rfl rfl, List.forall_mem_cons.mpr ⟨ek_0 (by decide +kernel) rfl rfl, List.forall_mem_cons.mpr ⟨ek_4 (by decide +kernel) rfl hc_8_201, List.forall_mem_cons.mpr ⟨ek_0 (by decide +kernel) rfl rfl, List.forall_mem_cons.mpr ⟨ek_4 (by decide +kernel) rfl hc_8_204, List.forall_mem_cons.mpr ⟨ek_2 (by decide +kernel) rfl rfl, List.forall_mem_cons.mpr ⟨ek_0 (by decide +kernel) rfl rfl, List.forall_mem_cons.mpr ⟨ek_0 (by decide +kernel) rfl rfl, List.forall_mem_cons.mpr ⟨ek_0 (by decide +kernel) rfl rfl, List.forall_mem_cons.mpr ⟨ek_0 (by decide +kernel) rfl rfl, List.forall_mem_cons.mpr ⟨ek_1 (by decide +kernel) rfl, List.forall_mem_cons.mpr ⟨ek_3 (by decide +kernel) rfl trivial, List.forall_mem_cons.mpr ⟨ek_4 (by decide +kernel) rfl hc_8_205, List.forall_mem_cons.mpr ⟨ek_0 (by decide +kernel) rfl rfl, List.forall_mem_cons.mpr ⟨ek_0 (by decide +kernel) rfl rfl, List.forall_mem_cons.mpr ⟨ek_0 (by decide +kernel) rfl rfl, List.forall_mem_cons.mpr ⟨ek_0 (by decide +kernel) rfl rfl, List.forall_mem_cons.mpr ⟨ek_1 (by decide +kernel) rfl, fun _ h => absurd h List.not_mem_nil⟩⟩⟩⟩⟩⟩⟩⟩⟩⟩⟩⟩⟩⟩⟩⟩⟩⟩⟩⟩⟩⟩⟩⟩⟩⟩⟩⟩⟩⟩⟩⟩⟩⟩⟩⟩⟩⟩⟩⟩⟩⟩⟩⟩⟩⟩⟩⟩⟩⟩
theorem ek_146_26 : ∀ x ∈ C_146_26, ai_EK ai_mt M_146 x := List.forall_mem_cons.mpr ⟨ek_3 (by decide +kernel) rfl trivial, List.forall_mem_cons.mpr ⟨ek_4 (by decide +kernel) rfl hc_8_208, List.forall_mem_cons.mpr ⟨ek_2 (by decide +kernel) rfl rfl, List.forall_mem_cons.mpr ⟨ek_0 (by decide +kernel) rfl rfl, List.forall_mem_cons.mpr ⟨ek_4 (by decide +kernel) rfl hc_8_209, List.forall_mem_cons.mpr ⟨ek_0 (by decide +kernel) rfl rfl, List.forall_mem_cons.mpr ⟨ek_4 (by decide +kernel) rfl hc_8_212, List.forall_mem_cons.mpr ⟨ek_2 (by decide +kernel) rfl rfl, List.forall_mem_cons.mpr ⟨ek_0 (by decide +kernel) rfl rfl, List.forall_mem_cons.mpr ⟨ek_4 (by decide +kernel) rfl hc_8_213, List.forall_mem_cons.mpr ⟨ek_0 (by decide +kernel) rfl rfl, List.forall_mem_cons.mpr ⟨ek_4 (by decide +kernel) rfl hc_8_216, List.forall_mem_cons.mpr ⟨ek_2 (by decide +kernel) rfl rfl, List.forall_mem_cons.mpr ⟨ek_0 (by decide +kernel) rfl rfl, List.forall_mem_cons.mpr ⟨ek_0 (by decide +kernel) rfl rfl, List.forall_mem_cons.mpr ⟨ek_0 (by decide +kernel) rfl rfl, List.forall_mem_cons.mpr ⟨ek_0 (by decide +kernel) rfl rfl, List.forall_mem_cons.mpr ⟨ek_1 (by decide +kernel) rfl, List.forall_mem_cons.mpr ⟨ek_3 (by decide +kernel) rfl trivial, List.forall_mem_cons.mpr ⟨ek_4 (by decide +kernel) rfl hc_8_217, List.forall_mem_cons.mpr ⟨ek_0 (by decide +kernel) rfl rfl, List.forall_mem_cons.mpr ⟨ek_0 (by decide +kernel) rfl rfl, List.forall_mem_cons.mpr ⟨ek_0 (by decide +kernel) rfl rfl, List.forall_mem_cons.mpr ⟨ek_0 (by decide +kernel) rfl rfl, List.forall_mem_cons.mpr ⟨ek_1 (by decide +kernel) rfl, List.forall_mem_cons.mpr ⟨ek_3 (by decide +kernel) rfl trivial, List.forall_mem_cons.mpr ⟨ek_4 (by decide +kernel) rfl hc_8_220, List.forall_mem_cons.mpr ⟨ek_2 (by decide +kernel) rfl rfl, List.forall_mem_cons.mpr ⟨ek_0 (by decide +kernel) rfl rfl, List.forall_mem_cons.mpr ⟨ek_2 (by decide +kernel) rfl rfl, List.forall_mem_cons.mpr ⟨ek_0 (by decide +kernel) rfl rfl, List.forall_mem_cons.mpr ⟨ek_6 (by decide +kernel), fun _ h => absurd h List.not_mem_nil⟩⟩⟩⟩⟩⟩⟩⟩⟩⟩⟩⟩⟩⟩⟩⟩⟩⟩⟩⟩⟩⟩⟩⟩⟩⟩⟩⟩⟩⟩⟩⟩
theorem ea_146 : ∀ x ∈ ai_cd M_146, ai_EK ai_mt M_146 x := List.forall_mem_append.mpr ⟨ek_146_0, List.forall_mem_append.mpr ⟨ek_146_1, List.forall_mem_append.mpr ⟨ek_146_2, List.forall_mem_append.mpr ⟨ek_146_3, List.forall_mem_append.mpr ⟨ek_146_4, List.forall_mem_append.mpr ⟨ek_146_5, List.forall_mem_append.mpr ⟨ek_146_6, List.forall_mem_append.mpr ⟨ek_146_7, List.forall_mem_append.mpr ⟨ek_146_8, List.forall_mem_append.mpr ⟨ek_146_9, List.forall_mem_append.mpr ⟨ek_146_10, List.forall_mem_append.mpr ⟨ek_146_11, List.forall_mem_append.mpr ⟨ek_146_12, List.forall_mem_append.mpr ⟨ek_146_13, List.forall_mem_append.mpr ⟨ek_146_14, List.forall_mem_append.mpr ⟨ek_146_15, List.forall_mem_append.mpr ⟨ek_146_16, List.forall_mem_append.mpr ⟨ek_146_17, List.forall_mem_append.mpr ⟨ek_146_18, List.forall_mem_append.mpr ⟨ek_146_19, List.forall_mem_append.mpr ⟨ek_146_20, List.forall_mem_append.mpr ⟨ek_146_21, List.forall_mem_append.mpr ⟨ek_146_22, List.forall_mem_append.mpr ⟨ek_146_23, List.forall_mem_append.mpr ⟨ek_146_24, List.forall_mem_append.mpr ⟨ek_146_25, ek_146_26⟩⟩⟩⟩⟩⟩⟩⟩⟩⟩⟩⟩⟩⟩⟩⟩⟩⟩⟩⟩⟩⟩⟩⟩⟩⟩
end
section
/-! ===== all methods ===== -/
theorem ai_mt_ok : ∀ N ∈ ai_mt, ai_NK ai_mt N := List.forall_mem_cons.mpr ⟨nk_0, List.forall_mem_cons.mpr ⟨nk_1, List.forall_mem_cons.mpr ⟨nk_2, List.forall_mem_cons.mpr ⟨nk_3, List.forall_mem_cons.mpr ⟨nk_4, List.forall_mem_cons.mpr ⟨nk_5, List.forall_mem_cons.mpr ⟨nk_6, List.forall_mem_cons.mpr ⟨nk_7, List.forall_mem_cons.mpr ⟨nk_8, List.forall_mem_cons.mpr ⟨nk_9, List.forall_mem_cons.mpr ⟨nk_10, List.forall_mem_cons.mpr ⟨nk_11, List.forall_mem_cons.mpr ⟨nk_12, List.forall_mem_cons.mpr ⟨nk_13, List.forall_mem_cons.mpr ⟨nk_14, List.forall_mem_cons.mpr ⟨nk_15, List.forall_mem_cons.mpr ⟨nk_16, List.forall_mem_cons.mpr ⟨nk_17, List.forall_mem_cons.mpr ⟨nk_18, List.forall_mem_cons.mpr ⟨nk_19, List.forall_mem_cons.mpr ⟨nk_20, List.forall_mem_cons.mpr ⟨nk_21, List.forall_mem_cons.mpr ⟨nk_22, List.forall_mem_cons.mpr ⟨nk_23, List.forall_mem_cons.mpr ⟨nk_24, List.forall_mem_cons.mpr ⟨nk_25, List.forall_mem_cons.mpr ⟨nk_26, List.forall_mem_cons.mpr ⟨nk_27, List.forall_mem_cons.mpr ⟨nk_28, List.forall_mem_cons.mpr ⟨nk_29, List.forall_mem_cons.mpr ⟨nk_30, List.forall_mem_cons.mpr ⟨nk_31, List.forall_mem_cons.mpr ⟨nk_32, List.forall_mem_cons.mpr ⟨nk_33, List.forall_mem_cons.mpr ⟨nk_34, List.forall_mem_cons.mpr ⟨nk_35, List.forall_mem_cons.mpr ⟨nk_36, List.forall_mem_cons.mpr ⟨nk_37, List.forall_mem_cons.mpr ⟨nk_38, List.forall_mem_cons.mpr ⟨nk_39, List.forall_mem_cons.mpr ⟨nk_40, List.forall_mem_cons.mpr ⟨nk_41, List.forall_mem_cons.mpr ⟨nk_42, List.forall_mem_cons.mpr ⟨nk_43, List.forall_mem_cons.mpr ⟨nk_44, List.forall_mem_cons.mpr ⟨nk_45, List.forall_mem_cons.mpr ⟨nk_46, List.forall_mem_cons.mpr ⟨nk_47, List.forall_mem_cons.mpr ⟨nk_48, List.forall_mem_cons.mpr ⟨nk_49, List.forall_mem_cons.mpr ⟨nk_50, List.forall_mem_cons.mpr ⟨nk_51, List.forall_mem_cons.mpr ⟨nk_52, List.forall_mem_cons.mpr ⟨nk_53, List.forall_mem_cons.mpr ⟨nk_54, List.forall_mem_cons.mpr ⟨nk_55, List.forall_mem_cons.mpr ⟨nk_56, List.forall_mem_cons.mpr ⟨nk_57, List.forall_mem_cons.mpr ⟨nk_58, List.forall_mem_cons.mpr ⟨nk_59, List.forall_mem_cons.mpr ⟨nk_60, List.forall_mem_cons.mpr ⟨nk_61, List.forall_mem_cons.mpr ⟨nk_62, List.forall_mem_cons.mpr ⟨nk_63, List.forall_mem_cons.mpr ⟨nk_64, List.forall_mem_cons.mpr ⟨nk_65, List.forall_mem_cons.mpr ⟨nk_66, List.forall_mem_cons.mpr ⟨nk_67, List.forall_mem_cons.mpr ⟨nk_68, List.forall_mem_cons.mpr ⟨nk_69, List.forall_mem_cons.mpr ⟨nk_70, List.forall_mem_cons.mpr ⟨nk_71, List.forall_mem_cons.mpr ⟨nk_72, List.forall_mem_cons.mpr ⟨nk_73, List.forall_mem_cons.mpr ⟨nk_74, List.forall_mem_cons.mpr ⟨nk_75, List.forall_mem_cons.mpr ⟨nk_76, List.forall_mem_cons.mpr ⟨nk_77, List.forall_mem_cons.mpr ⟨nk_78, List.forall_mem_cons.mpr ⟨nk_79, List.forall_mem_cons.mpr ⟨nk_80, List.forall_mem_cons.mpr ⟨nk_81, List.forall_mem_cons.mpr ⟨nk_82, List.forall_mem_cons.mpr ⟨nk_83, List.forall_mem_cons.mpr ⟨nk_84, List.forall_mem_cons.mpr ⟨nk_85, List.forall_mem_cons.mpr ⟨nk_86, List.forall_mem_cons.mpr ⟨nk_87, List.forall_mem_cons.mpr ⟨nk_88, List.forall_mem_cons.mpr ⟨nk_89, List.forall_mem_cons.mpr ⟨nk_90, List.forall_mem_cons.mpr ⟨nk_91, List.forall_mem_cons.mpr ⟨nk_92, List.forall_mem_cons.mpr ⟨nk_93, List.forall_mem_cons.mpr ⟨nk_94, List.forall_mem_cons.mpr ⟨nk_95, List.forall_mem_cons.mpr ⟨nk_96, List.forall_mem_cons.mpr ⟨nk_97, List.forall_mem_cons.mpr ⟨nk_98, List.forall_mem_cons.mpr ⟨nk_99, List.forall_mem_cons.mpr ⟨nk_100, List.forall_mem_cons.mpr ⟨nk_101, List.forall_mem_cons.mpr ⟨nk_102, List.forall_mem_cons.mpr ⟨nk_103, List.forall_mem_cons.mpr ⟨nk_104, List.forall_mem_cons.mpr ⟨nk_105, List.forall_mem_cons.mpr ⟨nk_106, List.forall_mem_cons.mpr ⟨nk_107, List.forall_mem_cons.mpr ⟨nk_108, List.forall_mem_cons.mpr ⟨nk_109, List.forall_mem_cons.mpr ⟨nk_110, List.forall_mem_cons.mpr ⟨nk_111, List.forall_mem_cons.mpr ⟨nk_112, List.forall_mem_cons.mpr ⟨nk_113, List.forall_mem_cons.mpr ⟨nk_114, List.forall_mem_cons.mpr ⟨nk_115, List.forall_mem_cons.mpr ⟨nk_116, List.forall_mem_cons.mpr ⟨nk_117, List.forall_mem_cons.mpr ⟨nk_118, List.forall_mem_cons.mpr ⟨nk_119, List.forall_mem_cons.mpr ⟨nk_120, List.forall_mem_cons.mpr ⟨nk_121, List.forall_mem_cons.mpr ⟨nk_122, List.forall_mem_cons.mpr ⟨nk_123, List.forall_mem_cons.mpr ⟨nk_124, List.forall_mem_cons.mpr ⟨nk_125, List.forall_mem_cons.mpr ⟨nk_126, List.forall_mem_cons.mpr ⟨nk_127, List.forall_mem_cons.mpr ⟨nk_128, List.forall_mem_cons.mpr ⟨nk_129, List.forall_mem_cons.mpr ⟨nk_130, List.forall_mem_cons.mpr ⟨nk_131, List.forall_mem_cons.mpr ⟨nk_132, List.forall_mem_cons.mpr ⟨nk_133, List.forall_mem_cons.mpr ⟨nk_134, List.forall_mem_cons.mpr ⟨nk_135, List.forall_mem_cons.mpr ⟨nk_136, List.forall_mem_cons.mpr ⟨nk_137, List.forall_mem_cons.mpr ⟨nk_138, List.forall_mem_cons.mpr ⟨nk_139, List.forall_mem_cons.mpr ⟨nk_140, List.forall_mem_cons.mpr ⟨nk_141, List.forall_mem_cons.mpr ⟨nk_142, List.forall_mem_cons.mpr ⟨nk_143, List.forall_mem_cons.mpr ⟨nk_144, List.forall_mem_cons.mpr ⟨nk_145, fun _ h => absurd h List.not_mem_nil⟩⟩⟩⟩⟩⟩⟩⟩⟩⟩⟩⟩⟩⟩⟩⟩⟩⟩⟩⟩⟩⟩⟩⟩⟩⟩⟩⟩⟩⟩⟩⟩⟩⟩⟩⟩⟩⟩⟩⟩⟩⟩⟩⟩⟩⟩⟩⟩⟩⟩⟩⟩⟩⟩⟩⟩⟩⟩⟩⟩⟩⟩⟩⟩⟩⟩⟩⟩⟩⟩⟩⟩⟩⟩⟩⟩⟩⟩⟩⟩⟩⟩⟩⟩⟩⟩⟩⟩⟩⟩⟩⟩⟩⟩⟩⟩⟩⟩⟩⟩⟩⟩⟩⟩⟩⟩⟩⟩⟩⟩⟩⟩⟩⟩⟩⟩⟩⟩⟩⟩⟩⟩⟩⟩⟩⟩⟩⟩⟩⟩⟩⟩⟩⟩⟩⟩⟩⟩⟩⟩⟩⟩⟩⟩⟩⟩
end
section
/-! ===== a stretch of a run without jumps; runs over all cases ===== -/
def ai_sg (mt : List ai_M) (f : Nat) (scr : List ai_V) (d : Nat) (M : ai_M) : List ai_E → ai_Ls → List ai_V → ai_W → Nat → Nat → Option (ai_Ls × List ai_V × ai_W × Nat × Nat)
  | [], L, S, w, c, s => some (L, S, w, c, s)
  | (pc0, g, ins, len, a, b, z) :: cd', L, S, w, c, s => match g with
      | 0 => (match ai_gL ins (ai_ml M) z L S with
        | some (L', S') => ai_sg mt f scr d M cd' L' S' w c s
        | none => none)
      | 1 => (match ai_gI ins S with
        | some S' => ai_sg mt f scr d M cd' L S' w c s
        | none => none)
      | 2 => (match ai_gJ pc0 ins a S with
        | some (none, S') => (match len with
          | 3 => ai_sg mt f scr d M cd' L S' w c s
          | _ => none)
        | _ => none)
      | 3 => (match ai_gH (ai_ii M) (ai_oc M) scr ins a b S w with
        | some (S', w', dc, ds) => ai_sg mt f scr d M cd' L S' w' (c + dc) (s + ds)
        | none => none)
      | 4 => (match mt[a]?, d with
        | some N, d' + 1 => bif Nat.ble (ai_cs (S.drop (ai_na N))) 8 && (Nat.ble (ai_na N) S.length && (Nat.ble (ai_cs (S.take (ai_na N)).reverse) (ai_ml N) && ai_rv (S.take (ai_na N)).reverse b w (ai_oc N))) then
          (match ai_ex mt f [] d' N (ai_cd N) 0 (ai_lv0 0 (S.take (ai_na N)).reverse) [] w 0 0 with
          | some (r, w', mc, ms) => ai_sg mt f scr d M cd' L (r.toList ++ S.drop (ai_na N)) w' (c + mc) (s + ms)
          | none => none) else none
        | _, _ => none)
      | _ => none
def ai_ch : Nat → List ai_E → Nat → Bool
  | pc, [], pe => Nat.beq pc pe
  | pc, x :: r, pe => Nat.beq x.1 pc && ai_ch (pc + x.2.2.2.1) r pe
set_option maxHeartbeats 1000000 in
theorem ai_sg_ok (l : Launch) (mt : List ai_M) (hmt : ∀ N ∈ mt, ai_NK mt N) (f : Nat) (scr : List ai_V) (d : Nat) (M : ai_M) : ∀ (cd : List ai_E) (pc : Nat) (L : ai_Ls) (S : List ai_V) (w : ai_W) (c0 s0 : Nat) (L' : ai_Ls) (S' : List ai_V) (w' : ai_W) (C Z pe : Nat),
    ai_sg mt f scr d M cd L S w c0 s0 = some (L', S', w', C, Z) → ai_ch pc cd pe = true → (∀ x ∈ cd, ai_EK mt M x) → c0 ≤ C ∧ s0 ≤ Z ∧
      ∀ (p : Program) (e : Env) (R : Room) (s : State) (m : MethodId) (args : Array Value) (below : List Frame) (meth : Method) (c : Code) (H : Heap) (locs : List Loc) (Q : State → Prop) (D : va_G) (A : Nat → Prop) (H0 : Heap) (bs : Nat) (ad : List Nat) (ls : Array Slot) (st : List Value),
      ai_FX p R s m args meth c M d C Z A H0 bs scr → ai_RW D s A bs ad w H → va_S A H0 H locs → ai_RL bs ad (ai_ml M) L ls → ai_RS bs ad S st →
      (∀ (H1 : Heap) (locs1 : List Loc) (ad' : List Nat) (ls' : Array Slot) (st' : List Value), (∃ t, ad' = ad ++ t) → ai_RW D s A bs ad' w' H1 → va_S A H0 H1 locs1 → ai_RL bs ad' (ai_ml M) L' ls' → ai_RS bs ad' S' st' → W p l e R s m args below meth c H1 locs1 C Z Q (F0 m pe ls' st')) →
      W p l e R s m args below meth c H locs c0 s0 Q (F0 m pc ls st) := by
  intro cd
  induction cd with
  | nil =>
    intro pc L S w c0 s0 L' S' w' C Z pe h hch _
    cases h
    have := Nat.eq_of_beq_eq_true hch
    subst this
    exact ⟨Nat.le_refl _, Nat.le_refl _, fun p e R s m args below meth c H locs Q D A H0 bs ad ls st hF hW hV hL hS kk => kk H locs ad ls st ⟨[], (List.append_nil _).symm⟩ hW hV hL hS⟩
  | cons x cd' IH =>
    intro pc L S w c0 s0 L' S' w' C Z pe h hch hEK
    obtain ⟨pc0, g, ins, len, a, b, z⟩ := x
    have hch2 : (Nat.beq pc0 pc && ai_ch (pc + len) cd' pe) = true := hch
    clear hch
    rw [Bool.and_eq_true] at hch2
    obtain ⟨hpc, hch⟩ := hch2
    have hpc2 := Nat.eq_of_beq_eq_true hpc
    clear hpc
    subst hpc2
    have hx := hEK _ List.mem_cons_self
    have hsub' : ∀ x ∈ cd', ai_EK mt M x := fun x hx => hEK x (List.mem_cons_of_mem _ hx)
    obtain ⟨hdec, hx⟩ := hx
    dsimp only at hdec hx
    unfold ai_sg at h
    split at h
    · split at h
      · next L1 S1 hg =>
        have ih := IH _ _ _ _ _ _ _ _ _ _ _ _ h hch hsub'
        obtain ⟨hl, hx1, hx2⟩ := hx
        refine ⟨ih.1, ih.2.1, ?_⟩
        intro p e R s m args below meth c H locs Q D A H0 bs ad ls st hF hW hV hL hS kk
        obtain ⟨g1, g2, g3, g4, g5, g6, g7⟩ := id hF
        exact ai_gL_ok g1 g2 g4 (by rw [hl]; exact hdec) (fun i hi => by obtain ⟨v, h1, h2⟩ := hx1 i hi; exact ⟨v, h1, g5 _ h2⟩) (fun i hi => by obtain ⟨tx, h1⟩ := hx2 i hi; obtain ⟨q, hq⟩ := g6.2.2 _ h1; exact ⟨tx, q, hq⟩) hg hL hS
          (fun ls' st' hL' hS' => by rw [hl]; exact ih.2.2 p e R s m args below meth c H locs Q D A H0 bs ad ls' st' hF hW hV hL' hS' kk)
      · cases h
    · split at h
      · next S1 hg =>
        have ih := IH _ _ _ _ _ _ _ _ _ _ _ _ h hch hsub'
        refine ⟨ih.1, ih.2.1, ?_⟩
        intro p e R s m args below meth c H locs Q D A H0 bs ad ls st hF hW hV hL hS kk
        obtain ⟨g1, g2, g3, g4, g5, g6, g7⟩ := id hF
        exact ai_gI_ok g1 g2 (by rw [hx]; exact hdec) hg hS (fun st' hS' => by rw [hx]; exact ih.2.2 p e R s m args below meth c H locs Q D A H0 bs ad ls st' hF hW hV hL hS' kk)
      · cases h
    · split at h
      · next S1 hg =>
        split at h
        · have ih := IH _ _ _ _ _ _ _ _ _ _ _ _ h hch hsub'
          refine ⟨ih.1, ih.2.1, ?_⟩
          intro p e R s m args below meth c H locs Q D A H0 bs ad ls st hF hW hV hL hS kk
          obtain ⟨g1, g2, g3, g4, g5, g6, g7⟩ := id hF
          exact ai_gJ_ok g1 g2 hdec hx.1 hx.2 hg hS (fun st' hS' => ih.2.2 p e R s m args below meth c H locs Q D A H0 bs ad ls st' hF hW hV hL hS' kk)
        · cases h
      · cases h
    · split at h
      · next S1 w1 dc ds hg =>
        have ih := IH _ _ _ _ _ _ _ _ _ _ _ _ h hch hsub'
        obtain ⟨hl, hf⟩ := hx
        refine ⟨by have := ih.1; omega, by have := ih.2.1; omega, ?_⟩
        intro p e R s m args below meth c H locs Q D A H0 bs ad ls st hF hW hV hL hS kk
        obtain ⟨g1, g2, g3, g4, g5, g6, g7, g8, g9, g10, g11, g12, g13⟩ := id hF
        exact ai_gH_ok g1 g2 g4 g5 g6.1 g7 (fun q hq => cn_cl hq) (by rw [hl]; exact hdec) hf g8 hg hW hV g13 hS (by have := ih.1; omega) (by have := ih.2.1; omega)
          (fun H1 locs1 ad' st' hpre hW1 hV1 hS1 => by
            rw [hl]
            obtain ⟨t, rfl⟩ := hpre
            exact ih.2.2 p e R s m args below meth c H1 locs1 Q D A H0 bs _ ls st' hF hW1 hV1 (hL.mono t) hS1 (fun H1 locs1 ad' ls' st' hpre' => kk H1 locs1 ad' ls' st' (ai_pre_trans ⟨t, rfl⟩ hpre')))
      · cases h
    · split at h
      · next N d' hN =>
        obtain ⟨hc, h⟩ := ai_bif2 h
        rw [Bool.and_eq_true, Bool.and_eq_true, Bool.and_eq_true, Nat.ble_eq, Nat.ble_eq, Nat.ble_eq] at hc
        obtain ⟨hc1, hc2, hc3, hc4⟩ := hc
        split at h
        · next r1 w1 mc ms hin =>
          have hNK := hmt N (List.mem_of_getElem? hN)
          have ih := IH _ _ _ _ _ _ _ _ _ _ _ _ h hch hsub'
          have ihN := ai_ex_ok l mt hmt _ _ _ _ _ _ _ _ _ _ _ _ _ _ _ hin (fun x hx => hx) hNK.2.2.2.2.2.2.2
          obtain ⟨hl, hcf⟩ := hx
          subst hl
          refine ⟨by have := ih.1; omega, by have := ih.2.1; omega, ?_⟩
          intro p e R s m args below meth c H locs Q D A H0 bs ad ls st hF hW hV hL hS kk
          obtain ⟨g1, g2, g3, g4, g5, g6, g7, g8, g9, g10, g11, g12, g13⟩ := id hF
          have hlsz : ls.size = ai_ml M := by obtain ⟨lv, h9, -⟩ := hL; exact h9.1
          have hT := hS.take (ai_na N)
          have hAS := hT.1.rev
          have hlen := hS.len
          refine ai_call g1 g2 g3 g4 g5 g6 hNK (hcf N hN) hdec hAS (by rw [List.length_reverse, List.length_take]; omega) (by rw [List.reverse_reverse, List.take_append_drop]) (by rw [ai_cs_ok hT.2]; exact hc1) hc4 hlsz hW hV g13
            (ai_met hNK hc3 ihN.2.2 D bs ad H.size _ hAS) (by omega) (by omega) (by have := ih.1; omega) (by have := ih.2.1; omega) (fun v H1 locs1 ad' hpre hrr hW1 hV1 => ?_)
          obtain ⟨t, rfl⟩ := hpre
          refine ih.2.2 p e R s m args below meth c H1 locs1 Q D A H0 bs _ ls _ hF hW1 hV1 (hL.mono t) ?_ (fun H1 locs1 ad' ls' st' hpre' => kk H1 locs1 ad' ls' st' (ai_pre_trans ⟨t, rfl⟩ hpre'))
          have hD := hT.2.mono t
          match r1, v, hrr with
          | none, none, _ => exact hD
          | some x, some u, hrr => exact ⟨hrr, hD⟩
        · cases h
      · cases h
    · cases h
/-- cases: for each of n ints a list of stretches that covers all, and what lies behind each -/
def ai_T : Nat → Type
  | 0 => Unit
  | n + 1 => List ((Int × Int) × ai_T n)
def ai_cov : Int → List (Int × Int) → Bool
  | lo, [] => ai_lt 2147483647 lo
  | lo, q :: r => ai_le q.1 lo && ai_cov (q.2 + 1) r
theorem ai_cov_ok : ∀ {l : List (Int × Int)} {lo : Int}, ai_cov lo l = true → ∀ v : Int, lo ≤ v → v ≤ 2147483647 → ∃ q ∈ l, q.1 ≤ v ∧ v ≤ q.2
  | [], lo, h, v, h1, h2 => by
    have h : ai_lt 2147483647 lo = true := h
    rw [ai_lt_iff] at h
    omega
  | q :: r, lo, h, v, h1, h2 => by
    have h : (ai_le q.1 lo && ai_cov (q.2 + 1) r) = true := h
    rw [Bool.and_eq_true, ai_le_iff] at h
    by_cases hq : v ≤ q.2
    · exact ⟨q, List.mem_cons_self, by omega, hq⟩
    · obtain ⟨q', h3, h4⟩ := ai_cov_ok h.2 v (by omega) h2
      exact ⟨q', List.mem_cons_of_mem _ h3, h4⟩
def ai_tr : (n : Nat) → ai_T n → (List (Int × Int) → Bool) → Bool
  | 0, _, f => f []
  | n + 1, t, f => ai_cov (-2147483648) (List.map (fun q : (Int × Int) × ai_T n => q.1) t) && List.all t (fun q : (Int × Int) × ai_T n => ai_tr n q.2 (fun r => f (q.1 :: r)))
def ai_bx : List (Int × Int) → List Int32 → Prop
  | [], [] => True
  | q :: r, x :: xs => (q.1 ≤ x.toInt ∧ x.toInt ≤ q.2) ∧ ai_bx r xs
  | _, _ => False
theorem ai_tr_ok : ∀ (n : Nat) (t : ai_T n) (f : List (Int × Int) → Bool), ai_tr n t f = true → ∀ xs : List Int32, xs.length = n → ∃ bx, ai_bx bx xs ∧ f bx = true
  | 0, _, f, h, [], _ => ⟨[], trivial, h⟩
  | 0, _, f, h, _ :: _, hl => by cases hl
  | n + 1, t, f, h, [], hl => by cases hl
  | n + 1, t, f, h, x :: xs, hl => by
    have h : (ai_cov (-2147483648) (List.map (fun q : (Int × Int) × ai_T n => q.1) t) && List.all t (fun q : (Int × Int) × ai_T n => ai_tr n q.2 (fun r => f (q.1 :: r)))) = true := h
    rw [Bool.and_eq_true] at h
    have hx := ai_tI_ok x
    obtain ⟨q, hq, h1, h2⟩ := ai_cov_ok h.1 x.toInt hx.1 hx.2
    obtain ⟨u, hu, rfl⟩ := List.mem_map.mp hq
    have h3 := List.all_eq_true.mp h.2 u hu
    obtain ⟨bx, h4, h5⟩ := ai_tr_ok n u.2 _ h3 xs (by simpa using hl)
    exact ⟨u.1 :: bx, ⟨⟨h1, h2⟩, h4⟩, h5⟩
def ai_lw (f d : Nat) (M : ai_M) (L : ai_Ls) (w : ai_W) (c s pc : Nat) (mt : List ai_M) (k : Int) (bx : List (Int × Int)) : Bool := match ai_ex mt f (.inr (.inl ai_tI) :: bx.map (fun q => .inr (.inl q))) d M (ai_jm (ai_cd M) pc) pc L [.inr (.inl (k, k))] w c s with
  | some (some (.inr (.inl q)), _, C, Z) => (ai_le q.2 1 && ai_le 1 q.1) && (Nat.ble C 600000 && Nat.ble Z 7302250)
  | _ => false
end
section
/-! ===== the law: its first stretch, and the world behind both constructors ===== -/
def ai_dV : DecidableEq ai_V := inferInstance
def ai_dLi {α : Type} (h : DecidableEq α) : DecidableEq (List α) := inferInstance
def ai_dPr {α : Type} (h : DecidableEq α) : DecidableEq (Nat × α) := inferInstance
def ai_dC : DecidableEq ai_C := ai_dPr (ai_dLi ai_dV)
def ai_dW : DecidableEq ai_W := ai_dLi ai_dC
def ai_dL : DecidableEq ai_Ls := ai_dLi (ai_dPr ai_dV)
def ai_isS (x : Option (ai_Ls × List ai_V × ai_W × Nat × Nat)) (L : ai_Ls) (S : List ai_V) (w : ai_W) (c s : Nat) : Bool := match x with
  | some (L', S', w', c', s') => (@decide _ (ai_dL L' L)) && ((@decide _ (ai_dLi ai_dV S' S)) && ((@decide _ (ai_dW w' w)) && (Nat.beq c' c && Nat.beq s' s)))
  | none => false
theorem ai_isS_ok {x : Option (ai_Ls × List ai_V × ai_W × Nat × Nat)} {L : ai_Ls} {S : List ai_V} {w : ai_W} {c s : Nat} (h : ai_isS x L S w c s = true) : x = some (L, S, w, c, s) := by
  unfold ai_isS at h
  split at h
  · rw [Bool.and_eq_true, Bool.and_eq_true, Bool.and_eq_true, Bool.and_eq_true] at h
    obtain ⟨h1, h2, h3, h4, h5⟩ := h
    rw [@of_decide_eq_true _ (ai_dL _ _) h1, @of_decide_eq_true _ (ai_dLi ai_dV _ _) h2, @of_decide_eq_true _ (ai_dW _ _) h3, Nat.eq_of_beq_eq_true h4, Nat.eq_of_beq_eq_true h5]
  · cases h
theorem hn_8_7 : ∃ (C : String) (T : u_T) (N : Nat), classes[0]? = some (C, T, N) ∧ Cond.classLink (cn_of 8) 7 C ∈ ww_ok := ⟨_, _, _, rfl, ww_t 18 (by decide +kernel)⟩
theorem hc_8_9 : ai_CF (cn_of 8) M_0 (.invokespecial 9) 2 := ⟨9, Or.inr (Or.inr (Or.inl ⟨rfl, rfl, ww_t 20 (by decide +kernel), ww_t 21 (by decide +kernel), rfl, rfl, 0, rfl, by decide +kernel⟩))⟩
theorem hn_8_10 : ∃ (C : String) (T : u_T) (N : Nat), classes[6]? = some (C, T, N) ∧ Cond.classLink (cn_of 8) 10 C ∈ ww_ok := ⟨_, _, _, rfl, ww_t 999 (by decide +kernel)⟩
theorem hc_8_12 : ai_CF (cn_of 8) M_78 (.invokespecial 12) 2 := ⟨12, Or.inr (Or.inr (Or.inl ⟨rfl, rfl, ww_t 1001 (by decide +kernel), ww_t 1002 (by decide +kernel), rfl, rfl, 0, rfl, by decide +kernel⟩))⟩
def C_A : List ai_E := [(0, 3, .new 7, 3, 0, 0, 0), (3, 0, .dup, 1, 0, 0, 0), (4, 4, .invokespecial 9, 3, 0, 2, 0), (7, 0, .astore_n 1, 1, 0, 0, 0), (8, 3, .new 10, 3, 6, 0, 0), (11, 0, .dup, 1, 0, 0, 0), (12, 4, .invokespecial 12, 3, 78, 2, 0), (15, 0, .astore_n 2, 1, 0, 0, 0), (16, 0, .iconst 0, 1, 0, 0, 0), (17, 0, .istore_n 3, 1, 0, 0, 0)]
def C_B : List ai_E := [(18, 0, .iload_n 3, 1, 0, 0, 0), (19, 0, .aload_n 0, 1, 0, 0, 0), (20, 3, .arraylength, 1, 0, 0, 0), (21, 0, .bipush 6, 2, 0, 0, 0), (23, 1, .isub, 1, 0, 0, 0), (24, 2, .if_icmp .gt 1953, 3, 1977, 0, 0), (27, 0, .aload_n 0, 1, 0, 0, 0), (28, 0, .iload_n 3, 1, 0, 0, 0), (29, 3, .iaload, 1, 0, 0, 0), (30, 0, .bipush 63, 2, 0, 0, 0)]
theorem ek_A : ∀ x ∈ C_A, ai_EK ai_mt M_146 x := List.forall_mem_cons.mpr ⟨ek_3 (by decide +kernel) rfl hn_8_7, List.forall_mem_cons.mpr ⟨ek_0 (by decide +kernel) rfl rfl, List.forall_mem_cons.mpr ⟨ek_4 (by decide +kernel) rfl hc_8_9, List.forall_mem_cons.mpr ⟨ek_0 (by decide +kernel) rfl rfl, List.forall_mem_cons.mpr ⟨ek_3 (by decide +kernel) rfl hn_8_10, List.forall_mem_cons.mpr ⟨ek_0 (by decide +kernel) rfl rfl, List.forall_mem_cons.mpr ⟨ek_4 (by decide +kernel) rfl hc_8_12, List.forall_mem_cons.mpr ⟨ek_0 (by decide +kernel) rfl rfl, List.forall_mem_cons.mpr ⟨ek_0 (by decide +kernel) rfl rfl, List.forall_mem_cons.mpr ⟨ek_0 (by decide +kernel) rfl rfl, fun _ h => absurd h List.not_mem_nil⟩⟩⟩⟩⟩⟩⟩⟩⟩⟩
theorem ek_B : ∀ x ∈ C_B, ai_EK ai_mt M_146 x := List.forall_mem_cons.mpr ⟨ek_0 (by decide +kernel) rfl rfl, List.forall_mem_cons.mpr ⟨ek_0 (by decide +kernel) rfl rfl, List.forall_mem_cons.mpr ⟨ek_3 (by decide +kernel) rfl trivial, List.forall_mem_cons.mpr ⟨ek_0 (by decide +kernel) rfl rfl, List.forall_mem_cons.mpr ⟨ek_1 (by decide +kernel) rfl, List.forall_mem_cons.mpr ⟨ek_2 (by decide +kernel) rfl rfl, List.forall_mem_cons.mpr ⟨ek_0 (by decide +kernel) rfl rfl, List.forall_mem_cons.mpr ⟨ek_0 (by decide +kernel) rfl rfl, List.forall_mem_cons.mpr ⟨ek_3 (by decide +kernel) rfl trivial, List.forall_mem_cons.mpr ⟨ek_0 (by decide +kernel) rfl rfl, fun _ h => absurd h List.not_mem_nil⟩⟩⟩⟩⟩⟩⟩⟩⟩⟩
def w_0_0 : ai_W := [(0, [.inl (some 3), .inl (some 4), .inl (some 5), .inl (some 6), .inl (some 8), .inl (some 9), .inl (some 16), .inl (some 23), .inl (some 36), .inl (some 37), .inr (.inl (0, 0)), .inr (.inl ((-1), (-1))), .inr (.inl (0, 0))]), (14, [.inl (some 38), .inl (some 64), .inl (some 90), .inl (some 116)]), (14, [.inl (some 51), .inl (some 77), .inl (some 103), .inl (some 129)]), (15, [.inl (some 142), .inl (some 144), .inl (some 146), .inl (some 148), .inl (some 150), .inl (some 152), .inl (some 154), .inl (some 156)]), (4, [.inr (.inl (0, 0)), .inl (some 7), .inr (.inl (0, 0)), .inr (.inl (0, 0)), .inr (.inl (0, 0)), .inr (.inl ((-1), (-1)))]), (12, List.replicate 200 (.inr (.inl (0, 0)))), (5, [.inr (.inl (0, 0)), .inr (.inr (0, 0)), .inr (.inr (0, 0)), .inr (.inr (0, 0)), .inr (.inr (0, 0)), .inr (.inr (0, 0)), .inr (.inr (0, 0)), .inr (.inr (0, 0)), .inr (.inr (0, 0)), .inr (.inl (0, 0)), .inr (.inl (0, 0)), .inr (.inr (0, 0)), .inr (.inr (0, 0)), .inr (.inl (0, 0)), .inr (.inr (0, 0)), .inr (.inr (0, 0)), .inr (.inl (0, 0))]), (2, [.inr (.inl ((-1), (-1))), .inr (.inl (0, 0)), .inr (.inl (0, 0)), .inr (.inl (0, 0)), .inr (.inl (2, 2)), .inr (.inl ((-1), (-1))), .inr (.inl ((-1), (-1))), .inr (.inl (0, 0)), .inr (.inl (0, 0)), .inl (some 10), .inl (some 11), .inl (some 12), .inl (some 13), .inl (some 14), .inl (some 15)]), (11, List.replicate 1000 (.inr (.inr (0, 0)))), (10, List.replicate 1000 (.inr (.inl (0, 0)))), (10, List.replicate 1000 (.inr (.inl (0, 0)))), (10, List.replicate 2048 (.inr (.inl (0, 0)))), (10, [.inr (.inl (0, 0)), .inr (.inl (0, 0)), .inr (.inl (0, 0)), .inr (.inl (0, 0)), .inr (.inl (0, 0)), .inr (.inl (0, 0))]), (5, [.inr (.inl (0, 0)), .inr (.inr (0, 0)), .inr (.inr (0, 0)), .inr (.inr (0, 0)), .inr (.inr (0, 0)), .inr (.inr (0, 0)), .inr (.inr (0, 0)), .inr (.inr (0, 0)), .inr (.inr (0, 0)), .inr (.inl (0, 0)), .inr (.inl (0, 0)), .inr (.inr (0, 0)), .inr (.inr (0, 0)), .inr (.inl (0, 0)), .inr (.inr (0, 0)), .inr (.inr (0, 0)), .inr (.inl (0, 0))]), (2, [.inr (.inl ((-1), (-1))), .inr (.inl (0, 0)), .inr (.inl (0, 0)), .inr (.inl (0, 0)), .inr (.inl (2, 2)), .inr (.inl ((-1), (-1))), .inr (.inl ((-1), (-1))), .inr (.inl (0, 0)), .inr (.inl (0, 0)), .inl (some 17), .inl (some 18), .inl (some 19), .inl (some 20), .inl (some 21), .inl (some 22)]), (11, List.replicate 1000 (.inr (.inr (0, 0)))), (10, List.replicate 1000 (.inr (.inl (0, 0)))), (10, List.replicate 1000 (.inr (.inl (0, 0)))), (10, List.replicate 2048 (.inr (.inl (0, 0)))), (10, [.inr (.inl (0, 0)), .inr (.inl (0, 0)), .inr (.inl (0, 0)), .inr (.inl (0, 0)), .inr (.inl (0, 0)), .inr (.inl (0, 0))]), (5, [.inr (.inl (0, 0)), .inr (.inr (0, 0)), .inr (.inr (0, 0)), .inr (.inr (0, 0)), .inr (.inr (0, 0)), .inr (.inr (0, 0)), .inr (.inr (0, 0)), .inr (.inr (0, 0)), .inr (.inr (0, 0)), .inr (.inl (0, 0)), .inr (.inl (0, 0)), .inr (.inr (0, 0)), .inr (.inr (0, 0)), .inr (.inl (0, 0)), .inr (.inr (0, 0)), .inr (.inr (0, 0)), .inr (.inl (0, 0))]), (1, [.inr (.inl (0, 0)), .inr (.inl (0, 0)), .inr (.inr (0, 0)), .inr (.inl (0, 0)), .inr (.inl (2, 2)), .inr (.inl (0, 0)), .inr (.inl (0, 0)), .inr (.inl (0, 0)), .inr (.inl (0, 0)), .inl (some 24), .inl (some 25), .inl (some 26), .inl (some 27), .inl (some 28), .inl (some 29), .inl (some 30), .inl (some 31)]), (10, [.inr (.inl (0, 0)), .inr (.inl (0, 0)), .inr (.inl (0, 0)), .inr (.inl (0, 0)), .inr (.inl (0, 0)), .inr (.inl (0, 0))]), (10, [.inr (.inl (0, 0)), .inr (.inl (0, 0)), .inr (.inl (0, 0)), .inr (.inl (0, 0)), .inr (.inl (0, 0)), .inr (.inl (0, 0))]), (10, [.inr (.inl (0, 0)), .inr (.inl (0, 0)), .inr (.inl (0, 0)), .inr (.inl (0, 0)), .inr (.inl (0, 0)), .inr (.inl (0, 0))]), (13, [.inr (.inl (0, 0)), .inr (.inl (0, 0)), .inr (.inl (0, 0)), .inr (.inl (0, 0)), .inr (.inl (0, 0)), .inr (.inl (0, 0))]), (13, [.inr (.inl (0, 0)), .inr (.inl (0, 0)), .inr (.inl (0, 0)), .inr (.inl (0, 0)), .inr (.inl (0, 0)), .inr (.inl (0, 0))]), (10, [.inr (.inl (0, 0)), .inr (.inl (0, 0)), .inr (.inl (0, 0)), .inr (.inl (0, 0)), .inr (.inl (0, 0)), .inr (.inl (0, 0))]), (10, [.inr (.inl (0, 0)), .inr (.inl (0, 0)), .inr (.inl (0, 0)), .inr (.inl (0, 0)), .inr (.inl (0, 0)), .inr (.inl (0, 0))]), (16, [.inl (some 32), .inl (some 33), .inl (some 34), .inl (some 35)]), (10, [.inr (.inl (0, 0)), .inr (.inl (0, 0)), .inr (.inl (0, 0)), .inr (.inl (0, 0)), .inr (.inl (0, 0)), .inr (.inl (0, 0))]), (10, [.inr (.inl (0, 0)), .inr (.inl (0, 0)), .inr (.inl (0, 0)), .inr (.inl (0, 0)), .inr (.inl (0, 0)), .inr (.inl (0, 0))]), (10, [.inr (.inl (0, 0)), .inr (.inl (0, 0)), .inr (.inl (0, 0)), .inr (.inl (0, 0)), .inr (.inl (0, 0)), .inr (.inl (0, 0))]), (10, [.inr (.inl (0, 0)), .inr (.inl (0, 0)), .inr (.inl (0, 0)), .inr (.inl (0, 0)), .inr (.inl (0, 0)), .inr (.inl (0, 0))]), (10, [.inr (.inl (0, 0)), .inr (.inl (0, 0)), .inr (.inl (0, 0)), .inr (.inl (0, 0)), .inr (.inl (0, 0)), .inr (.inl (0, 0))]), (10, [.inr (.inl (0, 0)), .inr (.inl (0, 0)), .inr (.inl (0, 0)), .inr (.inl (0, 0)), .inr (.inl (0, 0))]), (1, [.inr (.inl (0, 0)), .inr (.inl (0, 0)), .inr (.inr (0, 0)), .inr (.inl (0, 0)), .inr (.inl (2, 2)), .inr (.inl (0, 0)), .inr (.inl (0, 0)), .inr (.inl (0, 0)), .inr (.inl (0, 0)), .inl (some 39), .inl (some 40), .inl (some 41), .inl (some 42), .inl (some 43), .inl (some 44), .inl (some 45), .inl (some 46)]), (10, [.inr (.inl (0, 0)), .inr (.inl (0, 0)), .inr (.inl (0, 0)), .inr (.inl (0, 0)), .inr (.inl (0, 0)), .inr (.inl (0, 0))]), (10, [.inr (.inl (0, 0)), .inr (.inl (0, 0)), .inr (.inl (0, 0)), .inr (.inl (0, 0)), .inr (.inl (0, 0)), .inr (.inl (0, 0))]), (10, [.inr (.inl (0, 0)), .inr (.inl (0, 0)), .inr (.inl (0, 0)), .inr (.inl (0, 0)), .inr (.inl (0, 0)), .inr (.inl (0, 0))]), (13, [.inr (.inl (0, 0)), .inr (.inl (0, 0)), .inr (.inl (0, 0)), .inr (.inl (0, 0)), .inr (.inl (0, 0)), .inr (.inl (0, 0))]), (13, [.inr (.inl (0, 0)), .inr (.inl (0, 0)), .inr (.inl (0, 0)), .inr (.inl (0, 0)), .inr (.inl (0, 0)), .inr (.inl (0, 0))]), (10, [.inr (.inl (0, 0)), .inr (.inl (0, 0)), .inr (.inl (0, 0)), .inr (.inl (0, 0)), .inr (.inl (0, 0)), .inr (.inl (0, 0))]), (10, [.inr (.inl (0, 0)), .inr (.inl (0, 0)), .inr (.inl (0, 0)), .inr (.inl (0, 0)), .inr (.inl (0, 0)), .inr (.inl (0, 0))]), (16, [.inl (some 47), .inl (some 48), .inl (some 49), .inl (some 50)]), (10, [.inr (.inl (0, 0)), .inr (.inl (0, 0)), .inr (.inl (0, 0)), .inr (.inl (0, 0)), .inr (.inl (0, 0)), .inr (.inl (0, 0))]), (10, [.inr (.inl (0, 0)), .inr (.inl (0, 0)), .inr (.inl (0, 0)), .inr (.inl (0, 0)), .inr (.inl (0, 0)), .inr (.inl (0, 0))]), (10, [.inr (.inl (0, 0)), .inr (.inl (0, 0)), .inr (.inl (0, 0)), .inr (.inl (0, 0)), .inr (.inl (0, 0)), .inr (.inl (0, 0))]), (10, [.inr (.inl (0, 0)), .inr (.inl (0, 0)), .inr (.inl (0, 0)), .inr (.inl (0, 0)), .inr (.inl (0, 0)), .inr (.inl (0, 0))]), (1, [.inr (.inl (0, 0)), .inr (.inl (0, 0)), .inr (.inr (0, 0)), .inr (.inl (0, 0)), .inr (.inl (2, 2)), .inr (.inl (0, 0)), .inr (.inl (0, 0)), .inr (.inl (0, 0)), .inr (.inl (0, 0)), .inl (some 52), .inl (some 53), .inl (some 54), .inl (some 55), .inl (some 56), .inl (some 57), .inl (some 58), .inl (some 59)]), (10, [.inr (.inl (0, 0)), .inr (.inl (0, 0)), .inr (.inl (0, 0)), .inr (.inl (0, 0)), .inr (.inl (0, 0)), .inr (.inl (0, 0))]), (10, [.inr (.inl (0, 0)), .inr (.inl (0, 0)), .inr (.inl (0, 0)), .inr (.inl (0, 0)), .inr (.inl (0, 0)), .inr (.inl (0, 0))]), (10, [.inr (.inl (0, 0)), .inr (.inl (0, 0)), .inr (.inl (0, 0)), .inr (.inl (0, 0)), .inr (.inl (0, 0)), .inr (.inl (0, 0))]), (13, [.inr (.inl (0, 0)), .inr (.inl (0, 0)), .inr (.inl (0, 0)), .inr (.inl (0, 0)), .inr (.inl (0, 0)), .inr (.inl (0, 0))]), (13, [.inr (.inl (0, 0)), .inr (.inl (0, 0)), .inr (.inl (0, 0)), .inr (.inl (0, 0)), .inr (.inl (0, 0)), .inr (.inl (0, 0))]), (10, [.inr (.inl (0, 0)), .inr (.inl (0, 0)), .inr (.inl (0, 0)), .inr (.inl (0, 0)), .inr (.inl (0, 0)), .inr (.inl (0, 0))]), (10, [.inr (.inl (0, 0)), .inr (.inl (0, 0)), .inr (.inl (0, 0)), .inr (.inl (0, 0)), .inr (.inl (0, 0)), .inr (.inl (0, 0))]), (16, [.inl (some 60), .inl (some 61), .inl (some 62), .inl (some 63)]), (10, [.inr (.inl (0, 0)), .inr (.inl (0, 0)), .inr (.inl (0, 0)), .inr (.inl (0, 0)), .inr (.inl (0, 0)), .inr (.inl (0, 0))]), (10, [.inr (.inl (0, 0)), .inr (.inl (0, 0)), .inr (.inl (0, 0)), .inr (.inl (0, 0)), .inr (.inl (0, 0)), .inr (.inl (0, 0))]), (10, [.inr (.inl (0, 0)), .inr (.inl (0, 0)), .inr (.inl (0, 0)), .inr (.inl (0, 0)), .inr (.inl (0, 0)), .inr (.inl (0, 0))]), (10, [.inr (.inl (0, 0)), .inr (.inl (0, 0)), .inr (.inl (0, 0)), .inr (.inl (0, 0)), .inr (.inl (0, 0)), .inr (.inl (0, 0))]), (1, [.inr (.inl (0, 0)), .inr (.inl (0, 0)), .inr (.inr (0, 0)), .inr (.inl (0, 0)), .inr (.inl (2, 2)), .inr (.inl (0, 0)), .inr (.inl (0, 0)), .inr (.inl (0, 0)), .inr (.inl (0, 0)), .inl (some 65), .inl (some 66), .inl (some 67), .inl (some 68), .inl (some 69), .inl (some 70), .inl (some 71), .inl (some 72)]), (10, [.inr (.inl (0, 0)), .inr (.inl (0, 0)), .inr (.inl (0, 0)), .inr (.inl (0, 0)), .inr (.inl (0, 0)), .inr (.inl (0, 0))]), (10, [.inr (.inl (0, 0)), .inr (.inl (0, 0)), .inr (.inl (0, 0)), .inr (.inl (0, 0)), .inr (.inl (0, 0)), .inr (.inl (0, 0))])]
def w_0_1 : ai_W := [(10, [.inr (.inl (0, 0)), .inr (.inl (0, 0)), .inr (.inl (0, 0)), .inr (.inl (0, 0)), .inr (.inl (0, 0)), .inr (.inl (0, 0))]), (13, [.inr (.inl (0, 0)), .inr (.inl (0, 0)), .inr (.inl (0, 0)), .inr (.inl (0, 0)), .inr (.inl (0, 0)), .inr (.inl (0, 0))]), (13, [.inr (.inl (0, 0)), .inr (.inl (0, 0)), .inr (.inl (0, 0)), .inr (.inl (0, 0)), .inr (.inl (0, 0)), .inr (.inl (0, 0))]), (10, [.inr (.inl (0, 0)), .inr (.inl (0, 0)), .inr (.inl (0, 0)), .inr (.inl (0, 0)), .inr (.inl (0, 0)), .inr (.inl (0, 0))]), (10, [.inr (.inl (0, 0)), .inr (.inl (0, 0)), .inr (.inl (0, 0)), .inr (.inl (0, 0)), .inr (.inl (0, 0)), .inr (.inl (0, 0))]), (16, [.inl (some 73), .inl (some 74), .inl (some 75), .inl (some 76)]), (10, [.inr (.inl (0, 0)), .inr (.inl (0, 0)), .inr (.inl (0, 0)), .inr (.inl (0, 0)), .inr (.inl (0, 0)), .inr (.inl (0, 0))]), (10, [.inr (.inl (0, 0)), .inr (.inl (0, 0)), .inr (.inl (0, 0)), .inr (.inl (0, 0)), .inr (.inl (0, 0)), .inr (.inl (0, 0))]), (10, [.inr (.inl (0, 0)), .inr (.inl (0, 0)), .inr (.inl (0, 0)), .inr (.inl (0, 0)), .inr (.inl (0, 0)), .inr (.inl (0, 0))]), (10, [.inr (.inl (0, 0)), .inr (.inl (0, 0)), .inr (.inl (0, 0)), .inr (.inl (0, 0)), .inr (.inl (0, 0)), .inr (.inl (0, 0))]), (1, [.inr (.inl (0, 0)), .inr (.inl (0, 0)), .inr (.inr (0, 0)), .inr (.inl (0, 0)), .inr (.inl (2, 2)), .inr (.inl (0, 0)), .inr (.inl (0, 0)), .inr (.inl (0, 0)), .inr (.inl (0, 0)), .inl (some 78), .inl (some 79), .inl (some 80), .inl (some 81), .inl (some 82), .inl (some 83), .inl (some 84), .inl (some 85)]), (10, [.inr (.inl (0, 0)), .inr (.inl (0, 0)), .inr (.inl (0, 0)), .inr (.inl (0, 0)), .inr (.inl (0, 0)), .inr (.inl (0, 0))]), (10, [.inr (.inl (0, 0)), .inr (.inl (0, 0)), .inr (.inl (0, 0)), .inr (.inl (0, 0)), .inr (.inl (0, 0)), .inr (.inl (0, 0))]), (10, [.inr (.inl (0, 0)), .inr (.inl (0, 0)), .inr (.inl (0, 0)), .inr (.inl (0, 0)), .inr (.inl (0, 0)), .inr (.inl (0, 0))]), (13, [.inr (.inl (0, 0)), .inr (.inl (0, 0)), .inr (.inl (0, 0)), .inr (.inl (0, 0)), .inr (.inl (0, 0)), .inr (.inl (0, 0))]), (13, [.inr (.inl (0, 0)), .inr (.inl (0, 0)), .inr (.inl (0, 0)), .inr (.inl (0, 0)), .inr (.inl (0, 0)), .inr (.inl (0, 0))]), (10, [.inr (.inl (0, 0)), .inr (.inl (0, 0)), .inr (.inl (0, 0)), .inr (.inl (0, 0)), .inr (.inl (0, 0)), .inr (.inl (0, 0))]), (10, [.inr (.inl (0, 0)), .inr (.inl (0, 0)), .inr (.inl (0, 0)), .inr (.inl (0, 0)), .inr (.inl (0, 0)), .inr (.inl (0, 0))]), (16, [.inl (some 86), .inl (some 87), .inl (some 88), .inl (some 89)]), (10, [.inr (.inl (0, 0)), .inr (.inl (0, 0)), .inr (.inl (0, 0)), .inr (.inl (0, 0)), .inr (.inl (0, 0)), .inr (.inl (0, 0))]), (10, [.inr (.inl (0, 0)), .inr (.inl (0, 0)), .inr (.inl (0, 0)), .inr (.inl (0, 0)), .inr (.inl (0, 0)), .inr (.inl (0, 0))]), (10, [.inr (.inl (0, 0)), .inr (.inl (0, 0)), .inr (.inl (0, 0)), .inr (.inl (0, 0)), .inr (.inl (0, 0)), .inr (.inl (0, 0))]), (10, [.inr (.inl (0, 0)), .inr (.inl (0, 0)), .inr (.inl (0, 0)), .inr (.inl (0, 0)), .inr (.inl (0, 0)), .inr (.inl (0, 0))]), (1, [.inr (.inl (0, 0)), .inr (.inl (0, 0)), .inr (.inr (0, 0)), .inr (.inl (0, 0)), .inr (.inl (2, 2)), .inr (.inl (0, 0)), .inr (.inl (0, 0)), .inr (.inl (0, 0)), .inr (.inl (0, 0)), .inl (some 91), .inl (some 92), .inl (some 93), .inl (some 94), .inl (some 95), .inl (some 96), .inl (some 97), .inl (some 98)]), (10, [.inr (.inl (0, 0)), .inr (.inl (0, 0)), .inr (.inl (0, 0)), .inr (.inl (0, 0)), .inr (.inl (0, 0)), .inr (.inl (0, 0))]), (10, [.inr (.inl (0, 0)), .inr (.inl (0, 0)), .inr (.inl (0, 0)), .inr (.inl (0, 0)), .inr (.inl (0, 0)), .inr (.inl (0, 0))]), (10, [.inr (.inl (0, 0)), .inr (.inl (0, 0)), .inr (.inl (0, 0)), .inr (.inl (0, 0)), .inr (.inl (0, 0)), .inr (.inl (0, 0))]), (13, [.inr (.inl (0, 0)), .inr (.inl (0, 0)), .inr (.inl (0, 0)), .inr (.inl (0, 0)), .inr (.inl (0, 0)), .inr (.inl (0, 0))]), (13, [.inr (.inl (0, 0)), .inr (.inl (0, 0)), .inr (.inl (0, 0)), .inr (.inl (0, 0)), .inr (.inl (0, 0)), .inr (.inl (0, 0))]), (10, [.inr (.inl (0, 0)), .inr (.inl (0, 0)), .inr (.inl (0, 0)), .inr (.inl (0, 0)), .inr (.inl (0, 0)), .inr (.inl (0, 0))]), (10, [.inr (.inl (0, 0)), .inr (.inl (0, 0)), .inr (.inl (0, 0)), .inr (.inl (0, 0)), .inr (.inl (0, 0)), .inr (.inl (0, 0))]), (16, [.inl (some 99), .inl (some 100), .inl (some 101), .inl (some 102)]), (10, [.inr (.inl (0, 0)), .inr (.inl (0, 0)), .inr (.inl (0, 0)), .inr (.inl (0, 0)), .inr (.inl (0, 0)), .inr (.inl (0, 0))]), (10, [.inr (.inl (0, 0)), .inr (.inl (0, 0)), .inr (.inl (0, 0)), .inr (.inl (0, 0)), .inr (.inl (0, 0)), .inr (.inl (0, 0))]), (10, [.inr (.inl (0, 0)), .inr (.inl (0, 0)), .inr (.inl (0, 0)), .inr (.inl (0, 0)), .inr (.inl (0, 0)), .inr (.inl (0, 0))]), (10, [.inr (.inl (0, 0)), .inr (.inl (0, 0)), .inr (.inl (0, 0)), .inr (.inl (0, 0)), .inr (.inl (0, 0)), .inr (.inl (0, 0))]), (1, [.inr (.inl (0, 0)), .inr (.inl (0, 0)), .inr (.inr (0, 0)), .inr (.inl (0, 0)), .inr (.inl (2, 2)), .inr (.inl (0, 0)), .inr (.inl (0, 0)), .inr (.inl (0, 0)), .inr (.inl (0, 0)), .inl (some 104), .inl (some 105), .inl (some 106), .inl (some 107), .inl (some 108), .inl (some 109), .inl (some 110), .inl (some 111)]), (10, [.inr (.inl (0, 0)), .inr (.inl (0, 0)), .inr (.inl (0, 0)), .inr (.inl (0, 0)), .inr (.inl (0, 0)), .inr (.inl (0, 0))]), (10, [.inr (.inl (0, 0)), .inr (.inl (0, 0)), .inr (.inl (0, 0)), .inr (.inl (0, 0)), .inr (.inl (0, 0)), .inr (.inl (0, 0))]), (10, [.inr (.inl (0, 0)), .inr (.inl (0, 0)), .inr (.inl (0, 0)), .inr (.inl (0, 0)), .inr (.inl (0, 0)), .inr (.inl (0, 0))]), (13, [.inr (.inl (0, 0)), .inr (.inl (0, 0)), .inr (.inl (0, 0)), .inr (.inl (0, 0)), .inr (.inl (0, 0)), .inr (.inl (0, 0))]), (13, [.inr (.inl (0, 0)), .inr (.inl (0, 0)), .inr (.inl (0, 0)), .inr (.inl (0, 0)), .inr (.inl (0, 0)), .inr (.inl (0, 0))]), (10, [.inr (.inl (0, 0)), .inr (.inl (0, 0)), .inr (.inl (0, 0)), .inr (.inl (0, 0)), .inr (.inl (0, 0)), .inr (.inl (0, 0))]), (10, [.inr (.inl (0, 0)), .inr (.inl (0, 0)), .inr (.inl (0, 0)), .inr (.inl (0, 0)), .inr (.inl (0, 0)), .inr (.inl (0, 0))]), (16, [.inl (some 112), .inl (some 113), .inl (some 114), .inl (some 115)]), (10, [.inr (.inl (0, 0)), .inr (.inl (0, 0)), .inr (.inl (0, 0)), .inr (.inl (0, 0)), .inr (.inl (0, 0)), .inr (.inl (0, 0))]), (10, [.inr (.inl (0, 0)), .inr (.inl (0, 0)), .inr (.inl (0, 0)), .inr (.inl (0, 0)), .inr (.inl (0, 0)), .inr (.inl (0, 0))]), (10, [.inr (.inl (0, 0)), .inr (.inl (0, 0)), .inr (.inl (0, 0)), .inr (.inl (0, 0)), .inr (.inl (0, 0)), .inr (.inl (0, 0))]), (10, [.inr (.inl (0, 0)), .inr (.inl (0, 0)), .inr (.inl (0, 0)), .inr (.inl (0, 0)), .inr (.inl (0, 0)), .inr (.inl (0, 0))]), (1, [.inr (.inl (0, 0)), .inr (.inl (0, 0)), .inr (.inr (0, 0)), .inr (.inl (0, 0)), .inr (.inl (2, 2)), .inr (.inl (0, 0)), .inr (.inl (0, 0)), .inr (.inl (0, 0)), .inr (.inl (0, 0)), .inl (some 117), .inl (some 118), .inl (some 119), .inl (some 120), .inl (some 121), .inl (some 122), .inl (some 123), .inl (some 124)]), (10, [.inr (.inl (0, 0)), .inr (.inl (0, 0)), .inr (.inl (0, 0)), .inr (.inl (0, 0)), .inr (.inl (0, 0)), .inr (.inl (0, 0))]), (10, [.inr (.inl (0, 0)), .inr (.inl (0, 0)), .inr (.inl (0, 0)), .inr (.inl (0, 0)), .inr (.inl (0, 0)), .inr (.inl (0, 0))]), (10, [.inr (.inl (0, 0)), .inr (.inl (0, 0)), .inr (.inl (0, 0)), .inr (.inl (0, 0)), .inr (.inl (0, 0)), .inr (.inl (0, 0))]), (13, [.inr (.inl (0, 0)), .inr (.inl (0, 0)), .inr (.inl (0, 0)), .inr (.inl (0, 0)), .inr (.inl (0, 0)), .inr (.inl (0, 0))]), (13, [.inr (.inl (0, 0)), .inr (.inl (0, 0)), .inr (.inl (0, 0)), .inr (.inl (0, 0)), .inr (.inl (0, 0)), .inr (.inl (0, 0))]), (10, [.inr (.inl (0, 0)), .inr (.inl (0, 0)), .inr (.inl (0, 0)), .inr (.inl (0, 0)), .inr (.inl (0, 0)), .inr (.inl (0, 0))]), (10, [.inr (.inl (0, 0)), .inr (.inl (0, 0)), .inr (.inl (0, 0)), .inr (.inl (0, 0)), .inr (.inl (0, 0)), .inr (.inl (0, 0))]), (16, [.inl (some 125), .inl (some 126), .inl (some 127), .inl (some 128)]), (10, [.inr (.inl (0, 0)), .inr (.inl (0, 0)), .inr (.inl (0, 0)), .inr (.inl (0, 0)), .inr (.inl (0, 0)), .inr (.inl (0, 0))]), (10, [.inr (.inl (0, 0)), .inr (.inl (0, 0)), .inr (.inl (0, 0)), .inr (.inl (0, 0)), .inr (.inl (0, 0)), .inr (.inl (0, 0))]), (10, [.inr (.inl (0, 0)), .inr (.inl (0, 0)), .inr (.inl (0, 0)), .inr (.inl (0, 0)), .inr (.inl (0, 0)), .inr (.inl (0, 0))]), (10, [.inr (.inl (0, 0)), .inr (.inl (0, 0)), .inr (.inl (0, 0)), .inr (.inl (0, 0)), .inr (.inl (0, 0)), .inr (.inl (0, 0))]), (1, [.inr (.inl (0, 0)), .inr (.inl (0, 0)), .inr (.inr (0, 0)), .inr (.inl (0, 0)), .inr (.inl (2, 2)), .inr (.inl (0, 0)), .inr (.inl (0, 0)), .inr (.inl (0, 0)), .inr (.inl (0, 0)), .inl (some 130), .inl (some 131), .inl (some 132), .inl (some 133), .inl (some 134), .inl (some 135), .inl (some 136), .inl (some 137)]), (10, [.inr (.inl (0, 0)), .inr (.inl (0, 0)), .inr (.inl (0, 0)), .inr (.inl (0, 0)), .inr (.inl (0, 0)), .inr (.inl (0, 0))]), (10, [.inr (.inl (0, 0)), .inr (.inl (0, 0)), .inr (.inl (0, 0)), .inr (.inl (0, 0)), .inr (.inl (0, 0)), .inr (.inl (0, 0))])]
def w_0_2 : ai_W := [(10, [.inr (.inl (0, 0)), .inr (.inl (0, 0)), .inr (.inl (0, 0)), .inr (.inl (0, 0)), .inr (.inl (0, 0)), .inr (.inl (0, 0))]), (13, [.inr (.inl (0, 0)), .inr (.inl (0, 0)), .inr (.inl (0, 0)), .inr (.inl (0, 0)), .inr (.inl (0, 0)), .inr (.inl (0, 0))]), (13, [.inr (.inl (0, 0)), .inr (.inl (0, 0)), .inr (.inl (0, 0)), .inr (.inl (0, 0)), .inr (.inl (0, 0)), .inr (.inl (0, 0))]), (10, [.inr (.inl (0, 0)), .inr (.inl (0, 0)), .inr (.inl (0, 0)), .inr (.inl (0, 0)), .inr (.inl (0, 0)), .inr (.inl (0, 0))]), (10, [.inr (.inl (0, 0)), .inr (.inl (0, 0)), .inr (.inl (0, 0)), .inr (.inl (0, 0)), .inr (.inl (0, 0)), .inr (.inl (0, 0))]), (16, [.inl (some 138), .inl (some 139), .inl (some 140), .inl (some 141)]), (10, [.inr (.inl (0, 0)), .inr (.inl (0, 0)), .inr (.inl (0, 0)), .inr (.inl (0, 0)), .inr (.inl (0, 0)), .inr (.inl (0, 0))]), (10, [.inr (.inl (0, 0)), .inr (.inl (0, 0)), .inr (.inl (0, 0)), .inr (.inl (0, 0)), .inr (.inl (0, 0)), .inr (.inl (0, 0))]), (10, [.inr (.inl (0, 0)), .inr (.inl (0, 0)), .inr (.inl (0, 0)), .inr (.inl (0, 0)), .inr (.inl (0, 0)), .inr (.inl (0, 0))]), (10, [.inr (.inl (0, 0)), .inr (.inl (0, 0)), .inr (.inl (0, 0)), .inr (.inl (0, 0)), .inr (.inl (0, 0)), .inr (.inl (0, 0))]), (3, [.inr (.inl ((-1), (-1))), .inr (.inl (0, 0)), .inl (some 143), .inr (.inl (0, 0)), .inr (.inl (0, 0))]), (11, List.replicate 40 (.inr (.inr (0, 0)))), (3, [.inr (.inl ((-1), (-1))), .inr (.inl (0, 0)), .inl (some 145), .inr (.inl (0, 0)), .inr (.inl (0, 0))]), (11, List.replicate 40 (.inr (.inr (0, 0)))), (3, [.inr (.inl ((-1), (-1))), .inr (.inl (0, 0)), .inl (some 147), .inr (.inl (0, 0)), .inr (.inl (0, 0))]), (11, List.replicate 40 (.inr (.inr (0, 0)))), (3, [.inr (.inl ((-1), (-1))), .inr (.inl (0, 0)), .inl (some 149), .inr (.inl (0, 0)), .inr (.inl (0, 0))]), (11, List.replicate 40 (.inr (.inr (0, 0)))), (3, [.inr (.inl ((-1), (-1))), .inr (.inl (0, 0)), .inl (some 151), .inr (.inl (0, 0)), .inr (.inl (0, 0))]), (11, List.replicate 40 (.inr (.inr (0, 0)))), (3, [.inr (.inl ((-1), (-1))), .inr (.inl (0, 0)), .inl (some 153), .inr (.inl (0, 0)), .inr (.inl (0, 0))]), (11, List.replicate 40 (.inr (.inr (0, 0)))), (3, [.inr (.inl ((-1), (-1))), .inr (.inl (0, 0)), .inl (some 155), .inr (.inl (0, 0)), .inr (.inl (0, 0))]), (11, List.replicate 40 (.inr (.inr (0, 0)))), (3, [.inr (.inl ((-1), (-1))), .inr (.inl (0, 0)), .inl (some 157), .inr (.inl (0, 0)), .inr (.inl (0, 0))]), (11, List.replicate 40 (.inr (.inr (0, 0)))), (6, [.inl (some 159), .inl (some 160), .inl (some 161), .inl (some 162), .inl (some 171), .inl (some 172), .inl (some 173), .inl (some 174), .inl (some 175), .inr (.inl (0, 0)), .inl (some 176), .inr (.inl (0, 0)), .inl (some 177), .inl (some 183), .inl (some 184), .inl (some 190), .inl (some 196), .inl none, .inl (some 202), .inl (some 203), .inl (some 204), .inl (some 205), .inr (.inl (0, 0)), .inr (.inl (0, 0)), .inr (.inl (0, 0)), .inr (.inl (0, 0)), .inr (.inl (0, 0)), .inr (.inl (0, 0)), .inr (.inl ((-1), (-1))), .inr (.inl (0, 0)), .inl (some 210), .inl (some 206), .inl (some 207), .inr (.inl (0, 0)), .inr (.inl (0, 0)), .inr (.inl (0, 0)), .inr (.inl (0, 0)), .inr (.inr (0, 0)), .inr (.inl (0, 0)), .inr (.inl (0, 0)), .inl (some 208), .inr (.inl (0, 0)), .inl (some 209)]), (10, [.inr (.inl (0, 0)), .inr (.inl (0, 0)), .inr (.inl (0, 0)), .inr (.inl (0, 0)), .inr (.inl (0, 0)), .inr (.inl (0, 0)), .inr (.inl (0, 0)), .inr (.inl (0, 0))]), (10, [.inr (.inl (0, 0)), .inr (.inl (0, 0)), .inr (.inl (0, 0)), .inr (.inl (0, 0)), .inr (.inl (0, 0)), .inr (.inl (0, 0)), .inr (.inl (0, 0)), .inr (.inl (0, 0))]), (10, [.inr (.inl (0, 0)), .inr (.inl (0, 0)), .inr (.inl (0, 0)), .inr (.inl (0, 0)), .inr (.inl (0, 0)), .inr (.inl (0, 0)), .inr (.inl (0, 0)), .inr (.inl (0, 0))]), (17, [.inl (some 163), .inl (some 164), .inl (some 165), .inl (some 166), .inl (some 167), .inl (some 168), .inl (some 169), .inl (some 170)]), (11, List.replicate 40 (.inr (.inr (0, 0)))), (11, List.replicate 40 (.inr (.inr (0, 0)))), (11, List.replicate 40 (.inr (.inr (0, 0)))), (11, List.replicate 40 (.inr (.inr (0, 0)))), (11, List.replicate 40 (.inr (.inr (0, 0)))), (11, List.replicate 40 (.inr (.inr (0, 0)))), (11, List.replicate 40 (.inr (.inr (0, 0)))), (11, List.replicate 40 (.inr (.inr (0, 0)))), (11, List.replicate 40 (.inr (.inr (0, 0)))), (10, [.inr (.inl (0, 0)), .inr (.inl (0, 0)), .inr (.inl (0, 0)), .inr (.inl (0, 0)), .inr (.inl (0, 0)), .inr (.inl (0, 0)), .inr (.inl (0, 0)), .inr (.inl (0, 0))]), (10, [.inr (.inl (0, 0)), .inr (.inl (0, 0)), .inr (.inl (0, 0)), .inr (.inl (0, 0)), .inr (.inl (0, 0)), .inr (.inl (0, 0)), .inr (.inl (0, 0)), .inr (.inl (0, 0))]), (10, [.inr (.inl (0, 0)), .inr (.inl (0, 0)), .inr (.inl (0, 0)), .inr (.inl (0, 0)), .inr (.inl (0, 0)), .inr (.inl (0, 0)), .inr (.inl (0, 0)), .inr (.inl (0, 0))]), (10, List.replicate 200 (.inr (.inl (0, 0)))), (10, [.inr (.inl (0, 0)), .inr (.inl (0, 0)), .inr (.inl (0, 0)), .inr (.inl (0, 0)), .inr (.inl (0, 0)), .inr (.inl (0, 0)), .inr (.inl (0, 0)), .inr (.inl (0, 0))]), (16, [.inl (some 178), .inl (some 179), .inl (some 180), .inl (some 181), .inl (some 182)]), (10, [.inr (.inl (0, 0)), .inr (.inl (0, 0)), .inr (.inl (0, 0)), .inr (.inl (0, 0)), .inr (.inl (0, 0)), .inr (.inl (0, 0)), .inr (.inl (0, 0)), .inr (.inl (0, 0))]), (10, [.inr (.inl (0, 0)), .inr (.inl (0, 0)), .inr (.inl (0, 0)), .inr (.inl (0, 0)), .inr (.inl (0, 0)), .inr (.inl (0, 0)), .inr (.inl (0, 0)), .inr (.inl (0, 0))]), (10, [.inr (.inl (0, 0)), .inr (.inl (0, 0)), .inr (.inl (0, 0)), .inr (.inl (0, 0)), .inr (.inl (0, 0)), .inr (.inl (0, 0)), .inr (.inl (0, 0)), .inr (.inl (0, 0))]), (10, [.inr (.inl (0, 0)), .inr (.inl (0, 0)), .inr (.inl (0, 0)), .inr (.inl (0, 0)), .inr (.inl (0, 0)), .inr (.inl (0, 0)), .inr (.inl (0, 0)), .inr (.inl (0, 0))]), (10, [.inr (.inl (0, 0)), .inr (.inl (0, 0)), .inr (.inl (0, 0)), .inr (.inl (0, 0)), .inr (.inl (0, 0)), .inr (.inl (0, 0)), .inr (.inl (0, 0)), .inr (.inl (0, 0))]), (11, [.inr (.inr (0, 0)), .inr (.inr (0, 0)), .inr (.inr (0, 0)), .inr (.inr (0, 0)), .inr (.inr (0, 0))]), (16, [.inl (some 185), .inl (some 186), .inl (some 187), .inl (some 188), .inl (some 189)]), (10, List.replicate 36 (.inr (.inl (0, 0)))), (10, List.replicate 36 (.inr (.inl (0, 0)))), (10, List.replicate 36 (.inr (.inl (0, 0)))), (10, List.replicate 36 (.inr (.inl (0, 0)))), (10, List.replicate 36 (.inr (.inl (0, 0)))), (16, [.inl (some 191), .inl (some 192), .inl (some 193), .inl (some 194), .inl (some 195)]), (10, [.inr (.inl (0, 0)), .inr (.inl (0, 0)), .inr (.inl (0, 0)), .inr (.inl (0, 0)), .inr (.inl (0, 0)), .inr (.inl (0, 0))]), (10, [.inr (.inl (0, 0)), .inr (.inl (0, 0)), .inr (.inl (0, 0)), .inr (.inl (0, 0)), .inr (.inl (0, 0)), .inr (.inl (0, 0))]), (10, [.inr (.inl (0, 0)), .inr (.inl (0, 0)), .inr (.inl (0, 0)), .inr (.inl (0, 0)), .inr (.inl (0, 0)), .inr (.inl (0, 0))]), (10, [.inr (.inl (0, 0)), .inr (.inl (0, 0)), .inr (.inl (0, 0)), .inr (.inl (0, 0)), .inr (.inl (0, 0)), .inr (.inl (0, 0))]), (10, [.inr (.inl (0, 0)), .inr (.inl (0, 0)), .inr (.inl (0, 0)), .inr (.inl (0, 0)), .inr (.inl (0, 0)), .inr (.inl (0, 0))]), (16, [.inl (some 197), .inl (some 198), .inl (some 199), .inl (some 200), .inl (some 201)])]
def w_0_3 : ai_W := [(10, List.replicate 24 (.inr (.inl (0, 0)))), (10, List.replicate 24 (.inr (.inl (0, 0)))), (10, List.replicate 24 (.inr (.inl (0, 0)))), (10, List.replicate 24 (.inr (.inl (0, 0)))), (10, List.replicate 24 (.inr (.inl (0, 0)))), (11, List.replicate 1001 (.inr (.inr (0, 0)))), (10, List.replicate 1001 (.inr (.inl (0, 0)))), (10, List.replicate 1001 (.inr (.inl (0, 0)))), (10, List.replicate 4096 (.inr (.inl (0, 0)))), (10, List.replicate 129 (.inr (.inl (0, 0)))), (10, List.replicate 129 (.inr (.inl (0, 0)))), (10, [.inr (.inl (0, 0)), .inr (.inl (0, 0)), .inr (.inl (0, 0)), .inr (.inl (0, 0)), .inr (.inl (0, 0)), .inr (.inl (0, 0))]), (10, [.inr (.inl (0, 0)), .inr (.inl (0, 0)), .inr (.inl (0, 0)), .inr (.inl (0, 0)), .inr (.inl (0, 0)), .inr (.inl (0, 0))]), (6, [.inl (some 211), .inl (some 212), .inl (some 213), .inl (some 214), .inl (some 223), .inl (some 224), .inl (some 225), .inl (some 226), .inl (some 227), .inr (.inl (0, 0)), .inl (some 228), .inr (.inl (0, 0)), .inl (some 229), .inl (some 235), .inl (some 236), .inl (some 242), .inl (some 248), .inl none, .inl (some 254), .inl (some 255), .inl (some 256), .inl (some 257), .inr (.inl (0, 0)), .inr (.inl (0, 0)), .inr (.inl (0, 0)), .inr (.inl (0, 0)), .inr (.inl (0, 0)), .inr (.inl (0, 0)), .inr (.inl ((-1), (-1))), .inr (.inl (0, 0)), .inl none, .inl (some 258), .inl (some 259), .inr (.inl (0, 0)), .inr (.inl (0, 0)), .inr (.inl (0, 0)), .inr (.inl (0, 0)), .inr (.inr (0, 0)), .inr (.inl (0, 0)), .inr (.inl (0, 0)), .inl (some 260), .inr (.inl (0, 0)), .inl (some 261)]), (10, [.inr (.inl (0, 0)), .inr (.inl (0, 0)), .inr (.inl (0, 0)), .inr (.inl (0, 0)), .inr (.inl (0, 0)), .inr (.inl (0, 0)), .inr (.inl (0, 0)), .inr (.inl (0, 0))]), (10, [.inr (.inl (0, 0)), .inr (.inl (0, 0)), .inr (.inl (0, 0)), .inr (.inl (0, 0)), .inr (.inl (0, 0)), .inr (.inl (0, 0)), .inr (.inl (0, 0)), .inr (.inl (0, 0))]), (10, [.inr (.inl (0, 0)), .inr (.inl (0, 0)), .inr (.inl (0, 0)), .inr (.inl (0, 0)), .inr (.inl (0, 0)), .inr (.inl (0, 0)), .inr (.inl (0, 0)), .inr (.inl (0, 0))]), (17, [.inl (some 215), .inl (some 216), .inl (some 217), .inl (some 218), .inl (some 219), .inl (some 220), .inl (some 221), .inl (some 222)]), (11, List.replicate 40 (.inr (.inr (0, 0)))), (11, List.replicate 40 (.inr (.inr (0, 0)))), (11, List.replicate 40 (.inr (.inr (0, 0)))), (11, List.replicate 40 (.inr (.inr (0, 0)))), (11, List.replicate 40 (.inr (.inr (0, 0)))), (11, List.replicate 40 (.inr (.inr (0, 0)))), (11, List.replicate 40 (.inr (.inr (0, 0)))), (11, List.replicate 40 (.inr (.inr (0, 0)))), (11, List.replicate 40 (.inr (.inr (0, 0)))), (10, [.inr (.inl (0, 0)), .inr (.inl (0, 0)), .inr (.inl (0, 0)), .inr (.inl (0, 0)), .inr (.inl (0, 0)), .inr (.inl (0, 0)), .inr (.inl (0, 0)), .inr (.inl (0, 0))]), (10, [.inr (.inl (0, 0)), .inr (.inl (0, 0)), .inr (.inl (0, 0)), .inr (.inl (0, 0)), .inr (.inl (0, 0)), .inr (.inl (0, 0)), .inr (.inl (0, 0)), .inr (.inl (0, 0))]), (10, [.inr (.inl (0, 0)), .inr (.inl (0, 0)), .inr (.inl (0, 0)), .inr (.inl (0, 0)), .inr (.inl (0, 0)), .inr (.inl (0, 0)), .inr (.inl (0, 0)), .inr (.inl (0, 0))]), (10, List.replicate 200 (.inr (.inl (0, 0)))), (10, [.inr (.inl (0, 0)), .inr (.inl (0, 0)), .inr (.inl (0, 0)), .inr (.inl (0, 0)), .inr (.inl (0, 0)), .inr (.inl (0, 0)), .inr (.inl (0, 0)), .inr (.inl (0, 0))]), (16, [.inl (some 230), .inl (some 231), .inl (some 232), .inl (some 233), .inl (some 234)]), (10, [.inr (.inl (0, 0)), .inr (.inl (0, 0)), .inr (.inl (0, 0)), .inr (.inl (0, 0)), .inr (.inl (0, 0)), .inr (.inl (0, 0)), .inr (.inl (0, 0)), .inr (.inl (0, 0))]), (10, [.inr (.inl (0, 0)), .inr (.inl (0, 0)), .inr (.inl (0, 0)), .inr (.inl (0, 0)), .inr (.inl (0, 0)), .inr (.inl (0, 0)), .inr (.inl (0, 0)), .inr (.inl (0, 0))]), (10, [.inr (.inl (0, 0)), .inr (.inl (0, 0)), .inr (.inl (0, 0)), .inr (.inl (0, 0)), .inr (.inl (0, 0)), .inr (.inl (0, 0)), .inr (.inl (0, 0)), .inr (.inl (0, 0))]), (10, [.inr (.inl (0, 0)), .inr (.inl (0, 0)), .inr (.inl (0, 0)), .inr (.inl (0, 0)), .inr (.inl (0, 0)), .inr (.inl (0, 0)), .inr (.inl (0, 0)), .inr (.inl (0, 0))]), (10, [.inr (.inl (0, 0)), .inr (.inl (0, 0)), .inr (.inl (0, 0)), .inr (.inl (0, 0)), .inr (.inl (0, 0)), .inr (.inl (0, 0)), .inr (.inl (0, 0)), .inr (.inl (0, 0))]), (11, [.inr (.inr (0, 0)), .inr (.inr (0, 0)), .inr (.inr (0, 0)), .inr (.inr (0, 0)), .inr (.inr (0, 0))]), (16, [.inl (some 237), .inl (some 238), .inl (some 239), .inl (some 240), .inl (some 241)]), (10, List.replicate 36 (.inr (.inl (0, 0)))), (10, List.replicate 36 (.inr (.inl (0, 0)))), (10, List.replicate 36 (.inr (.inl (0, 0)))), (10, List.replicate 36 (.inr (.inl (0, 0)))), (10, List.replicate 36 (.inr (.inl (0, 0)))), (16, [.inl (some 243), .inl (some 244), .inl (some 245), .inl (some 246), .inl (some 247)]), (10, [.inr (.inl (0, 0)), .inr (.inl (0, 0)), .inr (.inl (0, 0)), .inr (.inl (0, 0)), .inr (.inl (0, 0)), .inr (.inl (0, 0))]), (10, [.inr (.inl (0, 0)), .inr (.inl (0, 0)), .inr (.inl (0, 0)), .inr (.inl (0, 0)), .inr (.inl (0, 0)), .inr (.inl (0, 0))]), (10, [.inr (.inl (0, 0)), .inr (.inl (0, 0)), .inr (.inl (0, 0)), .inr (.inl (0, 0)), .inr (.inl (0, 0)), .inr (.inl (0, 0))]), (10, [.inr (.inl (0, 0)), .inr (.inl (0, 0)), .inr (.inl (0, 0)), .inr (.inl (0, 0)), .inr (.inl (0, 0)), .inr (.inl (0, 0))]), (10, [.inr (.inl (0, 0)), .inr (.inl (0, 0)), .inr (.inl (0, 0)), .inr (.inl (0, 0)), .inr (.inl (0, 0)), .inr (.inl (0, 0))]), (16, [.inl (some 249), .inl (some 250), .inl (some 251), .inl (some 252), .inl (some 253)]), (10, List.replicate 24 (.inr (.inl (0, 0)))), (10, List.replicate 24 (.inr (.inl (0, 0)))), (10, List.replicate 24 (.inr (.inl (0, 0)))), (10, List.replicate 24 (.inr (.inl (0, 0)))), (10, List.replicate 24 (.inr (.inl (0, 0)))), (11, List.replicate 1001 (.inr (.inr (0, 0)))), (10, List.replicate 1001 (.inr (.inl (0, 0)))), (10, List.replicate 1001 (.inr (.inl (0, 0)))), (10, List.replicate 4096 (.inr (.inl (0, 0)))), (10, List.replicate 129 (.inr (.inl (0, 0)))), (10, List.replicate 129 (.inr (.inl (0, 0)))), (10, [.inr (.inl (0, 0)), .inr (.inl (0, 0)), .inr (.inl (0, 0)), .inr (.inl (0, 0)), .inr (.inl (0, 0)), .inr (.inl (0, 0))]), (10, [.inr (.inl (0, 0)), .inr (.inl (0, 0)), .inr (.inl (0, 0)), .inr (.inl (0, 0)), .inr (.inl (0, 0)), .inr (.inl (0, 0))])]
def w_0 : ai_W := w_0_0 ++ (w_0_1 ++ (w_0_2 ++ (w_0_3)))
def L_0 : ai_Ls := [(3, .inr (.inl (0, 0))), (2, .inl (some 158)), (1, .inl (some 2)), (0, .inl (some 0))]
theorem sg_A : ai_sg ai_mt 1500 [] 12 M_146 C_A [(0, .inl (some 0))] [] [] 0 0 = some (L_0, [], w_0, 260, 28440) := ai_isS_ok (by decide +kernel)
theorem sg_B : ai_sg ai_mt 1500 (List.replicate 6 (.inr (.inl ai_tI))) 12 M_146 C_B L_0 [] w_0 260 28440 = some (L_0, [.inr (.inl (63, 63)), .inr (.inl ai_tI)], w_0, 260, 28440) := ai_isS_ok (by decide +kernel)
end
section
/-! ===== the runs, case by case ===== -/
theorem rn_49 : ai_tr 5 ([(((-2147483648), 2147483647), [(((-2147483648), 2147483647), [(((-2147483648), 2147483647), [(((-2147483648), 2147483647), [(((-2147483648), 2147483647), ())])])])])] : ai_T 5) (ai_lw 1500 12 M_146 L_0 w_0 260 28440 33 ai_mt 49) = true := by decide +kernel
theorem rn_50 : ai_tr 5 ([(((-2147483648), 2147483647), [(((-2147483648), 2147483647), [(((-2147483648), 2147483647), [(((-2147483648), 2147483647), [(((-2147483648), 2147483647), ())])])])])] : ai_T 5) (ai_lw 1500 12 M_146 L_0 w_0 260 28440 33 ai_mt 50) = true := by decide +kernel
theorem rn_51 : ai_tr 5 ([(((-2147483648), 2147483647), [(((-2147483648), 2147483647), [(((-2147483648), 2147483647), [(((-2147483648), 2147483647), [(((-2147483648), 2147483647), ())])])])])] : ai_T 5) (ai_lw 1500 12 M_146 L_0 w_0 260 28440 33 ai_mt 51) = true := by decide +kernel
theorem rn_52 : ai_tr 5 ([(((-2147483648), 2147483647), [(((-2147483648), 2147483647), [(((-2147483648), 2147483647), [(((-2147483648), 2147483647), [(((-2147483648), 2147483647), ())])])])])] : ai_T 5) (ai_lw 1500 12 M_146 L_0 w_0 260 28440 33 ai_mt 52) = true := by decide +kernel
theorem rn_53 : ai_tr 5 ([(((-2147483648), 2147483647), [(((-2147483648), 2147483647), [(((-2147483648), 2147483647), [(((-2147483648), 2147483647), [(((-2147483648), 2147483647), ())])])])])] : ai_T 5) (ai_lw 1500 12 M_146 L_0 w_0 260 28440 33 ai_mt 53) = true := by decide +kernel
theorem rn_54 : ai_tr 5 ([(((-2147483648), 2147483647), [(((-2147483648), 2147483647), [(((-2147483648), 2147483647), [(((-2147483648), 2147483647), [(((-2147483648), 2147483647), ())])])])])] : ai_T 5) (ai_lw 1500 12 M_146 L_0 w_0 260 28440 33 ai_mt 54) = true := by decide +kernel
theorem rn_55 : ai_tr 5 ([(((-2147483648), 2147483647), [(((-2147483648), 2147483647), [(((-2147483648), 2147483647), [(((-2147483648), 2147483647), [(((-2147483648), 2147483647), ())])])])])] : ai_T 5) (ai_lw 1500 12 M_146 L_0 w_0 260 28440 33 ai_mt 55) = true := by decide +kernel
theorem rn_56 : ai_tr 5 ([(((-2147483648), 2147483647), [(((-2147483648), 2147483647), [(((-2147483648), 2147483647), [(((-2147483648), 2147483647), [(((-2147483648), 2147483647), ())])])])])] : ai_T 5) (ai_lw 1500 12 M_146 L_0 w_0 260 28440 33 ai_mt 56) = true := by decide +kernel
theorem rn_57 : ai_tr 5 ([(((-2147483648), 2147483647), [(((-2147483648), 2147483647), [(((-2147483648), 2147483647), [(((-2147483648), 2147483647), [(((-2147483648), 2147483647), ())])])])])] : ai_T 5) (ai_lw 1500 12 M_146 L_0 w_0 260 28440 33 ai_mt 57) = true := by decide +kernel
theorem rn_58 : ai_tr 5 ([(((-2147483648), 2147483647), [(((-2147483648), 2147483647), [(((-2147483648), 2147483647), [(((-2147483648), 2147483647), [(((-2147483648), 2147483647), ())])])])])] : ai_T 5) (ai_lw 1500 12 M_146 L_0 w_0 260 28440 33 ai_mt 58) = true := by decide +kernel
theorem rn_59 : ai_tr 5 ([(((-2147483648), 2147483647), [(((-2147483648), 2147483647), [(((-2147483648), 2147483647), [(((-2147483648), 2147483647), [(((-2147483648), 2147483647), ())])])])])] : ai_T 5) (ai_lw 1500 12 M_146 L_0 w_0 260 28440 33 ai_mt 59) = true := by decide +kernel
theorem rn_60 : ai_tr 5 ([(((-2147483648), 2147483647), [(((-2147483648), 2147483647), [(((-2147483648), 2147483647), [(((-2147483648), 2147483647), [(((-2147483648), 2147483647), ())])])])])] : ai_T 5) (ai_lw 1500 12 M_146 L_0 w_0 260 28440 33 ai_mt 60) = true := by decide +kernel
theorem rn_61 : ai_tr 5 ([(((-2147483648), 2147483647), [(((-2147483648), 2147483647), [(((-2147483648), 2147483647), [(((-2147483648), 2147483647), [(((-2147483648), 2147483647), ())])])])])] : ai_T 5) (ai_lw 1500 12 M_146 L_0 w_0 260 28440 33 ai_mt 61) = true := by decide +kernel
theorem rn_62 : ai_tr 5 ([(((-2147483648), 2147483647), [(((-2147483648), 2147483647), [(((-2147483648), 2147483647), [(((-2147483648), 2147483647), [(((-2147483648), 2147483647), ())])])])])] : ai_T 5) (ai_lw 1500 12 M_146 L_0 w_0 260 28440 33 ai_mt 62) = true := by decide +kernel
theorem rn_63 : ai_tr 5 ([(((-2147483648), 2147483647), [(((-2147483648), 2147483647), [(((-2147483648), 2147483647), [(((-2147483648), 2147483647), [(((-2147483648), 2147483647), ())])])])])] : ai_T 5) (ai_lw 1500 12 M_146 L_0 w_0 260 28440 33 ai_mt 63) = true := by decide +kernel
theorem rs_0 : ∀ n : Nat, n < 5 → (match ai_ex ai_mt 1500 (List.replicate (n + 1) (.inr (.inl ai_tI))) 12 M_146 (ai_jm (ai_cd M_146) 18) 18 L_0 [] w_0 260 28440 with
  | some (some (.inr (.inl q)), _, C, Z) => (ai_le q.2 1 && ai_le 1 q.1) && (Nat.ble C 600000 && Nat.ble Z 7302250)
  | _ => false) = true := by decide +kernel
theorem rs_1 : (match ai_ex ai_mt 1500 [] 12 M_146 (ai_jm (ai_cd M_146) 21) 21 L_0 [.inr (.inl (0, 0)), .inr (.inl (0, 0))] w_0 260 28440 with
  | some (some (.inr (.inl q)), _, C, Z) => (ai_le q.2 1 && ai_le 1 q.1) && (Nat.ble C 600000 && Nat.ble Z 7302250)
  | _ => false) = true := by decide +kernel
end
section
/-! ===== the runs, case by case ===== -/
theorem rn_1 : ai_tr 5 ([(((-2147483648), (-1)), [(((-2147483648), 2147483647), [(((-2147483648), 2147483647), [(((-2147483648), 2147483647), [(((-2147483648), 2147483647), ())])])])]), ((0, 0), [(((-2147483648), 2147483647), [(((-2147483648), 2147483647), [(((-2147483648), 2147483647), [(((-2147483648), 2147483647), ())])])])]), ((1, 1), [(((-2147483648), 2147483647), [(((-2147483648), 2147483647), [(((-2147483648), 2147483647), [(((-2147483648), 2147483647), ())])])])]), ((2, 2), [(((-2147483648), 2147483647), [(((-2147483648), 2147483647), [(((-2147483648), 2147483647), [(((-2147483648), 2147483647), ())])])])]), ((3, 3), [(((-2147483648), 2147483647), [(((-2147483648), 2147483647), [(((-2147483648), 2147483647), [(((-2147483648), 2147483647), ())])])])]), ((4, 4), [(((-2147483648), 2147483647), [(((-2147483648), 2147483647), [(((-2147483648), 2147483647), [(((-2147483648), 2147483647), ())])])])]), ((5, 5), [(((-2147483648), 2147483647), [(((-2147483648), 2147483647), [(((-2147483648), 2147483647), [(((-2147483648), 2147483647), ())])])])]), ((6, 6), [(((-2147483648), 2147483647), [(((-2147483648), 2147483647), [(((-2147483648), 2147483647), [(((-2147483648), 2147483647), ())])])])]), ((7, 7), [(((-2147483648), 2147483647), [(((-2147483648), 2147483647), [(((-2147483648), 2147483647), [(((-2147483648), 2147483647), ())])])])]), ((8, 2147483647), [(((-2147483648), 2147483647), [(((-2147483648), 2147483647), [(((-2147483648), 2147483647), [(((-2147483648), 2147483647), ())])])])])] : ai_T 5) (ai_lw 1500 12 M_146 L_0 w_0 260 28440 33 ai_mt 1) = true := by decide +kernel
theorem rn_3 : ai_tr 5 ([(((-2147483648), (-1)), [(((-2147483648), 2147483647), [(((-2147483648), 2147483647), [(((-2147483648), 2147483647), [(((-2147483648), 2147483647), ())])])])]), ((0, 0), [(((-2147483648), 2147483647), [(((-2147483648), 2147483647), [(((-2147483648), 2147483647), [(((-2147483648), 2147483647), ())])])])]), ((1, 1), [(((-2147483648), 2147483647), [(((-2147483648), 2147483647), [(((-2147483648), 2147483647), [(((-2147483648), 2147483647), ())])])])]), ((2, 2), [(((-2147483648), 2147483647), [(((-2147483648), 2147483647), [(((-2147483648), 2147483647), [(((-2147483648), 2147483647), ())])])])]), ((3, 3), [(((-2147483648), 2147483647), [(((-2147483648), 2147483647), [(((-2147483648), 2147483647), [(((-2147483648), 2147483647), ())])])])]), ((4, 4), [(((-2147483648), 2147483647), [(((-2147483648), 2147483647), [(((-2147483648), 2147483647), [(((-2147483648), 2147483647), ())])])])]), ((5, 5), [(((-2147483648), 2147483647), [(((-2147483648), 2147483647), [(((-2147483648), 2147483647), [(((-2147483648), 2147483647), ())])])])]), ((6, 6), [(((-2147483648), 2147483647), [(((-2147483648), 2147483647), [(((-2147483648), 2147483647), [(((-2147483648), 2147483647), ())])])])]), ((7, 7), [(((-2147483648), 2147483647), [(((-2147483648), 2147483647), [(((-2147483648), 2147483647), [(((-2147483648), 2147483647), ())])])])]), ((8, 2147483647), [(((-2147483648), 2147483647), [(((-2147483648), 2147483647), [(((-2147483648), 2147483647), [(((-2147483648), 2147483647), ())])])])])] : ai_T 5) (ai_lw 1500 12 M_146 L_0 w_0 260 28440 33 ai_mt 3) = true := by decide +kernel
theorem rn_4 : ai_tr 5 ([(((-2147483648), (-1)), [(((-2147483648), 2147483647), [(((-2147483648), 2147483647), [(((-2147483648), 2147483647), [(((-2147483648), 2147483647), ())])])])]), ((0, 0), [(((-2147483648), 2147483647), [(((-2147483648), 2147483647), [(((-2147483648), 2147483647), [(((-2147483648), 2147483647), ())])])])]), ((1, 1), [(((-2147483648), 2147483647), [(((-2147483648), 2147483647), [(((-2147483648), 2147483647), [(((-2147483648), 2147483647), ())])])])]), ((2, 2), [(((-2147483648), 2147483647), [(((-2147483648), 2147483647), [(((-2147483648), 2147483647), [(((-2147483648), 2147483647), ())])])])]), ((3, 3), [(((-2147483648), 2147483647), [(((-2147483648), 2147483647), [(((-2147483648), 2147483647), [(((-2147483648), 2147483647), ())])])])]), ((4, 4), [(((-2147483648), 2147483647), [(((-2147483648), 2147483647), [(((-2147483648), 2147483647), [(((-2147483648), 2147483647), ())])])])]), ((5, 5), [(((-2147483648), 2147483647), [(((-2147483648), 2147483647), [(((-2147483648), 2147483647), [(((-2147483648), 2147483647), ())])])])]), ((6, 6), [(((-2147483648), 2147483647), [(((-2147483648), 2147483647), [(((-2147483648), 2147483647), [(((-2147483648), 2147483647), ())])])])]), ((7, 7), [(((-2147483648), 2147483647), [(((-2147483648), 2147483647), [(((-2147483648), 2147483647), [(((-2147483648), 2147483647), ())])])])]), ((8, 2147483647), [(((-2147483648), 2147483647), [(((-2147483648), 2147483647), [(((-2147483648), 2147483647), [(((-2147483648), 2147483647), ())])])])])] : ai_T 5) (ai_lw 1500 12 M_146 L_0 w_0 260 28440 33 ai_mt 4) = true := by decide +kernel
theorem rn_7 : ai_tr 5 ([(((-2147483648), (-1)), [(((-2147483648), (-1)), [(((-2147483648), 2147483647), [(((-2147483648), 2147483647), [(((-2147483648), 2147483647), ())])])]), ((0, 0), [(((-2147483648), 2147483647), [(((-2147483648), 2147483647), [(((-2147483648), 2147483647), ())])])]), ((1, 1), [(((-2147483648), 2147483647), [(((-2147483648), 2147483647), [(((-2147483648), 2147483647), ())])])]), ((2, 2), [(((-2147483648), 2147483647), [(((-2147483648), 2147483647), [(((-2147483648), 2147483647), ())])])]), ((3, 3), [(((-2147483648), 2147483647), [(((-2147483648), 2147483647), [(((-2147483648), 2147483647), ())])])]), ((4, 4), [(((-2147483648), 2147483647), [(((-2147483648), 2147483647), [(((-2147483648), 2147483647), ())])])]), ((5, 5), [(((-2147483648), 2147483647), [(((-2147483648), 2147483647), [(((-2147483648), 2147483647), ())])])]), ((6, 6), [(((-2147483648), 2147483647), [(((-2147483648), 2147483647), [(((-2147483648), 2147483647), ())])])]), ((7, 7), [(((-2147483648), 2147483647), [(((-2147483648), 2147483647), [(((-2147483648), 2147483647), ())])])]), ((8, 2147483647), [(((-2147483648), 2147483647), [(((-2147483648), 2147483647), [(((-2147483648), 2147483647), ())])])])]), ((0, 2147483647), [(((-2147483648), (-1)), [(((-2147483648), 2147483647), [(((-2147483648), 2147483647), [(((-2147483648), 2147483647), ())])])]), ((0, 0), [(((-2147483648), 2147483647), [(((-2147483648), 2147483647), [(((-2147483648), 2147483647), ())])])]), ((1, 1), [(((-2147483648), 2147483647), [(((-2147483648), 2147483647), [(((-2147483648), 2147483647), ())])])]), ((2, 2), [(((-2147483648), 2147483647), [(((-2147483648), 2147483647), [(((-2147483648), 2147483647), ())])])]), ((3, 3), [(((-2147483648), 2147483647), [(((-2147483648), 2147483647), [(((-2147483648), 2147483647), ())])])]), ((4, 4), [(((-2147483648), 2147483647), [(((-2147483648), 2147483647), [(((-2147483648), 2147483647), ())])])]), ((5, 5), [(((-2147483648), 2147483647), [(((-2147483648), 2147483647), [(((-2147483648), 2147483647), ())])])]), ((6, 6), [(((-2147483648), 2147483647), [(((-2147483648), 2147483647), [(((-2147483648), 2147483647), ())])])]), ((7, 7), [(((-2147483648), 2147483647), [(((-2147483648), 2147483647), [(((-2147483648), 2147483647), ())])])]), ((8, 2147483647), [(((-2147483648), 2147483647), [(((-2147483648), 2147483647), [(((-2147483648), 2147483647), ())])])])])] : ai_T 5) (ai_lw 1500 12 M_146 L_0 w_0 260 28440 33 ai_mt 7) = true := by decide +kernel
theorem rn_8 : ai_tr 5 ([(((-2147483648), (-1)), [(((-2147483648), (-1)), [(((-2147483648), 2147483647), [(((-2147483648), 2147483647), [(((-2147483648), 2147483647), ())])])]), ((0, 0), [(((-2147483648), 2147483647), [(((-2147483648), 2147483647), [(((-2147483648), 2147483647), ())])])]), ((1, 1), [(((-2147483648), 2147483647), [(((-2147483648), 2147483647), [(((-2147483648), 2147483647), ())])])]), ((2, 2), [(((-2147483648), 2147483647), [(((-2147483648), 2147483647), [(((-2147483648), 2147483647), ())])])]), ((3, 3), [(((-2147483648), 2147483647), [(((-2147483648), 2147483647), [(((-2147483648), 2147483647), ())])])]), ((4, 4), [(((-2147483648), 2147483647), [(((-2147483648), 2147483647), [(((-2147483648), 2147483647), ())])])]), ((5, 5), [(((-2147483648), 2147483647), [(((-2147483648), 2147483647), [(((-2147483648), 2147483647), ())])])]), ((6, 6), [(((-2147483648), 2147483647), [(((-2147483648), 2147483647), [(((-2147483648), 2147483647), ())])])]), ((7, 7), [(((-2147483648), 2147483647), [(((-2147483648), 2147483647), [(((-2147483648), 2147483647), ())])])]), ((8, 2147483647), [(((-2147483648), 2147483647), [(((-2147483648), 2147483647), [(((-2147483648), 2147483647), ())])])])]), ((0, 2147483647), [(((-2147483648), (-1)), [(((-2147483648), 2147483647), [(((-2147483648), 2147483647), [(((-2147483648), 2147483647), ())])])]), ((0, 0), [(((-2147483648), 2147483647), [(((-2147483648), 2147483647), [(((-2147483648), 2147483647), ())])])]), ((1, 1), [(((-2147483648), 2147483647), [(((-2147483648), 2147483647), [(((-2147483648), 2147483647), ())])])]), ((2, 2), [(((-2147483648), 2147483647), [(((-2147483648), 2147483647), [(((-2147483648), 2147483647), ())])])]), ((3, 3), [(((-2147483648), 2147483647), [(((-2147483648), 2147483647), [(((-2147483648), 2147483647), ())])])]), ((4, 4), [(((-2147483648), 2147483647), [(((-2147483648), 2147483647), [(((-2147483648), 2147483647), ())])])]), ((5, 5), [(((-2147483648), 2147483647), [(((-2147483648), 2147483647), [(((-2147483648), 2147483647), ())])])]), ((6, 6), [(((-2147483648), 2147483647), [(((-2147483648), 2147483647), [(((-2147483648), 2147483647), ())])])]), ((7, 7), [(((-2147483648), 2147483647), [(((-2147483648), 2147483647), [(((-2147483648), 2147483647), ())])])]), ((8, 2147483647), [(((-2147483648), 2147483647), [(((-2147483648), 2147483647), [(((-2147483648), 2147483647), ())])])])])] : ai_T 5) (ai_lw 1500 12 M_146 L_0 w_0 260 28440 33 ai_mt 8) = true := by decide +kernel
theorem rn_9 : ai_tr 5 ([(((-2147483648), 2147483647), [(((-2147483648), 0), [(((-2147483648), 2147483647), [(((-2147483648), 2147483647), [(((-2147483648), 2147483647), ())])])]), ((1, 1), [(((-2147483648), 2147483647), [(((-2147483648), 2147483647), [(((-2147483648), 2147483647), ())])])]), ((2, 2), [(((-2147483648), 2147483647), [(((-2147483648), 2147483647), [(((-2147483648), 2147483647), ())])])]), ((3, 3), [(((-2147483648), 2147483647), [(((-2147483648), 2147483647), [(((-2147483648), 2147483647), ())])])]), ((4, 4), [(((-2147483648), 2147483647), [(((-2147483648), 2147483647), [(((-2147483648), 2147483647), ())])])]), ((5, 2147483647), [(((-2147483648), 2147483647), [(((-2147483648), 2147483647), [(((-2147483648), 2147483647), ())])])])])] : ai_T 5) (ai_lw 1500 12 M_146 L_0 w_0 260 28440 33 ai_mt 9) = true := by decide +kernel
theorem rn_10 : ai_tr 5 ([(((-2147483648), 2147483647), [(((-2147483648), 2147483647), [(((-2147483648), 2147483647), [(((-2147483648), 2147483647), [(((-2147483648), 2147483647), ())])])])])] : ai_T 5) (ai_lw 1500 12 M_146 L_0 w_0 260 28440 33 ai_mt 10) = true := by decide +kernel
theorem rn_11 : ai_tr 5 ([(((-2147483648), 2147483647), [(((-2147483648), 2147483647), [(((-2147483648), 2147483647), [(((-2147483648), 2147483647), [(((-2147483648), 2147483647), ())])])])])] : ai_T 5) (ai_lw 1500 12 M_146 L_0 w_0 260 28440 33 ai_mt 11) = true := by decide +kernel
theorem rn_12 : ai_tr 5 ([(((-2147483648), (-1)), [(((-2147483648), 2147483647), [(((-2147483648), 2147483647), [(((-2147483648), 2147483647), [(((-2147483648), 2147483647), ())])])])]), ((0, 2147483647), [(((-2147483648), 2147483647), [(((-2147483648), 2147483647), [(((-2147483648), 2147483647), [(((-2147483648), 2147483647), ())])])])])] : ai_T 5) (ai_lw 1500 12 M_146 L_0 w_0 260 28440 33 ai_mt 12) = true := by decide +kernel
theorem rn_13 : ai_tr 5 ([(((-2147483648), (-1)), [(((-2147483648), 2147483647), [(((-2147483648), 2147483647), [(((-2147483648), 2147483647), [(((-2147483648), 2147483647), ())])])])]), ((0, 2147483647), [(((-2147483648), 2147483647), [(((-2147483648), 2147483647), [(((-2147483648), 2147483647), [(((-2147483648), 2147483647), ())])])])])] : ai_T 5) (ai_lw 1500 12 M_146 L_0 w_0 260 28440 33 ai_mt 13) = true := by decide +kernel
theorem rn_14 : ai_tr 5 ([(((-2147483648), (-1)), [(((-2147483648), 2147483647), [(((-2147483648), 2147483647), [(((-2147483648), 2147483647), [(((-2147483648), 2147483647), ())])])])]), ((0, 2147483647), [(((-2147483648), 2147483647), [(((-2147483648), 2147483647), [(((-2147483648), 2147483647), [(((-2147483648), 2147483647), ())])])])])] : ai_T 5) (ai_lw 1500 12 M_146 L_0 w_0 260 28440 33 ai_mt 14) = true := by decide +kernel
theorem rn_15 : ai_tr 5 ([(((-2147483648), (-1)), [(((-2147483648), 2147483647), [(((-2147483648), 2147483647), [(((-2147483648), 2147483647), [(((-2147483648), 2147483647), ())])])])]), ((0, 2147483647), [(((-2147483648), 2147483647), [(((-2147483648), 2147483647), [(((-2147483648), 2147483647), [(((-2147483648), 2147483647), ())])])])])] : ai_T 5) (ai_lw 1500 12 M_146 L_0 w_0 260 28440 33 ai_mt 15) = true := by decide +kernel
theorem rn_16 : ai_tr 5 ([(((-2147483648), (-1)), [(((-2147483648), 2147483647), [(((-2147483648), 2147483647), [(((-2147483648), 2147483647), [(((-2147483648), 2147483647), ())])])])]), ((0, 2147483647), [(((-2147483648), 2147483647), [(((-2147483648), 2147483647), [(((-2147483648), 2147483647), [(((-2147483648), 2147483647), ())])])])])] : ai_T 5) (ai_lw 1500 12 M_146 L_0 w_0 260 28440 33 ai_mt 16) = true := by decide +kernel
theorem rn_17 : ai_tr 5 ([(((-2147483648), (-1)), [(((-2147483648), 2147483647), [(((-2147483648), (-1)), [(((-2147483648), 2147483647), [(((-2147483648), 2147483647), ())])]), ((0, 0), [(((-2147483648), 2147483647), [(((-2147483648), 2147483647), ())])]), ((1, 2147483647), [(((-2147483648), 2147483647), [(((-2147483648), 2147483647), ())])])])]), ((0, 2147483647), [(((-2147483648), 2147483647), [(((-2147483648), (-1)), [(((-2147483648), 2147483647), [(((-2147483648), 2147483647), ())])]), ((0, 0), [(((-2147483648), 2147483647), [(((-2147483648), 2147483647), ())])]), ((1, 2147483647), [(((-2147483648), 2147483647), [(((-2147483648), 2147483647), ())])])])])] : ai_T 5) (ai_lw 1500 12 M_146 L_0 w_0 260 28440 33 ai_mt 17) = true := by decide +kernel
theorem rn_18 : ai_tr 5 ([(((-2147483648), (-1)), [(((-2147483648), 2147483647), [(((-2147483648), 2147483647), [(((-2147483648), 2147483647), [(((-2147483648), 2147483647), ())])])])]), ((0, 2147483647), [(((-2147483648), 2147483647), [(((-2147483648), 2147483647), [(((-2147483648), 2147483647), [(((-2147483648), 2147483647), ())])])])])] : ai_T 5) (ai_lw 1500 12 M_146 L_0 w_0 260 28440 33 ai_mt 18) = true := by decide +kernel
theorem rn_19 : ai_tr 5 ([(((-2147483648), (-1)), [(((-2147483648), 2147483647), [(((-2147483648), 2147483647), [(((-2147483648), 2147483647), [(((-2147483648), 2147483647), ())])])])]), ((0, 2147483647), [(((-2147483648), 2147483647), [(((-2147483648), 2147483647), [(((-2147483648), 2147483647), [(((-2147483648), 2147483647), ())])])])])] : ai_T 5) (ai_lw 1500 12 M_146 L_0 w_0 260 28440 33 ai_mt 19) = true := by decide +kernel
theorem rn_20 : ai_tr 5 ([(((-2147483648), (-1)), [(((-2147483648), 2147483647), [(((-2147483648), 2147483647), [(((-2147483648), 2147483647), [(((-2147483648), 2147483647), ())])])])]), ((0, 2147483647), [(((-2147483648), 2147483647), [(((-2147483648), 2147483647), [(((-2147483648), 2147483647), [(((-2147483648), 2147483647), ())])])])])] : ai_T 5) (ai_lw 1500 12 M_146 L_0 w_0 260 28440 33 ai_mt 20) = true := by decide +kernel
theorem rn_21 : ai_tr 5 ([(((-2147483648), (-1)), [(((-2147483648), 2147483647), [(((-2147483648), 2147483647), [(((-2147483648), 2147483647), [(((-2147483648), 2147483647), ())])])])]), ((0, 2147483647), [(((-2147483648), 2147483647), [(((-2147483648), 2147483647), [(((-2147483648), 2147483647), [(((-2147483648), 2147483647), ())])])])])] : ai_T 5) (ai_lw 1500 12 M_146 L_0 w_0 260 28440 33 ai_mt 21) = true := by decide +kernel
theorem rn_22 : ai_tr 5 ([(((-2147483648), (-1)), [(((-2147483648), 2147483647), [(((-2147483648), 2147483647), [(((-2147483648), 2147483647), [(((-2147483648), 2147483647), ())])])])]), ((0, 2147483647), [(((-2147483648), 2147483647), [(((-2147483648), 2147483647), [(((-2147483648), 2147483647), [(((-2147483648), 2147483647), ())])])])])] : ai_T 5) (ai_lw 1500 12 M_146 L_0 w_0 260 28440 33 ai_mt 22) = true := by decide +kernel
theorem rn_23 : ai_tr 5 ([(((-2147483648), (-1)), [(((-2147483648), (-1)), [(((-2147483648), 2147483647), [(((-2147483648), 2147483647), [(((-2147483648), 2147483647), ())])])]), ((0, 3), [(((-2147483648), 2147483647), [(((-2147483648), 2147483647), [(((-2147483648), 2147483647), ())])])]), ((4, 2147483647), [(((-2147483648), 2147483647), [(((-2147483648), 2147483647), [(((-2147483648), 2147483647), ())])])])]), ((0, 2147483647), [(((-2147483648), (-1)), [(((-2147483648), 2147483647), [(((-2147483648), 2147483647), [(((-2147483648), 2147483647), ())])])]), ((0, 3), [(((-2147483648), 2147483647), [(((-2147483648), 2147483647), [(((-2147483648), 2147483647), ())])])]), ((4, 2147483647), [(((-2147483648), 2147483647), [(((-2147483648), 2147483647), [(((-2147483648), 2147483647), ())])])])])] : ai_T 5) (ai_lw 1500 12 M_146 L_0 w_0 260 28440 33 ai_mt 23) = true := by decide +kernel
theorem rn_24 : ai_tr 5 ([(((-2147483648), (-1)), [(((-2147483648), (-1)), [(((-2147483648), 2147483647), [(((-2147483648), 2147483647), [(((-2147483648), 2147483647), ())])])]), ((0, 3), [(((-2147483648), 2147483647), [(((-2147483648), 2147483647), [(((-2147483648), 2147483647), ())])])]), ((4, 2147483647), [(((-2147483648), 2147483647), [(((-2147483648), 2147483647), [(((-2147483648), 2147483647), ())])])])]), ((0, 2147483647), [(((-2147483648), (-1)), [(((-2147483648), 2147483647), [(((-2147483648), 2147483647), [(((-2147483648), 2147483647), ())])])]), ((0, 3), [(((-2147483648), 2147483647), [(((-2147483648), 2147483647), [(((-2147483648), 2147483647), ())])])]), ((4, 2147483647), [(((-2147483648), 2147483647), [(((-2147483648), 2147483647), [(((-2147483648), 2147483647), ())])])])])] : ai_T 5) (ai_lw 1500 12 M_146 L_0 w_0 260 28440 33 ai_mt 24) = true := by decide +kernel
theorem rn_25 : ai_tr 5 ([(((-2147483648), (-1)), [(((-2147483648), (-1)), [(((-2147483648), 2147483647), [(((-2147483648), 2147483647), [(((-2147483648), 2147483647), ())])])]), ((0, 3), [(((-2147483648), 2147483647), [(((-2147483648), 2147483647), [(((-2147483648), 2147483647), ())])])]), ((4, 2147483647), [(((-2147483648), 2147483647), [(((-2147483648), 2147483647), [(((-2147483648), 2147483647), ())])])])]), ((0, 2147483647), [(((-2147483648), (-1)), [(((-2147483648), 2147483647), [(((-2147483648), 2147483647), [(((-2147483648), 2147483647), ())])])]), ((0, 3), [(((-2147483648), 2147483647), [(((-2147483648), 2147483647), [(((-2147483648), 2147483647), ())])])]), ((4, 2147483647), [(((-2147483648), 2147483647), [(((-2147483648), 2147483647), [(((-2147483648), 2147483647), ())])])])])] : ai_T 5) (ai_lw 1500 12 M_146 L_0 w_0 260 28440 33 ai_mt 25) = true := by decide +kernel
theorem rn_26 : ai_tr 5 ([(((-2147483648), (-1)), [(((-2147483648), (-1)), [(((-2147483648), 2147483647), [(((-2147483648), 2147483647), [(((-2147483648), 2147483647), ())])])]), ((0, 3), [(((-2147483648), 2147483647), [(((-2147483648), 2147483647), [(((-2147483648), 2147483647), ())])])]), ((4, 2147483647), [(((-2147483648), 2147483647), [(((-2147483648), 2147483647), [(((-2147483648), 2147483647), ())])])])]), ((0, 2147483647), [(((-2147483648), (-1)), [(((-2147483648), 2147483647), [(((-2147483648), 2147483647), [(((-2147483648), 2147483647), ())])])]), ((0, 3), [(((-2147483648), 2147483647), [(((-2147483648), 2147483647), [(((-2147483648), 2147483647), ())])])]), ((4, 2147483647), [(((-2147483648), 2147483647), [(((-2147483648), 2147483647), [(((-2147483648), 2147483647), ())])])])])] : ai_T 5) (ai_lw 1500 12 M_146 L_0 w_0 260 28440 33 ai_mt 26) = true := by decide +kernel
theorem rn_27 : ai_tr 5 ([(((-2147483648), (-1)), [(((-2147483648), (-1)), [(((-2147483648), 2147483647), [(((-2147483648), 2147483647), [(((-2147483648), 2147483647), ())])])]), ((0, 3), [(((-2147483648), 2147483647), [(((-2147483648), 2147483647), [(((-2147483648), 2147483647), ())])])]), ((4, 2147483647), [(((-2147483648), 2147483647), [(((-2147483648), 2147483647), [(((-2147483648), 2147483647), ())])])])]), ((0, 2147483647), [(((-2147483648), (-1)), [(((-2147483648), 2147483647), [(((-2147483648), 2147483647), [(((-2147483648), 2147483647), ())])])]), ((0, 3), [(((-2147483648), 2147483647), [(((-2147483648), 2147483647), [(((-2147483648), 2147483647), ())])])]), ((4, 2147483647), [(((-2147483648), 2147483647), [(((-2147483648), 2147483647), [(((-2147483648), 2147483647), ())])])])])] : ai_T 5) (ai_lw 1500 12 M_146 L_0 w_0 260 28440 33 ai_mt 27) = true := by decide +kernel
theorem rn_28 : ai_tr 5 ([(((-2147483648), (-1)), [(((-2147483648), (-1)), [(((-2147483648), 2147483647), [(((-2147483648), 2147483647), [(((-2147483648), 2147483647), ())])])]), ((0, 0), [(((-2147483648), 2147483647), [(((-2147483648), 2147483647), [(((-2147483648), 2147483647), ())])])]), ((1, 1), [(((-2147483648), 2147483647), [(((-2147483648), 2147483647), [(((-2147483648), 2147483647), ())])])]), ((2, 2), [(((-2147483648), 2147483647), [(((-2147483648), 2147483647), [(((-2147483648), 2147483647), ())])])]), ((3, 3), [(((-2147483648), 2147483647), [(((-2147483648), 2147483647), [(((-2147483648), 2147483647), ())])])]), ((4, 4), [(((-2147483648), 2147483647), [(((-2147483648), 2147483647), [(((-2147483648), 2147483647), ())])])]), ((5, 5), [(((-2147483648), 2147483647), [(((-2147483648), 2147483647), [(((-2147483648), 2147483647), ())])])]), ((6, 6), [(((-2147483648), 2147483647), [(((-2147483648), 2147483647), [(((-2147483648), 2147483647), ())])])]), ((7, 7), [(((-2147483648), 2147483647), [(((-2147483648), 2147483647), [(((-2147483648), 2147483647), ())])])]), ((8, 2147483647), [(((-2147483648), 2147483647), [(((-2147483648), 2147483647), [(((-2147483648), 2147483647), ())])])])]), ((0, 2147483647), [(((-2147483648), (-1)), [(((-2147483648), 2147483647), [(((-2147483648), 2147483647), [(((-2147483648), 2147483647), ())])])]), ((0, 0), [(((-2147483648), 2147483647), [(((-2147483648), 2147483647), [(((-2147483648), 2147483647), ())])])]), ((1, 1), [(((-2147483648), 2147483647), [(((-2147483648), 2147483647), [(((-2147483648), 2147483647), ())])])]), ((2, 2), [(((-2147483648), 2147483647), [(((-2147483648), 2147483647), [(((-2147483648), 2147483647), ())])])]), ((3, 3), [(((-2147483648), 2147483647), [(((-2147483648), 2147483647), [(((-2147483648), 2147483647), ())])])]), ((4, 4), [(((-2147483648), 2147483647), [(((-2147483648), 2147483647), [(((-2147483648), 2147483647), ())])])]), ((5, 5), [(((-2147483648), 2147483647), [(((-2147483648), 2147483647), [(((-2147483648), 2147483647), ())])])]), ((6, 6), [(((-2147483648), 2147483647), [(((-2147483648), 2147483647), [(((-2147483648), 2147483647), ())])])]), ((7, 7), [(((-2147483648), 2147483647), [(((-2147483648), 2147483647), [(((-2147483648), 2147483647), ())])])]), ((8, 2147483647), [(((-2147483648), 2147483647), [(((-2147483648), 2147483647), [(((-2147483648), 2147483647), ())])])])])] : ai_T 5) (ai_lw 1500 12 M_146 L_0 w_0 260 28440 33 ai_mt 28) = true := by decide +kernel
theorem rn_29 : ai_tr 5 ([(((-2147483648), (-1)), [(((-2147483648), (-1)), [(((-2147483648), 2147483647), [(((-2147483648), 2147483647), [(((-2147483648), 2147483647), ())])])]), ((0, 0), [(((-2147483648), 2147483647), [(((-2147483648), 2147483647), [(((-2147483648), 2147483647), ())])])]), ((1, 1), [(((-2147483648), 2147483647), [(((-2147483648), 2147483647), [(((-2147483648), 2147483647), ())])])]), ((2, 2), [(((-2147483648), 2147483647), [(((-2147483648), 2147483647), [(((-2147483648), 2147483647), ())])])]), ((3, 3), [(((-2147483648), 2147483647), [(((-2147483648), 2147483647), [(((-2147483648), 2147483647), ())])])]), ((4, 4), [(((-2147483648), 2147483647), [(((-2147483648), 2147483647), [(((-2147483648), 2147483647), ())])])]), ((5, 5), [(((-2147483648), 2147483647), [(((-2147483648), 2147483647), [(((-2147483648), 2147483647), ())])])]), ((6, 6), [(((-2147483648), 2147483647), [(((-2147483648), 2147483647), [(((-2147483648), 2147483647), ())])])]), ((7, 7), [(((-2147483648), 2147483647), [(((-2147483648), 2147483647), [(((-2147483648), 2147483647), ())])])]), ((8, 2147483647), [(((-2147483648), 2147483647), [(((-2147483648), 2147483647), [(((-2147483648), 2147483647), ())])])])]), ((0, 2147483647), [(((-2147483648), (-1)), [(((-2147483648), 2147483647), [(((-2147483648), 2147483647), [(((-2147483648), 2147483647), ())])])]), ((0, 0), [(((-2147483648), 2147483647), [(((-2147483648), 2147483647), [(((-2147483648), 2147483647), ())])])]), ((1, 1), [(((-2147483648), 2147483647), [(((-2147483648), 2147483647), [(((-2147483648), 2147483647), ())])])]), ((2, 2), [(((-2147483648), 2147483647), [(((-2147483648), 2147483647), [(((-2147483648), 2147483647), ())])])]), ((3, 3), [(((-2147483648), 2147483647), [(((-2147483648), 2147483647), [(((-2147483648), 2147483647), ())])])]), ((4, 4), [(((-2147483648), 2147483647), [(((-2147483648), 2147483647), [(((-2147483648), 2147483647), ())])])]), ((5, 5), [(((-2147483648), 2147483647), [(((-2147483648), 2147483647), [(((-2147483648), 2147483647), ())])])]), ((6, 6), [(((-2147483648), 2147483647), [(((-2147483648), 2147483647), [(((-2147483648), 2147483647), ())])])]), ((7, 7), [(((-2147483648), 2147483647), [(((-2147483648), 2147483647), [(((-2147483648), 2147483647), ())])])]), ((8, 2147483647), [(((-2147483648), 2147483647), [(((-2147483648), 2147483647), [(((-2147483648), 2147483647), ())])])])])] : ai_T 5) (ai_lw 1500 12 M_146 L_0 w_0 260 28440 33 ai_mt 29) = true := by decide +kernel
theorem rn_30 : ai_tr 5 ([(((-2147483648), (-1)), [(((-2147483648), (-1)), [(((-2147483648), 2147483647), [(((-2147483648), 2147483647), [(((-2147483648), 2147483647), ())])])]), ((0, 3), [(((-2147483648), 2147483647), [(((-2147483648), 2147483647), [(((-2147483648), 2147483647), ())])])]), ((4, 2147483647), [(((-2147483648), 2147483647), [(((-2147483648), 2147483647), [(((-2147483648), 2147483647), ())])])])]), ((0, 2147483647), [(((-2147483648), (-1)), [(((-2147483648), 2147483647), [(((-2147483648), 2147483647), [(((-2147483648), 2147483647), ())])])]), ((0, 3), [(((-2147483648), 2147483647), [(((-2147483648), 2147483647), [(((-2147483648), 2147483647), ())])])]), ((4, 2147483647), [(((-2147483648), 2147483647), [(((-2147483648), 2147483647), [(((-2147483648), 2147483647), ())])])])])] : ai_T 5) (ai_lw 1500 12 M_146 L_0 w_0 260 28440 33 ai_mt 30) = true := by decide +kernel
theorem rn_31 : ai_tr 5 ([(((-2147483648), (-1)), [(((-2147483648), (-1)), [(((-2147483648), 2147483647), [(((-2147483648), 2147483647), [(((-2147483648), 2147483647), ())])])]), ((0, 3), [(((-2147483648), 2147483647), [(((-2147483648), 2147483647), [(((-2147483648), 2147483647), ())])])]), ((4, 2147483647), [(((-2147483648), 2147483647), [(((-2147483648), 2147483647), [(((-2147483648), 2147483647), ())])])])]), ((0, 2147483647), [(((-2147483648), (-1)), [(((-2147483648), 2147483647), [(((-2147483648), 2147483647), [(((-2147483648), 2147483647), ())])])]), ((0, 3), [(((-2147483648), 2147483647), [(((-2147483648), 2147483647), [(((-2147483648), 2147483647), ())])])]), ((4, 2147483647), [(((-2147483648), 2147483647), [(((-2147483648), 2147483647), [(((-2147483648), 2147483647), ())])])])])] : ai_T 5) (ai_lw 1500 12 M_146 L_0 w_0 260 28440 33 ai_mt 31) = true := by decide +kernel
theorem rn_32 : ai_tr 5 ([(((-2147483648), (-1)), [(((-2147483648), (-1)), [(((-2147483648), 2147483647), [(((-2147483648), 2147483647), [(((-2147483648), 2147483647), ())])])]), ((0, 3), [(((-2147483648), 2147483647), [(((-2147483648), 2147483647), [(((-2147483648), 2147483647), ())])])]), ((4, 2147483647), [(((-2147483648), 2147483647), [(((-2147483648), 2147483647), [(((-2147483648), 2147483647), ())])])])]), ((0, 2147483647), [(((-2147483648), (-1)), [(((-2147483648), 2147483647), [(((-2147483648), 2147483647), [(((-2147483648), 2147483647), ())])])]), ((0, 3), [(((-2147483648), 2147483647), [(((-2147483648), 2147483647), [(((-2147483648), 2147483647), ())])])]), ((4, 2147483647), [(((-2147483648), 2147483647), [(((-2147483648), 2147483647), [(((-2147483648), 2147483647), ())])])])])] : ai_T 5) (ai_lw 1500 12 M_146 L_0 w_0 260 28440 33 ai_mt 32) = true := by decide +kernel
theorem rn_33 : ai_tr 5 ([(((-2147483648), (-1)), [(((-2147483648), (-1)), [(((-2147483648), 2147483647), [(((-2147483648), 2147483647), [(((-2147483648), 2147483647), ())])])]), ((0, 3), [(((-2147483648), 2147483647), [(((-2147483648), 2147483647), [(((-2147483648), 2147483647), ())])])]), ((4, 2147483647), [(((-2147483648), 2147483647), [(((-2147483648), 2147483647), [(((-2147483648), 2147483647), ())])])])]), ((0, 2147483647), [(((-2147483648), (-1)), [(((-2147483648), 2147483647), [(((-2147483648), 2147483647), [(((-2147483648), 2147483647), ())])])]), ((0, 3), [(((-2147483648), 2147483647), [(((-2147483648), 2147483647), [(((-2147483648), 2147483647), ())])])]), ((4, 2147483647), [(((-2147483648), 2147483647), [(((-2147483648), 2147483647), [(((-2147483648), 2147483647), ())])])])])] : ai_T 5) (ai_lw 1500 12 M_146 L_0 w_0 260 28440 33 ai_mt 33) = true := by decide +kernel
theorem rn_34 : ai_tr 5 ([(((-2147483648), (-1)), [(((-2147483648), (-1)), [(((-2147483648), 2147483647), [(((-2147483648), 2147483647), [(((-2147483648), 2147483647), ())])])]), ((0, 3), [(((-2147483648), 2147483647), [(((-2147483648), 2147483647), [(((-2147483648), 2147483647), ())])])]), ((4, 2147483647), [(((-2147483648), 2147483647), [(((-2147483648), 2147483647), [(((-2147483648), 2147483647), ())])])])]), ((0, 2147483647), [(((-2147483648), (-1)), [(((-2147483648), 2147483647), [(((-2147483648), 2147483647), [(((-2147483648), 2147483647), ())])])]), ((0, 3), [(((-2147483648), 2147483647), [(((-2147483648), 2147483647), [(((-2147483648), 2147483647), ())])])]), ((4, 2147483647), [(((-2147483648), 2147483647), [(((-2147483648), 2147483647), [(((-2147483648), 2147483647), ())])])])])] : ai_T 5) (ai_lw 1500 12 M_146 L_0 w_0 260 28440 33 ai_mt 34) = true := by decide +kernel
theorem rn_35 : ai_tr 5 ([(((-2147483648), (-1)), [(((-2147483648), (-1)), [(((-2147483648), 2147483647), [(((-2147483648), 2147483647), [(((-2147483648), 2147483647), ())])])]), ((0, 3), [(((-2147483648), 2147483647), [(((-2147483648), 2147483647), [(((-2147483648), 2147483647), ())])])]), ((4, 2147483647), [(((-2147483648), 2147483647), [(((-2147483648), 2147483647), [(((-2147483648), 2147483647), ())])])])]), ((0, 2147483647), [(((-2147483648), (-1)), [(((-2147483648), 2147483647), [(((-2147483648), 2147483647), [(((-2147483648), 2147483647), ())])])]), ((0, 3), [(((-2147483648), 2147483647), [(((-2147483648), 2147483647), [(((-2147483648), 2147483647), ())])])]), ((4, 2147483647), [(((-2147483648), 2147483647), [(((-2147483648), 2147483647), [(((-2147483648), 2147483647), ())])])])])] : ai_T 5) (ai_lw 1500 12 M_146 L_0 w_0 260 28440 33 ai_mt 35) = true := by decide +kernel
theorem rn_36 : ai_tr 5 ([(((-2147483648), (-1)), [(((-2147483648), (-1)), [(((-2147483648), 2147483647), [(((-2147483648), 2147483647), [(((-2147483648), 2147483647), ())])])]), ((0, 3), [(((-2147483648), 2147483647), [(((-2147483648), 2147483647), [(((-2147483648), 2147483647), ())])])]), ((4, 2147483647), [(((-2147483648), 2147483647), [(((-2147483648), 2147483647), [(((-2147483648), 2147483647), ())])])])]), ((0, 2147483647), [(((-2147483648), (-1)), [(((-2147483648), 2147483647), [(((-2147483648), 2147483647), [(((-2147483648), 2147483647), ())])])]), ((0, 3), [(((-2147483648), 2147483647), [(((-2147483648), 2147483647), [(((-2147483648), 2147483647), ())])])]), ((4, 2147483647), [(((-2147483648), 2147483647), [(((-2147483648), 2147483647), [(((-2147483648), 2147483647), ())])])])])] : ai_T 5) (ai_lw 1500 12 M_146 L_0 w_0 260 28440 33 ai_mt 36) = true := by decide +kernel
theorem rn_37 : ai_tr 5 ([(((-2147483648), (-1)), [(((-2147483648), 2147483647), [(((-2147483648), 2147483647), [(((-2147483648), 2147483647), [(((-2147483648), 2147483647), ())])])])]), ((0, 2147483647), [(((-2147483648), 2147483647), [(((-2147483648), 2147483647), [(((-2147483648), 2147483647), [(((-2147483648), 2147483647), ())])])])])] : ai_T 5) (ai_lw 1500 12 M_146 L_0 w_0 260 28440 33 ai_mt 37) = true := by decide +kernel
theorem rn_38 : ai_tr 5 ([(((-2147483648), (-1)), [(((-2147483648), (-1)), [(((-2147483648), 2147483647), [(((-2147483648), 2147483647), [(((-2147483648), 2147483647), ())])])]), ((0, 3), [(((-2147483648), 2147483647), [(((-2147483648), 2147483647), [(((-2147483648), 2147483647), ())])])]), ((4, 2147483647), [(((-2147483648), 2147483647), [(((-2147483648), 2147483647), [(((-2147483648), 2147483647), ())])])])]), ((0, 2147483647), [(((-2147483648), (-1)), [(((-2147483648), 2147483647), [(((-2147483648), 2147483647), [(((-2147483648), 2147483647), ())])])]), ((0, 3), [(((-2147483648), 2147483647), [(((-2147483648), 2147483647), [(((-2147483648), 2147483647), ())])])]), ((4, 2147483647), [(((-2147483648), 2147483647), [(((-2147483648), 2147483647), [(((-2147483648), 2147483647), ())])])])])] : ai_T 5) (ai_lw 1500 12 M_146 L_0 w_0 260 28440 33 ai_mt 38) = true := by decide +kernel
theorem rn_39 : ai_tr 5 ([(((-2147483648), (-1)), [(((-2147483648), (-1)), [(((-2147483648), 2147483647), [(((-2147483648), 2147483647), [(((-2147483648), 2147483647), ())])])]), ((0, 3), [(((-2147483648), 2147483647), [(((-2147483648), 2147483647), [(((-2147483648), 2147483647), ())])])]), ((4, 2147483647), [(((-2147483648), 2147483647), [(((-2147483648), 2147483647), [(((-2147483648), 2147483647), ())])])])]), ((0, 2147483647), [(((-2147483648), (-1)), [(((-2147483648), 2147483647), [(((-2147483648), 2147483647), [(((-2147483648), 2147483647), ())])])]), ((0, 3), [(((-2147483648), 2147483647), [(((-2147483648), 2147483647), [(((-2147483648), 2147483647), ())])])]), ((4, 2147483647), [(((-2147483648), 2147483647), [(((-2147483648), 2147483647), [(((-2147483648), 2147483647), ())])])])])] : ai_T 5) (ai_lw 1500 12 M_146 L_0 w_0 260 28440 33 ai_mt 39) = true := by decide +kernel
theorem rn_40 : ai_tr 5 ([(((-2147483648), (-1)), [(((-2147483648), (-1)), [(((-2147483648), 2147483647), [(((-2147483648), 2147483647), [(((-2147483648), 2147483647), ())])])]), ((0, 3), [(((-2147483648), 2147483647), [(((-2147483648), 2147483647), [(((-2147483648), 2147483647), ())])])]), ((4, 2147483647), [(((-2147483648), 2147483647), [(((-2147483648), 2147483647), [(((-2147483648), 2147483647), ())])])])]), ((0, 2147483647), [(((-2147483648), (-1)), [(((-2147483648), 2147483647), [(((-2147483648), 2147483647), [(((-2147483648), 2147483647), ())])])]), ((0, 3), [(((-2147483648), 2147483647), [(((-2147483648), 2147483647), [(((-2147483648), 2147483647), ())])])]), ((4, 2147483647), [(((-2147483648), 2147483647), [(((-2147483648), 2147483647), [(((-2147483648), 2147483647), ())])])])])] : ai_T 5) (ai_lw 1500 12 M_146 L_0 w_0 260 28440 33 ai_mt 40) = true := by decide +kernel
theorem rn_41 : ai_tr 5 ([(((-2147483648), (-1)), [(((-2147483648), 2147483647), [(((-2147483648), 2147483647), [(((-2147483648), 2147483647), [(((-2147483648), 2147483647), ())])])])]), ((0, 2147483647), [(((-2147483648), 2147483647), [(((-2147483648), 2147483647), [(((-2147483648), 2147483647), [(((-2147483648), 2147483647), ())])])])])] : ai_T 5) (ai_lw 1500 12 M_146 L_0 w_0 260 28440 33 ai_mt 41) = true := by decide +kernel
theorem rn_42 : ai_tr 5 ([(((-2147483648), (-1)), [(((-2147483648), 2147483647), [(((-2147483648), 2147483647), [(((-2147483648), 2147483647), [(((-2147483648), 2147483647), ())])])])]), ((0, 2147483647), [(((-2147483648), 2147483647), [(((-2147483648), 2147483647), [(((-2147483648), 2147483647), [(((-2147483648), 2147483647), ())])])])])] : ai_T 5) (ai_lw 1500 12 M_146 L_0 w_0 260 28440 33 ai_mt 42) = true := by decide +kernel
theorem rn_43 : ai_tr 5 ([(((-2147483648), (-1)), [(((-2147483648), (-1)), [(((-2147483648), 2147483647), [(((-2147483648), 2147483647), [(((-2147483648), 2147483647), ())])])]), ((0, 3), [(((-2147483648), 2147483647), [(((-2147483648), 2147483647), [(((-2147483648), 2147483647), ())])])]), ((4, 2147483647), [(((-2147483648), 2147483647), [(((-2147483648), 2147483647), [(((-2147483648), 2147483647), ())])])])]), ((0, 2147483647), [(((-2147483648), (-1)), [(((-2147483648), 2147483647), [(((-2147483648), 2147483647), [(((-2147483648), 2147483647), ())])])]), ((0, 3), [(((-2147483648), 2147483647), [(((-2147483648), 2147483647), [(((-2147483648), 2147483647), ())])])]), ((4, 2147483647), [(((-2147483648), 2147483647), [(((-2147483648), 2147483647), [(((-2147483648), 2147483647), ())])])])])] : ai_T 5) (ai_lw 1500 12 M_146 L_0 w_0 260 28440 33 ai_mt 43) = true := by decide +kernel
theorem rn_44 : ai_tr 5 ([(((-2147483648), 2147483647), [(((-2147483648), 2147483647), [(((-2147483648), 2147483647), [(((-2147483648), 2147483647), [(((-2147483648), 2147483647), ())])])])])] : ai_T 5) (ai_lw 1500 12 M_146 L_0 w_0 260 28440 33 ai_mt 44) = true := by decide +kernel
theorem rn_45 : ai_tr 5 ([(((-2147483648), (-1)), [(((-2147483648), 2147483647), [(((-2147483648), 2147483647), [(((-2147483648), 2147483647), [(((-2147483648), 2147483647), ())])])])]), ((0, 5), [(((-2147483648), 2147483647), [(((-2147483648), 2147483647), [(((-2147483648), 2147483647), [(((-2147483648), 2147483647), ())])])])]), ((6, 2147483647), [(((-2147483648), 2147483647), [(((-2147483648), 2147483647), [(((-2147483648), 2147483647), [(((-2147483648), 2147483647), ())])])])])] : ai_T 5) (ai_lw 1500 12 M_146 L_0 w_0 260 28440 33 ai_mt 45) = true := by decide +kernel
theorem rn_47 : ai_tr 5 ([(((-2147483648), 2147483647), [(((-2147483648), 2147483647), [(((-2147483648), 2147483647), [(((-2147483648), 2147483647), [(((-2147483648), 2147483647), ())])])])])] : ai_T 5) (ai_lw 1500 12 M_146 L_0 w_0 260 28440 33 ai_mt 47) = true := by decide +kernel
theorem rn_48 : ai_tr 5 ([(((-2147483648), (-2147483637)), [(((-2147483648), 2147483647), [(((-2147483648), 2147483647), [(((-2147483648), 2147483647), [(((-2147483648), 2147483647), ())])])])]), (((-2147483636), (-1)), [(((-2147483648), 2147483647), [(((-2147483648), 2147483647), [(((-2147483648), 2147483647), [(((-2147483648), 2147483647), ())])])])]), ((0, 0), [(((-2147483648), 2147483647), [(((-2147483648), 2147483647), [(((-2147483648), 2147483647), [(((-2147483648), 2147483647), ())])])])]), ((1, 1), [(((-2147483648), 2147483647), [(((-2147483648), 2147483647), [(((-2147483648), 2147483647), [(((-2147483648), 2147483647), ())])])])]), ((2, 2), [(((-2147483648), 2147483647), [(((-2147483648), 2147483647), [(((-2147483648), 2147483647), [(((-2147483648), 2147483647), ())])])])]), ((3, 11), [(((-2147483648), 2147483647), [(((-2147483648), 2147483647), [(((-2147483648), 2147483647), [(((-2147483648), 2147483647), ())])])])]), ((12, 12), [(((-2147483648), 2147483647), [(((-2147483648), 2147483647), [(((-2147483648), 2147483647), [(((-2147483648), 2147483647), ())])])])]), ((13, 13), [(((-2147483648), 2147483647), [(((-2147483648), 2147483647), [(((-2147483648), 2147483647), [(((-2147483648), 2147483647), ())])])])]), ((14, 14), [(((-2147483648), 2147483647), [(((-2147483648), 2147483647), [(((-2147483648), 2147483647), [(((-2147483648), 2147483647), ())])])])]), ((15, 15), [(((-2147483648), 2147483647), [(((-2147483648), 2147483647), [(((-2147483648), 2147483647), [(((-2147483648), 2147483647), ())])])])]), ((16, 16), [(((-2147483648), 2147483647), [(((-2147483648), 2147483647), [(((-2147483648), 2147483647), [(((-2147483648), 2147483647), ())])])])]), ((17, 2147483647), [(((-2147483648), 2147483647), [(((-2147483648), 2147483647), [(((-2147483648), 2147483647), [(((-2147483648), 2147483647), ())])])])])] : ai_T 5) (ai_lw 1500 12 M_146 L_0 w_0 260 28440 33 ai_mt 48) = true := by decide +kernel
end
section
/-! ===== the runs, case by case ===== -/
theorem rn_0 : ai_tr 5 ([(((-2147483648), (-1)), [(((-2147483648), 2147483647), [(((-2147483648), 2147483647), [(((-2147483648), 2147483647), [(((-2147483648), 2147483647), ())])])])]), ((0, 0), [(((-2147483648), (-1)), [(((-2147483648), 2147483647), [(((-2147483648), 2147483647), [(((-2147483648), 2147483647), ())])])]), ((0, 4), [(((-2147483648), (-1)), [(((-2147483648), 2147483647), [(((-2147483648), 2147483647), ())])]), ((0, 40), [(((-2147483648), 2147483647), [(((-2147483648), 2147483647), ())])]), ((41, 2147483647), [(((-2147483648), 2147483647), [(((-2147483648), 2147483647), ())])])]), ((5, 2147483647), [(((-2147483648), 2147483647), [(((-2147483648), 2147483647), [(((-2147483648), 2147483647), ())])])])]), ((1, 1), [(((-2147483648), (-1)), [(((-2147483648), 2147483647), [(((-2147483648), 2147483647), [(((-2147483648), 2147483647), ())])])]), ((0, 4), [(((-2147483648), (-1)), [(((-2147483648), 2147483647), [(((-2147483648), 2147483647), ())])]), ((0, 40), [(((-2147483648), 2147483647), [(((-2147483648), 2147483647), ())])]), ((41, 2147483647), [(((-2147483648), 2147483647), [(((-2147483648), 2147483647), ())])])]), ((5, 2147483647), [(((-2147483648), 2147483647), [(((-2147483648), 2147483647), [(((-2147483648), 2147483647), ())])])])]), ((2, 2), [(((-2147483648), (-1)), [(((-2147483648), 2147483647), [(((-2147483648), 2147483647), [(((-2147483648), 2147483647), ())])])]), ((0, 4), [(((-2147483648), (-1)), [(((-2147483648), 2147483647), [(((-2147483648), 2147483647), ())])]), ((0, 40), [(((-2147483648), 2147483647), [(((-2147483648), 2147483647), ())])]), ((41, 2147483647), [(((-2147483648), 2147483647), [(((-2147483648), 2147483647), ())])])]), ((5, 2147483647), [(((-2147483648), 2147483647), [(((-2147483648), 2147483647), [(((-2147483648), 2147483647), ())])])])]), ((3, 3), [(((-2147483648), (-1)), [(((-2147483648), 2147483647), [(((-2147483648), 2147483647), [(((-2147483648), 2147483647), ())])])]), ((0, 4), [(((-2147483648), (-1)), [(((-2147483648), 2147483647), [(((-2147483648), 2147483647), ())])]), ((0, 40), [(((-2147483648), 2147483647), [(((-2147483648), 2147483647), ())])]), ((41, 2147483647), [(((-2147483648), 2147483647), [(((-2147483648), 2147483647), ())])])]), ((5, 2147483647), [(((-2147483648), 2147483647), [(((-2147483648), 2147483647), [(((-2147483648), 2147483647), ())])])])]), ((4, 4), [(((-2147483648), (-1)), [(((-2147483648), 2147483647), [(((-2147483648), 2147483647), [(((-2147483648), 2147483647), ())])])]), ((0, 4), [(((-2147483648), (-1)), [(((-2147483648), 2147483647), [(((-2147483648), 2147483647), ())])]), ((0, 40), [(((-2147483648), 2147483647), [(((-2147483648), 2147483647), ())])]), ((41, 2147483647), [(((-2147483648), 2147483647), [(((-2147483648), 2147483647), ())])])]), ((5, 2147483647), [(((-2147483648), 2147483647), [(((-2147483648), 2147483647), [(((-2147483648), 2147483647), ())])])])]), ((5, 5), [(((-2147483648), (-1)), [(((-2147483648), 2147483647), [(((-2147483648), 2147483647), [(((-2147483648), 2147483647), ())])])]), ((0, 4), [(((-2147483648), (-1)), [(((-2147483648), 2147483647), [(((-2147483648), 2147483647), ())])]), ((0, 40), [(((-2147483648), 2147483647), [(((-2147483648), 2147483647), ())])]), ((41, 2147483647), [(((-2147483648), 2147483647), [(((-2147483648), 2147483647), ())])])]), ((5, 2147483647), [(((-2147483648), 2147483647), [(((-2147483648), 2147483647), [(((-2147483648), 2147483647), ())])])])]), ((6, 6), [(((-2147483648), (-1)), [(((-2147483648), 2147483647), [(((-2147483648), 2147483647), [(((-2147483648), 2147483647), ())])])]), ((0, 4), [(((-2147483648), (-1)), [(((-2147483648), 2147483647), [(((-2147483648), 2147483647), ())])]), ((0, 40), [(((-2147483648), 2147483647), [(((-2147483648), 2147483647), ())])]), ((41, 2147483647), [(((-2147483648), 2147483647), [(((-2147483648), 2147483647), ())])])]), ((5, 2147483647), [(((-2147483648), 2147483647), [(((-2147483648), 2147483647), [(((-2147483648), 2147483647), ())])])])]), ((7, 7), [(((-2147483648), (-1)), [(((-2147483648), 2147483647), [(((-2147483648), 2147483647), [(((-2147483648), 2147483647), ())])])]), ((0, 4), [(((-2147483648), (-1)), [(((-2147483648), 2147483647), [(((-2147483648), 2147483647), ())])]), ((0, 40), [(((-2147483648), 2147483647), [(((-2147483648), 2147483647), ())])]), ((41, 2147483647), [(((-2147483648), 2147483647), [(((-2147483648), 2147483647), ())])])]), ((5, 2147483647), [(((-2147483648), 2147483647), [(((-2147483648), 2147483647), [(((-2147483648), 2147483647), ())])])])]), ((8, 2147483647), [(((-2147483648), 2147483647), [(((-2147483648), 2147483647), [(((-2147483648), 2147483647), [(((-2147483648), 2147483647), ())])])])])] : ai_T 5) (ai_lw 1500 12 M_146 L_0 w_0 260 28440 33 ai_mt 0) = true := by decide +kernel
theorem rn_6 : ai_tr 5 ([(((-2147483648), (-1)), [(((-2147483648), 2147483647), [(((-2147483648), 2147483647), [(((-2147483648), 2147483647), [(((-2147483648), 2147483647), ())])])])]), ((0, 0), [(((-2147483648), (-1)), [(((-2147483648), 2147483647), [(((-2147483648), 2147483647), [(((-2147483648), 2147483647), ())])])]), ((0, 5), [(((-2147483648), 2147483647), [(((-2147483648), 2147483647), [(((-2147483648), 2147483647), ())])])]), ((6, 2147483647), [(((-2147483648), 2147483647), [(((-2147483648), 2147483647), [(((-2147483648), 2147483647), ())])])])]), ((1, 1), [(((-2147483648), (-1)), [(((-2147483648), 2147483647), [(((-2147483648), 2147483647), [(((-2147483648), 2147483647), ())])])]), ((0, 5), [(((-2147483648), 2147483647), [(((-2147483648), 2147483647), [(((-2147483648), 2147483647), ())])])]), ((6, 2147483647), [(((-2147483648), 2147483647), [(((-2147483648), 2147483647), [(((-2147483648), 2147483647), ())])])])]), ((2, 2), [(((-2147483648), (-1)), [(((-2147483648), 2147483647), [(((-2147483648), 2147483647), [(((-2147483648), 2147483647), ())])])]), ((0, 5), [(((-2147483648), 2147483647), [(((-2147483648), 2147483647), [(((-2147483648), 2147483647), ())])])]), ((6, 2147483647), [(((-2147483648), 2147483647), [(((-2147483648), 2147483647), [(((-2147483648), 2147483647), ())])])])]), ((3, 3), [(((-2147483648), (-1)), [(((-2147483648), 2147483647), [(((-2147483648), 2147483647), [(((-2147483648), 2147483647), ())])])]), ((0, 5), [(((-2147483648), 2147483647), [(((-2147483648), 2147483647), [(((-2147483648), 2147483647), ())])])]), ((6, 2147483647), [(((-2147483648), 2147483647), [(((-2147483648), 2147483647), [(((-2147483648), 2147483647), ())])])])]), ((4, 4), [(((-2147483648), (-1)), [(((-2147483648), 2147483647), [(((-2147483648), 2147483647), [(((-2147483648), 2147483647), ())])])]), ((0, 5), [(((-2147483648), 2147483647), [(((-2147483648), 2147483647), [(((-2147483648), 2147483647), ())])])]), ((6, 2147483647), [(((-2147483648), 2147483647), [(((-2147483648), 2147483647), [(((-2147483648), 2147483647), ())])])])]), ((5, 5), [(((-2147483648), (-1)), [(((-2147483648), 2147483647), [(((-2147483648), 2147483647), [(((-2147483648), 2147483647), ())])])]), ((0, 5), [(((-2147483648), 2147483647), [(((-2147483648), 2147483647), [(((-2147483648), 2147483647), ())])])]), ((6, 2147483647), [(((-2147483648), 2147483647), [(((-2147483648), 2147483647), [(((-2147483648), 2147483647), ())])])])]), ((6, 6), [(((-2147483648), (-1)), [(((-2147483648), 2147483647), [(((-2147483648), 2147483647), [(((-2147483648), 2147483647), ())])])]), ((0, 5), [(((-2147483648), 2147483647), [(((-2147483648), 2147483647), [(((-2147483648), 2147483647), ())])])]), ((6, 2147483647), [(((-2147483648), 2147483647), [(((-2147483648), 2147483647), [(((-2147483648), 2147483647), ())])])])]), ((7, 7), [(((-2147483648), (-1)), [(((-2147483648), 2147483647), [(((-2147483648), 2147483647), [(((-2147483648), 2147483647), ())])])]), ((0, 5), [(((-2147483648), 2147483647), [(((-2147483648), 2147483647), [(((-2147483648), 2147483647), ())])])]), ((6, 2147483647), [(((-2147483648), 2147483647), [(((-2147483648), 2147483647), [(((-2147483648), 2147483647), ())])])])]), ((8, 2147483647), [(((-2147483648), 2147483647), [(((-2147483648), 2147483647), [(((-2147483648), 2147483647), [(((-2147483648), 2147483647), ())])])])])] : ai_T 5) (ai_lw 1500 12 M_146 L_0 w_0 260 28440 33 ai_mt 6) = true := by decide +kernel
end
section
/-! ===== the runs, case by case ===== -/
theorem rn_2 : ai_tr 5 ([(((-2147483648), (-1)), [(((-2147483648), (-1)), [(((-2147483648), 2147483647), [(((-2147483648), 2147483647), [(((-2147483648), 2147483647), ())])])]), ((0, 0), [(((-2147483648), 2147483647), [(((-2147483648), 2147483647), [(((-2147483648), 2147483647), ())])])]), ((1, 1), [(((-2147483648), 2147483647), [(((-2147483648), 2147483647), [(((-2147483648), 2147483647), ())])])]), ((2, 2), [(((-2147483648), 2147483647), [(((-2147483648), 2147483647), [(((-2147483648), 2147483647), ())])])]), ((3, 3), [(((-2147483648), 2147483647), [(((-2147483648), 2147483647), [(((-2147483648), 2147483647), ())])])]), ((4, 4), [(((-2147483648), 2147483647), [(((-2147483648), 2147483647), [(((-2147483648), 2147483647), ())])])]), ((5, 5), [(((-2147483648), 2147483647), [(((-2147483648), 2147483647), [(((-2147483648), 2147483647), ())])])]), ((6, 6), [(((-2147483648), 2147483647), [(((-2147483648), 2147483647), [(((-2147483648), 2147483647), ())])])]), ((7, 7), [(((-2147483648), 2147483647), [(((-2147483648), 2147483647), [(((-2147483648), 2147483647), ())])])]), ((8, 2147483647), [(((-2147483648), 2147483647), [(((-2147483648), 2147483647), [(((-2147483648), 2147483647), ())])])])]), ((0, 0), [(((-2147483648), (-1)), [(((-2147483648), 2147483647), [(((-2147483648), 2147483647), [(((-2147483648), 2147483647), ())])])]), ((0, 0), [(((-2147483648), 2147483647), [(((-2147483648), 2147483647), [(((-2147483648), 2147483647), ())])])]), ((1, 1), [(((-2147483648), 2147483647), [(((-2147483648), 2147483647), [(((-2147483648), 2147483647), ())])])]), ((2, 2), [(((-2147483648), 2147483647), [(((-2147483648), 2147483647), [(((-2147483648), 2147483647), ())])])]), ((3, 3), [(((-2147483648), 2147483647), [(((-2147483648), 2147483647), [(((-2147483648), 2147483647), ())])])]), ((4, 4), [(((-2147483648), 2147483647), [(((-2147483648), 2147483647), [(((-2147483648), 2147483647), ())])])]), ((5, 5), [(((-2147483648), 2147483647), [(((-2147483648), 2147483647), [(((-2147483648), 2147483647), ())])])]), ((6, 6), [(((-2147483648), 2147483647), [(((-2147483648), 2147483647), [(((-2147483648), 2147483647), ())])])]), ((7, 7), [(((-2147483648), 2147483647), [(((-2147483648), 2147483647), [(((-2147483648), 2147483647), ())])])]), ((8, 2147483647), [(((-2147483648), 2147483647), [(((-2147483648), 2147483647), [(((-2147483648), 2147483647), ())])])])]), ((1, 1), [(((-2147483648), (-1)), [(((-2147483648), 2147483647), [(((-2147483648), 2147483647), [(((-2147483648), 2147483647), ())])])]), ((0, 0), [(((-2147483648), 2147483647), [(((-2147483648), 2147483647), [(((-2147483648), 2147483647), ())])])]), ((1, 1), [(((-2147483648), 2147483647), [(((-2147483648), 2147483647), [(((-2147483648), 2147483647), ())])])]), ((2, 2), [(((-2147483648), 2147483647), [(((-2147483648), 2147483647), [(((-2147483648), 2147483647), ())])])]), ((3, 3), [(((-2147483648), 2147483647), [(((-2147483648), 2147483647), [(((-2147483648), 2147483647), ())])])]), ((4, 4), [(((-2147483648), 2147483647), [(((-2147483648), 2147483647), [(((-2147483648), 2147483647), ())])])]), ((5, 5), [(((-2147483648), 2147483647), [(((-2147483648), 2147483647), [(((-2147483648), 2147483647), ())])])]), ((6, 6), [(((-2147483648), 2147483647), [(((-2147483648), 2147483647), [(((-2147483648), 2147483647), ())])])]), ((7, 7), [(((-2147483648), 2147483647), [(((-2147483648), 2147483647), [(((-2147483648), 2147483647), ())])])]), ((8, 2147483647), [(((-2147483648), 2147483647), [(((-2147483648), 2147483647), [(((-2147483648), 2147483647), ())])])])]), ((2, 2), [(((-2147483648), (-1)), [(((-2147483648), 2147483647), [(((-2147483648), 2147483647), [(((-2147483648), 2147483647), ())])])]), ((0, 0), [(((-2147483648), 2147483647), [(((-2147483648), 2147483647), [(((-2147483648), 2147483647), ())])])]), ((1, 1), [(((-2147483648), 2147483647), [(((-2147483648), 2147483647), [(((-2147483648), 2147483647), ())])])]), ((2, 2), [(((-2147483648), 2147483647), [(((-2147483648), 2147483647), [(((-2147483648), 2147483647), ())])])]), ((3, 3), [(((-2147483648), 2147483647), [(((-2147483648), 2147483647), [(((-2147483648), 2147483647), ())])])]), ((4, 4), [(((-2147483648), 2147483647), [(((-2147483648), 2147483647), [(((-2147483648), 2147483647), ())])])]), ((5, 5), [(((-2147483648), 2147483647), [(((-2147483648), 2147483647), [(((-2147483648), 2147483647), ())])])]), ((6, 6), [(((-2147483648), 2147483647), [(((-2147483648), 2147483647), [(((-2147483648), 2147483647), ())])])]), ((7, 7), [(((-2147483648), 2147483647), [(((-2147483648), 2147483647), [(((-2147483648), 2147483647), ())])])]), ((8, 2147483647), [(((-2147483648), 2147483647), [(((-2147483648), 2147483647), [(((-2147483648), 2147483647), ())])])])]), ((3, 3), [(((-2147483648), (-1)), [(((-2147483648), 2147483647), [(((-2147483648), 2147483647), [(((-2147483648), 2147483647), ())])])]), ((0, 0), [(((-2147483648), 2147483647), [(((-2147483648), 2147483647), [(((-2147483648), 2147483647), ())])])]), ((1, 1), [(((-2147483648), 2147483647), [(((-2147483648), 2147483647), [(((-2147483648), 2147483647), ())])])]), ((2, 2), [(((-2147483648), 2147483647), [(((-2147483648), 2147483647), [(((-2147483648), 2147483647), ())])])]), ((3, 3), [(((-2147483648), 2147483647), [(((-2147483648), 2147483647), [(((-2147483648), 2147483647), ())])])]), ((4, 4), [(((-2147483648), 2147483647), [(((-2147483648), 2147483647), [(((-2147483648), 2147483647), ())])])]), ((5, 5), [(((-2147483648), 2147483647), [(((-2147483648), 2147483647), [(((-2147483648), 2147483647), ())])])]), ((6, 6), [(((-2147483648), 2147483647), [(((-2147483648), 2147483647), [(((-2147483648), 2147483647), ())])])]), ((7, 7), [(((-2147483648), 2147483647), [(((-2147483648), 2147483647), [(((-2147483648), 2147483647), ())])])]), ((8, 2147483647), [(((-2147483648), 2147483647), [(((-2147483648), 2147483647), [(((-2147483648), 2147483647), ())])])])]), ((4, 4), [(((-2147483648), (-1)), [(((-2147483648), 2147483647), [(((-2147483648), 2147483647), [(((-2147483648), 2147483647), ())])])]), ((0, 0), [(((-2147483648), 2147483647), [(((-2147483648), 2147483647), [(((-2147483648), 2147483647), ())])])]), ((1, 1), [(((-2147483648), 2147483647), [(((-2147483648), 2147483647), [(((-2147483648), 2147483647), ())])])]), ((2, 2), [(((-2147483648), 2147483647), [(((-2147483648), 2147483647), [(((-2147483648), 2147483647), ())])])]), ((3, 3), [(((-2147483648), 2147483647), [(((-2147483648), 2147483647), [(((-2147483648), 2147483647), ())])])]), ((4, 4), [(((-2147483648), 2147483647), [(((-2147483648), 2147483647), [(((-2147483648), 2147483647), ())])])]), ((5, 5), [(((-2147483648), 2147483647), [(((-2147483648), 2147483647), [(((-2147483648), 2147483647), ())])])]), ((6, 6), [(((-2147483648), 2147483647), [(((-2147483648), 2147483647), [(((-2147483648), 2147483647), ())])])]), ((7, 7), [(((-2147483648), 2147483647), [(((-2147483648), 2147483647), [(((-2147483648), 2147483647), ())])])]), ((8, 2147483647), [(((-2147483648), 2147483647), [(((-2147483648), 2147483647), [(((-2147483648), 2147483647), ())])])])]), ((5, 5), [(((-2147483648), (-1)), [(((-2147483648), 2147483647), [(((-2147483648), 2147483647), [(((-2147483648), 2147483647), ())])])]), ((0, 0), [(((-2147483648), 2147483647), [(((-2147483648), 2147483647), [(((-2147483648), 2147483647), ())])])]), ((1, 1), [(((-2147483648), 2147483647), [(((-2147483648), 2147483647), [(((-2147483648), 2147483647), ())])])]), ((2, 2), [(((-2147483648), 2147483647), [(((-2147483648), 2147483647), [(((-2147483648), 2147483647), ())])])]), ((3, 3), [(((-2147483648), 2147483647), [(((-2147483648), 2147483647), [(((-2147483648), 2147483647), ())])])]), ((4, 4), [(((-2147483648), 2147483647), [(((-2147483648), 2147483647), [(((-2147483648), 2147483647), ())])])]), ((5, 5), [(((-2147483648), 2147483647), [(((-2147483648), 2147483647), [(((-2147483648), 2147483647), ())])])]), ((6, 6), [(((-2147483648), 2147483647), [(((-2147483648), 2147483647), [(((-2147483648), 2147483647), ())])])]), ((7, 7), [(((-2147483648), 2147483647), [(((-2147483648), 2147483647), [(((-2147483648), 2147483647), ())])])]), ((8, 2147483647), [(((-2147483648), 2147483647), [(((-2147483648), 2147483647), [(((-2147483648), 2147483647), ())])])])]), ((6, 6), [(((-2147483648), (-1)), [(((-2147483648), 2147483647), [(((-2147483648), 2147483647), [(((-2147483648), 2147483647), ())])])]), ((0, 0), [(((-2147483648), 2147483647), [(((-2147483648), 2147483647), [(((-2147483648), 2147483647), ())])])]), ((1, 1), [(((-2147483648), 2147483647), [(((-2147483648), 2147483647), [(((-2147483648), 2147483647), ())])])]), ((2, 2), [(((-2147483648), 2147483647), [(((-2147483648), 2147483647), [(((-2147483648), 2147483647), ())])])]), ((3, 3), [(((-2147483648), 2147483647), [(((-2147483648), 2147483647), [(((-2147483648), 2147483647), ())])])]), ((4, 4), [(((-2147483648), 2147483647), [(((-2147483648), 2147483647), [(((-2147483648), 2147483647), ())])])]), ((5, 5), [(((-2147483648), 2147483647), [(((-2147483648), 2147483647), [(((-2147483648), 2147483647), ())])])]), ((6, 6), [(((-2147483648), 2147483647), [(((-2147483648), 2147483647), [(((-2147483648), 2147483647), ())])])]), ((7, 7), [(((-2147483648), 2147483647), [(((-2147483648), 2147483647), [(((-2147483648), 2147483647), ())])])]), ((8, 2147483647), [(((-2147483648), 2147483647), [(((-2147483648), 2147483647), [(((-2147483648), 2147483647), ())])])])]), ((7, 7), [(((-2147483648), (-1)), [(((-2147483648), 2147483647), [(((-2147483648), 2147483647), [(((-2147483648), 2147483647), ())])])]), ((0, 0), [(((-2147483648), 2147483647), [(((-2147483648), 2147483647), [(((-2147483648), 2147483647), ())])])]), ((1, 1), [(((-2147483648), 2147483647), [(((-2147483648), 2147483647), [(((-2147483648), 2147483647), ())])])]), ((2, 2), [(((-2147483648), 2147483647), [(((-2147483648), 2147483647), [(((-2147483648), 2147483647), ())])])]), ((3, 3), [(((-2147483648), 2147483647), [(((-2147483648), 2147483647), [(((-2147483648), 2147483647), ())])])]), ((4, 4), [(((-2147483648), 2147483647), [(((-2147483648), 2147483647), [(((-2147483648), 2147483647), ())])])]), ((5, 5), [(((-2147483648), 2147483647), [(((-2147483648), 2147483647), [(((-2147483648), 2147483647), ())])])]), ((6, 6), [(((-2147483648), 2147483647), [(((-2147483648), 2147483647), [(((-2147483648), 2147483647), ())])])]), ((7, 7), [(((-2147483648), 2147483647), [(((-2147483648), 2147483647), [(((-2147483648), 2147483647), ())])])]), ((8, 2147483647), [(((-2147483648), 2147483647), [(((-2147483648), 2147483647), [(((-2147483648), 2147483647), ())])])])]), ((8, 2147483647), [(((-2147483648), (-1)), [(((-2147483648), 2147483647), [(((-2147483648), 2147483647), [(((-2147483648), 2147483647), ())])])]), ((0, 0), [(((-2147483648), 2147483647), [(((-2147483648), 2147483647), [(((-2147483648), 2147483647), ())])])]), ((1, 1), [(((-2147483648), 2147483647), [(((-2147483648), 2147483647), [(((-2147483648), 2147483647), ())])])]), ((2, 2), [(((-2147483648), 2147483647), [(((-2147483648), 2147483647), [(((-2147483648), 2147483647), ())])])]), ((3, 3), [(((-2147483648), 2147483647), [(((-2147483648), 2147483647), [(((-2147483648), 2147483647), ())])])]), ((4, 4), [(((-2147483648), 2147483647), [(((-2147483648), 2147483647), [(((-2147483648), 2147483647), ())])])]), ((5, 5), [(((-2147483648), 2147483647), [(((-2147483648), 2147483647), [(((-2147483648), 2147483647), ())])])]), ((6, 6), [(((-2147483648), 2147483647), [(((-2147483648), 2147483647), [(((-2147483648), 2147483647), ())])])]), ((7, 7), [(((-2147483648), 2147483647), [(((-2147483648), 2147483647), [(((-2147483648), 2147483647), ())])])]), ((8, 2147483647), [(((-2147483648), 2147483647), [(((-2147483648), 2147483647), [(((-2147483648), 2147483647), ())])])])])] : ai_T 5) (ai_lw 1500 12 M_146 L_0 w_0 260 28440 33 ai_mt 2) = true := by decide +kernel
end
section
/-! ===== the runs, case by case ===== -/
theorem rn_46 : ai_tr 5 ([(((-2147483648), 2147483647), [(((-2147483648), 2147483647), [(((-2147483648), 2147483647), [(((-2147483648), 2147483647), [(((-2147483648), 2147483647), ())])])])])] : ai_T 5) (ai_lw 1500 12 M_146 L_0 w_0 260 28440 33 ai_mt 46) = true := by decide +kernel
end
section
/-! ===== the runs, case by case ===== -/
def tm_0 : ai_T 4 := [(((-2147483648), 0), [(((-2147483648), (-1)), [(((-2147483648), 2147483647), [(((-2147483648), 2147483647), ())])]), ((0, 5), [(((-2147483648), 2147483647), [(((-2147483648), 2147483647), ())])]), ((6, 2147483647), [(((-2147483648), 2147483647), [(((-2147483648), 2147483647), ())])])]), ((1, 1), [(((-2147483648), (-1)), [(((-2147483648), (-1)), [(((-2147483648), 2147483647), ())]), ((0, 3), [(((-2147483648), 2147483647), ())]), ((4, 2147483647), [(((-2147483648), 2147483647), ())])]), ((0, 5), [(((-2147483648), (-1)), [(((-2147483648), 2147483647), ())]), ((0, 3), [(((-2147483648), 2147483647), ())]), ((4, 2147483647), [(((-2147483648), 2147483647), ())])]), ((6, 2147483647), [(((-2147483648), (-1)), [(((-2147483648), 2147483647), ())]), ((0, 3), [(((-2147483648), 2147483647), ())]), ((4, 2147483647), [(((-2147483648), 2147483647), ())])])]), ((2, 2), [(((-2147483648), (-1)), [(((-2147483648), 2147483647), [(((-2147483648), 2147483647), ())])]), ((0, 5), [(((-2147483648), 2147483647), [(((-2147483648), 2147483647), ())])]), ((6, 2147483647), [(((-2147483648), 2147483647), [(((-2147483648), 2147483647), ())])])]), ((3, 3), [(((-2147483648), (-1)), [(((-2147483648), (-1)), [(((-2147483648), 2147483647), ())]), ((0, 127), [(((-2147483648), 2147483647), ())]), ((128, 199), [(((-2147483648), 2147483647), ())]), ((200, 200), [(((-2147483648), 2147483647), ())]), ((201, 2147483647), [(((-2147483648), 2147483647), ())])]), ((0, 5), [(((-2147483648), (-1)), [(((-2147483648), 2147483647), ())]), ((0, 127), [(((-2147483648), 2147483647), ())]), ((128, 199), [(((-2147483648), 2147483647), ())]), ((200, 200), [(((-2147483648), 2147483647), ())]), ((201, 2147483647), [(((-2147483648), 2147483647), ())])]), ((6, 2147483647), [(((-2147483648), (-1)), [(((-2147483648), 2147483647), ())]), ((0, 127), [(((-2147483648), 2147483647), ())]), ((128, 199), [(((-2147483648), 2147483647), ())]), ((200, 200), [(((-2147483648), 2147483647), ())]), ((201, 2147483647), [(((-2147483648), 2147483647), ())])])]), ((4, 4), [(((-2147483648), (-1)), [(((-2147483648), 2147483647), [(((-2147483648), 2147483647), ())])]), ((0, 5), [(((-2147483648), 2147483647), [(((-2147483648), 2147483647), ())])]), ((6, 2147483647), [(((-2147483648), 2147483647), [(((-2147483648), 2147483647), ())])])]), ((5, 5), [(((-2147483648), (-1)), [(((-2147483648), (-1)), [(((-2147483648), 2147483647), ())]), ((0, 127), [(((-2147483648), 2147483647), ())]), ((128, 2147483647), [(((-2147483648), 2147483647), ())])]), ((0, 5), [(((-2147483648), (-1)), [(((-2147483648), 2147483647), ())]), ((0, 127), [(((-2147483648), 2147483647), ())]), ((128, 2147483647), [(((-2147483648), 2147483647), ())])]), ((6, 2147483647), [(((-2147483648), (-1)), [(((-2147483648), 2147483647), ())]), ((0, 127), [(((-2147483648), 2147483647), ())]), ((128, 2147483647), [(((-2147483648), 2147483647), ())])])]), ((6, 2147483647), [(((-2147483648), (-1)), [(((-2147483648), 2147483647), [(((-2147483648), 2147483647), ())])]), ((0, 5), [(((-2147483648), 2147483647), [(((-2147483648), 2147483647), ())])]), ((6, 2147483647), [(((-2147483648), 2147483647), [(((-2147483648), 2147483647), ())])])])]
theorem rm_0 : ai_tr 4 tm_0 (fun r => ai_lw 1500 12 M_146 L_0 w_0 260 28440 33 ai_mt 5 (((-2147483648), (-1)) :: r)) = true := by decide +kernel
def tm_1 : ai_T 4 := [(((-2147483648), 0), [(((-2147483648), (-1)), [(((-2147483648), 2147483647), [(((-2147483648), 2147483647), ())])]), ((0, 5), [(((-2147483648), 2147483647), [(((-2147483648), 2147483647), ())])]), ((6, 2147483647), [(((-2147483648), 2147483647), [(((-2147483648), 2147483647), ())])])]), ((1, 1), [(((-2147483648), (-1)), [(((-2147483648), (-1)), [(((-2147483648), 2147483647), ())]), ((0, 3), [(((-2147483648), 2147483647), ())]), ((4, 2147483647), [(((-2147483648), 2147483647), ())])]), ((0, 5), [(((-2147483648), (-1)), [(((-2147483648), 2147483647), ())]), ((0, 3), [(((-2147483648), 2147483647), ())]), ((4, 2147483647), [(((-2147483648), 2147483647), ())])]), ((6, 2147483647), [(((-2147483648), (-1)), [(((-2147483648), 2147483647), ())]), ((0, 3), [(((-2147483648), 2147483647), ())]), ((4, 2147483647), [(((-2147483648), 2147483647), ())])])]), ((2, 2), [(((-2147483648), (-1)), [(((-2147483648), 2147483647), [(((-2147483648), 2147483647), ())])]), ((0, 5), [(((-2147483648), 2147483647), [(((-2147483648), 2147483647), ())])]), ((6, 2147483647), [(((-2147483648), 2147483647), [(((-2147483648), 2147483647), ())])])]), ((3, 3), [(((-2147483648), (-1)), [(((-2147483648), (-1)), [(((-2147483648), 2147483647), ())]), ((0, 127), [(((-2147483648), 2147483647), ())]), ((128, 199), [(((-2147483648), 2147483647), ())]), ((200, 200), [(((-2147483648), 2147483647), ())]), ((201, 2147483647), [(((-2147483648), 2147483647), ())])]), ((0, 5), [(((-2147483648), (-1)), [(((-2147483648), 2147483647), ())]), ((0, 127), [(((-2147483648), 2147483647), ())]), ((128, 199), [(((-2147483648), 2147483647), ())]), ((200, 200), [(((-2147483648), 2147483647), ())]), ((201, 2147483647), [(((-2147483648), 2147483647), ())])]), ((6, 2147483647), [(((-2147483648), (-1)), [(((-2147483648), 2147483647), ())]), ((0, 127), [(((-2147483648), 2147483647), ())]), ((128, 199), [(((-2147483648), 2147483647), ())]), ((200, 200), [(((-2147483648), 2147483647), ())]), ((201, 2147483647), [(((-2147483648), 2147483647), ())])])]), ((4, 4), [(((-2147483648), (-1)), [(((-2147483648), 2147483647), [(((-2147483648), 2147483647), ())])]), ((0, 5), [(((-2147483648), 2147483647), [(((-2147483648), 2147483647), ())])]), ((6, 2147483647), [(((-2147483648), 2147483647), [(((-2147483648), 2147483647), ())])])]), ((5, 5), [(((-2147483648), (-1)), [(((-2147483648), (-1)), [(((-2147483648), 2147483647), ())]), ((0, 127), [(((-2147483648), 2147483647), ())]), ((128, 2147483647), [(((-2147483648), 2147483647), ())])]), ((0, 5), [(((-2147483648), (-1)), [(((-2147483648), 2147483647), ())]), ((0, 127), [(((-2147483648), 2147483647), ())]), ((128, 2147483647), [(((-2147483648), 2147483647), ())])]), ((6, 2147483647), [(((-2147483648), (-1)), [(((-2147483648), 2147483647), ())]), ((0, 127), [(((-2147483648), 2147483647), ())]), ((128, 2147483647), [(((-2147483648), 2147483647), ())])])]), ((6, 2147483647), [(((-2147483648), (-1)), [(((-2147483648), 2147483647), [(((-2147483648), 2147483647), ())])]), ((0, 5), [(((-2147483648), 2147483647), [(((-2147483648), 2147483647), ())])]), ((6, 2147483647), [(((-2147483648), 2147483647), [(((-2147483648), 2147483647), ())])])])]
theorem rm_1 : ai_tr 4 tm_1 (fun r => ai_lw 1500 12 M_146 L_0 w_0 260 28440 33 ai_mt 5 ((0, 0) :: r)) = true := by decide +kernel
def tm_2 : ai_T 4 := [(((-2147483648), 0), [(((-2147483648), (-1)), [(((-2147483648), 2147483647), [(((-2147483648), 2147483647), ())])]), ((0, 5), [(((-2147483648), 2147483647), [(((-2147483648), 2147483647), ())])]), ((6, 2147483647), [(((-2147483648), 2147483647), [(((-2147483648), 2147483647), ())])])]), ((1, 1), [(((-2147483648), (-1)), [(((-2147483648), (-1)), [(((-2147483648), 2147483647), ())]), ((0, 3), [(((-2147483648), 2147483647), ())]), ((4, 2147483647), [(((-2147483648), 2147483647), ())])]), ((0, 5), [(((-2147483648), (-1)), [(((-2147483648), 2147483647), ())]), ((0, 3), [(((-2147483648), 2147483647), ())]), ((4, 2147483647), [(((-2147483648), 2147483647), ())])]), ((6, 2147483647), [(((-2147483648), (-1)), [(((-2147483648), 2147483647), ())]), ((0, 3), [(((-2147483648), 2147483647), ())]), ((4, 2147483647), [(((-2147483648), 2147483647), ())])])]), ((2, 2), [(((-2147483648), (-1)), [(((-2147483648), 2147483647), [(((-2147483648), 2147483647), ())])]), ((0, 5), [(((-2147483648), 2147483647), [(((-2147483648), 2147483647), ())])]), ((6, 2147483647), [(((-2147483648), 2147483647), [(((-2147483648), 2147483647), ())])])]), ((3, 3), [(((-2147483648), (-1)), [(((-2147483648), (-1)), [(((-2147483648), 2147483647), ())]), ((0, 127), [(((-2147483648), 2147483647), ())]), ((128, 199), [(((-2147483648), 2147483647), ())]), ((200, 200), [(((-2147483648), 2147483647), ())]), ((201, 2147483647), [(((-2147483648), 2147483647), ())])]), ((0, 5), [(((-2147483648), (-1)), [(((-2147483648), 2147483647), ())]), ((0, 127), [(((-2147483648), 2147483647), ())]), ((128, 199), [(((-2147483648), 2147483647), ())]), ((200, 200), [(((-2147483648), 2147483647), ())]), ((201, 2147483647), [(((-2147483648), 2147483647), ())])]), ((6, 2147483647), [(((-2147483648), (-1)), [(((-2147483648), 2147483647), ())]), ((0, 127), [(((-2147483648), 2147483647), ())]), ((128, 199), [(((-2147483648), 2147483647), ())]), ((200, 200), [(((-2147483648), 2147483647), ())]), ((201, 2147483647), [(((-2147483648), 2147483647), ())])])]), ((4, 4), [(((-2147483648), (-1)), [(((-2147483648), 2147483647), [(((-2147483648), 2147483647), ())])]), ((0, 5), [(((-2147483648), 2147483647), [(((-2147483648), 2147483647), ())])]), ((6, 2147483647), [(((-2147483648), 2147483647), [(((-2147483648), 2147483647), ())])])]), ((5, 5), [(((-2147483648), (-1)), [(((-2147483648), (-1)), [(((-2147483648), 2147483647), ())]), ((0, 127), [(((-2147483648), 2147483647), ())]), ((128, 2147483647), [(((-2147483648), 2147483647), ())])]), ((0, 5), [(((-2147483648), (-1)), [(((-2147483648), 2147483647), ())]), ((0, 127), [(((-2147483648), 2147483647), ())]), ((128, 2147483647), [(((-2147483648), 2147483647), ())])]), ((6, 2147483647), [(((-2147483648), (-1)), [(((-2147483648), 2147483647), ())]), ((0, 127), [(((-2147483648), 2147483647), ())]), ((128, 2147483647), [(((-2147483648), 2147483647), ())])])]), ((6, 2147483647), [(((-2147483648), (-1)), [(((-2147483648), 2147483647), [(((-2147483648), 2147483647), ())])]), ((0, 5), [(((-2147483648), 2147483647), [(((-2147483648), 2147483647), ())])]), ((6, 2147483647), [(((-2147483648), 2147483647), [(((-2147483648), 2147483647), ())])])])]
theorem rm_2 : ai_tr 4 tm_2 (fun r => ai_lw 1500 12 M_146 L_0 w_0 260 28440 33 ai_mt 5 ((1, 1) :: r)) = true := by decide +kernel
end
section
/-! ===== the runs, case by case ===== -/
def tm_3 : ai_T 4 := [(((-2147483648), 0), [(((-2147483648), (-1)), [(((-2147483648), 2147483647), [(((-2147483648), 2147483647), ())])]), ((0, 5), [(((-2147483648), 2147483647), [(((-2147483648), 2147483647), ())])]), ((6, 2147483647), [(((-2147483648), 2147483647), [(((-2147483648), 2147483647), ())])])]), ((1, 1), [(((-2147483648), (-1)), [(((-2147483648), (-1)), [(((-2147483648), 2147483647), ())]), ((0, 3), [(((-2147483648), 2147483647), ())]), ((4, 2147483647), [(((-2147483648), 2147483647), ())])]), ((0, 5), [(((-2147483648), (-1)), [(((-2147483648), 2147483647), ())]), ((0, 3), [(((-2147483648), 2147483647), ())]), ((4, 2147483647), [(((-2147483648), 2147483647), ())])]), ((6, 2147483647), [(((-2147483648), (-1)), [(((-2147483648), 2147483647), ())]), ((0, 3), [(((-2147483648), 2147483647), ())]), ((4, 2147483647), [(((-2147483648), 2147483647), ())])])]), ((2, 2), [(((-2147483648), (-1)), [(((-2147483648), 2147483647), [(((-2147483648), 2147483647), ())])]), ((0, 5), [(((-2147483648), 2147483647), [(((-2147483648), 2147483647), ())])]), ((6, 2147483647), [(((-2147483648), 2147483647), [(((-2147483648), 2147483647), ())])])]), ((3, 3), [(((-2147483648), (-1)), [(((-2147483648), (-1)), [(((-2147483648), 2147483647), ())]), ((0, 127), [(((-2147483648), 2147483647), ())]), ((128, 199), [(((-2147483648), 2147483647), ())]), ((200, 200), [(((-2147483648), 2147483647), ())]), ((201, 2147483647), [(((-2147483648), 2147483647), ())])]), ((0, 5), [(((-2147483648), (-1)), [(((-2147483648), 2147483647), ())]), ((0, 127), [(((-2147483648), 2147483647), ())]), ((128, 199), [(((-2147483648), 2147483647), ())]), ((200, 200), [(((-2147483648), 2147483647), ())]), ((201, 2147483647), [(((-2147483648), 2147483647), ())])]), ((6, 2147483647), [(((-2147483648), (-1)), [(((-2147483648), 2147483647), ())]), ((0, 127), [(((-2147483648), 2147483647), ())]), ((128, 199), [(((-2147483648), 2147483647), ())]), ((200, 200), [(((-2147483648), 2147483647), ())]), ((201, 2147483647), [(((-2147483648), 2147483647), ())])])]), ((4, 4), [(((-2147483648), (-1)), [(((-2147483648), 2147483647), [(((-2147483648), 2147483647), ())])]), ((0, 5), [(((-2147483648), 2147483647), [(((-2147483648), 2147483647), ())])]), ((6, 2147483647), [(((-2147483648), 2147483647), [(((-2147483648), 2147483647), ())])])]), ((5, 5), [(((-2147483648), (-1)), [(((-2147483648), (-1)), [(((-2147483648), 2147483647), ())]), ((0, 127), [(((-2147483648), 2147483647), ())]), ((128, 2147483647), [(((-2147483648), 2147483647), ())])]), ((0, 5), [(((-2147483648), (-1)), [(((-2147483648), 2147483647), ())]), ((0, 127), [(((-2147483648), 2147483647), ())]), ((128, 2147483647), [(((-2147483648), 2147483647), ())])]), ((6, 2147483647), [(((-2147483648), (-1)), [(((-2147483648), 2147483647), ())]), ((0, 127), [(((-2147483648), 2147483647), ())]), ((128, 2147483647), [(((-2147483648), 2147483647), ())])])]), ((6, 2147483647), [(((-2147483648), (-1)), [(((-2147483648), 2147483647), [(((-2147483648), 2147483647), ())])]), ((0, 5), [(((-2147483648), 2147483647), [(((-2147483648), 2147483647), ())])]), ((6, 2147483647), [(((-2147483648), 2147483647), [(((-2147483648), 2147483647), ())])])])]
theorem rm_3 : ai_tr 4 tm_3 (fun r => ai_lw 1500 12 M_146 L_0 w_0 260 28440 33 ai_mt 5 ((2, 2) :: r)) = true := by decide +kernel
def tm_4 : ai_T 4 := [(((-2147483648), 0), [(((-2147483648), (-1)), [(((-2147483648), 2147483647), [(((-2147483648), 2147483647), ())])]), ((0, 5), [(((-2147483648), 2147483647), [(((-2147483648), 2147483647), ())])]), ((6, 2147483647), [(((-2147483648), 2147483647), [(((-2147483648), 2147483647), ())])])]), ((1, 1), [(((-2147483648), (-1)), [(((-2147483648), (-1)), [(((-2147483648), 2147483647), ())]), ((0, 3), [(((-2147483648), 2147483647), ())]), ((4, 2147483647), [(((-2147483648), 2147483647), ())])]), ((0, 5), [(((-2147483648), (-1)), [(((-2147483648), 2147483647), ())]), ((0, 3), [(((-2147483648), 2147483647), ())]), ((4, 2147483647), [(((-2147483648), 2147483647), ())])]), ((6, 2147483647), [(((-2147483648), (-1)), [(((-2147483648), 2147483647), ())]), ((0, 3), [(((-2147483648), 2147483647), ())]), ((4, 2147483647), [(((-2147483648), 2147483647), ())])])]), ((2, 2), [(((-2147483648), (-1)), [(((-2147483648), 2147483647), [(((-2147483648), 2147483647), ())])]), ((0, 5), [(((-2147483648), 2147483647), [(((-2147483648), 2147483647), ())])]), ((6, 2147483647), [(((-2147483648), 2147483647), [(((-2147483648), 2147483647), ())])])]), ((3, 3), [(((-2147483648), (-1)), [(((-2147483648), (-1)), [(((-2147483648), 2147483647), ())]), ((0, 127), [(((-2147483648), 2147483647), ())]), ((128, 199), [(((-2147483648), 2147483647), ())]), ((200, 200), [(((-2147483648), 2147483647), ())]), ((201, 2147483647), [(((-2147483648), 2147483647), ())])]), ((0, 5), [(((-2147483648), (-1)), [(((-2147483648), 2147483647), ())]), ((0, 127), [(((-2147483648), 2147483647), ())]), ((128, 199), [(((-2147483648), 2147483647), ())]), ((200, 200), [(((-2147483648), 2147483647), ())]), ((201, 2147483647), [(((-2147483648), 2147483647), ())])]), ((6, 2147483647), [(((-2147483648), (-1)), [(((-2147483648), 2147483647), ())]), ((0, 127), [(((-2147483648), 2147483647), ())]), ((128, 199), [(((-2147483648), 2147483647), ())]), ((200, 200), [(((-2147483648), 2147483647), ())]), ((201, 2147483647), [(((-2147483648), 2147483647), ())])])]), ((4, 4), [(((-2147483648), (-1)), [(((-2147483648), 2147483647), [(((-2147483648), 2147483647), ())])]), ((0, 5), [(((-2147483648), 2147483647), [(((-2147483648), 2147483647), ())])]), ((6, 2147483647), [(((-2147483648), 2147483647), [(((-2147483648), 2147483647), ())])])]), ((5, 5), [(((-2147483648), (-1)), [(((-2147483648), (-1)), [(((-2147483648), 2147483647), ())]), ((0, 127), [(((-2147483648), 2147483647), ())]), ((128, 2147483647), [(((-2147483648), 2147483647), ())])]), ((0, 5), [(((-2147483648), (-1)), [(((-2147483648), 2147483647), ())]), ((0, 127), [(((-2147483648), 2147483647), ())]), ((128, 2147483647), [(((-2147483648), 2147483647), ())])]), ((6, 2147483647), [(((-2147483648), (-1)), [(((-2147483648), 2147483647), ())]), ((0, 127), [(((-2147483648), 2147483647), ())]), ((128, 2147483647), [(((-2147483648), 2147483647), ())])])]), ((6, 2147483647), [(((-2147483648), (-1)), [(((-2147483648), 2147483647), [(((-2147483648), 2147483647), ())])]), ((0, 5), [(((-2147483648), 2147483647), [(((-2147483648), 2147483647), ())])]), ((6, 2147483647), [(((-2147483648), 2147483647), [(((-2147483648), 2147483647), ())])])])]
theorem rm_4 : ai_tr 4 tm_4 (fun r => ai_lw 1500 12 M_146 L_0 w_0 260 28440 33 ai_mt 5 ((3, 3) :: r)) = true := by decide +kernel
def tm_5 : ai_T 4 := [(((-2147483648), 0), [(((-2147483648), (-1)), [(((-2147483648), 2147483647), [(((-2147483648), 2147483647), ())])]), ((0, 5), [(((-2147483648), 2147483647), [(((-2147483648), 2147483647), ())])]), ((6, 2147483647), [(((-2147483648), 2147483647), [(((-2147483648), 2147483647), ())])])]), ((1, 1), [(((-2147483648), (-1)), [(((-2147483648), (-1)), [(((-2147483648), 2147483647), ())]), ((0, 3), [(((-2147483648), 2147483647), ())]), ((4, 2147483647), [(((-2147483648), 2147483647), ())])]), ((0, 5), [(((-2147483648), (-1)), [(((-2147483648), 2147483647), ())]), ((0, 3), [(((-2147483648), 2147483647), ())]), ((4, 2147483647), [(((-2147483648), 2147483647), ())])]), ((6, 2147483647), [(((-2147483648), (-1)), [(((-2147483648), 2147483647), ())]), ((0, 3), [(((-2147483648), 2147483647), ())]), ((4, 2147483647), [(((-2147483648), 2147483647), ())])])]), ((2, 2), [(((-2147483648), (-1)), [(((-2147483648), 2147483647), [(((-2147483648), 2147483647), ())])]), ((0, 5), [(((-2147483648), 2147483647), [(((-2147483648), 2147483647), ())])]), ((6, 2147483647), [(((-2147483648), 2147483647), [(((-2147483648), 2147483647), ())])])]), ((3, 3), [(((-2147483648), (-1)), [(((-2147483648), (-1)), [(((-2147483648), 2147483647), ())]), ((0, 127), [(((-2147483648), 2147483647), ())]), ((128, 199), [(((-2147483648), 2147483647), ())]), ((200, 200), [(((-2147483648), 2147483647), ())]), ((201, 2147483647), [(((-2147483648), 2147483647), ())])]), ((0, 5), [(((-2147483648), (-1)), [(((-2147483648), 2147483647), ())]), ((0, 127), [(((-2147483648), 2147483647), ())]), ((128, 199), [(((-2147483648), 2147483647), ())]), ((200, 200), [(((-2147483648), 2147483647), ())]), ((201, 2147483647), [(((-2147483648), 2147483647), ())])]), ((6, 2147483647), [(((-2147483648), (-1)), [(((-2147483648), 2147483647), ())]), ((0, 127), [(((-2147483648), 2147483647), ())]), ((128, 199), [(((-2147483648), 2147483647), ())]), ((200, 200), [(((-2147483648), 2147483647), ())]), ((201, 2147483647), [(((-2147483648), 2147483647), ())])])]), ((4, 4), [(((-2147483648), (-1)), [(((-2147483648), 2147483647), [(((-2147483648), 2147483647), ())])]), ((0, 5), [(((-2147483648), 2147483647), [(((-2147483648), 2147483647), ())])]), ((6, 2147483647), [(((-2147483648), 2147483647), [(((-2147483648), 2147483647), ())])])]), ((5, 5), [(((-2147483648), (-1)), [(((-2147483648), (-1)), [(((-2147483648), 2147483647), ())]), ((0, 127), [(((-2147483648), 2147483647), ())]), ((128, 2147483647), [(((-2147483648), 2147483647), ())])]), ((0, 5), [(((-2147483648), (-1)), [(((-2147483648), 2147483647), ())]), ((0, 127), [(((-2147483648), 2147483647), ())]), ((128, 2147483647), [(((-2147483648), 2147483647), ())])]), ((6, 2147483647), [(((-2147483648), (-1)), [(((-2147483648), 2147483647), ())]), ((0, 127), [(((-2147483648), 2147483647), ())]), ((128, 2147483647), [(((-2147483648), 2147483647), ())])])]), ((6, 2147483647), [(((-2147483648), (-1)), [(((-2147483648), 2147483647), [(((-2147483648), 2147483647), ())])]), ((0, 5), [(((-2147483648), 2147483647), [(((-2147483648), 2147483647), ())])]), ((6, 2147483647), [(((-2147483648), 2147483647), [(((-2147483648), 2147483647), ())])])])]
theorem rm_5 : ai_tr 4 tm_5 (fun r => ai_lw 1500 12 M_146 L_0 w_0 260 28440 33 ai_mt 5 ((4, 4) :: r)) = true := by decide +kernel
end
section
/-! ===== the runs, case by case ===== -/
def tm_6 : ai_T 4 := [(((-2147483648), 0), [(((-2147483648), (-1)), [(((-2147483648), 2147483647), [(((-2147483648), 2147483647), ())])]), ((0, 5), [(((-2147483648), 2147483647), [(((-2147483648), 2147483647), ())])]), ((6, 2147483647), [(((-2147483648), 2147483647), [(((-2147483648), 2147483647), ())])])]), ((1, 1), [(((-2147483648), (-1)), [(((-2147483648), (-1)), [(((-2147483648), 2147483647), ())]), ((0, 3), [(((-2147483648), 2147483647), ())]), ((4, 2147483647), [(((-2147483648), 2147483647), ())])]), ((0, 5), [(((-2147483648), (-1)), [(((-2147483648), 2147483647), ())]), ((0, 3), [(((-2147483648), 2147483647), ())]), ((4, 2147483647), [(((-2147483648), 2147483647), ())])]), ((6, 2147483647), [(((-2147483648), (-1)), [(((-2147483648), 2147483647), ())]), ((0, 3), [(((-2147483648), 2147483647), ())]), ((4, 2147483647), [(((-2147483648), 2147483647), ())])])]), ((2, 2), [(((-2147483648), (-1)), [(((-2147483648), 2147483647), [(((-2147483648), 2147483647), ())])]), ((0, 5), [(((-2147483648), 2147483647), [(((-2147483648), 2147483647), ())])]), ((6, 2147483647), [(((-2147483648), 2147483647), [(((-2147483648), 2147483647), ())])])]), ((3, 3), [(((-2147483648), (-1)), [(((-2147483648), (-1)), [(((-2147483648), 2147483647), ())]), ((0, 127), [(((-2147483648), 2147483647), ())]), ((128, 199), [(((-2147483648), 2147483647), ())]), ((200, 200), [(((-2147483648), 2147483647), ())]), ((201, 2147483647), [(((-2147483648), 2147483647), ())])]), ((0, 5), [(((-2147483648), (-1)), [(((-2147483648), 2147483647), ())]), ((0, 127), [(((-2147483648), 2147483647), ())]), ((128, 199), [(((-2147483648), 2147483647), ())]), ((200, 200), [(((-2147483648), 2147483647), ())]), ((201, 2147483647), [(((-2147483648), 2147483647), ())])]), ((6, 2147483647), [(((-2147483648), (-1)), [(((-2147483648), 2147483647), ())]), ((0, 127), [(((-2147483648), 2147483647), ())]), ((128, 199), [(((-2147483648), 2147483647), ())]), ((200, 200), [(((-2147483648), 2147483647), ())]), ((201, 2147483647), [(((-2147483648), 2147483647), ())])])]), ((4, 4), [(((-2147483648), (-1)), [(((-2147483648), 2147483647), [(((-2147483648), 2147483647), ())])]), ((0, 5), [(((-2147483648), 2147483647), [(((-2147483648), 2147483647), ())])]), ((6, 2147483647), [(((-2147483648), 2147483647), [(((-2147483648), 2147483647), ())])])]), ((5, 5), [(((-2147483648), (-1)), [(((-2147483648), (-1)), [(((-2147483648), 2147483647), ())]), ((0, 127), [(((-2147483648), 2147483647), ())]), ((128, 2147483647), [(((-2147483648), 2147483647), ())])]), ((0, 5), [(((-2147483648), (-1)), [(((-2147483648), 2147483647), ())]), ((0, 127), [(((-2147483648), 2147483647), ())]), ((128, 2147483647), [(((-2147483648), 2147483647), ())])]), ((6, 2147483647), [(((-2147483648), (-1)), [(((-2147483648), 2147483647), ())]), ((0, 127), [(((-2147483648), 2147483647), ())]), ((128, 2147483647), [(((-2147483648), 2147483647), ())])])]), ((6, 2147483647), [(((-2147483648), (-1)), [(((-2147483648), 2147483647), [(((-2147483648), 2147483647), ())])]), ((0, 5), [(((-2147483648), 2147483647), [(((-2147483648), 2147483647), ())])]), ((6, 2147483647), [(((-2147483648), 2147483647), [(((-2147483648), 2147483647), ())])])])]
theorem rm_6 : ai_tr 4 tm_6 (fun r => ai_lw 1500 12 M_146 L_0 w_0 260 28440 33 ai_mt 5 ((5, 5) :: r)) = true := by decide +kernel
def tm_7 : ai_T 4 := [(((-2147483648), 0), [(((-2147483648), (-1)), [(((-2147483648), 2147483647), [(((-2147483648), 2147483647), ())])]), ((0, 5), [(((-2147483648), 2147483647), [(((-2147483648), 2147483647), ())])]), ((6, 2147483647), [(((-2147483648), 2147483647), [(((-2147483648), 2147483647), ())])])]), ((1, 1), [(((-2147483648), (-1)), [(((-2147483648), (-1)), [(((-2147483648), 2147483647), ())]), ((0, 3), [(((-2147483648), 2147483647), ())]), ((4, 2147483647), [(((-2147483648), 2147483647), ())])]), ((0, 5), [(((-2147483648), (-1)), [(((-2147483648), 2147483647), ())]), ((0, 3), [(((-2147483648), 2147483647), ())]), ((4, 2147483647), [(((-2147483648), 2147483647), ())])]), ((6, 2147483647), [(((-2147483648), (-1)), [(((-2147483648), 2147483647), ())]), ((0, 3), [(((-2147483648), 2147483647), ())]), ((4, 2147483647), [(((-2147483648), 2147483647), ())])])]), ((2, 2), [(((-2147483648), (-1)), [(((-2147483648), 2147483647), [(((-2147483648), 2147483647), ())])]), ((0, 5), [(((-2147483648), 2147483647), [(((-2147483648), 2147483647), ())])]), ((6, 2147483647), [(((-2147483648), 2147483647), [(((-2147483648), 2147483647), ())])])]), ((3, 3), [(((-2147483648), (-1)), [(((-2147483648), (-1)), [(((-2147483648), 2147483647), ())]), ((0, 127), [(((-2147483648), 2147483647), ())]), ((128, 199), [(((-2147483648), 2147483647), ())]), ((200, 200), [(((-2147483648), 2147483647), ())]), ((201, 2147483647), [(((-2147483648), 2147483647), ())])]), ((0, 5), [(((-2147483648), (-1)), [(((-2147483648), 2147483647), ())]), ((0, 127), [(((-2147483648), 2147483647), ())]), ((128, 199), [(((-2147483648), 2147483647), ())]), ((200, 200), [(((-2147483648), 2147483647), ())]), ((201, 2147483647), [(((-2147483648), 2147483647), ())])]), ((6, 2147483647), [(((-2147483648), (-1)), [(((-2147483648), 2147483647), ())]), ((0, 127), [(((-2147483648), 2147483647), ())]), ((128, 199), [(((-2147483648), 2147483647), ())]), ((200, 200), [(((-2147483648), 2147483647), ())]), ((201, 2147483647), [(((-2147483648), 2147483647), ())])])]), ((4, 4), [(((-2147483648), (-1)), [(((-2147483648), 2147483647), [(((-2147483648), 2147483647), ())])]), ((0, 5), [(((-2147483648), 2147483647), [(((-2147483648), 2147483647), ())])]), ((6, 2147483647), [(((-2147483648), 2147483647), [(((-2147483648), 2147483647), ())])])]), ((5, 5), [(((-2147483648), (-1)), [(((-2147483648), (-1)), [(((-2147483648), 2147483647), ())]), ((0, 127), [(((-2147483648), 2147483647), ())]), ((128, 2147483647), [(((-2147483648), 2147483647), ())])]), ((0, 5), [(((-2147483648), (-1)), [(((-2147483648), 2147483647), ())]), ((0, 127), [(((-2147483648), 2147483647), ())]), ((128, 2147483647), [(((-2147483648), 2147483647), ())])]), ((6, 2147483647), [(((-2147483648), (-1)), [(((-2147483648), 2147483647), ())]), ((0, 127), [(((-2147483648), 2147483647), ())]), ((128, 2147483647), [(((-2147483648), 2147483647), ())])])]), ((6, 2147483647), [(((-2147483648), (-1)), [(((-2147483648), 2147483647), [(((-2147483648), 2147483647), ())])]), ((0, 5), [(((-2147483648), 2147483647), [(((-2147483648), 2147483647), ())])]), ((6, 2147483647), [(((-2147483648), 2147483647), [(((-2147483648), 2147483647), ())])])])]
theorem rm_7 : ai_tr 4 tm_7 (fun r => ai_lw 1500 12 M_146 L_0 w_0 260 28440 33 ai_mt 5 ((6, 6) :: r)) = true := by decide +kernel
def tm_8 : ai_T 4 := [(((-2147483648), 0), [(((-2147483648), (-1)), [(((-2147483648), 2147483647), [(((-2147483648), 2147483647), ())])]), ((0, 5), [(((-2147483648), 2147483647), [(((-2147483648), 2147483647), ())])]), ((6, 2147483647), [(((-2147483648), 2147483647), [(((-2147483648), 2147483647), ())])])]), ((1, 1), [(((-2147483648), (-1)), [(((-2147483648), (-1)), [(((-2147483648), 2147483647), ())]), ((0, 3), [(((-2147483648), 2147483647), ())]), ((4, 2147483647), [(((-2147483648), 2147483647), ())])]), ((0, 5), [(((-2147483648), (-1)), [(((-2147483648), 2147483647), ())]), ((0, 3), [(((-2147483648), 2147483647), ())]), ((4, 2147483647), [(((-2147483648), 2147483647), ())])]), ((6, 2147483647), [(((-2147483648), (-1)), [(((-2147483648), 2147483647), ())]), ((0, 3), [(((-2147483648), 2147483647), ())]), ((4, 2147483647), [(((-2147483648), 2147483647), ())])])]), ((2, 2), [(((-2147483648), (-1)), [(((-2147483648), 2147483647), [(((-2147483648), 2147483647), ())])]), ((0, 5), [(((-2147483648), 2147483647), [(((-2147483648), 2147483647), ())])]), ((6, 2147483647), [(((-2147483648), 2147483647), [(((-2147483648), 2147483647), ())])])]), ((3, 3), [(((-2147483648), (-1)), [(((-2147483648), (-1)), [(((-2147483648), 2147483647), ())]), ((0, 127), [(((-2147483648), 2147483647), ())]), ((128, 199), [(((-2147483648), 2147483647), ())]), ((200, 200), [(((-2147483648), 2147483647), ())]), ((201, 2147483647), [(((-2147483648), 2147483647), ())])]), ((0, 5), [(((-2147483648), (-1)), [(((-2147483648), 2147483647), ())]), ((0, 127), [(((-2147483648), 2147483647), ())]), ((128, 199), [(((-2147483648), 2147483647), ())]), ((200, 200), [(((-2147483648), 2147483647), ())]), ((201, 2147483647), [(((-2147483648), 2147483647), ())])]), ((6, 2147483647), [(((-2147483648), (-1)), [(((-2147483648), 2147483647), ())]), ((0, 127), [(((-2147483648), 2147483647), ())]), ((128, 199), [(((-2147483648), 2147483647), ())]), ((200, 200), [(((-2147483648), 2147483647), ())]), ((201, 2147483647), [(((-2147483648), 2147483647), ())])])]), ((4, 4), [(((-2147483648), (-1)), [(((-2147483648), 2147483647), [(((-2147483648), 2147483647), ())])]), ((0, 5), [(((-2147483648), 2147483647), [(((-2147483648), 2147483647), ())])]), ((6, 2147483647), [(((-2147483648), 2147483647), [(((-2147483648), 2147483647), ())])])]), ((5, 5), [(((-2147483648), (-1)), [(((-2147483648), (-1)), [(((-2147483648), 2147483647), ())]), ((0, 127), [(((-2147483648), 2147483647), ())]), ((128, 2147483647), [(((-2147483648), 2147483647), ())])]), ((0, 5), [(((-2147483648), (-1)), [(((-2147483648), 2147483647), ())]), ((0, 127), [(((-2147483648), 2147483647), ())]), ((128, 2147483647), [(((-2147483648), 2147483647), ())])]), ((6, 2147483647), [(((-2147483648), (-1)), [(((-2147483648), 2147483647), ())]), ((0, 127), [(((-2147483648), 2147483647), ())]), ((128, 2147483647), [(((-2147483648), 2147483647), ())])])]), ((6, 2147483647), [(((-2147483648), (-1)), [(((-2147483648), 2147483647), [(((-2147483648), 2147483647), ())])]), ((0, 5), [(((-2147483648), 2147483647), [(((-2147483648), 2147483647), ())])]), ((6, 2147483647), [(((-2147483648), 2147483647), [(((-2147483648), 2147483647), ())])])])]
theorem rm_8 : ai_tr 4 tm_8 (fun r => ai_lw 1500 12 M_146 L_0 w_0 260 28440 33 ai_mt 5 ((7, 7) :: r)) = true := by decide +kernel
def tm_9 : ai_T 4 := [(((-2147483648), 0), [(((-2147483648), (-1)), [(((-2147483648), 2147483647), [(((-2147483648), 2147483647), ())])]), ((0, 5), [(((-2147483648), 2147483647), [(((-2147483648), 2147483647), ())])]), ((6, 2147483647), [(((-2147483648), 2147483647), [(((-2147483648), 2147483647), ())])])]), ((1, 1), [(((-2147483648), (-1)), [(((-2147483648), (-1)), [(((-2147483648), 2147483647), ())]), ((0, 3), [(((-2147483648), 2147483647), ())]), ((4, 2147483647), [(((-2147483648), 2147483647), ())])]), ((0, 5), [(((-2147483648), (-1)), [(((-2147483648), 2147483647), ())]), ((0, 3), [(((-2147483648), 2147483647), ())]), ((4, 2147483647), [(((-2147483648), 2147483647), ())])]), ((6, 2147483647), [(((-2147483648), (-1)), [(((-2147483648), 2147483647), ())]), ((0, 3), [(((-2147483648), 2147483647), ())]), ((4, 2147483647), [(((-2147483648), 2147483647), ())])])]), ((2, 2), [(((-2147483648), (-1)), [(((-2147483648), 2147483647), [(((-2147483648), 2147483647), ())])]), ((0, 5), [(((-2147483648), 2147483647), [(((-2147483648), 2147483647), ())])]), ((6, 2147483647), [(((-2147483648), 2147483647), [(((-2147483648), 2147483647), ())])])]), ((3, 3), [(((-2147483648), (-1)), [(((-2147483648), (-1)), [(((-2147483648), 2147483647), ())]), ((0, 127), [(((-2147483648), 2147483647), ())]), ((128, 199), [(((-2147483648), 2147483647), ())]), ((200, 200), [(((-2147483648), 2147483647), ())]), ((201, 2147483647), [(((-2147483648), 2147483647), ())])]), ((0, 5), [(((-2147483648), (-1)), [(((-2147483648), 2147483647), ())]), ((0, 127), [(((-2147483648), 2147483647), ())]), ((128, 199), [(((-2147483648), 2147483647), ())]), ((200, 200), [(((-2147483648), 2147483647), ())]), ((201, 2147483647), [(((-2147483648), 2147483647), ())])]), ((6, 2147483647), [(((-2147483648), (-1)), [(((-2147483648), 2147483647), ())]), ((0, 127), [(((-2147483648), 2147483647), ())]), ((128, 199), [(((-2147483648), 2147483647), ())]), ((200, 200), [(((-2147483648), 2147483647), ())]), ((201, 2147483647), [(((-2147483648), 2147483647), ())])])]), ((4, 4), [(((-2147483648), (-1)), [(((-2147483648), 2147483647), [(((-2147483648), 2147483647), ())])]), ((0, 5), [(((-2147483648), 2147483647), [(((-2147483648), 2147483647), ())])]), ((6, 2147483647), [(((-2147483648), 2147483647), [(((-2147483648), 2147483647), ())])])]), ((5, 5), [(((-2147483648), (-1)), [(((-2147483648), (-1)), [(((-2147483648), 2147483647), ())]), ((0, 127), [(((-2147483648), 2147483647), ())]), ((128, 2147483647), [(((-2147483648), 2147483647), ())])]), ((0, 5), [(((-2147483648), (-1)), [(((-2147483648), 2147483647), ())]), ((0, 127), [(((-2147483648), 2147483647), ())]), ((128, 2147483647), [(((-2147483648), 2147483647), ())])]), ((6, 2147483647), [(((-2147483648), (-1)), [(((-2147483648), 2147483647), ())]), ((0, 127), [(((-2147483648), 2147483647), ())]), ((128, 2147483647), [(((-2147483648), 2147483647), ())])])]), ((6, 2147483647), [(((-2147483648), (-1)), [(((-2147483648), 2147483647), [(((-2147483648), 2147483647), ())])]), ((0, 5), [(((-2147483648), 2147483647), [(((-2147483648), 2147483647), ())])]), ((6, 2147483647), [(((-2147483648), 2147483647), [(((-2147483648), 2147483647), ())])])])]
theorem rm_9 : ai_tr 4 tm_9 (fun r => ai_lw 1500 12 M_146 L_0 w_0 260 28440 33 ai_mt 5 ((8, 2147483647) :: r)) = true := by decide +kernel
theorem rn_5 : ai_tr 5 ([(((-2147483648), (-1)), tm_0), ((0, 0), tm_1), ((1, 1), tm_2), ((2, 2), tm_3), ((3, 3), tm_4), ((4, 4), tm_5), ((5, 5), tm_6), ((6, 6), tm_7), ((7, 7), tm_8), ((8, 2147483647), tm_9)] : ai_T 5) (ai_lw 1500 12 M_146 L_0 w_0 260 28440 33 ai_mt 5) = true := by
  show (ai_cov _ _ && List.all _ _) = true
  rw [Bool.and_eq_true]
  exact ⟨by decide +kernel, List.all_eq_true.mpr (List.forall_mem_cons.mpr ⟨rm_0, List.forall_mem_cons.mpr ⟨rm_1, List.forall_mem_cons.mpr ⟨rm_2, List.forall_mem_cons.mpr ⟨rm_3, List.forall_mem_cons.mpr ⟨rm_4, List.forall_mem_cons.mpr ⟨rm_5, List.forall_mem_cons.mpr ⟨rm_6, List.forall_mem_cons.mpr ⟨rm_7, List.forall_mem_cons.mpr ⟨rm_8, List.forall_mem_cons.mpr ⟨rm_9, fun _ h => absurd h List.not_mem_nil⟩⟩⟩⟩⟩⟩⟩⟩⟩⟩)⟩
end
section
/-! THE CLAIM OUT OF ONE WALK OF THE LAW'S BODY. Your part is whole_start (and what it stands on); all else here is the same for every law, but numbers. -/
def R_law : String := "TheOtherRoomLaw"
def lw_P (b : Addr) (xs : List Int32) (args : Array Value) (s : State) : Prop := args = #[.ref b] ∧ s.IntsAt b xs ∧ xs.length ≤ 6 ∧ (Jvm.Cond.and given_1 narrow_1).before args s = true
def lw_Q (_ : Array Value) (s : State) (o : Outcome) (t : State) : Prop := o = .returned (some (.int 1)) ∧ Framed s o t [] 600000 7302250
def lw_Z (below : List Frame) (a : Array Value) (s : State) : State → Prop := fun t => ∃ o, t.status = .running ∧ Ended t below o ∧ lw_Q a s o t
/-- the law's own end, with 1 on the stack, nothing written that was there before, its room as the claim has it -/
theorem lw_ret {p : Program} {l : Launch} {e : Env} {s : State} {m : MethodId} {below : List Frame} {meth : Method} {c : Code} {b : Nat} (hx : p.tables.exec = Jvm.exec) (hb : c.code = code) (hr : meth.sig.returnType = ret) (hlocks : meth.locks = false) {pc : Nat} {H : Heap} {ls : Array Slot} (hdg : decode code pc = .ok (.ireturn, 1)) : W p l e room_1 s m #[Value.ref b] below meth c H [] 600000 7302250 (lw_Z below #[Value.ref b] s) (F0 m pc ls [.int 1]) := by
  intro T hT X
  obtain ⟨fs, hret, hrun, hended, hW, hframe⟩ := X.leave (v := some (.int 1)) (hlocks := hlocks) (fun h => by rw [hr] at h; cases h)
  have hmeth' : T.vm.method? m = some meth := X.method'
  refine ⟨T.setFrames fs, ?_, .returned (some (.int 1)), hrun, hended, rfl, ⟨_, rfl⟩, hW, hframe⟩
  jvm_step X.here [X.here.top, hx, hb, hdg, hmeth', hr, ret, narrow_b1]
  (try refine ⟨rfl, ?_⟩); (try refine ⟨rfl, ?_⟩)
  first | (intro acts; rw [hret _ acts rfl rfl rfl]) | rw [hret _ _ rfl rfl rfl]
  exact Steps.refl _
/-- what holds at the law's entry: the machine, the code, the tables' words (any of lw_tbl by 'hts w (by decide +kernel)'), the script of L ints xs at the cell b, what the Statement gives of the start (any of its parts by flat_of_before) -/
def lw_At (p : Program) (s : State) (m : MethodId) (meth : Method) (c : Code) (b L : Nat) (xs : Nat → Int32) : Prop :=
  p.tables.exec = Jvm.exec ∧ c.code = code ∧ meth.sig.returnType = ret ∧ c.maxLocals = 4 ∧ s.vm.findClass R_law = some m.cls ∧ (∀ w ∈ lw_tbl, w.before #[Value.ref b] s = true) ∧ va_X b L xs s s.heap ∧ b < s.heap.size ∧ meth.locks = false ∧ (Jvm.Cond.and given_1 narrow_1).before #[Value.ref b] s = true
/-! ===== the law, from its entry ===== -/
theorem sw_of {own tx : String} {k : Nat} {A : Array Value} {s : State} (h1 : (Cond.stringRef own k tx).before A s = true) (h2 : (Cond.exactly (.string own k) "java/lang/String").before A s = true) : ∃ a : Nat, vk_R own k tx a s := by
  obtain ⟨a, c, cell, kA, q1, -⟩ := Cond.exactly_spec (args := A) (first := s) (o := none) (s := s) (idx := []) h2
  exact ⟨a, vk_R.of h1 q1⟩
def sx_of : List Cond := ai_sw.map (fun q => Cond.exactly (.string q.1 q.2.1) "java/lang/String")
theorem sx_in : ∀ c ∈ sx_of, c ∈ flatC (Jvm.Cond.and given_1 narrow_1) := by
  have h : sx_of.all (fun c => decide (c ∈ flatC (Jvm.Cond.and given_1 narrow_1))) = true := by decide +kernel
  intro c hc
  exact of_decide_eq_true (List.all_eq_true.mp h c hc)
theorem ai_EN_of {b : Nat} {s : State} (hts : ∀ w ∈ lw_tbl, w.before #[Value.ref b] s = true) (hgv : (Jvm.Cond.and given_1 narrow_1).before #[Value.ref b] s = true) : ai_EN s := by
  have hs := flat_of_before _ hgv
  refine ⟨⟨va_AO.of (hts _ (lw_t 27 (by decide +kernel))), va_AO.of (hts _ (lw_t 29 (by decide +kernel))), ?_, ?_⟩, fun q hq => va_Nw.of rfl (hts _ (ai_nw_in q hq)), fun q hq => sw_of (hts _ (ai_sw_in q hq)) (hs _ (sx_in _ (List.mem_map.mpr ⟨q, hq, rfl⟩)))⟩
  · have h := hts (.arrayOver (.array .int)) (lw_t 187 (by decide +kernel))
    exact h
  · have h := hts (.arrayOver (.array .long)) (lw_t 1006 (by decide +kernel))
    exact h
theorem ai_kn {C : String} {T : u_T} {N : Nat} {b : Nat} {s : State} (hts : ∀ w ∈ ww_ok, w.before #[Value.ref b] s = true) (h1 : ∀ w ∈ u_ws C T N, w ∈ ww_ok) (h2 : Cond.instantiable C N ∈ ww_ok) : ∃ (cC : ClassId) (iS : Nat → Nat), u_Kn s C T N cC iS := u_known hts h1 (hts _ h2)
theorem ai_K0 {b : Nat} {s : State} (hts : ∀ w ∈ ww_ok, w.before #[Value.ref b] s = true) : ∃ D : va_G, va_K D classes [] s := by
  obtain ⟨c0, i0, h0⟩ := ai_kn hts ii_0 in_0
  obtain ⟨c1, i1, h1⟩ := ai_kn hts ii_1 in_1
  obtain ⟨c2, i2, h2⟩ := ai_kn hts ii_2 in_2
  obtain ⟨c3, i3, h3⟩ := ai_kn hts ii_3 in_3
  obtain ⟨c4, i4, h4⟩ := ai_kn hts ii_4 in_4
  obtain ⟨c5, i5, h5⟩ := ai_kn hts ii_5 in_5
  obtain ⟨c6, i6, h6⟩ := ai_kn hts ii_6 in_6
  refine ⟨(fun k => match k with
    | 0 => c0
    | 1 => c1
    | 2 => c2
    | 3 => c3
    | 4 => c4
    | 5 => c5
    | _ => c6, fun k => match k with
    | 0 => i0
    | 1 => i1
    | 2 => i2
    | 3 => i3
    | 4 => i4
    | 5 => i5
    | _ => i6), fun k q hq => ?_, fun k q h => by simp at h⟩
  match k, hq with
  | 0, hq => cases hq; exact h0
  | 1, hq => cases hq; exact h1
  | 2, hq => cases hq; exact h2
  | 3, hq => cases hq; exact h3
  | 4, hq => cases hq; exact h4
  | 5, hq => cases hq; exact h5
  | 6, hq => cases hq; exact h6
  | k + 7, hq => exact absurd (List.getElem?_eq_some_iff.mp hq).1 (by show ¬ k + 7 < 7; omega)
/-- the law's own end -/
theorem ai_end {p : Program} {l : Launch} {e : Env} {s : State} {m : MethodId} {below : List Frame} {meth : Method} {c : Code} {b : Nat} (hx : p.tables.exec = Jvm.exec) (hb : c.code = code) (hr : meth.sig.returnType = ret) (hlocks : meth.locks = false) {q : Int × Int} {C Z : Nat} (hq1 : 1 ≤ q.1) (hq2 : q.2 ≤ 1) (hC : C ≤ 600000) (hZ : Z ≤ 7302250) {ad : List Nat}
    {pc' : Nat} {ls' : Array Slot} {st' : List Value} {H1 : Heap} {locs1 : List Loc} {ins : Instr} {S' : List ai_V} (hV : va_S (fun q : Nat => s.heap.size ≤ q) s.heap H1 locs1) (hd : decode code pc' = .ok (ins, 1)) (hrc : ai_rc (some .boolean) ins S' = some (some (.inr (.inl q)))) (hS : ai_RS b ad S' st') :
    W p l e room_1 s m #[Value.ref b] below meth c H1 locs1 C Z (lw_Z below #[Value.ref b] s) (F0 m pc' ls' st') := by
  unfold ai_rc at hrc
  split at hrc
  · split at hrc
    · cases hrc
    · cases hrc
  · split at hrc
    · next q0 =>
      obtain ⟨h1, h2⟩ := ai_bif hrc
      cases h2
      match st', hS with
      | [u], ⟨hu, _⟩ =>
        obtain ⟨x, rfl, x1, x2⟩ := hu
        have hx1 : x = 1 := Int32.toInt_inj.mp (by show x.toInt = 1; omega)
        subst hx1
        refine va_forget (fun q hq => hV.2.2 q hq) ?_
        refine W.widen (k := 600000) (n := 7302250) hC hZ ?_
        exact lw_ret hx hb hr hlocks hd
      | _ :: _ :: _, hS => exact hS.2.elim
    · cases hrc
  · split at hrc
    · cases hrc
    · cases hrc
  · split at hrc
    · cases hrc
    · cases hrc
  · cases hrc
theorem ai_bx_RS {b : Nat} {ad : List Nat} : ∀ {bx : List (Int × Int)} {xs : List Int32} {j : Nat} {x : ai_V}, ai_bx bx xs → (bx.map (fun q => (.inr (.inl q) : ai_V)))[j]? = some x → ∃ y, xs[j]? = some y ∧ ai_RV b ad x (.int y)
  | [], [], j, x, _, h => by simp at h
  | q :: r, y :: xs, 0, x, h, hj => by
    rw [List.map_cons, List.getElem?_cons_zero] at hj
    cases hj
    exact ⟨y, rfl, y, rfl, h.1⟩
  | q :: r, y :: xs, j + 1, x, h, hj => by
    rw [List.map_cons, List.getElem?_cons_succ] at hj
    obtain ⟨z, h1, h2⟩ := ai_bx_RS h.2 hj
    exact ⟨z, by rw [List.getElem?_cons_succ]; exact h1, h2⟩
  | [], _ :: _, _, _, h, _ => h.elim
  | _ :: _, [], _, _, h, _ => h.elim
theorem ai_bx_len : ∀ {bx : List (Int × Int)} {xs : List Int32}, ai_bx bx xs → bx.length = xs.length
  | [], [], _ => rfl
  | _ :: _, _ :: _, h => congrArg (· + 1) (ai_bx_len h.2)
  | [], _ :: _, h => h.elim
  | _ :: _, [], h => h.elim
theorem rn_all : ∀ k : Nat, k < 64 → ∃ t : ai_T 5, ai_tr 5 t (ai_lw 1500 12 M_146 L_0 w_0 260 28440 33 ai_mt (k : Int)) = true := by
  intro k hk
  match k, hk with
  | 0, _ => exact ⟨_, rn_0⟩
  | 1, _ => exact ⟨_, rn_1⟩
  | 2, _ => exact ⟨_, rn_2⟩
  | 3, _ => exact ⟨_, rn_3⟩
  | 4, _ => exact ⟨_, rn_4⟩
  | 5, _ => exact ⟨_, rn_5⟩
  | 6, _ => exact ⟨_, rn_6⟩
  | 7, _ => exact ⟨_, rn_7⟩
  | 8, _ => exact ⟨_, rn_8⟩
  | 9, _ => exact ⟨_, rn_9⟩
  | 10, _ => exact ⟨_, rn_10⟩
  | 11, _ => exact ⟨_, rn_11⟩
  | 12, _ => exact ⟨_, rn_12⟩
  | 13, _ => exact ⟨_, rn_13⟩
  | 14, _ => exact ⟨_, rn_14⟩
  | 15, _ => exact ⟨_, rn_15⟩
  | 16, _ => exact ⟨_, rn_16⟩
  | 17, _ => exact ⟨_, rn_17⟩
  | 18, _ => exact ⟨_, rn_18⟩
  | 19, _ => exact ⟨_, rn_19⟩
  | 20, _ => exact ⟨_, rn_20⟩
  | 21, _ => exact ⟨_, rn_21⟩
  | 22, _ => exact ⟨_, rn_22⟩
  | 23, _ => exact ⟨_, rn_23⟩
  | 24, _ => exact ⟨_, rn_24⟩
  | 25, _ => exact ⟨_, rn_25⟩
  | 26, _ => exact ⟨_, rn_26⟩
  | 27, _ => exact ⟨_, rn_27⟩
  | 28, _ => exact ⟨_, rn_28⟩
  | 29, _ => exact ⟨_, rn_29⟩
  | 30, _ => exact ⟨_, rn_30⟩
  | 31, _ => exact ⟨_, rn_31⟩
  | 32, _ => exact ⟨_, rn_32⟩
  | 33, _ => exact ⟨_, rn_33⟩
  | 34, _ => exact ⟨_, rn_34⟩
  | 35, _ => exact ⟨_, rn_35⟩
  | 36, _ => exact ⟨_, rn_36⟩
  | 37, _ => exact ⟨_, rn_37⟩
  | 38, _ => exact ⟨_, rn_38⟩
  | 39, _ => exact ⟨_, rn_39⟩
  | 40, _ => exact ⟨_, rn_40⟩
  | 41, _ => exact ⟨_, rn_41⟩
  | 42, _ => exact ⟨_, rn_42⟩
  | 43, _ => exact ⟨_, rn_43⟩
  | 44, _ => exact ⟨_, rn_44⟩
  | 45, _ => exact ⟨_, rn_45⟩
  | 46, _ => exact ⟨_, rn_46⟩
  | 47, _ => exact ⟨_, rn_47⟩
  | 48, _ => exact ⟨_, rn_48⟩
  | 49, _ => exact ⟨_, rn_49⟩
  | 50, _ => exact ⟨_, rn_50⟩
  | 51, _ => exact ⟨_, rn_51⟩
  | 52, _ => exact ⟨_, rn_52⟩
  | 53, _ => exact ⟨_, rn_53⟩
  | 54, _ => exact ⟨_, rn_54⟩
  | 55, _ => exact ⟨_, rn_55⟩
  | 56, _ => exact ⟨_, rn_56⟩
  | 57, _ => exact ⟨_, rn_57⟩
  | 58, _ => exact ⟨_, rn_58⟩
  | 59, _ => exact ⟨_, rn_59⟩
  | 60, _ => exact ⟨_, rn_60⟩
  | 61, _ => exact ⟨_, rn_61⟩
  | 62, _ => exact ⟨_, rn_62⟩
  | 63, _ => exact ⟨_, rn_63⟩
  | k + 64, hk => exact absurd hk (by omega)
theorem ai_63 (x : Int32) : ∃ k : Nat, k < 64 ∧ (x &&& 63).toInt = (k : Int) := by
  have h1 : (x &&& 63).toInt = (x &&& 63).toBitVec.toInt := rfl
  have h2 : (x &&& 63).toBitVec = x.toBitVec &&& 63#32 := rfl
  have h3 : (x.toBitVec &&& 63#32).toNat < 64 := by
    rw [BitVec.toNat_and]
    exact Nat.lt_of_le_of_lt Nat.and_le_right (by decide)
  refine ⟨(x.toBitVec &&& 63#32).toNat, h3, ?_⟩
  rw [h1, h2]
  exact BitVec.toInt_eq_toNat_of_lt (by omega)
/-- a run from a place in the law on -/
theorem ai_rest {p : Program} {l : Launch} {e : Env} {s : State} {m : MethodId} {below : List Frame} {meth : Method} {c : Code} {b : Nat} (hx : p.tables.exec = Jvm.exec) (hb : c.code = code) (hr : meth.sig.returnType = ret) (hlocks : meth.locks = false) {scr : List ai_V} {S : List ai_V} {pc C Z : Nat} {q : Int × Int} {w' : ai_W} (hm : ai_ex ai_mt 1500 scr 12 M_146 (ai_jm (ai_cd M_146) pc) pc L_0 S w_0 260 28440 = some (some (.inr (.inl q)), w', C, Z)) (hq : ((ai_le q.2 1 && ai_le 1 q.1) && (Nat.ble C 600000 && Nat.ble Z 7302250)) = true)
    {H : Heap} {locs : List Loc} {D : va_G} {ad : List Nat} {ls : Array Slot} {st : List Value} (hF : ∀ C Z : Nat, C ≤ 600000 → Z ≤ 7302250 → ai_FX p room_1 s m #[Value.ref b] meth c M_146 12 C Z (fun q : Nat => s.heap.size ≤ q) s.heap b scr)
    (hW : ai_RW D s (fun q : Nat => s.heap.size ≤ q) b ad w_0 H) (hV : va_S (fun q : Nat => s.heap.size ≤ q) s.heap H locs) (hL : ai_RL b ad 4 L_0 ls) (hS : ai_RS b ad S st) : W p l e room_1 s m #[Value.ref b] below meth c H locs 260 28440 (lw_Z below #[Value.ref b] s) (F0 m pc ls st) := by
  rw [Bool.and_eq_true, Bool.and_eq_true, Bool.and_eq_true, ai_le_iff, ai_le_iff, Nat.ble_eq, Nat.ble_eq] at hq
  have h := ai_ex_ok l ai_mt ai_mt_ok _ _ _ _ _ _ _ _ _ _ _ _ _ _ _ hm (fun x hx => ai_jm_sub hx) ea_146
  exact h.2.2 p e room_1 s m _ below meth c H locs _ D _ s.heap b ad ls st (hF C Z hq.2.1 hq.2.2) hW hV hL hS (fun pc' ls' st' H1 locs1 ad' ins S' hpre hW1 hV1 hd hrc hRS => ai_end hx hb hr hlocks hq.1.2 hq.1.1 hq.2.1 hq.2.2 hV1 hd hrc hRS)
set_option maxHeartbeats 1000000 in
theorem whole_start {p : Program} {e : Env} {s : State} {m : MethodId} {below : List Frame} {meth : Method} {c : Code} (l : Launch) (hflags : l.flags = flags0) {b L : Nat} {xs : Nat → Int32} (hL : L ≤ 6) (C0 : lw_At p s m meth c b L xs) : W p l e room_1 s m #[Value.ref b] below meth c s.heap [] 0 0 (lw_Z below #[Value.ref b] s) (entryFrame m ([Value.ref b] : List Value).toArray 4) := by
  obtain ⟨hx, hb, hr, hml, hown, hts, hX, hbl, hlocks, hgv⟩ := id C0
  have htw : ∀ w ∈ ww_ok, w.before #[Value.ref b] s = true := fun w h => hts w (ww_in h)
  have hEN := ai_EN_of hts hgv
  obtain ⟨D, hK⟩ := ai_K0 htw
  have hA : ∀ q : Nat, s.heap.size ≤ q → (fun q : Nat => s.heap.size ≤ q) q := fun _ h => h
  have hbA : ¬ (fun q : Nat => s.heap.size ≤ q) b := Nat.not_le.mpr hbl
  have hFX : ∀ (scr : List ai_V), ai_SC scr b (fun q : Nat => s.heap.size ≤ q) s.heap s → ∀ C Z : Nat, C ≤ 600000 → Z ≤ 7302250 → ai_FX p room_1 s m #[Value.ref b] meth c M_146 12 C Z (fun q : Nat => s.heap.size ≤ q) s.heap b scr := fun scr hsc C Z hC hZ =>
    ⟨hx, hb, hml, hown, htw, hEN, fun h => (by cases h), hsc, by decide, by decide, hC, hZ, hA⟩
  have hl := lv_entry ([.ref b]) (n := 4) (Nat.le_of_ble_eq_true rfl)
  rw [lg_entry_eq]
  have hA1 := ai_sg_ok l ai_mt ai_mt_ok 1500 [] 12 M_146 C_A 0 _ _ _ 0 0 _ _ _ _ _ 18 sg_A (by decide +kernel) ek_A
  refine hA1.2.2 p e room_1 s m _ below meth c s.heap [] _ D _ s.heap b [] _ [] (hFX [] (Or.inl rfl) _ _ (by decide) (by decide)) ⟨[], [], hK, fun k q h => by simp at h, ⟨fun i j p q h => by simp at h, fun k q h => by simp at h⟩, rfl, rfl, fun k ac h => by simp at h⟩ va_S.rf ⟨_, hl, fun q hq => ?_⟩ trivial ?_
  · rw [List.mem_singleton] at hq
    subst hq
    exact ⟨_, List.mem_cons_self, rfl⟩
  intro H1 locs1 ad1 ls1 st1 hpre1 hW1 hV1 hL1 hS1
  match st1, hS1 with
  | _ :: _, hS1 => exact hS1.elim
  | [], hS1 =>
  by_cases h6 : L = 6
  · subst h6
    have hsc : ∀ scr : List ai_V, scr.length = 6 → (∀ (j : Nat) (x : ai_V), scr[j]? = some x → ai_RV b [] x (.int (xs j))) → ai_SC scr b (fun q : Nat => s.heap.size ≤ q) s.heap s := fun scr h1 h2 => Or.inr ⟨xs, by rw [h1]; exact hX, hbl, hbA, h2⟩
    have hB1 := ai_sg_ok l ai_mt ai_mt_ok 1500 (List.replicate 6 (.inr (.inl ai_tI))) 12 M_146 C_B 18 _ _ _ _ _ _ _ _ _ _ 32 sg_B (by decide +kernel) ek_B
    refine hB1.2.2 p e room_1 s m _ below meth c H1 locs1 _ D _ s.heap b ad1 ls1 [] (hFX _ (hsc _ List.length_replicate (fun j x hj => by rw [List.eq_of_mem_replicate (List.mem_of_getElem? hj)]; exact ⟨_, rfl, ai_tI_ok _⟩)) _ _ (by decide) (by decide)) hW1 hV1 hL1 hS1 ?_
    intro H2 locs2 ad2 ls2 st2 hpre2 hW2 hV2 hL2 hS2
    match st2, hS2 with
    | [_], hS2 => exact hS2.2.elim
    | _ :: _ :: _ :: _, hS2 => exact hS2.2.2.elim
    | [_, _], ⟨⟨y, rfl, y1, y2⟩, ⟨x, rfl, x1, x2⟩, _⟩ =>
      have hy : y = 63 := Int32.toInt_inj.mp (by show y.toInt = 63; have y1 : (63 : Int) ≤ y.toInt := y1; have y2 : y.toInt ≤ (63 : Int) := y2; omega)
      subst hy
      refine lv_iand hx hb (show decode code 32 = .ok (.iand, 1) by decide +kernel) ?_
      obtain ⟨k, hk, hxk⟩ := ai_63 x
      obtain ⟨t, ht⟩ := rn_all k hk
      obtain ⟨bx, hbx, hrun⟩ := ai_tr_ok 5 t _ ht [xs 1, xs 2, xs 3, xs 4, xs 5] rfl
      unfold ai_lw at hrun
      split at hrun
      · next q w' C Z hm =>
        refine ai_rest hx hb hr hlocks hm hrun (hFX _ (hsc _ ?_ ?_)) hW2 hV2 hL2 ⟨⟨_, rfl, by rw [hxk]; exact Int.le_refl _, by rw [hxk]; exact Int.le_refl _⟩, trivial⟩
        · have := ai_bx_len hbx
          simp only [List.length_cons, List.length_map, List.length_nil] at this ⊢
          omega
        · intro j z hj
          match j, hj with
          | 0, hj => cases hj; exact ⟨_, rfl, ai_tI_ok _⟩
          | j + 1, hj =>
            rw [List.getElem?_cons_succ] at hj
            obtain ⟨v, h1, h2⟩ := ai_bx_RS (b := b) (ad := []) hbx hj
            match j, h1 with
            | 0, h1 => cases h1; exact h2
            | 1, h1 => cases h1; exact h2
            | 2, h1 => cases h1; exact h2
            | 3, h1 => cases h1; exact h2
            | 4, h1 => cases h1; exact h2
            | j + 5, h1 => simp at h1
      · cases hrun
  · by_cases h0 : L = 0
    · subst h0
      obtain ⟨v3, h3, x3, rfl, y1, y2⟩ := hL1.at (i := 3) (x := .inr (.inl (0, 0))) rfl
      obtain ⟨v0, h0, rfl⟩ := hL1.at (i := 0) (x := .inl (some 0)) rfl
      have hx3 : x3 = 0 := Int32.toInt_inj.mp (by show x3.toInt = 0; have y1 : (0 : Int) ≤ x3.toInt := y1; have y2 : x3.toInt ≤ (0 : Int) := y2; omega)
      subst hx3
      refine lv_iload_n hx hb (show decode code 18 = .ok (.iload_n 3, 1) by decide +kernel) rfl h3 ?_
      refine lv_aload_n hx hb (show decode code 19 = .ok (.aload_n 0, 1) by decide +kernel) rfl h0 ?_
      refine va_slen hx hb hX hbl hbA hV1 (show decode code 20 = .ok (.arraylength, 1) by decide +kernel) ?_
      have hrun := rs_1
      split at hrun
      · next q w' C Z hm =>
        exact ai_rest hx hb hr hlocks hm hrun (hFX _ (Or.inl rfl)) hW1 hV1 hL1 ⟨⟨_, rfl, by decide, by decide⟩, ⟨_, rfl, by decide, by decide⟩, trivial⟩
      · cases hrun
    · obtain ⟨n, rfl⟩ : ∃ n, L = n + 1 := ⟨L - 1, by omega⟩
      have hlt : n < 5 := by omega
      have hrun := rs_0 n hlt
      split at hrun
      · next q w' C Z hm =>
        exact ai_rest hx hb hr hlocks hm hrun (hFX _ (Or.inr ⟨xs, by rw [List.length_replicate]; exact hX, hbl, hbA, fun j x hj => by rw [List.eq_of_mem_replicate (List.mem_of_getElem? hj)]; exact ⟨_, rfl, ai_tI_ok _⟩⟩)) hW1 hV1 hL1 hS1
      · cases hrun
end
section
-- ===== YOUR PART ENDS =====
set_option maxHeartbeats 4000000 in
theorem lw_walk (l : Launch) (hflags : l.flags = flags0) (b : Addr) (xs : List Int32) : MetFree l x (headSpec (Jvm.Cond.code x code maxLocals ret :: tables_1) room_1) (lw_P b xs) (fun _ _ _ _ _ => True) lw_Q := by
  refine MetFree.of_bodyS (code := code) (maxLocals := maxLocals) (ret := ret) (by decide) ?_ ?_
  · intro args s m h hn
    obtain ⟨meth, c, h1, h2, h3, h4, h5, h6, -, -⟩ := Cond.code_spec hn (atoms_spec (ws := Jvm.Cond.code x code maxLocals ret :: tables_1) h _ List.mem_cons_self)
    exact ⟨meth, c, h1, h2, h3, h4, h5, h6⟩
  · intro p e s m args below meth c s₁ B hml0 hP _
    obtain ⟨rfl, hx, hbd, hgv⟩ := hP
    obtain ⟨scr, harrAt, hlist, hof, hsmall⟩ := hx
    obtain ⟨hcb, hkn, -, -⟩ := State.arrayAt?_spec harrAt
    have hown : s.vm.findClass R_law = some m.cls := findClass_of_methodNamed B.named
    have hts0 : ∀ c ∈ (Jvm.Cond.code x code maxLocals ret :: tables_1), c.before #[Value.ref b] s = true := atoms_spec (ws := Jvm.Cond.code x code maxLocals ret :: tables_1) B.pre
    have hts : ∀ w ∈ lw_tbl, w.before #[Value.ref b] s = true := k2_hts_sels lw_privs (fun w hw => hts0 w (List.mem_cons_of_mem _ hw)) lw_privs_ok
    have hml : c.maxLocals = 4 := B.maxLocals_eq (hts0 _ List.mem_cons_self)
    have X₀ : Stand p l e room_1 s m #[Value.ref b] below meth c s₁ [] 0 0 := Stand.of_body B
    have hh0 : s₁.heap = s.heap := by rw [B.state]; rfl
    have hsz : scr.slots.size = xs.length := by rw [← Array.length_toList, hlist, List.length_map]
    have hval : ∀ j : Nat, j < xs.length → scr.slots[j]? = some (.int (xs.getD j 0)) := fun j hj => by
      rw [← Array.getElem?_toList, hlist]
      simp [hj]
    have hbl : b < s.heap.size := (Array.getElem?_eq_some_iff.mp hcb).1
    have hX : va_X b xs.length (fun j => xs.getD j 0) s s.heap := ⟨scr, hcb, hof, hkn, hsz, hval⟩
    have K : W p l e room_1 s m #[Value.ref b] below meth c s₁.heap [] 0 0 (lw_Z below #[Value.ref b] s) (entryFrame m ([Value.ref b] : List Value).toArray 4) := by
      rw [hh0]
      exact whole_start l hflags hbd ⟨B.exec, B.bytes, B.returns, hml, hown, hts, hX, hbl, B.notSynchronized, hgv⟩
    obtain ⟨t, a1, o, b1, b2, b3⟩ := K s₁ rfl X₀
    exact ⟨t, o, a1, b1, b2, b3⟩
theorem lw_pre_spec {args : Array Value} {s : State} (h : (Jvm.Cond.and given_1 narrow_1).before args s = true) (hr : rest_1_c.before args s = true) : ∃ (b : Addr) (xs : List Int32), lw_P b xs args s := by
  have hs := flat_of_before _ h
  have hq := flat_of_before _ hr
  have hc : (Cond.count 1).before args s = true := hs _ (by decide +kernel)
  have harr : (Cond.arrayOf (.arg 0) .int).before args s = true := hs _ (by decide +kernel)
  have hle : (Cond.le (.length (.arg 0)) (.int 6)).before args s = true := hs _ (by decide +kernel)
  have hlen : (Cond.isInt (.length (.arg 0))).before args s = true := hq _ (by decide +kernel)
  have hall : (Cond.all (.arg 0) (.isInt (.elem (.arg 0) (.index 0)))).before args s = true := hq _ (by decide +kernel)
  obtain ⟨b, xs, hb, hx⟩ := State.ints_of_pre rfl harr hlen hall
  have hsm : xs.length < 2 ^ 31 := hx.choose_spec.2.2.2
  have hev : (Term.length (.arg 0)).eval args s none [] s = some (.int xs.length.toInt32) := hx.length_eval hb
  have hv := Cond.le_ints hev (show (Term.int 6).eval args s none [] s = some (.int 6) from rfl)
  have hd : xs.length.toInt32 ≤ 6 := by
    simpa [Cond.before, Cond.holds, hv] using hle
  have hN : xs.length ≤ 6 := (Int32.ofNat_le_ofNat hsm (by decide)).mp (show Int32.ofNat xs.length ≤ Int32.ofNat 6 from hd)
  exact ⟨b, xs, Cond.one_arg hc (show args[0]? = some (.ref b) from hb), hx, hN, h⟩
theorem lw_comes (l : Launch) (hflags : l.flags = flags0) : Comes l x (Jvm.Cond.code x code maxLocals ret :: tables_1) room_1 (fun tb e args s => Calls_1 tb e args s ∧ rest_1 tb e args s ∧ Pre_1 tb e args s)
    (fun _ _ args s o t => lw_Q args s o t) := by
  intro p e ha hc hk s m args below hf hfit hheap happ hpre
  obtain ⟨b, xs, hP⟩ := lw_pre_spec hpre.2.2 hpre.2.1
  obtain ⟨k, o, h1, h2, h3, hQ⟩ := lw_walk l hflags b xs p e ha hc hk s m args below hf ((Spec.applies_iff_loose hf).mp happ).1 hP trivial
  exact ⟨k, o, h1, h2, h3, hQ⟩
theorem lw_frame {s t : State} {o : Outcome} {args : Array Value} (h : Framed s o t [] 600000 7302250) :
    Framed s o t (fieldLocs frame_1_writes args s ++ arrayLocs frame_1_arrays args s ++ staticLocs frame_1_statics s) 600000 7302250 := h
theorem lw_limb (L : Cond) (hL : ∀ (args : Array Value) (s t : State), L.after args s (.returned (some (.int 1))) t = true) :
    ArmFor flags0 classFile x code maxLocals ret World_1 tables_1 room_1 Calls_1 rest_1 Pre_1
      (fun tb e a s o t => postC L tb e a s o t ∧ Framed s o t (fieldLocs frame_1_writes a s ++ arrayLocs frame_1_arrays a s ++ staticLocs frame_1_statics s) 600000 7302250) := by
  intro l hflags _ _ p e ha hc hk s m args below hf hfit hheap happ hpre
  obtain ⟨k, o, h1, h2, h3, rfl, hF⟩ := lw_comes l hflags p e ha hc hk s m args below hf hfit hheap happ hpre
  exact ⟨k, _, h1, h2, h3, hL args s _, lw_frame hF⟩
theorem i_vc : Claimed_1_1 ∧ Claimed_1_2 := ⟨lw_limb limb_1_1 (fun args s t => by simp [limb_1_1, Cond.after, Cond.holds, Cond.value]), lw_limb limb_1_2 (fun args s t => Cond.after_iff.mpr (by
  first | (rw [show limb_1_2 = Cond.eq .result (.int 1) from rfl, Cond.eq_ints (x := 1) (y := 1) rfl rfl]; simp; done) | (simp [limb_1_2, Cond.value, Term.eval]; done)))⟩
end
