section
-- ===== PART A: goes FIRST, ahead of the names: the tables' words, and 'selects' of the private methods out of them =====
/-- a private method of a class that the tables say can be made, by its rows of tables_1 -/
def lw_okq (q : MethodName × Nat) : Prop := (q.1.cls ≠ "java/lang/invoke/MethodHandle" ∧ q.1.cls ≠ "java/lang/invoke/VarHandle") ∧ Cond.instantiable q.1.cls q.2 ∈ tables_1 ∧ Cond.privateMethod q.1 ∈ tables_1 ∧ Cond.instanceMethod q.1 ∈ tables_1
theorem lw_p0 : lw_okq (⟨"TheOtherRoom", "shelfOf", "(I)LTheOtherRoom$Shelf;"⟩, 13) := ⟨⟨by decide +kernel, by decide +kernel⟩, List.mem_of_getElem? (i := 19) (by decide +kernel), List.mem_of_getElem? (i := 350) (by decide +kernel), List.mem_of_getElem? (i := 351) (by decide +kernel)⟩
theorem lw_p1 : lw_okq (⟨"TheOtherRoom", "refuse", "(I)I"⟩, 13) := ⟨⟨by decide +kernel, by decide +kernel⟩, List.mem_of_getElem? (i := 19) (by decide +kernel), List.mem_of_getElem? (i := 354) (by decide +kernel), List.mem_of_getElem? (i := 355) (by decide +kernel)⟩
theorem lw_p2 : lw_okq (⟨"TheOtherRoom", "wrongForMoveIn", "(II)I"⟩, 13) := ⟨⟨by decide +kernel, by decide +kernel⟩, List.mem_of_getElem? (i := 19) (by decide +kernel), List.mem_of_getElem? (i := 432) (by decide +kernel), List.mem_of_getElem? (i := 433) (by decide +kernel)⟩
theorem lw_p3 : lw_okq (⟨"TheOtherRoom", "flatFor", "(I)LTheOtherRoom$Flat;"⟩, 13) := ⟨⟨by decide +kernel, by decide +kernel⟩, List.mem_of_getElem? (i := 19) (by decide +kernel), List.mem_of_getElem? (i := 436) (by decide +kernel), List.mem_of_getElem? (i := 437) (by decide +kernel)⟩
theorem lw_p4 : lw_okq (⟨"TheOtherRoom", "stepsOfMove", "(LTheOtherRoom$Flat;LTheOtherRoom$Shelf;)I"⟩, 13) := ⟨⟨by decide +kernel, by decide +kernel⟩, List.mem_of_getElem? (i := 19) (by decide +kernel), List.mem_of_getElem? (i := 440) (by decide +kernel), List.mem_of_getElem? (i := 441) (by decide +kernel)⟩
theorem lw_p5 : lw_okq (⟨"TheOtherRoom$Walk", "beside", "(J)J"⟩, 17) := ⟨⟨by decide +kernel, by decide +kernel⟩, List.mem_of_getElem? (i := 58) (by decide +kernel), List.mem_of_getElem? (i := 519) (by decide +kernel), List.mem_of_getElem? (i := 520) (by decide +kernel)⟩
theorem lw_p6 : lw_okq (⟨"TheOtherRoom$Walk", "isFresh", "(I)Z"⟩, 17) := ⟨⟨by decide +kernel, by decide +kernel⟩, List.mem_of_getElem? (i := 58) (by decide +kernel), List.mem_of_getElem? (i := 523) (by decide +kernel), List.mem_of_getElem? (i := 524) (by decide +kernel)⟩
theorem lw_p7 : lw_okq (⟨"TheOtherRoom$Tape", "advance", "()V"⟩, 6) := ⟨⟨by decide +kernel, by decide +kernel⟩, List.mem_of_getElem? (i := 31) (by decide +kernel), List.mem_of_getElem? (i := 565) (by decide +kernel), List.mem_of_getElem? (i := 566) (by decide +kernel)⟩
theorem lw_p8 : lw_okq (⟨"TheOtherRoom$Tape", "byteAt", "(I)I"⟩, 6) := ⟨⟨by decide +kernel, by decide +kernel⟩, List.mem_of_getElem? (i := 31) (by decide +kernel), List.mem_of_getElem? (i := 569) (by decide +kernel), List.mem_of_getElem? (i := 570) (by decide +kernel)⟩
theorem lw_p9 : lw_okq (⟨"TheOtherRoom$Tape", "kindAt", "(I)I"⟩, 6) := ⟨⟨by decide +kernel, by decide +kernel⟩, List.mem_of_getElem? (i := 31) (by decide +kernel), List.mem_of_getElem? (i := 573) (by decide +kernel), List.mem_of_getElem? (i := 574) (by decide +kernel)⟩
theorem lw_p10 : lw_okq (⟨"TheOtherRoom$Tape", "readBoard", "(LTheOtherRoom$Flat;)V"⟩, 6) := ⟨⟨by decide +kernel, by decide +kernel⟩, List.mem_of_getElem? (i := 31) (by decide +kernel), List.mem_of_getElem? (i := 577) (by decide +kernel), List.mem_of_getElem? (i := 578) (by decide +kernel)⟩
theorem lw_p11 : lw_okq (⟨"TheOtherRoom$Tape", "expect", "(Ljava/lang/String;)V"⟩, 6) := ⟨⟨by decide +kernel, by decide +kernel⟩, List.mem_of_getElem? (i := 31) (by decide +kernel), List.mem_of_getElem? (i := 582) (by decide +kernel), List.mem_of_getElem? (i := 583) (by decide +kernel)⟩
theorem lw_p12 : lw_okq (⟨"TheOtherRoom$Tape", "accept", "(Ljava/lang/String;)Z"⟩, 6) := ⟨⟨by decide +kernel, by decide +kernel⟩, List.mem_of_getElem? (i := 31) (by decide +kernel), List.mem_of_getElem? (i := 586) (by decide +kernel), List.mem_of_getElem? (i := 587) (by decide +kernel)⟩
theorem lw_p13 : lw_okq (⟨"TheOtherRoom$Tape", "fail", "(I)V"⟩, 6) := ⟨⟨by decide +kernel, by decide +kernel⟩, List.mem_of_getElem? (i := 31) (by decide +kernel), List.mem_of_getElem? (i := 638) (by decide +kernel), List.mem_of_getElem? (i := 639) (by decide +kernel)⟩
theorem lw_p14 : lw_okq (⟨"TheOtherRoom$Tape", "number", "(II)I"⟩, 6) := ⟨⟨by decide +kernel, by decide +kernel⟩, List.mem_of_getElem? (i := 31) (by decide +kernel), List.mem_of_getElem? (i := 642) (by decide +kernel), List.mem_of_getElem? (i := 643) (by decide +kernel)⟩
theorem lw_p15 : lw_okq (⟨"TheOtherRoom$Tape", "readStatement", "(LTheOtherRoom$Flat;)V"⟩, 6) := ⟨⟨by decide +kernel, by decide +kernel⟩, List.mem_of_getElem? (i := 31) (by decide +kernel), List.mem_of_getElem? (i := 665) (by decide +kernel), List.mem_of_getElem? (i := 666) (by decide +kernel)⟩
def lw_privs_1 : List (MethodName × Nat) := [(⟨"TheOtherRoom", "shelfOf", "(I)LTheOtherRoom$Shelf;"⟩, 13), (⟨"TheOtherRoom", "refuse", "(I)I"⟩, 13), (⟨"TheOtherRoom", "wrongForMoveIn", "(II)I"⟩, 13), (⟨"TheOtherRoom", "flatFor", "(I)LTheOtherRoom$Flat;"⟩, 13), (⟨"TheOtherRoom", "stepsOfMove", "(LTheOtherRoom$Flat;LTheOtherRoom$Shelf;)I"⟩, 13), (⟨"TheOtherRoom$Walk", "beside", "(J)J"⟩, 17), (⟨"TheOtherRoom$Walk", "isFresh", "(I)Z"⟩, 17), (⟨"TheOtherRoom$Tape", "advance", "()V"⟩, 6), (⟨"TheOtherRoom$Tape", "byteAt", "(I)I"⟩, 6), (⟨"TheOtherRoom$Tape", "kindAt", "(I)I"⟩, 6), (⟨"TheOtherRoom$Tape", "readBoard", "(LTheOtherRoom$Flat;)V"⟩, 6), (⟨"TheOtherRoom$Tape", "expect", "(Ljava/lang/String;)V"⟩, 6), (⟨"TheOtherRoom$Tape", "accept", "(Ljava/lang/String;)Z"⟩, 6), (⟨"TheOtherRoom$Tape", "fail", "(I)V"⟩, 6), (⟨"TheOtherRoom$Tape", "number", "(II)I"⟩, 6), (⟨"TheOtherRoom$Tape", "readStatement", "(LTheOtherRoom$Flat;)V"⟩, 6)]
theorem lw_r1 : ∀ q ∈ lw_privs_1, lw_okq q := List.forall_mem_cons.mpr ⟨lw_p0, List.forall_mem_cons.mpr ⟨lw_p1, List.forall_mem_cons.mpr ⟨lw_p2, List.forall_mem_cons.mpr ⟨lw_p3, List.forall_mem_cons.mpr ⟨lw_p4, List.forall_mem_cons.mpr ⟨lw_p5, List.forall_mem_cons.mpr ⟨lw_p6, List.forall_mem_cons.mpr ⟨lw_p7, List.forall_mem_cons.mpr ⟨lw_p8, List.forall_mem_cons.mpr ⟨lw_p9, List.forall_mem_cons.mpr ⟨lw_p10, List.forall_mem_cons.mpr ⟨lw_p11, List.forall_mem_cons.mpr ⟨lw_p12, List.forall_mem_cons.mpr ⟨lw_p13, List.forall_mem_cons.mpr ⟨lw_p14, List.forall_mem_cons.mpr ⟨lw_p15, fun _ h => absurd h List.not_mem_nil⟩⟩⟩⟩⟩⟩⟩⟩⟩⟩⟩⟩⟩⟩⟩⟩
theorem lw_p16 : lw_okq (⟨"TheOtherRoom$Tape", "readWall", "(LTheOtherRoom$Flat;)V"⟩, 6) := ⟨⟨by decide +kernel, by decide +kernel⟩, List.mem_of_getElem? (i := 31) (by decide +kernel), List.mem_of_getElem? (i := 670) (by decide +kernel), List.mem_of_getElem? (i := 671) (by decide +kernel)⟩
theorem lw_p17 : lw_okq (⟨"TheOtherRoom$Tape", "readThing", "(LTheOtherRoom$Flat;)V"⟩, 6) := ⟨⟨by decide +kernel, by decide +kernel⟩, List.mem_of_getElem? (i := 31) (by decide +kernel), List.mem_of_getElem? (i := 681) (by decide +kernel), List.mem_of_getElem? (i := 682) (by decide +kernel)⟩
theorem lw_p18 : lw_okq (⟨"TheOtherRoom", "wrongForCarries", "(III)I"⟩, 13) := ⟨⟨by decide +kernel, by decide +kernel⟩, List.mem_of_getElem? (i := 19) (by decide +kernel), List.mem_of_getElem? (i := 767) (by decide +kernel), List.mem_of_getElem? (i := 768) (by decide +kernel)⟩
theorem lw_p19 : lw_okq (⟨"TheOtherRoom", "carriesThatCan", "(LTheOtherRoom$Flat;LTheOtherRoom$Shelf;IZ)I"⟩, 13) := ⟨⟨by decide +kernel, by decide +kernel⟩, List.mem_of_getElem? (i := 19) (by decide +kernel), List.mem_of_getElem? (i := 771) (by decide +kernel), List.mem_of_getElem? (i := 772) (by decide +kernel)⟩
theorem lw_p20 : lw_okq (⟨"TheOtherRoom", "flatWithDrawing", "(II)LTheOtherRoom$Flat;"⟩, 13) := ⟨⟨by decide +kernel, by decide +kernel⟩, List.mem_of_getElem? (i := 19) (by decide +kernel), List.mem_of_getElem? (i := 784) (by decide +kernel), List.mem_of_getElem? (i := 785) (by decide +kernel)⟩
theorem lw_p21 : lw_okq (⟨"TheOtherRoom", "inRings", "(LTheOtherRoom$Flat;I)I"⟩, 13) := ⟨⟨by decide +kernel, by decide +kernel⟩, List.mem_of_getElem? (i := 19) (by decide +kernel), List.mem_of_getElem? (i := 829) (by decide +kernel), List.mem_of_getElem? (i := 830) (by decide +kernel)⟩
theorem lw_p22 : lw_okq (⟨"TheOtherRoom$Flat", "hangingTogether", "(JJ)J"⟩, 17) := ⟨⟨by decide +kernel, by decide +kernel⟩, List.mem_of_getElem? (i := 181) (by decide +kernel), List.mem_of_getElem? (i := 845) (by decide +kernel), List.mem_of_getElem? (i := 846) (by decide +kernel)⟩
theorem lw_p23 : lw_okq (⟨"TheOtherRoom$Search", "slotOf", "(J)I"⟩, 15) := ⟨⟨by decide +kernel, by decide +kernel⟩, List.mem_of_getElem? (i := 119) (by decide +kernel), List.mem_of_getElem? (i := 877) (by decide +kernel), List.mem_of_getElem? (i := 878) (by decide +kernel)⟩
theorem lw_p24 : lw_okq (⟨"TheOtherRoom$Search", "lookAtLayer", "(LTheOtherRoom$Flat;)V"⟩, 15) := ⟨⟨by decide +kernel, by decide +kernel⟩, List.mem_of_getElem? (i := 119) (by decide +kernel), List.mem_of_getElem? (i := 882) (by decide +kernel), List.mem_of_getElem? (i := 883) (by decide +kernel)⟩
theorem lw_p25 : lw_okq (⟨"TheOtherRoom$Search", "spread", "(J)V"⟩, 15) := ⟨⟨by decide +kernel, by decide +kernel⟩, List.mem_of_getElem? (i := 119) (by decide +kernel), List.mem_of_getElem? (i := 886) (by decide +kernel), List.mem_of_getElem? (i := 887) (by decide +kernel)⟩
theorem lw_p26 : lw_okq (⟨"TheOtherRoom$Search", "carryFrom", "(LTheOtherRoom$Flat;I)V"⟩, 15) := ⟨⟨by decide +kernel, by decide +kernel⟩, List.mem_of_getElem? (i := 119) (by decide +kernel), List.mem_of_getElem? (i := 898) (by decide +kernel), List.mem_of_getElem? (i := 899) (by decide +kernel)⟩
theorem lw_p27 : lw_okq (⟨"TheOtherRoom$Search", "meetAll", "(IIJII)V"⟩, 15) := ⟨⟨by decide +kernel, by decide +kernel⟩, List.mem_of_getElem? (i := 119) (by decide +kernel), List.mem_of_getElem? (i := 905) (by decide +kernel), List.mem_of_getElem? (i := 906) (by decide +kernel)⟩
theorem lw_p28 : lw_okq (⟨"TheOtherRoom$Search", "meet", "(IIII)V"⟩, 15) := ⟨⟨by decide +kernel, by decide +kernel⟩, List.mem_of_getElem? (i := 119) (by decide +kernel), List.mem_of_getElem? (i := 916) (by decide +kernel), List.mem_of_getElem? (i := 917) (by decide +kernel)⟩
theorem lw_p29 : lw_okq (⟨"TheOtherRoom$Search", "addState", "(IJII)V"⟩, 15) := ⟨⟨by decide +kernel, by decide +kernel⟩, List.mem_of_getElem? (i := 119) (by decide +kernel), List.mem_of_getElem? (i := 920) (by decide +kernel), List.mem_of_getElem? (i := 921) (by decide +kernel)⟩
theorem lw_p30 : lw_okq (⟨"TheOtherRoom", "shelvesThatHold", "()I"⟩, 13) := ⟨⟨by decide +kernel, by decide +kernel⟩, List.mem_of_getElem? (i := 19) (by decide +kernel), List.mem_of_getElem? (i := 996) (by decide +kernel), List.mem_of_getElem? (i := 997) (by decide +kernel)⟩
theorem lw_p31 : lw_okq (⟨"TheOtherRoomModel", "refuse", "(I)I"⟩, 43) := ⟨⟨by decide +kernel, by decide +kernel⟩, List.mem_of_getElem? (i := 1000) (by decide +kernel), List.mem_of_getElem? (i := 1153) (by decide +kernel), List.mem_of_getElem? (i := 1154) (by decide +kernel)⟩
def lw_privs_2 : List (MethodName × Nat) := [(⟨"TheOtherRoom$Tape", "readWall", "(LTheOtherRoom$Flat;)V"⟩, 6), (⟨"TheOtherRoom$Tape", "readThing", "(LTheOtherRoom$Flat;)V"⟩, 6), (⟨"TheOtherRoom", "wrongForCarries", "(III)I"⟩, 13), (⟨"TheOtherRoom", "carriesThatCan", "(LTheOtherRoom$Flat;LTheOtherRoom$Shelf;IZ)I"⟩, 13), (⟨"TheOtherRoom", "flatWithDrawing", "(II)LTheOtherRoom$Flat;"⟩, 13), (⟨"TheOtherRoom", "inRings", "(LTheOtherRoom$Flat;I)I"⟩, 13), (⟨"TheOtherRoom$Flat", "hangingTogether", "(JJ)J"⟩, 17), (⟨"TheOtherRoom$Search", "slotOf", "(J)I"⟩, 15), (⟨"TheOtherRoom$Search", "lookAtLayer", "(LTheOtherRoom$Flat;)V"⟩, 15), (⟨"TheOtherRoom$Search", "spread", "(J)V"⟩, 15), (⟨"TheOtherRoom$Search", "carryFrom", "(LTheOtherRoom$Flat;I)V"⟩, 15), (⟨"TheOtherRoom$Search", "meetAll", "(IIJII)V"⟩, 15), (⟨"TheOtherRoom$Search", "meet", "(IIII)V"⟩, 15), (⟨"TheOtherRoom$Search", "addState", "(IJII)V"⟩, 15), (⟨"TheOtherRoom", "shelvesThatHold", "()I"⟩, 13), (⟨"TheOtherRoomModel", "refuse", "(I)I"⟩, 43)]
theorem lw_r2 : ∀ q ∈ lw_privs_2, lw_okq q := List.forall_mem_cons.mpr ⟨lw_p16, List.forall_mem_cons.mpr ⟨lw_p17, List.forall_mem_cons.mpr ⟨lw_p18, List.forall_mem_cons.mpr ⟨lw_p19, List.forall_mem_cons.mpr ⟨lw_p20, List.forall_mem_cons.mpr ⟨lw_p21, List.forall_mem_cons.mpr ⟨lw_p22, List.forall_mem_cons.mpr ⟨lw_p23, List.forall_mem_cons.mpr ⟨lw_p24, List.forall_mem_cons.mpr ⟨lw_p25, List.forall_mem_cons.mpr ⟨lw_p26, List.forall_mem_cons.mpr ⟨lw_p27, List.forall_mem_cons.mpr ⟨lw_p28, List.forall_mem_cons.mpr ⟨lw_p29, List.forall_mem_cons.mpr ⟨lw_p30, List.forall_mem_cons.mpr ⟨lw_p31, fun _ h => absurd h List.not_mem_nil⟩⟩⟩⟩⟩⟩⟩⟩⟩⟩⟩⟩⟩⟩⟩⟩
theorem lw_p32 : lw_okq (⟨"TheOtherRoomModel", "noMove", "(II)I"⟩, 43) := ⟨⟨by decide +kernel, by decide +kernel⟩, List.mem_of_getElem? (i := 1000) (by decide +kernel), List.mem_of_getElem? (i := 1194) (by decide +kernel), List.mem_of_getElem? (i := 1195) (by decide +kernel)⟩
theorem lw_p33 : lw_okq (⟨"TheOtherRoomModel", "isFlat", "(I)Z"⟩, 43) := ⟨⟨by decide +kernel, by decide +kernel⟩, List.mem_of_getElem? (i := 1000) (by decide +kernel), List.mem_of_getElem? (i := 1198) (by decide +kernel), List.mem_of_getElem? (i := 1199) (by decide +kernel)⟩
theorem lw_p34 : lw_okq (⟨"TheOtherRoomModel", "moveSteps", "(II)I"⟩, 43) := ⟨⟨by decide +kernel, by decide +kernel⟩, List.mem_of_getElem? (i := 1000) (by decide +kernel), List.mem_of_getElem? (i := 1202) (by decide +kernel), List.mem_of_getElem? (i := 1203) (by decide +kernel)⟩
theorem lw_p35 : lw_okq (⟨"TheOtherRoomModel", "mayBeCarried", "(II)Z"⟩, 43) := ⟨⟨by decide +kernel, by decide +kernel⟩, List.mem_of_getElem? (i := 1000) (by decide +kernel), List.mem_of_getElem? (i := 1206) (by decide +kernel), List.mem_of_getElem? (i := 1207) (by decide +kernel)⟩
theorem lw_p36 : lw_okq (⟨"TheOtherRoomModel", "ofThing", "(III)I"⟩, 43) := ⟨⟨by decide +kernel, by decide +kernel⟩, List.mem_of_getElem? (i := 1000) (by decide +kernel), List.mem_of_getElem? (i := 1210) (by decide +kernel), List.mem_of_getElem? (i := 1211) (by decide +kernel)⟩
theorem lw_p37 : lw_okq (⟨"TheOtherRoomModel", "coveredBut", "(II[I)J"⟩, 43) := ⟨⟨by decide +kernel, by decide +kernel⟩, List.mem_of_getElem? (i := 1000) (by decide +kernel), List.mem_of_getElem? (i := 1214) (by decide +kernel), List.mem_of_getElem? (i := 1215) (by decide +kernel)⟩
theorem lw_p38 : lw_okq (⟨"TheOtherRoomModel", "coverOf", "(III)J"⟩, 43) := ⟨⟨by decide +kernel, by decide +kernel⟩, List.mem_of_getElem? (i := 1000) (by decide +kernel), List.mem_of_getElem? (i := 1218) (by decide +kernel), List.mem_of_getElem? (i := 1219) (by decide +kernel)⟩
theorem lw_p39 : lw_okq (⟨"TheOtherRoomModel", "cells", "(I)I"⟩, 43) := ⟨⟨by decide +kernel, by decide +kernel⟩, List.mem_of_getElem? (i := 1000) (by decide +kernel), List.mem_of_getElem? (i := 1222) (by decide +kernel), List.mem_of_getElem? (i := 1223) (by decide +kernel)⟩
theorem lw_p40 : lw_okq (⟨"TheOtherRoomModel", "besides", "(III)I"⟩, 43) := ⟨⟨by decide +kernel, by decide +kernel⟩, List.mem_of_getElem? (i := 1000) (by decide +kernel), List.mem_of_getElem? (i := 1226) (by decide +kernel), List.mem_of_getElem? (i := 1227) (by decide +kernel)⟩
theorem lw_p41 : lw_okq (⟨"TheOtherRoomModel", "fitsIn", "(IIIJ)Z"⟩, 43) := ⟨⟨by decide +kernel, by decide +kernel⟩, List.mem_of_getElem? (i := 1000) (by decide +kernel), List.mem_of_getElem? (i := 1230) (by decide +kernel), List.mem_of_getElem? (i := 1231) (by decide +kernel)⟩
theorem lw_p42 : lw_okq (⟨"TheOtherRoomModel", "mayTurn", "(II)Z"⟩, 43) := ⟨⟨by decide +kernel, by decide +kernel⟩, List.mem_of_getElem? (i := 1000) (by decide +kernel), List.mem_of_getElem? (i := 1235) (by decide +kernel), List.mem_of_getElem? (i := 1236) (by decide +kernel)⟩
theorem lw_p43 : lw_okq (⟨"TheOtherRoomModel", "stepsTo", "(II[II)I"⟩, 43) := ⟨⟨by decide +kernel, by decide +kernel⟩, List.mem_of_getElem? (i := 1000) (by decide +kernel), List.mem_of_getElem? (i := 1239) (by decide +kernel), List.mem_of_getElem? (i := 1240) (by decide +kernel)⟩
theorem lw_p44 : lw_okq (⟨"TheOtherRoomModel", "findCarries", "(II[I)V"⟩, 43) := ⟨⟨by decide +kernel, by decide +kernel⟩, List.mem_of_getElem? (i := 1000) (by decide +kernel), List.mem_of_getElem? (i := 1243) (by decide +kernel), List.mem_of_getElem? (i := 1244) (by decide +kernel)⟩
theorem lw_p45 : lw_okq (⟨"TheOtherRoomModel", "landedBut", "(II[I)I"⟩, 43) := ⟨⟨by decide +kernel, by decide +kernel⟩, List.mem_of_getElem? (i := 1000) (by decide +kernel), List.mem_of_getElem? (i := 1247) (by decide +kernel), List.mem_of_getElem? (i := 1248) (by decide +kernel)⟩
theorem lw_p46 : lw_okq (⟨"TheOtherRoomModel", "findFar", "(IIIJI)V"⟩, 43) := ⟨⟨by decide +kernel, by decide +kernel⟩, List.mem_of_getElem? (i := 1000) (by decide +kernel), List.mem_of_getElem? (i := 1251) (by decide +kernel), List.mem_of_getElem? (i := 1252) (by decide +kernel)⟩
theorem lw_p47 : lw_okq (⟨"TheOtherRoomModel", "comes", "(II)V"⟩, 43) := ⟨⟨by decide +kernel, by decide +kernel⟩, List.mem_of_getElem? (i := 1000) (by decide +kernel), List.mem_of_getElem? (i := 1255) (by decide +kernel), List.mem_of_getElem? (i := 1256) (by decide +kernel)⟩
def lw_privs_3 : List (MethodName × Nat) := [(⟨"TheOtherRoomModel", "noMove", "(II)I"⟩, 43), (⟨"TheOtherRoomModel", "isFlat", "(I)Z"⟩, 43), (⟨"TheOtherRoomModel", "moveSteps", "(II)I"⟩, 43), (⟨"TheOtherRoomModel", "mayBeCarried", "(II)Z"⟩, 43), (⟨"TheOtherRoomModel", "ofThing", "(III)I"⟩, 43), (⟨"TheOtherRoomModel", "coveredBut", "(II[I)J"⟩, 43), (⟨"TheOtherRoomModel", "coverOf", "(III)J"⟩, 43), (⟨"TheOtherRoomModel", "cells", "(I)I"⟩, 43), (⟨"TheOtherRoomModel", "besides", "(III)I"⟩, 43), (⟨"TheOtherRoomModel", "fitsIn", "(IIIJ)Z"⟩, 43), (⟨"TheOtherRoomModel", "mayTurn", "(II)Z"⟩, 43), (⟨"TheOtherRoomModel", "stepsTo", "(II[II)I"⟩, 43), (⟨"TheOtherRoomModel", "findCarries", "(II[I)V"⟩, 43), (⟨"TheOtherRoomModel", "landedBut", "(II[I)I"⟩, 43), (⟨"TheOtherRoomModel", "findFar", "(IIIJI)V"⟩, 43), (⟨"TheOtherRoomModel", "comes", "(II)V"⟩, 43)]
theorem lw_r3 : ∀ q ∈ lw_privs_3, lw_okq q := List.forall_mem_cons.mpr ⟨lw_p32, List.forall_mem_cons.mpr ⟨lw_p33, List.forall_mem_cons.mpr ⟨lw_p34, List.forall_mem_cons.mpr ⟨lw_p35, List.forall_mem_cons.mpr ⟨lw_p36, List.forall_mem_cons.mpr ⟨lw_p37, List.forall_mem_cons.mpr ⟨lw_p38, List.forall_mem_cons.mpr ⟨lw_p39, List.forall_mem_cons.mpr ⟨lw_p40, List.forall_mem_cons.mpr ⟨lw_p41, List.forall_mem_cons.mpr ⟨lw_p42, List.forall_mem_cons.mpr ⟨lw_p43, List.forall_mem_cons.mpr ⟨lw_p44, List.forall_mem_cons.mpr ⟨lw_p45, List.forall_mem_cons.mpr ⟨lw_p46, List.forall_mem_cons.mpr ⟨lw_p47, fun _ h => absurd h List.not_mem_nil⟩⟩⟩⟩⟩⟩⟩⟩⟩⟩⟩⟩⟩⟩⟩⟩
theorem lw_p48 : lw_okq (⟨"TheOtherRoomModel", "mayComeIn", "(IIIJ)Z"⟩, 43) := ⟨⟨by decide +kernel, by decide +kernel⟩, List.mem_of_getElem? (i := 1000) (by decide +kernel), List.mem_of_getElem? (i := 1259) (by decide +kernel), List.mem_of_getElem? (i := 1260) (by decide +kernel)⟩
theorem lw_p49 : lw_okq (⟨"TheOtherRoomModel", "read", "(I)Z"⟩, 43) := ⟨⟨by decide +kernel, by decide +kernel⟩, List.mem_of_getElem? (i := 1000) (by decide +kernel), List.mem_of_getElem? (i := 1279) (by decide +kernel), List.mem_of_getElem? (i := 1280) (by decide +kernel)⟩
theorem lw_p50 : lw_okq (⟨"TheOtherRoomModel", "look", "()V"⟩, 43) := ⟨⟨by decide +kernel, by decide +kernel⟩, List.mem_of_getElem? (i := 1000) (by decide +kernel), List.mem_of_getElem? (i := 1283) (by decide +kernel), List.mem_of_getElem? (i := 1284) (by decide +kernel)⟩
theorem lw_p51 : lw_okq (⟨"TheOtherRoomModel", "board", "(I)Z"⟩, 43) := ⟨⟨by decide +kernel, by decide +kernel⟩, List.mem_of_getElem? (i := 1000) (by decide +kernel), List.mem_of_getElem? (i := 1296) (by decide +kernel), List.mem_of_getElem? (i := 1297) (by decide +kernel)⟩
theorem lw_p52 : lw_okq (⟨"TheOtherRoomModel", "word", "(Ljava/lang/String;)Z"⟩, 43) := ⟨⟨by decide +kernel, by decide +kernel⟩, List.mem_of_getElem? (i := 1000) (by decide +kernel), List.mem_of_getElem? (i := 1301) (by decide +kernel), List.mem_of_getElem? (i := 1302) (by decide +kernel)⟩
theorem lw_p53 : lw_okq (⟨"TheOtherRoomModel", "isWord", "(Ljava/lang/String;)Z"⟩, 43) := ⟨⟨by decide +kernel, by decide +kernel⟩, List.mem_of_getElem? (i := 1000) (by decide +kernel), List.mem_of_getElem? (i := 1305) (by decide +kernel), List.mem_of_getElem? (i := 1306) (by decide +kernel)⟩
theorem lw_p54 : lw_okq (⟨"TheOtherRoomModel", "wrong", "()Z"⟩, 43) := ⟨⟨by decide +kernel, by decide +kernel⟩, List.mem_of_getElem? (i := 1000) (by decide +kernel), List.mem_of_getElem? (i := 1311) (by decide +kernel), List.mem_of_getElem? (i := 1312) (by decide +kernel)⟩
theorem lw_p55 : lw_okq (⟨"TheOtherRoomModel", "number", "(II)Z"⟩, 43) := ⟨⟨by decide +kernel, by decide +kernel⟩, List.mem_of_getElem? (i := 1000) (by decide +kernel), List.mem_of_getElem? (i := 1315) (by decide +kernel), List.mem_of_getElem? (i := 1316) (by decide +kernel)⟩
theorem lw_p56 : lw_okq (⟨"TheOtherRoomModel", "statement", "(I)Z"⟩, 43) := ⟨⟨by decide +kernel, by decide +kernel⟩, List.mem_of_getElem? (i := 1000) (by decide +kernel), List.mem_of_getElem? (i := 1320) (by decide +kernel), List.mem_of_getElem? (i := 1321) (by decide +kernel)⟩
theorem lw_p57 : lw_okq (⟨"TheOtherRoomModel", "thingTold", "(II)Z"⟩, 43) := ⟨⟨by decide +kernel, by decide +kernel⟩, List.mem_of_getElem? (i := 1000) (by decide +kernel), List.mem_of_getElem? (i := 1329) (by decide +kernel), List.mem_of_getElem? (i := 1330) (by decide +kernel)⟩
theorem lw_p58 : lw_okq (⟨"TheOtherRoomModel", "isThing", "(II)Z"⟩, 43) := ⟨⟨by decide +kernel, by decide +kernel⟩, List.mem_of_getElem? (i := 1000) (by decide +kernel), List.mem_of_getElem? (i := 1347) (by decide +kernel), List.mem_of_getElem? (i := 1348) (by decide +kernel)⟩
theorem lw_p59 : lw_okq (⟨"TheOtherRoomModel", "isPlace", "(III)Z"⟩, 43) := ⟨⟨by decide +kernel, by decide +kernel⟩, List.mem_of_getElem? (i := 1000) (by decide +kernel), List.mem_of_getElem? (i := 1376) (by decide +kernel), List.mem_of_getElem? (i := 1377) (by decide +kernel)⟩
theorem lw_p60 : lw_okq (⟨"TheOtherRoomModel", "isDrawing", "(II)Z"⟩, 43) := ⟨⟨by decide +kernel, by decide +kernel⟩, List.mem_of_getElem? (i := 1000) (by decide +kernel), List.mem_of_getElem? (i := 1396) (by decide +kernel), List.mem_of_getElem? (i := 1397) (by decide +kernel)⟩
theorem lw_p61 : lw_okq (⟨"TheOtherRoomModel", "toldOf", "(III)I"⟩, 43) := ⟨⟨by decide +kernel, by decide +kernel⟩, List.mem_of_getElem? (i := 1000) (by decide +kernel), List.mem_of_getElem? (i := 1404) (by decide +kernel), List.mem_of_getElem? (i := 1405) (by decide +kernel)⟩
theorem lw_p62 : lw_okq (⟨"TheOtherRoomModel", "offIn", "(II[I)I"⟩, 43) := ⟨⟨by decide +kernel, by decide +kernel⟩, List.mem_of_getElem? (i := 1000) (by decide +kernel), List.mem_of_getElem? (i := 1416) (by decide +kernel), List.mem_of_getElem? (i := 1417) (by decide +kernel)⟩
theorem lw_p63 : lw_okq (⟨"TheOtherRoomModel", "noRow", "(III)I"⟩, 43) := ⟨⟨by decide +kernel, by decide +kernel⟩, List.mem_of_getElem? (i := 1000) (by decide +kernel), List.mem_of_getElem? (i := 1428) (by decide +kernel), List.mem_of_getElem? (i := 1429) (by decide +kernel)⟩
def lw_privs_4 : List (MethodName × Nat) := [(⟨"TheOtherRoomModel", "mayComeIn", "(IIIJ)Z"⟩, 43), (⟨"TheOtherRoomModel", "read", "(I)Z"⟩, 43), (⟨"TheOtherRoomModel", "look", "()V"⟩, 43), (⟨"TheOtherRoomModel", "board", "(I)Z"⟩, 43), (⟨"TheOtherRoomModel", "word", "(Ljava/lang/String;)Z"⟩, 43), (⟨"TheOtherRoomModel", "isWord", "(Ljava/lang/String;)Z"⟩, 43), (⟨"TheOtherRoomModel", "wrong", "()Z"⟩, 43), (⟨"TheOtherRoomModel", "number", "(II)Z"⟩, 43), (⟨"TheOtherRoomModel", "statement", "(I)Z"⟩, 43), (⟨"TheOtherRoomModel", "thingTold", "(II)Z"⟩, 43), (⟨"TheOtherRoomModel", "isThing", "(II)Z"⟩, 43), (⟨"TheOtherRoomModel", "isPlace", "(III)Z"⟩, 43), (⟨"TheOtherRoomModel", "isDrawing", "(II)Z"⟩, 43), (⟨"TheOtherRoomModel", "toldOf", "(III)I"⟩, 43), (⟨"TheOtherRoomModel", "offIn", "(II[I)I"⟩, 43), (⟨"TheOtherRoomModel", "noRow", "(III)I"⟩, 43)]
theorem lw_r4 : ∀ q ∈ lw_privs_4, lw_okq q := List.forall_mem_cons.mpr ⟨lw_p48, List.forall_mem_cons.mpr ⟨lw_p49, List.forall_mem_cons.mpr ⟨lw_p50, List.forall_mem_cons.mpr ⟨lw_p51, List.forall_mem_cons.mpr ⟨lw_p52, List.forall_mem_cons.mpr ⟨lw_p53, List.forall_mem_cons.mpr ⟨lw_p54, List.forall_mem_cons.mpr ⟨lw_p55, List.forall_mem_cons.mpr ⟨lw_p56, List.forall_mem_cons.mpr ⟨lw_p57, List.forall_mem_cons.mpr ⟨lw_p58, List.forall_mem_cons.mpr ⟨lw_p59, List.forall_mem_cons.mpr ⟨lw_p60, List.forall_mem_cons.mpr ⟨lw_p61, List.forall_mem_cons.mpr ⟨lw_p62, List.forall_mem_cons.mpr ⟨lw_p63, fun _ h => absurd h List.not_mem_nil⟩⟩⟩⟩⟩⟩⟩⟩⟩⟩⟩⟩⟩⟩⟩⟩
theorem lw_p64 : lw_okq (⟨"TheOtherRoomModel", "tryRow", "(III)I"⟩, 43) := ⟨⟨by decide +kernel, by decide +kernel⟩, List.mem_of_getElem? (i := 1000) (by decide +kernel), List.mem_of_getElem? (i := 1433) (by decide +kernel), List.mem_of_getElem? (i := 1434) (by decide +kernel)⟩
theorem lw_p65 : lw_okq (⟨"TheOtherRoomModel", "waitsOf", "(III)I"⟩, 43) := ⟨⟨by decide +kernel, by decide +kernel⟩, List.mem_of_getElem? (i := 1000) (by decide +kernel), List.mem_of_getElem? (i := 1446) (by decide +kernel), List.mem_of_getElem? (i := 1447) (by decide +kernel)⟩
theorem lw_p66 : lw_okq (⟨"TheOtherRoomModel", "ringsOf", "(II)I"⟩, 43) := ⟨⟨by decide +kernel, by decide +kernel⟩, List.mem_of_getElem? (i := 1000) (by decide +kernel), List.mem_of_getElem? (i := 1454) (by decide +kernel), List.mem_of_getElem? (i := 1455) (by decide +kernel)⟩
theorem lw_p67 : lw_okq (⟨"TheOtherRoomModel", "fewestOf", "(III)I"⟩, 43) := ⟨⟨by decide +kernel, by decide +kernel⟩, List.mem_of_getElem? (i := 1000) (by decide +kernel), List.mem_of_getElem? (i := 1466) (by decide +kernel), List.mem_of_getElem? (i := 1467) (by decide +kernel)⟩
theorem lw_p68 : lw_okq (⟨"TheOtherRoomModel", "search", "(III)V"⟩, 43) := ⟨⟨by decide +kernel, by decide +kernel⟩, List.mem_of_getElem? (i := 1000) (by decide +kernel), List.mem_of_getElem? (i := 1470) (by decide +kernel), List.mem_of_getElem? (i := 1471) (by decide +kernel)⟩
theorem lw_p69 : lw_okq (⟨"TheOtherRoomModel", "beginSearch", "(LTheOtherRoomModel;III)V"⟩, 43) := ⟨⟨by decide +kernel, by decide +kernel⟩, List.mem_of_getElem? (i := 1000) (by decide +kernel), List.mem_of_getElem? (i := 1474) (by decide +kernel), List.mem_of_getElem? (i := 1475) (by decide +kernel)⟩
theorem lw_p70 : lw_okq (⟨"TheOtherRoomModel", "stateOf", "(J)I"⟩, 43) := ⟨⟨by decide +kernel, by decide +kernel⟩, List.mem_of_getElem? (i := 1000) (by decide +kernel), List.mem_of_getElem? (i := 1481) (by decide +kernel), List.mem_of_getElem? (i := 1482) (by decide +kernel)⟩
theorem lw_p71 : lw_okq (⟨"TheOtherRoomModel", "endLayer", "(LTheOtherRoomModel;II)V"⟩, 43) := ⟨⟨by decide +kernel, by decide +kernel⟩, List.mem_of_getElem? (i := 1000) (by decide +kernel), List.mem_of_getElem? (i := 1486) (by decide +kernel), List.mem_of_getElem? (i := 1487) (by decide +kernel)⟩
theorem lw_p72 : lw_okq (⟨"TheOtherRoomModel", "takeKey", "(J)V"⟩, 43) := ⟨⟨by decide +kernel, by decide +kernel⟩, List.mem_of_getElem? (i := 1000) (by decide +kernel), List.mem_of_getElem? (i := 1490) (by decide +kernel), List.mem_of_getElem? (i := 1491) (by decide +kernel)⟩
theorem lw_p73 : lw_okq (⟨"TheOtherRoomModel", "nextLayer", "(LTheOtherRoomModel;II)I"⟩, 43) := ⟨⟨by decide +kernel, by decide +kernel⟩, List.mem_of_getElem? (i := 1000) (by decide +kernel), List.mem_of_getElem? (i := 1495) (by decide +kernel), List.mem_of_getElem? (i := 1496) (by decide +kernel)⟩
theorem lw_p74 : lw_okq (⟨"TheOtherRoomModel", "carryAll", "(LTheOtherRoomModel;IIII)V"⟩, 43) := ⟨⟨by decide +kernel, by decide +kernel⟩, List.mem_of_getElem? (i := 1000) (by decide +kernel), List.mem_of_getElem? (i := 1499) (by decide +kernel), List.mem_of_getElem? (i := 1500) (by decide +kernel)⟩
theorem lw_p75 : lw_okq (⟨"TheOtherRoomModel", "isTold", "(II)Z"⟩, 43) := ⟨⟨by decide +kernel, by decide +kernel⟩, List.mem_of_getElem? (i := 1000) (by decide +kernel), List.mem_of_getElem? (i := 1519) (by decide +kernel), List.mem_of_getElem? (i := 1520) (by decide +kernel)⟩
theorem lw_p76 : lw_okq (⟨"TheOtherRoomModel", "fixedBut", "(II)J"⟩, 43) := ⟨⟨by decide +kernel, by decide +kernel⟩, List.mem_of_getElem? (i := 1000) (by decide +kernel), List.mem_of_getElem? (i := 1539) (by decide +kernel), List.mem_of_getElem? (i := 1540) (by decide +kernel)⟩
theorem lw_p77 : lw_okq (⟨"TheOtherRoomModel", "fixedOut", "(II)I"⟩, 43) := ⟨⟨by decide +kernel, by decide +kernel⟩, List.mem_of_getElem? (i := 1000) (by decide +kernel), List.mem_of_getElem? (i := 1547) (by decide +kernel), List.mem_of_getElem? (i := 1548) (by decide +kernel)⟩
theorem lw_p78 : lw_okq (⟨"TheOtherRoomModel", "takeFlat", "(LTheOtherRoomModel;II)V"⟩, 43) := ⟨⟨by decide +kernel, by decide +kernel⟩, List.mem_of_getElem? (i := 1000) (by decide +kernel), List.mem_of_getElem? (i := 1555) (by decide +kernel), List.mem_of_getElem? (i := 1556) (by decide +kernel)⟩
theorem lw_p79 : lw_okq (⟨"TheOtherRoomModel", "takeFrom", "(LTheOtherRoomModel;)V"⟩, 43) := ⟨⟨by decide +kernel, by decide +kernel⟩, List.mem_of_getElem? (i := 1000) (by decide +kernel), List.mem_of_getElem? (i := 1575) (by decide +kernel), List.mem_of_getElem? (i := 1576) (by decide +kernel)⟩
def lw_privs_5 : List (MethodName × Nat) := [(⟨"TheOtherRoomModel", "tryRow", "(III)I"⟩, 43), (⟨"TheOtherRoomModel", "waitsOf", "(III)I"⟩, 43), (⟨"TheOtherRoomModel", "ringsOf", "(II)I"⟩, 43), (⟨"TheOtherRoomModel", "fewestOf", "(III)I"⟩, 43), (⟨"TheOtherRoomModel", "search", "(III)V"⟩, 43), (⟨"TheOtherRoomModel", "beginSearch", "(LTheOtherRoomModel;III)V"⟩, 43), (⟨"TheOtherRoomModel", "stateOf", "(J)I"⟩, 43), (⟨"TheOtherRoomModel", "endLayer", "(LTheOtherRoomModel;II)V"⟩, 43), (⟨"TheOtherRoomModel", "takeKey", "(J)V"⟩, 43), (⟨"TheOtherRoomModel", "nextLayer", "(LTheOtherRoomModel;II)I"⟩, 43), (⟨"TheOtherRoomModel", "carryAll", "(LTheOtherRoomModel;IIII)V"⟩, 43), (⟨"TheOtherRoomModel", "isTold", "(II)Z"⟩, 43), (⟨"TheOtherRoomModel", "fixedBut", "(II)J"⟩, 43), (⟨"TheOtherRoomModel", "fixedOut", "(II)I"⟩, 43), (⟨"TheOtherRoomModel", "takeFlat", "(LTheOtherRoomModel;II)V"⟩, 43), (⟨"TheOtherRoomModel", "takeFrom", "(LTheOtherRoomModel;)V"⟩, 43)]
theorem lw_r5 : ∀ q ∈ lw_privs_5, lw_okq q := List.forall_mem_cons.mpr ⟨lw_p64, List.forall_mem_cons.mpr ⟨lw_p65, List.forall_mem_cons.mpr ⟨lw_p66, List.forall_mem_cons.mpr ⟨lw_p67, List.forall_mem_cons.mpr ⟨lw_p68, List.forall_mem_cons.mpr ⟨lw_p69, List.forall_mem_cons.mpr ⟨lw_p70, List.forall_mem_cons.mpr ⟨lw_p71, List.forall_mem_cons.mpr ⟨lw_p72, List.forall_mem_cons.mpr ⟨lw_p73, List.forall_mem_cons.mpr ⟨lw_p74, List.forall_mem_cons.mpr ⟨lw_p75, List.forall_mem_cons.mpr ⟨lw_p76, List.forall_mem_cons.mpr ⟨lw_p77, List.forall_mem_cons.mpr ⟨lw_p78, List.forall_mem_cons.mpr ⟨lw_p79, fun _ h => absurd h List.not_mem_nil⟩⟩⟩⟩⟩⟩⟩⟩⟩⟩⟩⟩⟩⟩⟩⟩
def lw_privs : List (MethodName × Nat) := lw_privs_1 ++ (lw_privs_2 ++ (lw_privs_3 ++ (lw_privs_4 ++ (lw_privs_5))))
def lw_tbl : List Cond := k2_sels lw_privs ++ tables_1
theorem lw_privs_ok : ∀ q ∈ lw_privs, lw_okq q := by
  show ∀ q ∈ lw_privs_1 ++ (lw_privs_2 ++ (lw_privs_3 ++ (lw_privs_4 ++ (lw_privs_5)))), lw_okq q
  exact List.forall_mem_append.mpr ⟨lw_r1, List.forall_mem_append.mpr ⟨lw_r2, List.forall_mem_append.mpr ⟨lw_r3, List.forall_mem_append.mpr ⟨lw_r4, lw_r5⟩⟩⟩⟩

/-- the words of the tables that a callee keeps -/
def ww_ok : List Cond := lw_tbl.filter goodWord
theorem ww_in {w : Cond} (h : w ∈ ww_ok) : w ∈ lw_tbl := (List.mem_filter.mp h).1
theorem ww_good : ∀ w ∈ ww_ok, goodWord w = true := fun _ h => (List.mem_filter.mp h).2
/-- a word by its place -/
theorem ww_at {w : Cond} (i : Nat) (h : (lw_tbl[i]? == some w && goodWord w) = true) : w ∈ ww_ok := by
  rw [Bool.and_eq_true] at h
  exact List.mem_filter.mpr ⟨List.mem_of_getElem? (eq_of_beq h.1), h.2⟩
theorem ww_t {w : Cond} (i : Nat) (h : (tables_1[i]? == some w && goodWord w) = true) : w ∈ ww_ok := by
  rw [Bool.and_eq_true] at h
  exact List.mem_filter.mpr ⟨List.mem_append_right _ (List.mem_of_getElem? (eq_of_beq h.1)), h.2⟩
theorem ww_p {w : Cond} (i : Nat) (h : ((k2_sels lw_privs)[i]? == some w && goodWord w) = true) : w ∈ ww_ok := by
  rw [Bool.and_eq_true] at h
  exact List.mem_filter.mpr ⟨List.mem_append_left _ (List.mem_of_getElem? (eq_of_beq h.1)), h.2⟩
theorem lw_t {w : Cond} (i : Nat) (h : (tables_1[i]? == some w) = true) : w ∈ lw_tbl := List.mem_append_right _ (List.mem_of_getElem? (eq_of_beq h))
/-- words by their places, many at once -/
theorem ww_ts (ws : List Cond) (is : List Nat) (h : (ws.map some == is.map (fun i => tables_1[i]?) && ws.all goodWord) = true) : ∀ w ∈ ws, w ∈ ww_ok := by
  rw [Bool.and_eq_true] at h
  have h1 := eq_of_beq h.1
  intro w hw
  have h2 : some w ∈ is.map (fun i => tables_1[i]?) := by rw [← h1]; exact List.mem_map.mpr ⟨w, hw, rfl⟩
  obtain ⟨i, -, hi⟩ := List.mem_map.mp h2
  exact List.mem_filter.mpr ⟨List.mem_append_right _ (List.mem_of_getElem? hi), List.all_eq_true.mp h.2 w hw⟩
def RR_0 : String := "TheOtherRoom"
def FF_0 : u_T := fun k => match k with
  | 0 => ("TheOtherRoom", "flats", "[LTheOtherRoom$Flat;", true)
  | 1 => ("TheOtherRoom", "kept", "[LTheOtherRoom$Flat;", true)
  | 2 => ("TheOtherRoom", "shelves", "[LTheOtherRoom$Shelf;", true)
  | 3 => ("TheOtherRoom", "tape", "LTheOtherRoom$Tape;", true)
  | 4 => ("TheOtherRoom", "walk", "LTheOtherRoom$Walk;", true)
  | 5 => ("TheOtherRoom", "asked", "LTheOtherRoom$Search;", true)
  | 6 => ("TheOtherRoom", "underWay", "LTheOtherRoom$Search;", true)
  | 7 => ("TheOtherRoom", "begun", "LTheOtherRoom$Flat;", true)
  | 8 => ("TheOtherRoom", "scratch", "[I", true)
  | 9 => ("TheOtherRoom", "refusals", "[I", true)
  | 10 => ("TheOtherRoom", "flatCount", "I", false)
  | 11 => ("TheOtherRoom", "keptCount", "I", false)
  | _ => ("TheOtherRoom", "searching", "Z", false)
def tt_0 : Nat → FieldType := fun k => match k with
  | 0 => .array (.object "TheOtherRoom$Flat")
  | 1 => .array (.object "TheOtherRoom$Flat")
  | 2 => .array (.object "TheOtherRoom$Shelf")
  | 3 => .object "TheOtherRoom$Tape"
  | 4 => .object "TheOtherRoom$Walk"
  | 5 => .object "TheOtherRoom$Search"
  | 6 => .object "TheOtherRoom$Search"
  | 7 => .object "TheOtherRoom$Flat"
  | 8 => .array .int
  | 9 => .array .int
  | 10 => .int
  | 11 => .int
  | _ => .boolean
theorem nn_0 : ∀ a, a < 13 → ∀ b, b < 13 → a ≠ b → (FF_0 a).2.1 ≠ (FF_0 b).2.1 := by decide +kernel
theorem tk_0 : ∀ k, k < 13 → parseFieldDescriptor (FF_0 k).2.2.1 = some (tt_0 k) := by decide +kernel
theorem ii_0 : ∀ w ∈ u_ws RR_0 FF_0 13, w ∈ ww_ok := ww_ts _ [318, 320, 322, 324, 326, 328, 330, 332, 334, 336, 338, 340, 342] (by decide +kernel)
theorem in_0 : Cond.instantiable RR_0 13 ∈ ww_ok := ww_t 19 (by decide +kernel)
theorem iz_0 : Cond.initialized RR_0 ∈ ww_ok := ww_t 1 (by decide +kernel)
def RR_1 : String := "TheOtherRoom$Flat"
def FF_1 : u_T := fun k => match k with
  | 0 => ("TheOtherRoom$Flat", "width", "I", false)
  | 1 => ("TheOtherRoom$Flat", "height", "I", false)
  | 2 => ("TheOtherRoom$Flat", "floor", "J", false)
  | 3 => ("TheOtherRoom$Flat", "count", "I", false)
  | 4 => ("TheOtherRoom$Flat", "hands", "I", false)
  | 5 => ("TheOtherRoom$Flat", "landing", "I", false)
  | 6 => ("TheOtherRoom$Flat", "door", "I", false)
  | 7 => ("TheOtherRoom$Flat", "carriesMade", "I", false)
  | 8 => ("TheOtherRoom$Flat", "stepsMade", "I", false)
  | 9 => ("TheOtherRoom$Flat", "wide", "[I", true)
  | 10 => ("TheOtherRoom$Flat", "high", "[I", true)
  | 11 => ("TheOtherRoom$Flat", "heavy", "[I", true)
  | 12 => ("TheOtherRoom$Flat", "fixed", "[Z", true)
  | 13 => ("TheOtherRoom$Flat", "plain", "[Z", true)
  | 14 => ("TheOtherRoom$Flat", "turnedAtFirst", "[I", true)
  | 15 => ("TheOtherRoom$Flat", "stands", "[I", true)
  | _ => ("TheOtherRoom$Flat", "drawings", "[[I", true)
def tt_1 : Nat → FieldType := fun k => match k with
  | 0 => .int
  | 1 => .int
  | 2 => .long
  | 3 => .int
  | 4 => .int
  | 5 => .int
  | 6 => .int
  | 7 => .int
  | 8 => .int
  | 9 => .array .int
  | 10 => .array .int
  | 11 => .array .int
  | 12 => .array .boolean
  | 13 => .array .boolean
  | 14 => .array .int
  | 15 => .array .int
  | _ => .array (.array .int)
theorem nn_1 : ∀ a, a < 17 → ∀ b, b < 17 → a ≠ b → (FF_1 a).2.1 ≠ (FF_1 b).2.1 := by decide +kernel
theorem tk_1 : ∀ k, k < 17 → parseFieldDescriptor (FF_1 k).2.2.1 = some (tt_1 k) := by decide +kernel
theorem ii_1 : ∀ w ∈ u_ws RR_1 FF_1 17, w ∈ ww_ok := ww_ts _ [243, 245, 247, 249, 251, 253, 255, 257, 259, 261, 263, 265, 267, 269, 271, 273, 275] (by decide +kernel)
theorem in_1 : Cond.instantiable RR_1 17 ∈ ww_ok := ww_t 181 (by decide +kernel)
theorem iz_1 : Cond.initialized RR_1 ∈ ww_ok := ww_t 5 (by decide +kernel)
def RR_2 : String := "TheOtherRoom$Search"
def FF_2 : u_T := fun k => match k with
  | 0 => ("TheOtherRoom$Search", "flatNumber", "I", false)
  | 1 => ("TheOtherRoom$Search", "drawing", "I", false)
  | 2 => ("TheOtherRoom$Search", "layer", "I", false)
  | 3 => ("TheOtherRoom$Search", "count", "I", false)
  | 4 => ("TheOtherRoom$Search", "outcome", "I", false)
  | 5 => ("TheOtherRoom$Search", "leastSteps", "I", false)
  | 6 => ("TheOtherRoom$Search", "firstCarry", "I", false)
  | 7 => ("TheOtherRoom$Search", "layerStart", "I", false)
  | 8 => ("TheOtherRoom$Search", "things", "I", false)
  | 9 => ("TheOtherRoom$Search", "states", "[J", true)
  | 10 => ("TheOtherRoom$Search", "costs", "[I", true)
  | 11 => ("TheOtherRoom$Search", "firsts", "[I", true)
  | 12 => ("TheOtherRoom$Search", "table", "[I", true)
  | 13 => ("TheOtherRoom$Search", "places", "[I", true)
  | _ => ("TheOtherRoom$Search", "walk", "LTheOtherRoom$Walk;", true)
def tt_2 : Nat → FieldType := fun k => match k with
  | 0 => .int
  | 1 => .int
  | 2 => .int
  | 3 => .int
  | 4 => .int
  | 5 => .int
  | 6 => .int
  | 7 => .int
  | 8 => .int
  | 9 => .array .long
  | 10 => .array .int
  | 11 => .array .int
  | 12 => .array .int
  | 13 => .array .int
  | _ => .object "TheOtherRoom$Walk"
theorem nn_2 : ∀ a, a < 15 → ∀ b, b < 15 → a ≠ b → (FF_2 a).2.1 ≠ (FF_2 b).2.1 := by decide +kernel
theorem tk_2 : ∀ k, k < 15 → parseFieldDescriptor (FF_2 k).2.2.1 = some (tt_2 k) := by decide +kernel
theorem ii_2 : ∀ w ∈ u_ws RR_2 FF_2 15, w ∈ ww_ok := ww_ts _ [148, 150, 152, 154, 156, 158, 160, 162, 164, 166, 168, 170, 172, 174, 176] (by decide +kernel)
theorem in_2 : Cond.instantiable RR_2 15 ∈ ww_ok := ww_t 119 (by decide +kernel)
theorem iz_2 : Cond.initialized RR_2 ∈ ww_ok := ww_t 4 (by decide +kernel)
def RR_3 : String := "TheOtherRoom$Shelf"
def FF_3 : u_T := fun k => match k with
  | 0 => ("TheOtherRoom$Shelf", "holds", "I", false)
  | 1 => ("TheOtherRoom$Shelf", "size", "I", false)
  | 2 => ("TheOtherRoom$Shelf", "elements", "[J", true)
  | 3 => ("TheOtherRoom$Shelf", "thing", "I", false)
  | _ => ("TheOtherRoom$Shelf", "told", "I", false)
def tt_3 : Nat → FieldType := fun k => match k with
  | 0 => .int
  | 1 => .int
  | 2 => .array .long
  | 3 => .int
  | _ => .int
theorem nn_3 : ∀ a, a < 5 → ∀ b, b < 5 → a ≠ b → (FF_3 a).2.1 ≠ (FF_3 b).2.1 := by decide +kernel
theorem tk_3 : ∀ k, k < 5 → parseFieldDescriptor (FF_3 k).2.2.1 = some (tt_3 k) := by decide +kernel
theorem ii_3 : ∀ w ∈ u_ws RR_3 FF_3 5, w ∈ ww_ok := ww_ts _ [294, 296, 298, 300, 302] (by decide +kernel)
theorem in_3 : Cond.instantiable RR_3 5 ∈ ww_ok := ww_t 279 (by decide +kernel)
theorem iz_3 : Cond.initialized RR_3 ∈ ww_ok := ww_t 6 (by decide +kernel)
def RR_4 : String := "TheOtherRoom$Tape"
def FF_4 : u_T := fun k => match k with
  | 0 => ("TheOtherRoom$Tape", "size", "I", false)
  | 1 => ("TheOtherRoom$Tape", "bytes", "[B", true)
  | 2 => ("TheOtherRoom$Tape", "token", "I", false)
  | 3 => ("TheOtherRoom$Tape", "start", "I", false)
  | 4 => ("TheOtherRoom$Tape", "end", "I", false)
  | _ => ("TheOtherRoom$Tape", "fault", "I", false)
def tt_4 : Nat → FieldType := fun k => match k with
  | 0 => .int
  | 1 => .array .byte
  | 2 => .int
  | 3 => .int
  | 4 => .int
  | _ => .int
theorem nn_4 : ∀ a, a < 6 → ∀ b, b < 6 → a ≠ b → (FF_4 a).2.1 ≠ (FF_4 b).2.1 := by decide +kernel
theorem tk_4 : ∀ k, k < 6 → parseFieldDescriptor (FF_4 k).2.2.1 = some (tt_4 k) := by decide +kernel
theorem ii_4 : ∀ w ∈ u_ws RR_4 FF_4 6, w ∈ ww_ok := ww_ts _ [43, 45, 47, 49, 51, 53] (by decide +kernel)
theorem in_4 : Cond.instantiable RR_4 6 ∈ ww_ok := ww_t 31 (by decide +kernel)
theorem iz_4 : Cond.initialized RR_4 ∈ ww_ok := ww_t 2 (by decide +kernel)
def RR_5 : String := "TheOtherRoom$Walk"
def FF_5 : u_T := fun k => match k with
  | 0 => ("TheOtherRoom$Walk", "width", "I", false)
  | 1 => ("TheOtherRoom$Walk", "notFirst", "J", false)
  | 2 => ("TheOtherRoom$Walk", "notLast", "J", false)
  | 3 => ("TheOtherRoom$Walk", "legal", "J", false)
  | 4 => ("TheOtherRoom$Walk", "legalTurned", "J", false)
  | 5 => ("TheOtherRoom$Walk", "doors", "J", false)
  | 6 => ("TheOtherRoom$Walk", "doorsTurned", "J", false)
  | 7 => ("TheOtherRoom$Walk", "comeIn", "J", false)
  | 8 => ("TheOtherRoom$Walk", "comeInTurned", "J", false)
  | 9 => ("TheOtherRoom$Walk", "mayTurn", "Z", false)
  | 10 => ("TheOtherRoom$Walk", "room", "Z", false)
  | 11 => ("TheOtherRoom$Walk", "seen", "J", false)
  | 12 => ("TheOtherRoom$Walk", "seenTurned", "J", false)
  | 13 => ("TheOtherRoom$Walk", "seenLanding", "Z", false)
  | 14 => ("TheOtherRoom$Walk", "fresh", "J", false)
  | 15 => ("TheOtherRoom$Walk", "freshTurned", "J", false)
  | _ => ("TheOtherRoom$Walk", "freshLanding", "Z", false)
def tt_5 : Nat → FieldType := fun k => match k with
  | 0 => .int
  | 1 => .long
  | 2 => .long
  | 3 => .long
  | 4 => .long
  | 5 => .long
  | 6 => .long
  | 7 => .long
  | 8 => .long
  | 9 => .boolean
  | 10 => .boolean
  | 11 => .long
  | 12 => .long
  | 13 => .boolean
  | 14 => .long
  | 15 => .long
  | _ => .boolean
theorem nn_5 : ∀ a, a < 17 → ∀ b, b < 17 → a ≠ b → (FF_5 a).2.1 ≠ (FF_5 b).2.1 := by decide +kernel
theorem tk_5 : ∀ k, k < 17 → parseFieldDescriptor (FF_5 k).2.2.1 = some (tt_5 k) := by decide +kernel
theorem ii_5 : ∀ w ∈ u_ws RR_5 FF_5 17, w ∈ ww_ok := ww_ts _ [83, 85, 87, 89, 91, 93, 95, 97, 99, 101, 103, 105, 107, 109, 111, 113, 115] (by decide +kernel)
theorem in_5 : Cond.instantiable RR_5 17 ∈ ww_ok := ww_t 58 (by decide +kernel)
theorem iz_5 : Cond.initialized RR_5 ∈ ww_ok := ww_t 3 (by decide +kernel)
def RR_6 : String := "TheOtherRoomModel"
def FF_6 : u_T := fun k => match k with
  | 0 => ("TheOtherRoomModel", "shelf", "[I", true)
  | 1 => ("TheOtherRoomModel", "rowSort", "[I", true)
  | 2 => ("TheOtherRoomModel", "rowSize", "[I", true)
  | 3 => ("TheOtherRoomModel", "rows", "[[J", true)
  | 4 => ("TheOtherRoomModel", "moved", "[J", true)
  | 5 => ("TheOtherRoomModel", "moveKind", "[I", true)
  | 6 => ("TheOtherRoomModel", "moveOf", "[I", true)
  | 7 => ("TheOtherRoomModel", "moveTold", "[I", true)
  | 8 => ("TheOtherRoomModel", "tape", "[I", true)
  | 9 => ("TheOtherRoomModel", "tapeSize", "I", false)
  | 10 => ("TheOtherRoomModel", "refused", "[I", true)
  | 11 => ("TheOtherRoomModel", "flats", "I", false)
  | 12 => ("TheOtherRoomModel", "flat", "[[I", true)
  | 13 => ("TheOtherRoomModel", "floor", "[J", true)
  | 14 => ("TheOtherRoomModel", "thing", "[[I", true)
  | 15 => ("TheOtherRoomModel", "place", "[[I", true)
  | 16 => ("TheOtherRoomModel", "drawings", "[[I", true)
  | 17 => ("TheOtherRoomModel", "kept", "LTheOtherRoomModel;", false)
  | 18 => ("TheOtherRoomModel", "keys", "[J", true)
  | 19 => ("TheOtherRoomModel", "leastOf", "[I", true)
  | 20 => ("TheOtherRoomModel", "firstOf", "[I", true)
  | 21 => ("TheOtherRoomModel", "hashed", "[I", true)
  | 22 => ("TheOtherRoomModel", "many", "I", false)
  | 23 => ("TheOtherRoomModel", "layerFrom", "I", false)
  | 24 => ("TheOtherRoomModel", "layer", "I", false)
  | 25 => ("TheOtherRoomModel", "state", "I", false)
  | 26 => ("TheOtherRoomModel", "foundLeast", "I", false)
  | 27 => ("TheOtherRoomModel", "foundFirst", "I", false)
  | 28 => ("TheOtherRoomModel", "searchFlat", "I", false)
  | 29 => ("TheOtherRoomModel", "searchDrawing", "I", false)
  | 30 => ("TheOtherRoomModel", "own", "LTheOtherRoomModel;", true)
  | 31 => ("TheOtherRoomModel", "far", "[I", true)
  | 32 => ("TheOtherRoomModel", "queue", "[I", true)
  | 33 => ("TheOtherRoomModel", "queued", "I", false)
  | 34 => ("TheOtherRoomModel", "at", "I", false)
  | 35 => ("TheOtherRoomModel", "token", "I", false)
  | 36 => ("TheOtherRoomModel", "from", "I", false)
  | 37 => ("TheOtherRoomModel", "figures", "J", false)
  | 38 => ("TheOtherRoomModel", "fault", "I", false)
  | 39 => ("TheOtherRoomModel", "number", "I", false)
  | 40 => ("TheOtherRoomModel", "tried", "[I", true)
  | 41 => ("TheOtherRoomModel", "triedSteps", "I", false)
  | _ => ("TheOtherRoomModel", "where", "[I", true)
def tt_6 : Nat → FieldType := fun k => match k with
  | 0 => .array .int
  | 1 => .array .int
  | 2 => .array .int
  | 3 => .array (.array .long)
  | 4 => .array .long
  | 5 => .array .int
  | 6 => .array .int
  | 7 => .array .int
  | 8 => .array .int
  | 9 => .int
  | 10 => .array .int
  | 11 => .int
  | 12 => .array (.array .int)
  | 13 => .array .long
  | 14 => .array (.array .int)
  | 15 => .array (.array .int)
  | 16 => .array (.array .int)
  | 17 => .object "TheOtherRoomModel"
  | 18 => .array .long
  | 19 => .array .int
  | 20 => .array .int
  | 21 => .array .int
  | 22 => .int
  | 23 => .int
  | 24 => .int
  | 25 => .int
  | 26 => .int
  | 27 => .int
  | 28 => .int
  | 29 => .int
  | 30 => .object "TheOtherRoomModel"
  | 31 => .array .int
  | 32 => .array .int
  | 33 => .int
  | 34 => .int
  | 35 => .int
  | 36 => .int
  | 37 => .long
  | 38 => .int
  | 39 => .int
  | 40 => .array .int
  | 41 => .int
  | _ => .array .int
theorem nn_6 : ∀ a, a < 43 → ∀ b, b < 43 → a ≠ b → (FF_6 a).2.1 ≠ (FF_6 b).2.1 := by decide +kernel
theorem tk_6 : ∀ k, k < 43 → parseFieldDescriptor (FF_6 k).2.2.1 = some (tt_6 k) := by decide +kernel
theorem ii_6 : ∀ w ∈ u_ws RR_6 FF_6 43, w ∈ ww_ok := ww_ts _ [1055, 1057, 1059, 1061, 1063, 1065, 1067, 1069, 1071, 1073, 1075, 1077, 1079, 1081, 1083, 1085, 1087, 1089, 1091, 1093, 1095, 1097, 1099, 1101, 1103, 1105, 1107, 1109, 1111, 1113, 1115, 1117, 1119, 1121, 1123, 1125, 1127, 1129, 1131, 1133, 1135, 1137, 1139] (by decide +kernel)
theorem in_6 : Cond.instantiable RR_6 43 ∈ ww_ok := ww_t 1000 (by decide +kernel)
theorem iz_6 : Cond.initialized RR_6 ∈ ww_ok := ww_t 7 (by decide +kernel)
abbrev classes : List vw_C := [(RR_0, FF_0, 13), (RR_1, FF_1, 17), (RR_2, FF_2, 15), (RR_3, FF_3, 5), (RR_4, FF_4, 6), (RR_5, FF_5, 17), (RR_6, FF_6, 43)]
def cn_of (k : Nat) : String := ["TheOtherRoom", "TheOtherRoom$Flat", "TheOtherRoom$Search", "TheOtherRoom$Shelf", "TheOtherRoom$Tape", "TheOtherRoom$Walk", "TheOtherRoomModel", "java/util/Arrays", "TheOtherRoomLaw"].getD k ""
end
section
/-! ===== abstract runs: an int or a long is known to lie between two bounds, a cell is known by its place in the world ===== -/
abbrev ai_V : Type := Option Nat ⊕ ((Int × Int) ⊕ (Int × Int))
abbrev ai_C : Type := Nat × List ai_V
abbrev ai_W : Type := List ai_C
abbrev ai_Ls : Type := List (Nat × ai_V)
def ai_le : Int → Int → Bool
  | .ofNat a, .ofNat b => Nat.ble a b
  | .negSucc a, .negSucc b => Nat.ble b a
  | .negSucc _, .ofNat _ => true
  | .ofNat _, .negSucc _ => false
theorem ai_le_iff (a b : Int) : ai_le a b = true ↔ a ≤ b := by
  cases a with
  | ofNat a =>
    cases b with
    | ofNat b =>
      show Nat.ble a b = true ↔ ((a : Nat) : Int) ≤ ((b : Nat) : Int)
      rw [Nat.ble_eq]
      omega
    | negSucc b =>
      show false = true ↔ ((a : Nat) : Int) ≤ Int.negSucc b
      rw [Int.negSucc_eq]
      constructor
      · intro h; cases h
      · intro h; omega
  | negSucc a =>
    cases b with
    | ofNat b =>
      show true = true ↔ Int.negSucc a ≤ ((b : Nat) : Int)
      rw [Int.negSucc_eq]
      constructor
      · intro _; omega
      · intro _; rfl
    | negSucc b =>
      show Nat.ble b a = true ↔ Int.negSucc a ≤ Int.negSucc b
      rw [Nat.ble_eq, Int.negSucc_eq, Int.negSucc_eq]
      omega
def ai_lt (a b : Int) : Bool := !(ai_le b a)
theorem ai_lt_iff (a b : Int) : ai_lt a b = true ↔ a < b := by
  unfold ai_lt
  have h := ai_le_iff b a
  cases hb : ai_le b a with
  | true =>
    have := h.mp hb
    constructor
    · intro q; cases q
    · intro q; omega
  | false =>
    constructor
    · intro _
      by_cases q : b ≤ a
      · rw [h.mpr q] at hb; cases hb
      · omega
    · intro _; rfl
def ai_tI : Int × Int := (-2147483648, 2147483647)
def ai_tL : Int × Int := (-9223372036854775808, 9223372036854775807)
/-- what a computed int lies between, when it may go round -/
def ai_nm (lo hi : Int) : Int × Int :=
  bif ai_le (-2147483648) lo && ai_le hi 2147483647 then (lo, hi) else
  bif ai_le (-2147483648) (lo + 4294967296) && ai_le (hi + 4294967296) 2147483647 then (lo + 4294967296, hi + 4294967296) else
  bif ai_le (-2147483648) (lo - 4294967296) && ai_le (hi - 4294967296) 2147483647 then (lo - 4294967296, hi - 4294967296) else ai_tI
theorem ai_bmod (v : Int) : v.bmod (2 ^ 32) = if v % 4294967296 < 2147483648 then v % 4294967296 else v % 4294967296 - 4294967296 := by
  unfold Int.bmod
  rfl
theorem ai_nm_ok {lo hi v : Int} (h1 : lo ≤ v) (h2 : v ≤ hi) : (ai_nm lo hi).1 ≤ v.bmod (2 ^ 32) ∧ v.bmod (2 ^ 32) ≤ (ai_nm lo hi).2 := by
  rw [ai_bmod]
  unfold ai_nm
  cases h3 : (ai_le (-2147483648) lo && ai_le hi 2147483647) with
  | true =>
    rw [Bool.and_eq_true, ai_le_iff, ai_le_iff] at h3
    simp only [cond_true]
    split <;> omega
  | false =>
    simp only [cond_false]
    cases h4 : (ai_le (-2147483648) (lo + 4294967296) && ai_le (hi + 4294967296) 2147483647) with
    | true =>
      rw [Bool.and_eq_true, ai_le_iff, ai_le_iff] at h4
      simp only [cond_true]
      split <;> omega
    | false =>
      simp only [cond_false]
      cases h5 : (ai_le (-2147483648) (lo - 4294967296) && ai_le (hi - 4294967296) 2147483647) with
      | true =>
        rw [Bool.and_eq_true, ai_le_iff, ai_le_iff] at h5
        simp only [cond_true]
        split <;> omega
      | false =>
        simp only [cond_false]
        show (-2147483648 : Int) ≤ _ ∧ _ ≤ (2147483647 : Int)
        split <;> omega
theorem ai_tI_ok (x : Int32) : ai_tI.1 ≤ x.toInt ∧ x.toInt ≤ ai_tI.2 := by
  have h1 := Int32.le_toInt x
  have h2 := Int32.toInt_lt x
  show (-2147483648 : Int) ≤ _ ∧ _ ≤ (2147483647 : Int)
  omega
theorem ai_tL_ok (x : Int64) : ai_tL.1 ≤ x.toInt ∧ x.toInt ≤ ai_tL.2 := by
  have h1 := Int64.le_toInt x
  have h2 := Int64.toInt_lt x
  show (-9223372036854775808 : Int) ≤ _ ∧ _ ≤ (9223372036854775807 : Int)
  omega
/-- an exact int that is an index -/
def ai_ix (q : Int × Int) : Option Nat := match q.1 with
  | .ofNat n => bif ai_le q.2 (.ofNat n) && Nat.ble n 100000 then some n else none
  | .negSucc _ => none
theorem ai_ix_ok {q : Int × Int} {n : Nat} {x : Int32} (h : ai_ix q = some n) (h1 : q.1 ≤ x.toInt) (h2 : x.toInt ≤ q.2) : x.toInt = (n : Int) ∧ x.toNatClampNeg = n ∧ ¬ x < 0 ∧ n ≤ 100000 := by
  obtain ⟨a, z⟩ := q
  cases a with
  | negSucc a => cases h
  | ofNat a =>
    unfold ai_ix at h
    simp only at h h1 h2
    cases hc : (ai_le z (.ofNat a) && Nat.ble a 100000) with
    | false => rw [hc] at h; cases h
    | true =>
      rw [hc] at h
      have hn : a = n := Option.some.inj h
      subst hn
      rw [Bool.and_eq_true, ai_le_iff, Nat.ble_eq] at hc
      have h1' : (a : Int) ≤ x.toInt := h1
      have h3 : z ≤ (a : Int) := hc.1
      have e : x.toInt = (a : Int) := by omega
      refine ⟨e, ?_, ?_, hc.2⟩
      · show x.toInt.toNat = a
        rw [e]; rfl
      · rw [Int32.lt_iff_toInt_lt, e]
        show ¬ (a : Int) < 0
        omega
theorem ai_in {x : Int32} {n N : Nat} (h : x.toNatClampNeg = n ∧ ¬ x < 0) (hn : n < N) : vp_in x N := by
  unfold vp_in
  rintro (q | q)
  · exact h.2 q
  · omega
/-- a value of the machine, and what is known of it: 0 the script, 1 some cell, k + 2 the world's cell k -/
def ai_RV (b : Nat) (ad : List Nat) : ai_V → Value → Prop
  | .inl none, v => v = .null
  | .inl (some 0), v => v = .ref b
  | .inl (some 1), v => ∃ a : Nat, v = .ref a
  | .inl (some (k + 2)), v => ∃ a : Nat, ad[k]? = some a ∧ v = .ref a
  | .inr (.inl q), v => ∃ x : Int32, v = .int x ∧ q.1 ≤ x.toInt ∧ x.toInt ≤ q.2
  | .inr (.inr q), v => ∃ x : Int64, v = .long x ∧ q.1 ≤ x.toInt ∧ x.toInt ≤ q.2
def ai_RS (b : Nat) (ad : List Nat) : List ai_V → List Value → Prop
  | [], [] => True
  | x :: S, v :: st => ai_RV b ad x v ∧ ai_RS b ad S st
  | _, _ => False
theorem ai_get_pre {ad t : List Nat} {k a : Nat} (h : ad[k]? = some a) : (ad ++ t)[k]? = some a := by
  rw [List.getElem?_append_left (List.getElem?_eq_some_iff.mp h).1]
  exact h
theorem ai_RV.mono {b : Nat} {ad : List Nat} (t : List Nat) {x : ai_V} {v : Value} (h : ai_RV b ad x v) : ai_RV b (ad ++ t) x v := by
  match x, h with
  | .inl none, h => exact h
  | .inl (some 0), h => exact h
  | .inl (some 1), h => exact h
  | .inl (some (k + 2)), h =>
    obtain ⟨a, h1, h2⟩ := h
    exact ⟨a, ai_get_pre h1, h2⟩
  | .inr (.inl q), h => exact h
  | .inr (.inr q), h => exact h
theorem ai_RS.mono {b : Nat} {ad : List Nat} (t : List Nat) : ∀ {S : List ai_V} {st : List Value}, ai_RS b ad S st → ai_RS b (ad ++ t) S st
  | [], [], _ => trivial
  | _ :: _, _ :: _, h => ⟨h.1.mono t, ai_RS.mono t h.2⟩
  | [], _ :: _, h => h.elim
  | _ :: _, [], h => h.elim
theorem ai_RS.get {b : Nat} {ad : List Nat} : ∀ {S : List ai_V} {st : List Value} {j : Nat} {x : ai_V}, ai_RS b ad S st → S[j]? = some x → ∃ v, st[j]? = some v ∧ ai_RV b ad x v
  | [], _, j, x, _, h => by simp at h
  | _ :: _, [], _, _, h, _ => h.elim
  | y :: S, v :: st, 0, x, h, hj => by
    rw [List.getElem?_cons_zero] at hj
    cases hj
    exact ⟨v, rfl, h.1⟩
  | y :: S, v :: st, j + 1, x, h, hj => by
    rw [List.getElem?_cons_succ] at hj
    obtain ⟨u, h1, h2⟩ := ai_RS.get h.2 hj
    exact ⟨u, by rw [List.getElem?_cons_succ]; exact h1, h2⟩
theorem ai_RS.set {b : Nat} {ad : List Nat} : ∀ {S : List ai_V} {st : List Value} (j : Nat) {x : ai_V} {v : Value}, ai_RS b ad S st → ai_RV b ad x v → ai_RS b ad (S.set j x) (st.set j v)
  | [], [], _, _, _, _, _ => trivial
  | [], _ :: _, _, _, _, h, _ => h.elim
  | _ :: _, [], _, _, _, h, _ => h.elim
  | y :: S, u :: st, 0, x, v, h, hx => ⟨hx, h.2⟩
  | y :: S, u :: st, j + 1, x, v, h, hx => ⟨h.1, ai_RS.set j h.2 hx⟩
theorem ai_RS.len {b : Nat} {ad : List Nat} : ∀ {S : List ai_V} {st : List Value}, ai_RS b ad S st → S.length = st.length
  | [], [], _ => rfl
  | [], _ :: _, h => h.elim
  | _ :: _, [], h => h.elim
  | _ :: S, _ :: st, h => congrArg (· + 1) (ai_RS.len h.2)
def ai_cat : ai_V → Nat
  | .inr (.inr _) => 2
  | _ => 1
theorem ai_RV.cat {b : Nat} {ad : List Nat} {x : ai_V} {v : Value} (h : ai_RV b ad x v) : v.category = ai_cat x := by
  match x, h with
  | .inl none, h => cases h; rfl
  | .inl (some 0), h => cases h; rfl
  | .inl (some 1), h => obtain ⟨a, rfl⟩ := h; rfl
  | .inl (some (k + 2)), h => obtain ⟨a, -, rfl⟩ := h; rfl
  | .inr (.inl q), h => obtain ⟨a, rfl, -⟩ := h; rfl
  | .inr (.inr q), h => obtain ⟨a, rfl, -⟩ := h; rfl
/-- locals -/
def ai_RL (b : Nat) (ad : List Nat) (nL : Nat) (L : ai_Ls) (ls : Array Slot) : Prop := ∃ lv : List (Nat × Value), lv_has ls nL lv ∧ ∀ q ∈ L, ∃ v, (q.1, v) ∈ lv ∧ ai_RV b ad q.2 v
theorem ai_RL.mono {b : Nat} {ad : List Nat} (t : List Nat) {nL : Nat} {L : ai_Ls} {ls : Array Slot} (h : ai_RL b ad nL L ls) : ai_RL b (ad ++ t) nL L ls := by
  obtain ⟨lv, h1, h2⟩ := h
  refine ⟨lv, h1, fun q hq => ?_⟩
  obtain ⟨v, h3, h4⟩ := h2 q hq
  exact ⟨v, h3, h4.mono t⟩
def ai_lk : ai_Ls → Nat → Option ai_V
  | [], _ => none
  | q :: r, i => bif Nat.beq q.1 i then some q.2 else ai_lk r i
theorem ai_lk_mem : ∀ {L : ai_Ls} {i : Nat} {x : ai_V}, ai_lk L i = some x → (i, x) ∈ L
  | [], _, _, h => by cases h
  | q :: r, i, x, h => by
    unfold ai_lk at h
    cases hc : Nat.beq q.1 i with
    | true =>
      rw [hc] at h
      cases h
      have := Nat.eq_of_beq_eq_true hc
      subst this
      exact List.mem_cons_self
    | false =>
      rw [hc] at h
      exact List.mem_cons_of_mem _ (ai_lk_mem h)
theorem ai_RL.at {b : Nat} {ad : List Nat} {nL : Nat} {L : ai_Ls} {ls : Array Slot} {i : Nat} {x : ai_V} (h : ai_RL b ad nL L ls) (hi : ai_lk L i = some x) : ∃ v, ls[i]? = some (.val v) ∧ ai_RV b ad x v := by
  obtain ⟨lv, h1, h2⟩ := h
  obtain ⟨v, h3, h4⟩ := h2 _ (ai_lk_mem hi)
  exact ⟨v, h1.2.2 _ h3, h4⟩
def ai_st (L : ai_Ls) (i : Nat) (x : ai_V) : ai_Ls := (i, x) :: L.filter (fun q => !(Nat.beq q.1 i) && !(Nat.beq (q.1 + 1) i && Nat.beq (ai_cat q.2) 2))
theorem ai_beq (a b : Nat) : Nat.beq a b = (a == b) := by
  rw [Bool.eq_iff_iff, Nat.beq_eq]
  simp
theorem ai_RL.st {b : Nat} {ad : List Nat} {nL : Nat} {L : ai_Ls} {lv : List (Nat × Value)} {ls' : Array Slot} {i : Nat} {x : ai_V} {v : Value} (h2 : ∀ q ∈ L, ∃ v, (q.1, v) ∈ lv ∧ ai_RV b ad q.2 v) (hx : ai_RV b ad x v)
    (h1 : lv_has ls' nL ((i, v) :: lv.filter (fun q => !(q.1 == i) && !(q.1 + 1 == i && q.2.category == 2)))) : ai_RL b ad nL (ai_st L i x) ls' := by
  refine ⟨_, h1, fun q hq => ?_⟩
  unfold ai_st at hq
  rcases List.mem_cons.mp hq with rfl | hq
  · exact ⟨v, List.mem_cons_self, hx⟩
  · obtain ⟨hq1, hq2⟩ := List.mem_filter.mp hq
    obtain ⟨u, h3, h4⟩ := h2 q hq1
    refine ⟨u, List.mem_cons_of_mem _ (List.mem_filter.mpr ⟨h3, ?_⟩), h4⟩
    simp only [ai_beq] at hq2
    rw [h4.cat]
    exact hq2
def ai_len : Instr → Nat
  | .iload _ | .lload _ | .aload _ | .istore _ | .lstore _ | .astore _ | .bipush _ | .ldc _ | .newarray _ => 2
  | .sipush _ | .ldc2_w _ | .iinc _ _ | .ifCond _ _ | .if_icmp _ _ | .ifnull _ | .ifnonnull _ | .goto _ | .getfield _ | .putfield _ | .new _ | .anewarray _ | .invokevirtual _ | .invokestatic _ | .invokespecial _ => 3
  | .multianewarray _ _ => 4
  | _ => 1
/-- constants, locals, the stack -/
def ai_ldI (L : ai_Ls) (i : Nat) (S : List ai_V) : Option (ai_Ls × List ai_V) := match ai_lk L i with
  | some (.inr (.inl q)) => some (L, .inr (.inl q) :: S)
  | _ => none
def ai_ldL (L : ai_Ls) (i : Nat) (S : List ai_V) : Option (ai_Ls × List ai_V) := match ai_lk L i with
  | some (.inr (.inr q)) => some (L, .inr (.inr q) :: S)
  | _ => none
def ai_ldA (L : ai_Ls) (i : Nat) (S : List ai_V) : Option (ai_Ls × List ai_V) := match ai_lk L i with
  | some (.inl q) => some (L, .inl q :: S)
  | _ => none
def ai_stI (nL : Nat) (L : ai_Ls) (i : Nat) (S : List ai_V) : Option (ai_Ls × List ai_V) := match S with
  | .inr (.inl q) :: r => bif Nat.blt i nL then some (ai_st L i (.inr (.inl q)), r) else none
  | _ => none
def ai_stA (nL : Nat) (L : ai_Ls) (i : Nat) (S : List ai_V) : Option (ai_Ls × List ai_V) := match S with
  | .inl q :: r => bif Nat.blt i nL then some (ai_st L i (.inl q), r) else none
  | _ => none
def ai_gL (ins : Instr) (nL : Nat) (z : Int) (L : ai_Ls) (S : List ai_V) : Option (ai_Ls × List ai_V) := match ins with
  | .iconst n => bif ai_le (-1) n && ai_le n 5 then some (L, .inr (.inl (n, n)) :: S) else none
  | .bipush n => bif ai_le (-128) n && ai_le n 127 then some (L, .inr (.inl (n, n)) :: S) else none
  | .sipush n => bif ai_le (-32768) n && ai_le n 32767 then some (L, .inr (.inl (n, n)) :: S) else none
  | .lconst n => some (L, .inr (.inr (.ofNat n.val, .ofNat n.val)) :: S)
  | .ldc2_w _ => some (L, .inr (.inr (z, z)) :: S)
  | .ldc _ => some (L, .inl (some 1) :: S)
  | .aconst_null => some (L, .inl none :: S)
  | .iload_n k => ai_ldI L k.val S
  | .iload i => ai_ldI L i S
  | .lload_n k => ai_ldL L k.val S
  | .lload i => ai_ldL L i S
  | .aload_n k => ai_ldA L k.val S
  | .aload i => ai_ldA L i S
  | .istore_n k => ai_stI nL L k.val S
  | .istore i => ai_stI nL L i S
  | .astore_n k => ai_stA nL L k.val S
  | .astore i => ai_stA nL L i S
  | .iinc i n => (match ai_lk L i with
    | some (.inr (.inl q)) => bif Nat.blt i nL && (ai_le (-32768) n && ai_le n 32767) then some (ai_st L i (.inr (.inl (ai_nm (q.1 + n) (q.2 + n)))), S) else none
    | _ => none)
  | .dup => (match S with
    | x :: r => bif Nat.beq (ai_cat x) 1 then some (L, x :: x :: r) else none
    | _ => none)
  | .dup2 => (match S with
    | x :: r => bif Nat.beq (ai_cat x) 2 then some (L, x :: x :: r) else (match r with
      | y :: r' => bif Nat.beq (ai_cat x) 1 && Nat.beq (ai_cat y) 1 then some (L, x :: y :: x :: y :: r') else none
      | _ => none)
    | _ => none)
  | .dup_x1 => (match S with
    | x :: y :: r => bif Nat.beq (ai_cat x) 1 && Nat.beq (ai_cat y) 1 then some (L, x :: y :: x :: r) else none
    | _ => none)
  | .pop => (match S with
    | x :: r => bif Nat.beq (ai_cat x) 1 then some (L, r) else none
    | _ => none)
  | _ => none
theorem ai_bif {α : Type} {c : Bool} {x y : α} (h : (bif c then some x else none) = some y) : c = true ∧ x = y := by
  cases c with
  | true => exact ⟨rfl, Option.some.inj h⟩
  | false => cases h
section AIL
variable {p : Program} {l : Launch} {e : Env} {R : Room} {s : State} {m : MethodId} {args : Array Value} {below : List Frame} {meth : Method} {c : Code} {H : Heap} {locs : List Loc} {cells slots : Nat} {Q : State → Prop}
variable {cc : ByteArray} {pc : Nat} {ls : Array Slot} {st : List Value} {b nL : Nat} {ad : List Nat} {L L' : ai_Ls} {S S' : List ai_V}
theorem ai_ldI_ok {i : Nat} (h : ai_ldI L i S = some (L', S')) (hL : ai_RL b ad nL L ls) (hS : ai_RS b ad S st) : ∃ x : Int32, ls[i]? = some (.val (.int x)) ∧ ai_RL b ad nL L' ls ∧ ai_RS b ad S' (.int x :: st) := by
  unfold ai_ldI at h
  split at h
  · next q hq =>
    cases h
    obtain ⟨v, h1, x, rfl, h2⟩ := hL.at hq
    exact ⟨x, h1, hL, ⟨x, rfl, h2⟩, hS⟩
  · cases h
theorem ai_ldL_ok {i : Nat} (h : ai_ldL L i S = some (L', S')) (hL : ai_RL b ad nL L ls) (hS : ai_RS b ad S st) : ∃ x : Int64, ls[i]? = some (.val (.long x)) ∧ ai_RL b ad nL L' ls ∧ ai_RS b ad S' (.long x :: st) := by
  unfold ai_ldL at h
  split at h
  · next q hq =>
    cases h
    obtain ⟨v, h1, x, rfl, h2⟩ := hL.at hq
    exact ⟨x, h1, hL, ⟨x, rfl, h2⟩, hS⟩
  · cases h
theorem ai_RV.ref {q : Option Nat} {v : Value} (h : ai_RV b ad (.inl q) v) : v = .null ∨ ∃ a : Nat, v = .ref a := by
  match q, h with
  | none, h => exact Or.inl h
  | some 0, h => exact Or.inr ⟨_, h⟩
  | some 1, h => exact Or.inr h
  | some (k + 2), h => obtain ⟨a, -, h⟩ := h; exact Or.inr ⟨a, h⟩
theorem ai_ldA_ok {i : Nat} (h : ai_ldA L i S = some (L', S')) (hL : ai_RL b ad nL L ls) (hS : ai_RS b ad S st) : ∃ v : Value, (v = .null ∨ ∃ a : Nat, v = .ref a) ∧ ls[i]? = some (.val v) ∧ ai_RL b ad nL L' ls ∧ ai_RS b ad S' (v :: st) := by
  unfold ai_ldA at h
  split at h
  · next q hq =>
    cases h
    obtain ⟨v, h1, h2⟩ := hL.at hq
    exact ⟨v, h2.ref, h1, hL, h2, hS⟩
  · cases h
theorem ai_stI_ok {i : Nat} (h : ai_stI nL L i S = some (L', S')) (hL : ai_RL b ad nL L ls) (hS : ai_RS b ad S st) : ∃ (x : Int32) (st' : List Value) (lv : List (Nat × Value)), st = .int x :: st' ∧ i < nL ∧ lv_has ls nL lv ∧ ai_RS b ad S' st' ∧ ∀ ls' : Array Slot, lv_has ls' nL ((i, .int x) :: lv.filter (fun q => !(q.1 == i) && !(q.1 + 1 == i && q.2.category == 2))) → ai_RL b ad nL L' ls' := by
  unfold ai_stI at h
  split at h
  · next q r =>
    obtain ⟨h1, h2⟩ := ai_bif h
    cases h2
    match st, hS with
    | v :: st', hS =>
      obtain ⟨x, rfl, hx⟩ := hS.1
      obtain ⟨lv, h3, h4⟩ := hL
      exact ⟨x, st', lv, rfl, by simpa using h1, h3, hS.2, fun ls' h5 => ai_RL.st h4 ⟨x, rfl, hx⟩ h5⟩
  · cases h
theorem ai_stA_ok {i : Nat} (h : ai_stA nL L i S = some (L', S')) (hL : ai_RL b ad nL L ls) (hS : ai_RS b ad S st) : ∃ (v : Value) (st' : List Value) (lv : List (Nat × Value)), (v = .null ∨ ∃ a : Nat, v = .ref a) ∧ st = v :: st' ∧ i < nL ∧ lv_has ls nL lv ∧ ai_RS b ad S' st' ∧ ∀ ls' : Array Slot, lv_has ls' nL ((i, v) :: lv.filter (fun q => !(q.1 == i) && !(q.1 + 1 == i && q.2.category == 2))) → ai_RL b ad nL L' ls' := by
  unfold ai_stA at h
  split at h
  · next q r =>
    obtain ⟨h1, h2⟩ := ai_bif h
    cases h2
    match st, hS with
    | v :: st', hS =>
      obtain ⟨lv, h3, h4⟩ := hL
      exact ⟨v, st', lv, hS.1.ref, rfl, by simpa using h1, h3, hS.2, fun ls' h5 => ai_RL.st h4 hS.1 h5⟩
  · cases h
end AIL
end
section
/-! ===== one instruction of an abstract run: constants, locals, the stack; numbers; branches ===== -/
theorem ai_toI {n : Int} (h1 : -2147483648 ≤ n) (h2 : n ≤ 2147483647) : (Int32.ofInt n).toInt = n := Int32.toInt_ofInt_of_le (by omega) (by omega)
theorem ai_RV.rsm {b : Nat} {ad : List Nat} {k : Nat} {v : Value} (h : ai_RV b ad (.inl (some k)) v) : ∃ a : Nat, v = .ref a := by
  match k, h with
  | 0, v => exact ⟨_, v⟩
  | 1, v => exact v
  | k + 2, v => obtain ⟨a, -, v⟩ := v; exact ⟨a, v⟩
section AIG
variable {p : Program} {l : Launch} {e : Env} {R : Room} {s : State} {m : MethodId} {args : Array Value} {below : List Frame} {meth : Method} {c : Code} {H : Heap} {locs : List Loc} {cells slots : Nat} {Q : State → Prop}
variable {cc : ByteArray} {pc : Nat} {ls : Array Slot} {st : List Value} {b nL : Nat} {ad : List Nat} {L L' : ai_Ls} {S S' : List ai_V}
theorem ai_gL_ok (hx : p.tables.exec = Jvm.exec) (hb : c.code = cc) {own : String} (hown : s.vm.findClass own = some m.cls) {ins : Instr} {z : Int} (hd : decode cc pc = .ok (ins, ai_len ins))
    (hc2 : ∀ i, ins = .ldc2_w i → ∃ v : Int64, v.toInt = z ∧ (Cond.constantLong own i v).before args s = true)
    (hcS : ∀ i, ins = .ldc i → ∃ (tx : String) (q : Nat), vk_R own i tx q s)
    (h : ai_gL ins nL z L S = some (L', S')) (hL : ai_RL b ad nL L ls) (hS : ai_RS b ad S st)
    (kk : ∀ (ls' : Array Slot) (st' : List Value), ai_RL b ad nL L' ls' → ai_RS b ad S' st' → W p l e R s m args below meth c H locs cells slots Q (F0 m (pc + ai_len ins) ls' st')) : W p l e R s m args below meth c H locs cells slots Q (F0 m pc ls st) := by
  unfold ai_gL at h
  split at h
  · next n =>
    obtain ⟨h1, h2⟩ := ai_bif h
    cases h2
    rw [Bool.and_eq_true, ai_le_iff, ai_le_iff] at h1
    have e1 := ai_toI (n := n) (by omega) (by omega)
    exact lv_iconst hx hb hd rfl (kk _ _ hL ⟨⟨_, rfl, by rw [e1]; exact Int.le_refl _, by rw [e1]; exact Int.le_refl _⟩, hS⟩)
  · next n =>
    obtain ⟨h1, h2⟩ := ai_bif h
    cases h2
    rw [Bool.and_eq_true, ai_le_iff, ai_le_iff] at h1
    have e1 : (Int8.ofInt n).toInt32.toInt = n := by rw [Int8.toInt_toInt32]; exact Int8.toInt_ofInt_of_le (by omega) (by omega)
    exact lv_bipush hx hb hd rfl (kk _ _ hL ⟨⟨_, rfl, by rw [e1]; exact Int.le_refl _, by rw [e1]; exact Int.le_refl _⟩, hS⟩)
  · next n =>
    obtain ⟨h1, h2⟩ := ai_bif h
    cases h2
    rw [Bool.and_eq_true, ai_le_iff, ai_le_iff] at h1
    have e1 : (Int16.ofInt n).toInt32.toInt = n := by rw [Int16.toInt_toInt32]; exact Int16.toInt_ofInt_of_le (by omega) (by omega)
    exact lv_sipush hx hb hd rfl (kk _ _ hL ⟨⟨_, rfl, by rw [e1]; exact Int.le_refl _, by rw [e1]; exact Int.le_refl _⟩, hS⟩)
  · next n =>
    cases h
    have e1 : (Int64.ofNat n.val).toInt = (n.val : Int) := Int64.toInt_ofNat_of_lt (by have := n.isLt; omega)
    exact lv_lconst hx hb hd rfl (kk _ _ hL ⟨⟨_, rfl, by rw [e1]; exact Int.le_refl _, by rw [e1]; exact Int.le_refl _⟩, hS⟩)
  · next i =>
    cases h
    obtain ⟨v, hv, hc⟩ := hc2 i rfl
    exact lv_ldc2 hx hb hown hc hd (kk _ _ hL ⟨⟨_, rfl, by rw [hv]; exact Int.le_refl _, by rw [hv]; exact Int.le_refl _⟩, hS⟩)
  · next i =>
    cases h
    obtain ⟨tx, q, hc⟩ := hcS i rfl
    exact va_ldcS hx hb hown hc hd (kk _ _ hL ⟨⟨_, rfl⟩, hS⟩)
  · cases h
    exact lv_null hx hb hd (kk _ _ hL ⟨rfl, hS⟩)
  · next k =>
    obtain ⟨x, h1, h2, h3⟩ := ai_ldI_ok h hL hS
    exact lv_iload_n hx hb hd rfl h1 (kk _ _ h2 h3)
  · next k =>
    obtain ⟨x, h1, h2, h3⟩ := ai_ldI_ok h hL hS
    exact lv_iload hx hb hd h1 (kk _ _ h2 h3)
  · next k =>
    obtain ⟨x, h1, h2, h3⟩ := ai_ldL_ok h hL hS
    exact lv_lload_n hx hb hd rfl h1 (kk _ _ h2 h3)
  · next k =>
    obtain ⟨x, h1, h2, h3⟩ := ai_ldL_ok h hL hS
    exact lv_lload hx hb hd h1 (kk _ _ h2 h3)
  · next k =>
    obtain ⟨x, h0, h1, h2, h3⟩ := ai_ldA_ok h hL hS
    rcases h0 with rfl | ⟨a, rfl⟩
    · exact lv_aload_nN hx hb hd rfl h1 (kk _ _ h2 h3)
    · exact lv_aload_n hx hb hd rfl h1 (kk _ _ h2 h3)
  · next k =>
    obtain ⟨x, h0, h1, h2, h3⟩ := ai_ldA_ok h hL hS
    rcases h0 with rfl | ⟨a, rfl⟩
    · exact lv_aloadN hx hb hd h1 (kk _ _ h2 h3)
    · exact lv_aload hx hb hd h1 (kk _ _ h2 h3)
  · next k =>
    obtain ⟨x, st', lv, rfl, h1, h2, h3, h4⟩ := ai_stI_ok h hL hS
    exact lv_istore_n hx hb hd rfl h2 h1 rfl (fun ls' h5 => kk _ _ (h4 _ h5) h3)
  · next k =>
    obtain ⟨x, st', lv, rfl, h1, h2, h3, h4⟩ := ai_stI_ok h hL hS
    exact lv_istore hx hb hd h2 h1 rfl (fun ls' h5 => kk _ _ (h4 _ h5) h3)
  · next k =>
    obtain ⟨x, st', lv, h0, rfl, h1, h2, h3, h4⟩ := ai_stA_ok h hL hS
    rcases h0 with rfl | ⟨a, rfl⟩
    · exact lv_astore_nN hx hb hd rfl h2 h1 rfl (fun ls' h5 => kk _ _ (h4 _ h5) h3)
    · exact lv_astore_n hx hb hd rfl h2 h1 rfl (fun ls' h5 => kk _ _ (h4 _ h5) h3)
  · next k =>
    obtain ⟨x, st', lv, h0, rfl, h1, h2, h3, h4⟩ := ai_stA_ok h hL hS
    rcases h0 with rfl | ⟨a, rfl⟩
    · exact lv_astoreN hx hb hd h2 h1 rfl (fun ls' h5 => kk _ _ (h4 _ h5) h3)
    · exact lv_astore hx hb hd h2 h1 rfl (fun ls' h5 => kk _ _ (h4 _ h5) h3)
  · next i n =>
    split at h
    · next q hq =>
      obtain ⟨h1, h2⟩ := ai_bif h
      cases h2
      rw [Bool.and_eq_true, Bool.and_eq_true, ai_le_iff, ai_le_iff] at h1
      obtain ⟨h1, h1a, h1b⟩ := h1
      have hi : i < nL := by simpa using h1
      obtain ⟨lv, g1, g2⟩ := hL
      obtain ⟨v, g3, x, rfl, g4, g5⟩ := g2 _ (ai_lk_mem hq)
      obtain ⟨k, hk⟩ := List.getElem?_of_mem g3
      have e1 : (x + Int32.ofInt n).toInt = (x.toInt + n).bmod (2 ^ 32) := by
        rw [Int32.toInt_add, ai_toI (n := n) (by omega) (by omega)]
      exact lv_iinc hx hb hd g1 hk rfl hi rfl (fun ls' h5 => kk _ _ (ai_RL.st g2 ⟨_, rfl, by rw [e1]; exact ai_nm_ok (by omega) (by omega)⟩ h5) hS)
    · cases h
  · split at h
    · next x r =>
      obtain ⟨h1, h2⟩ := ai_bif h
      cases h2
      match st, hS with
      | v :: st', hS => exact lv_dup hx hb hd (by rw [hS.1.cat]; exact Nat.eq_of_beq_eq_true h1) (kk _ _ hL ⟨hS.1, hS⟩)
    · cases h
  · split at h
    · next x r =>
      cases hc : Nat.beq (ai_cat x) 2 with
      | true =>
        rw [hc] at h
        cases h
        match st, hS with
        | v :: st', hS => exact lv_dup2_2 hx hb hd (by rw [hS.1.cat]; exact Nat.eq_of_beq_eq_true hc) (kk _ _ hL ⟨hS.1, hS⟩)
      | false =>
        rw [hc] at h
        simp only [cond_false] at h
        split at h
        · next y r' =>
          obtain ⟨h1, h2⟩ := ai_bif h
          cases h2
          rw [Bool.and_eq_true] at h1
          match st, hS with
          | v :: u :: st', hS => exact lv_dup2_11 hx hb hd (by rw [hS.1.cat]; exact Nat.eq_of_beq_eq_true h1.1) (by rw [hS.2.1.cat]; exact Nat.eq_of_beq_eq_true h1.2) (kk _ _ hL ⟨hS.1, hS.2.1, hS⟩)
          | [_], hS => exact hS.2.elim
        · cases h
    · cases h
  · split at h
    · next x y r =>
      obtain ⟨h1, h2⟩ := ai_bif h
      cases h2
      rw [Bool.and_eq_true] at h1
      match st, hS with
      | v :: u :: st', hS => exact lv_dup_x1 hx hb hd (by rw [hS.1.cat]; exact Nat.eq_of_beq_eq_true h1.1) (by rw [hS.2.1.cat]; exact Nat.eq_of_beq_eq_true h1.2) (kk _ _ hL ⟨hS.1, hS.2.1, hS.1, hS.2.2⟩)
      | [_], hS => exact hS.2.elim
    · cases h
  · split at h
    · next x r =>
      obtain ⟨h1, h2⟩ := ai_bif h
      cases h2
      match st, hS with
      | v :: st', hS => exact lv_pop hx hb hd (by rw [hS.1.cat]; exact Nat.eq_of_beq_eq_true h1) (kk _ _ hL hS.2)
    · cases h
  · cases h
/-- numbers -/
def ai_01 (q : Int × Int) : Option Bool := bif ai_le 0 q.1 && ai_le q.2 0 then some false else bif ai_le 1 q.1 && ai_le q.2 1 then some true else none
def ai_gI (ins : Instr) (S : List ai_V) : Option (List ai_V) := match ins with
  | .iadd => (match S with
    | .inr (.inl y) :: .inr (.inl x) :: r => some (.inr (.inl (ai_nm (x.1 + y.1) (x.2 + y.2))) :: r)
    | _ => none)
  | .isub => (match S with
    | .inr (.inl y) :: .inr (.inl x) :: r => some (.inr (.inl (ai_nm (x.1 - y.2) (x.2 - y.1))) :: r)
    | _ => none)
  | .imul => (match S with
    | .inr (.inl y) :: .inr (.inl x) :: r => some (.inr (.inl (bif ai_le x.2 x.1 && ai_le y.2 y.1 then ai_nm (x.1 * y.1) (x.1 * y.1) else ai_tI)) :: r)
    | _ => none)
  | .iand => (match S with
    | .inr (.inl y) :: .inr (.inl x) :: r => some (.inr (.inl (match ai_01 x, ai_01 y with
      | some u, some v => bif u && v then (1, 1) else (0, 0)
      | _, _ => ai_tI)) :: r)
    | _ => none)
  | .ineg => (match S with
    | .inr (.inl x) :: r => some (.inr (.inl (ai_nm (-x.2) (-x.1))) :: r)
    | _ => none)
  | .ishr => (match S with
    | .inr (.inl _) :: .inr (.inl _) :: r => some (.inr (.inl ai_tI) :: r)
    | _ => none)
  | .i2b => (match S with
    | .inr (.inl _) :: r => some (.inr (.inl ai_tI) :: r)
    | _ => none)
  | .i2l => (match S with
    | .inr (.inl x) :: r => some (.inr (.inr x) :: r)
    | _ => none)
  | .land => (match S with
    | .inr (.inr _) :: .inr (.inr _) :: r => some (.inr (.inr ai_tL) :: r)
    | _ => none)
  | .lor => (match S with
    | .inr (.inr _) :: .inr (.inr _) :: r => some (.inr (.inr ai_tL) :: r)
    | _ => none)
  | .lshl => (match S with
    | .inr (.inl _) :: .inr (.inr _) :: r => some (.inr (.inr ai_tL) :: r)
    | _ => none)
  | .lcmp => (match S with
    | .inr (.inr y) :: .inr (.inr x) :: r => some (.inr (.inl (bif ai_lt y.2 x.1 then 1 else bif ai_le y.2 x.1 then 0 else -1, bif ai_lt x.2 y.1 then -1 else bif ai_le x.2 y.1 then 0 else 1)) :: r)
    | _ => none)
  | _ => none
theorem ai_01_ok {q : Int × Int} {t : Bool} {x : Int32} (h : ai_01 q = some t) (h1 : q.1 ≤ x.toInt) (h2 : x.toInt ≤ q.2) : x = if t then 1 else 0 := by
  unfold ai_01 at h
  cases hc : (ai_le 0 q.1 && ai_le q.2 0) with
  | true =>
    rw [hc] at h
    cases h
    rw [Bool.and_eq_true, ai_le_iff, ai_le_iff] at hc
    exact Int32.toInt_inj.mp (by show x.toInt = 0; omega)
  | false =>
    rw [hc] at h
    simp only [cond_false] at h
    obtain ⟨hc, h⟩ := ai_bif h
    cases h
    rw [Bool.and_eq_true, ai_le_iff, ai_le_iff] at hc
    exact Int32.toInt_inj.mp (by show x.toInt = 1; omega)
theorem ai_lcmp_ok {q r : Int × Int} {x y : Int64} (h1 : q.1 ≤ x.toInt) (h2 : x.toInt ≤ q.2) (h3 : r.1 ≤ y.toInt) (h4 : y.toInt ≤ r.2) :
    (bif ai_lt r.2 q.1 then (1 : Int) else bif ai_le r.2 q.1 then 0 else -1) ≤ (lg_cmp x y).toInt ∧ (lg_cmp x y).toInt ≤ (bif ai_lt q.2 r.1 then (-1 : Int) else bif ai_le q.2 r.1 then 0 else 1) := by
  have e : (lg_cmp x y).toInt = if y.toInt < x.toInt then 1 else if x.toInt = y.toInt then 0 else -1 := by
    unfold lg_cmp
    simp only [gt_iff_lt, Int64.lt_iff_toInt_lt, ← Int64.toInt_inj]
    split
    · rfl
    · split <;> rfl
  rw [e]
  have k1 := ai_lt_iff r.2 q.1
  have k2 := ai_le_iff r.2 q.1
  have k3 := ai_lt_iff q.2 r.1
  have k4 := ai_le_iff q.2 r.1
  constructor
  · cases c1 : ai_lt r.2 q.1 with
    | true =>
      have := k1.mp c1
      simp only [cond_true]
      split <;> omega
    | false =>
      simp only [cond_false]
      cases c2 : ai_le r.2 q.1 with
      | true =>
        have := k2.mp c2
        simp only [cond_true]
        split
        · omega
        · split <;> omega
      | false =>
        simp only [cond_false]
        split
        · omega
        · split <;> omega
  · cases c1 : ai_lt q.2 r.1 with
    | true =>
      have := k3.mp c1
      simp only [cond_true]
      split
      · omega
      · split <;> omega
    | false =>
      simp only [cond_false]
      cases c2 : ai_le q.2 r.1 with
      | true =>
        have := k4.mp c2
        simp only [cond_true]
        split
        · omega
        · split <;> omega
      | false =>
        simp only [cond_false]
        split
        · omega
        · split <;> omega
theorem ai_gI_ok (hx : p.tables.exec = Jvm.exec) (hb : c.code = cc) {ins : Instr} (hd : decode cc pc = .ok (ins, ai_len ins)) (h : ai_gI ins S = some S') (hS : ai_RS b ad S st)
    (kk : ∀ st' : List Value, ai_RS b ad S' st' → W p l e R s m args below meth c H locs cells slots Q (F0 m (pc + ai_len ins) ls st')) : W p l e R s m args below meth c H locs cells slots Q (F0 m pc ls st) := by
  unfold ai_gI at h
  split at h
  · split at h
    · next y x r =>
      cases h
      match st, hS with
      | _ :: _ :: st', ⟨⟨v, rfl, a1, a2⟩, ⟨u, rfl, b1, b2⟩, hS⟩ => exact lv_iadd hx hb hd (kk _ ⟨⟨_, rfl, by rw [Int32.toInt_add]; exact ai_nm_ok (by omega) (by omega)⟩, hS⟩)
      | [_], hS => exact hS.2.elim
    · cases h
  · split at h
    · next y x r =>
      cases h
      match st, hS with
      | _ :: _ :: st', ⟨⟨v, rfl, a1, a2⟩, ⟨u, rfl, b1, b2⟩, hS⟩ => exact lv_isub hx hb hd (kk _ ⟨⟨_, rfl, by rw [Int32.toInt_sub]; exact ai_nm_ok (by omega) (by omega)⟩, hS⟩)
      | [_], hS => exact hS.2.elim
    · cases h
  · split at h
    · next y x r =>
      cases h
      match st, hS with
      | _ :: _ :: st', ⟨⟨v, rfl, a1, a2⟩, ⟨u, rfl, b1, b2⟩, hS⟩ =>
        refine lv_imul hx hb hd (kk _ ⟨⟨_, rfl, ?_⟩, hS⟩)
        cases hc : (ai_le x.2 x.1 && ai_le y.2 y.1) with
        | true =>
          simp only [cond_true]
          rw [Bool.and_eq_true, ai_le_iff, ai_le_iff] at hc
          have e1 : u.toInt = x.1 := by omega
          have e2 : v.toInt = y.1 := by omega
          rw [Int32.toInt_mul, e1, e2]
          exact ai_nm_ok (Int.le_refl _) (Int.le_refl _)
        | false =>
          simp only [cond_false]
          exact ai_tI_ok _
      | [_], hS => exact hS.2.elim
    · cases h
  · split at h
    · next y x r =>
      cases h
      match st, hS with
      | _ :: _ :: st', ⟨⟨v, rfl, a1, a2⟩, ⟨u, rfl, b1, b2⟩, hS⟩ =>
        refine lv_iand hx hb hd (kk _ ⟨⟨_, rfl, ?_⟩, hS⟩)
        split
        · next t1 t2 e1 e2 =>
          rw [ai_01_ok e1 b1 b2, ai_01_ok e2 a1 a2]
          cases t1 <;> cases t2 <;> decide
        · exact ai_tI_ok _
      | [_], hS => exact hS.2.elim
    · cases h
  · split at h
    · next x r =>
      cases h
      match st, hS with
      | _ :: st', ⟨⟨v, rfl, a1, a2⟩, hS⟩ => exact lv_ineg hx hb hd (kk _ ⟨⟨_, rfl, by rw [Int32.toInt_neg]; exact ai_nm_ok (by omega) (by omega)⟩, hS⟩)
    · cases h
  · split at h
    · next y x r =>
      cases h
      match st, hS with
      | _ :: _ :: st', ⟨⟨v, rfl, a1, a2⟩, ⟨u, rfl, b1, b2⟩, hS⟩ => exact lv_ishr hx hb hd (kk _ ⟨⟨_, rfl, ai_tI_ok _⟩, hS⟩)
      | [_], hS => exact hS.2.elim
    · cases h
  · split at h
    · next x r =>
      cases h
      match st, hS with
      | _ :: st', ⟨⟨v, rfl, a1, a2⟩, hS⟩ => exact lv_i2b hx hb hd rfl (kk _ ⟨⟨_, rfl, ai_tI_ok _⟩, hS⟩)
    · cases h
  · split at h
    · next x r =>
      cases h
      match st, hS with
      | _ :: st', ⟨⟨v, rfl, a1, a2⟩, hS⟩ => exact lv_i2l hx hb hd rfl (kk _ ⟨⟨_, rfl, by rw [Int32.toInt_toInt64]; exact ⟨a1, a2⟩⟩, hS⟩)
    · cases h
  · split at h
    · next y x r =>
      cases h
      match st, hS with
      | _ :: _ :: st', ⟨⟨v, rfl, a1, a2⟩, ⟨u, rfl, b1, b2⟩, hS⟩ => exact lv_land hx hb hd (kk _ ⟨⟨_, rfl, ai_tL_ok _⟩, hS⟩)
      | [_], hS => exact hS.2.elim
    · cases h
  · split at h
    · next y x r =>
      cases h
      match st, hS with
      | _ :: _ :: st', ⟨⟨v, rfl, a1, a2⟩, ⟨u, rfl, b1, b2⟩, hS⟩ => exact lv_lor hx hb hd (kk _ ⟨⟨_, rfl, ai_tL_ok _⟩, hS⟩)
      | [_], hS => exact hS.2.elim
    · cases h
  · split at h
    · next y x r =>
      cases h
      match st, hS with
      | _ :: _ :: st', ⟨⟨v, rfl, a1, a2⟩, ⟨u, rfl, b1, b2⟩, hS⟩ => exact lv_lshl hx hb hd rfl (kk _ ⟨⟨_, rfl, ai_tL_ok _⟩, hS⟩)
      | [_], hS => exact hS.2.elim
    · cases h
  · split at h
    · next y x r =>
      cases h
      match st, hS with
      | _ :: _ :: st', ⟨⟨v, rfl, a1, a2⟩, ⟨u, rfl, b1, b2⟩, hS⟩ => exact W.lcmp hx hb hd (kk _ ⟨⟨_, rfl, ai_lcmp_ok b1 b2 a1 a2⟩, hS⟩)
      | [_], hS => exact hS.2.elim
    · cases h
  · cases h
/-- branches: where to, none: on -/
def ai_ceq (x y : Int × Int) : Option Bool := bif ai_le x.2 y.1 && ai_le y.2 x.1 then some true else bif ai_lt x.2 y.1 || ai_lt y.2 x.1 then some false else none
def ai_clt (x y : Int × Int) : Option Bool := bif ai_lt x.2 y.1 then some true else bif ai_le y.2 x.1 then some false else none
def ai_cmp (k : ClassFile.Cond) (x y : Int × Int) : Option Bool := match k with
  | .eq => ai_ceq x y
  | .ne => (ai_ceq x y).map (fun t => !t)
  | .lt => ai_clt x y
  | .ge => (ai_clt x y).map (fun t => !t)
  | .gt => ai_clt y x
  | .le => (ai_clt y x).map (fun t => !t)
theorem ai_ceq_ok {x y : Int × Int} {t : Bool} {u v : Int32} (h : ai_ceq x y = some t) (h1 : x.1 ≤ u.toInt) (h2 : u.toInt ≤ x.2) (h3 : y.1 ≤ v.toInt) (h4 : v.toInt ≤ y.2) : (u = v) ↔ t = true := by
  rw [← Int32.toInt_inj]
  unfold ai_ceq at h
  cases hc : (ai_le x.2 y.1 && ai_le y.2 x.1) with
  | true =>
    rw [hc] at h
    cases h
    rw [Bool.and_eq_true, ai_le_iff, ai_le_iff] at hc
    exact ⟨fun _ => rfl, fun _ => by omega⟩
  | false =>
    rw [hc] at h
    simp only [cond_false] at h
    obtain ⟨hc, h⟩ := ai_bif h
    cases h
    rw [Bool.or_eq_true, ai_lt_iff, ai_lt_iff] at hc
    exact ⟨fun q => by omega, fun q => by cases q⟩
theorem ai_clt_ok {x y : Int × Int} {t : Bool} {u v : Int32} (h : ai_clt x y = some t) (h1 : x.1 ≤ u.toInt) (h2 : u.toInt ≤ x.2) (h3 : y.1 ≤ v.toInt) (h4 : v.toInt ≤ y.2) : (u < v) ↔ t = true := by
  rw [Int32.lt_iff_toInt_lt]
  unfold ai_clt at h
  cases hc : (ai_lt x.2 y.1) with
  | true =>
    rw [hc] at h
    cases h
    rw [ai_lt_iff] at hc
    exact ⟨fun _ => rfl, fun _ => by omega⟩
  | false =>
    rw [hc] at h
    simp only [cond_false] at h
    obtain ⟨hc, h⟩ := ai_bif h
    cases h
    rw [ai_le_iff] at hc
    exact ⟨fun q => by omega, fun q => by cases q⟩
theorem ai_nle {u v : Int32} : (v ≤ u) ↔ ¬ (u < v) := by
  rw [Int32.le_iff_toInt_le, Int32.lt_iff_toInt_lt]
  omega
theorem ai_mapn {o : Option Bool} {t : Bool} (h : o.map (fun t => !t) = some t) : o = some (!t) := by
  cases o with
  | none => cases h
  | some u =>
    have := Option.some.inj h
    rw [← this, Bool.not_not]
def ai_gJ (pc : Nat) (ins : Instr) (a : Nat) (S : List ai_V) : Option (Option Nat × List ai_V) := match ins with
  | .goto _ => some (some a, S)
  | .ifCond k _ => (match S with
    | .inr (.inl x) :: r => (match ai_cmp k x (0, 0) with
      | some t => some (bif t then some a else none, r)
      | none => none)
    | _ => none)
  | .if_icmp k _ => (match S with
    | .inr (.inl y) :: .inr (.inl x) :: r => (match ai_cmp k x y with
      | some t => some (bif t then some a else none, r)
      | none => none)
    | _ => none)
  | .ifnull _ => (match S with
    | .inl none :: r => some (some a, r)
    | .inl (some _) :: r => some (none, r)
    | _ => none)
  | .ifnonnull _ => (match S with
    | .inl none :: r => some (none, r)
    | .inl (some _) :: r => some (some a, r)
    | _ => none)
  | .tableswitch d lo hi offs => (match S with
    | .inr (.inl x) :: r => bif ai_lt x.2 lo || ai_lt hi x.1 then some (some (Int.toNat (pc + d)), r) else bif ai_le x.2 x.1 && (ai_le lo x.1 && ai_le x.1 hi) then (match offs[(x.1 - lo).toNat]? with
      | some o => some (some (Int.toNat (pc + o)), r)
      | none => none) else none
    | _ => none)
  | _ => none
/-- what is to be known of a branch: its target -/
def ai_tg (pc : Nat) (ins : Instr) (a : Nat) : Prop := match ins with
  | .goto o | .ifCond _ o | .if_icmp _ o | .ifnull o | .ifnonnull o => (pc : Int) + o = (a : Int)
  | .tableswitch d _ _ offs => 0 ≤ (pc : Int) + d ∧ ∀ o ∈ offs.toList, 0 ≤ (pc : Int) + o
  | _ => True
theorem ai_gJ_ok (hx : p.tables.exec = Jvm.exec) (hb : c.code = cc) {ins : Instr} {len a : Nat} (hd : decode cc pc = .ok (ins, len)) (hlen : ai_len ins = len ∨ ∃ d lo hi offs, ins = .tableswitch d lo hi offs) (ht : ai_tg pc ins a) {o : Option Nat} (h : ai_gJ pc ins a S = some (o, S')) (hS : ai_RS b ad S st)
    (kk : ∀ st' : List Value, ai_RS b ad S' st' → W p l e R s m args below meth c H locs cells slots Q (F0 m (o.getD (pc + 3)) ls st')) : W p l e R s m args below meth c H locs cells slots Q (F0 m pc ls st) := by
  unfold ai_gJ at h
  split at h
  · next off =>
    cases h
    have e : len = 3 := by rcases hlen with q | ⟨_, _, _, _, q⟩; exact q.symm; cases q
    subst e
    exact lv_goto hx hb hd ht (kk _ hS)
  · next k off =>
    have e : len = 3 := by rcases hlen with q | ⟨_, _, _, _, q⟩; exact q.symm; cases q
    subst e
    split at h
    · next x r =>
      split at h
      · next t hq =>
        cases h
        match st, hS with
        | _ :: st', ⟨⟨v, rfl, a1, a2⟩, hS⟩ =>
          have z1 : ((0 : Int), (0 : Int)).1 ≤ (0 : Int32).toInt := Int.le_refl _
          have z2 : (0 : Int32).toInt ≤ ((0 : Int), (0 : Int)).2 := Int.le_refl _
          have kt : t = true → W p l e R s m args below meth c H locs cells slots Q (F0 m a ls st') := fun q => by subst q; exact kk _ hS
          have kf : t = false → W p l e R s m args below meth c H locs cells slots Q (F0 m (pc + 3) ls st') := fun q => by subst q; exact kk _ hS
          cases k with
          | eq =>
            have g := ai_ceq_ok hq a1 a2 z1 z2
            exact lv_if_eq hx hb hd ht (fun q => kt (g.mp q)) (fun q => kf (Bool.eq_false_iff.mpr (fun y => q (g.mpr y))))
          | ne =>
            have g := ai_ceq_ok (ai_mapn hq) a1 a2 z1 z2
            exact lv_if_ne hx hb hd ht (fun q => kt (by cases t with | true => rfl | false => exact absurd (g.mpr rfl) q)) (fun q => kf (by cases t with | false => rfl | true => exact absurd (g.mp q) (by decide)))
          | lt =>
            have g := ai_clt_ok hq a1 a2 z1 z2
            exact lv_if_lt hx hb hd ht (fun q => kt (g.mp q)) (fun q => kf (Bool.eq_false_iff.mpr (fun y => q (g.mpr y))))
          | ge =>
            have g := ai_clt_ok (ai_mapn hq) a1 a2 z1 z2
            exact lv_if_ge hx hb hd ht (fun q => kt (by cases t with | true => rfl | false => exact absurd (g.mpr rfl) (ai_nle.mp q))) (fun q => kf (by cases t with | false => rfl | true => exact absurd (ai_nle.mpr (fun y => absurd (g.mp y) (by decide))) q))
          | gt =>
            have g := ai_clt_ok hq z1 z2 a1 a2
            exact lv_if_gt hx hb hd ht (fun q => kt (g.mp q)) (fun q => kf (Bool.eq_false_iff.mpr (fun y => q (g.mpr y))))
          | le =>
            have g := ai_clt_ok (ai_mapn hq) z1 z2 a1 a2
            exact lv_if_le hx hb hd ht (fun q => kt (by cases t with | true => rfl | false => exact absurd (g.mpr rfl) (ai_nle.mp q))) (fun q => kf (by cases t with | false => rfl | true => exact absurd (ai_nle.mpr (fun y => absurd (g.mp y) (by decide))) q))
      · cases h
    · cases h
  · next k off =>
    have e : len = 3 := by rcases hlen with q | ⟨_, _, _, _, q⟩; exact q.symm; cases q
    subst e
    split at h
    · next y x r =>
      split at h
      · next t hq =>
        cases h
        match st, hS with
        | _ :: _ :: st', ⟨⟨v, rfl, z1, z2⟩, ⟨u, rfl, a1, a2⟩, hS⟩ =>
          have kt : t = true → W p l e R s m args below meth c H locs cells slots Q (F0 m a ls st') := fun q => by subst q; exact kk _ hS
          have kf : t = false → W p l e R s m args below meth c H locs cells slots Q (F0 m (pc + 3) ls st') := fun q => by subst q; exact kk _ hS
          cases k with
          | eq =>
            have g := ai_ceq_ok hq a1 a2 z1 z2
            exact lv_icmp_eq hx hb hd ht (fun q => kt (g.mp q)) (fun q => kf (Bool.eq_false_iff.mpr (fun y => q (g.mpr y))))
          | ne =>
            have g := ai_ceq_ok (ai_mapn hq) a1 a2 z1 z2
            exact lv_icmp_ne hx hb hd ht (fun q => kt (by cases t with | true => rfl | false => exact absurd (g.mpr rfl) q)) (fun q => kf (by cases t with | false => rfl | true => exact absurd (g.mp q) (by decide)))
          | lt =>
            have g := ai_clt_ok hq a1 a2 z1 z2
            exact lv_icmp_lt hx hb hd ht (fun q => kt (g.mp q)) (fun q => kf (Bool.eq_false_iff.mpr (fun y => q (g.mpr y))))
          | ge =>
            have g := ai_clt_ok (ai_mapn hq) a1 a2 z1 z2
            exact lv_icmp_ge hx hb hd ht (fun q => kt (by cases t with | true => rfl | false => exact absurd (g.mpr rfl) (ai_nle.mp q))) (fun q => kf (by cases t with | false => rfl | true => exact absurd (ai_nle.mpr (fun y => absurd (g.mp y) (by decide))) q))
          | gt =>
            have g := ai_clt_ok hq z1 z2 a1 a2
            exact lv_icmp_gt hx hb hd ht (fun q => kt (g.mp q)) (fun q => kf (Bool.eq_false_iff.mpr (fun y => q (g.mpr y))))
          | le =>
            have g := ai_clt_ok (ai_mapn hq) z1 z2 a1 a2
            exact lv_icmp_le hx hb hd ht (fun q => kt (by cases t with | true => rfl | false => exact absurd (g.mpr rfl) (ai_nle.mp q))) (fun q => kf (by cases t with | false => rfl | true => exact absurd (ai_nle.mpr (fun y => absurd (g.mp y) (by decide))) q))
        | [_], hS => exact hS.2.elim
      · cases h
    · cases h
  · next off =>
    have e : len = 3 := by rcases hlen with q | ⟨_, _, _, _, q⟩; exact q.symm; cases q
    subst e
    split at h
    · next r =>
      cases h
      match st, hS with
      | _ :: st', ⟨v, hS⟩ => cases v; exact lv_ifnullN hx hb hd ht (kk _ hS)
    · next k r =>
      cases h
      match st, hS with
      | _ :: st', ⟨v, hS⟩ =>
        obtain ⟨a, rfl⟩ := ai_RV.rsm v
        exact lv_ifnull hx hb hd (kk _ hS)
    · cases h
  · next off =>
    have e : len = 3 := by rcases hlen with q | ⟨_, _, _, _, q⟩; exact q.symm; cases q
    subst e
    split at h
    · next r =>
      cases h
      match st, hS with
      | _ :: st', ⟨v, hS⟩ => cases v; exact lv_ifnonnullN hx hb hd (kk _ hS)
    · next k r =>
      cases h
      match st, hS with
      | _ :: st', ⟨v, hS⟩ =>
        obtain ⟨a, rfl⟩ := ai_RV.rsm v
        exact lv_ifnonnull hx hb hd ht (kk _ hS)
    · cases h
  · next d lo hi offs =>
    split at h
    · next x r =>
      match st, hS with
      | _ :: st', ⟨⟨v, rfl, a1, a2⟩, hS⟩ =>
        cases hc : (ai_lt x.2 lo || ai_lt hi x.1) with
        | true =>
          rw [hc] at h
          cases h
          rw [Bool.or_eq_true, ai_lt_iff, ai_lt_iff] at hc
          exact lv_tableOut hx hb hd (by omega) (by have := ht.1; show (pc : Int) + d = ((Int.toNat (pc + d) : Nat) : Int); omega) (kk _ hS)
        | false =>
          rw [hc] at h
          simp only [cond_false] at h
          cases hc2 : (ai_le x.2 x.1 && (ai_le lo x.1 && ai_le x.1 hi)) with
          | false => rw [hc2] at h; cases h
          | true =>
            rw [hc2] at h
            simp only [cond_true] at h
            rw [Bool.and_eq_true, Bool.and_eq_true, ai_le_iff, ai_le_iff, ai_le_iff] at hc2
            have ev : v.toInt = x.1 := by omega
            split at h
            · next off ho =>
              cases h
              have hm : off ∈ offs.toList := by
                rw [← Array.getElem?_toList] at ho
                exact List.mem_of_getElem? ho
              exact lv_tableIn hx hb hd (by omega) (by omega) (by rw [ev]; exact ho) (by have := ht.2 _ hm; show (pc : Int) + off = ((Int.toNat (pc + off) : Nat) : Int); omega) (kk _ hS)
            · cases h
    · cases h
  · cases h
end AIG
end
section
/-! ===== the world of an abstract run: tags 0 to 6 the objects of a class, 10 and on the arrays ===== -/
def ai_it : Nat → Option FieldType
  | 10 => some .int
  | 12 => some .byte
  | 13 => some .boolean
  | _ => none
def ai_rt : Nat → Option FieldType
  | 14 => some (.object RR_1)
  | 15 => some (.object RR_3)
  | 16 => some (.array .int)
  | 17 => some (.array .long)
  | _ => none
theorem ai_it_ge {t : Nat} {ty : FieldType} (h : ai_it t = some ty) : 10 ≤ t ∧ t ≠ 11 ∧ ai_rt t = none := by
  unfold ai_it at h
  split at h
  · exact ⟨by decide, by decide, rfl⟩
  · exact ⟨by decide, by decide, rfl⟩
  · exact ⟨by decide, by decide, rfl⟩
  · cases h
theorem ai_rt_ge {t : Nat} {ty : FieldType} (h : ai_rt t = some ty) : 10 ≤ t ∧ t ≠ 11 ∧ ty.isReference = true := by
  unfold ai_rt at h
  split at h <;> first | (cases h; exact ⟨by decide, by decide, rfl⟩) | cases h
def ai_RE (b : Nat) (ad : List Nat) (tys : List (ClassId × FieldType)) (ac : ai_C) (e : va_E) : Prop :=
  (ac.1 < 10 ∧ ∃ fs, e = .inr (ac.1, fs) ∧ ai_RS b ad ac.2 fs) ∨
  (∃ (ty : FieldType) (cA : ClassId) (f : Nat → Int32) (t0 : Nat), ai_it ac.1 = some ty ∧ e = .inl (cA, ac.2.length, .inl f) ∧ tys[t0]? = some (cA, ty) ∧ ∀ (j : Nat) (v : ai_V), ac.2[j]? = some v → ai_RV b ad v (.int (f j))) ∨
  (∃ (cA : ClassId) (f : Nat → Int64) (t0 : Nat), ac.1 = 11 ∧ e = .inl (cA, ac.2.length, .inr (.inl f)) ∧ tys[t0]? = some (cA, .long) ∧ ∀ (j : Nat) (v : ai_V), ac.2[j]? = some v → ai_RV b ad v (.long (f j))) ∨
  (∃ (ty : FieldType) (cA : ClassId) (f : Nat → Option Nat) (t0 : Nat), ai_rt ac.1 = some ty ∧ e = .inl (cA, ac.2.length, .inr (.inr (.inr (.inr f)))) ∧ tys[t0]? = some (cA, ty) ∧ ∀ (j : Nat) (v : ai_V), ac.2[j]? = some v → ai_RV b ad v (va_rf (f j)))
theorem ai_tys_pre {tys tx : List (ClassId × FieldType)} {k : Nat} {a : ClassId × FieldType} (h : tys[k]? = some a) : (tys ++ tx)[k]? = some a := by
  rw [List.getElem?_append_left (List.getElem?_eq_some_iff.mp h).1]
  exact h
theorem ai_RE.mono {b : Nat} {ad : List Nat} (t : List Nat) {tys : List (ClassId × FieldType)} (tx : List (ClassId × FieldType)) {ac : ai_C} {e : va_E} (h : ai_RE b ad tys ac e) : ai_RE b (ad ++ t) (tys ++ tx) ac e := by
  rcases h with ⟨h0, fs, h1, h2⟩ | ⟨ty, cA, f, t0, h0, h1, h2, h3⟩ | ⟨cA, f, t0, h0, h1, h2, h3⟩ | ⟨ty, cA, f, t0, h0, h1, h2, h3⟩
  · exact Or.inl ⟨h0, fs, h1, h2.mono t⟩
  · exact Or.inr (Or.inl ⟨ty, cA, f, t0, h0, h1, ai_tys_pre h2, fun j v hj => (h3 j v hj).mono t⟩)
  · exact Or.inr (Or.inr (Or.inl ⟨cA, f, t0, h0, h1, ai_tys_pre h2, fun j v hj => (h3 j v hj).mono t⟩))
  · exact Or.inr (Or.inr (Or.inr ⟨ty, cA, f, t0, h0, h1, ai_tys_pre h2, fun j v hj => (h3 j v hj).mono t⟩))
theorem ai_RE.obj {b : Nat} {ad : List Nat} {tys : List (ClassId × FieldType)} {ac : ai_C} {e : va_E} (h : ai_RE b ad tys ac e) (hl : ac.1 < 10) : ∃ fs, e = .inr (ac.1, fs) ∧ ai_RS b ad ac.2 fs := by
  rcases h with ⟨h0, h⟩ | ⟨ty, cA, f, t0, h0, h1, h2, h3⟩ | ⟨cA, f, t0, h0, h1, h2, h3⟩ | ⟨ty, cA, f, t0, h0, h1, h2, h3⟩
  · exact h
  · have := (ai_it_ge h0).1; omega
  · omega
  · have := (ai_rt_ge h0).1; omega
theorem ai_RE.ints {b : Nat} {ad : List Nat} {tys : List (ClassId × FieldType)} {ac : ai_C} {e : va_E} {ty : FieldType} (h : ai_RE b ad tys ac e) (hl : ai_it ac.1 = some ty) : ∃ (cA : ClassId) (f : Nat → Int32) (t0 : Nat), e = .inl (cA, ac.2.length, .inl f) ∧ tys[t0]? = some (cA, ty) ∧ ∀ (j : Nat) (v : ai_V), ac.2[j]? = some v → ai_RV b ad v (.int (f j)) := by
  have hg := ai_it_ge hl
  rcases h with ⟨h0, h⟩ | ⟨ty, cA, f, t0, h0, h1, h2, h3⟩ | ⟨cA, f, t0, h0, h1, h2, h3⟩ | ⟨ty, cA, f, t0, h0, h1, h2, h3⟩
  · omega
  · cases hl.symm.trans h0
    exact ⟨cA, f, t0, h1, h2, h3⟩
  · exact absurd h0 hg.2.1
  · rw [hg.2.2] at h0; cases h0
theorem ai_RE.longs {b : Nat} {ad : List Nat} {tys : List (ClassId × FieldType)} {ac : ai_C} {e : va_E} (h : ai_RE b ad tys ac e) (hl : ac.1 = 11) : ∃ (cA : ClassId) (f : Nat → Int64) (t0 : Nat), e = .inl (cA, ac.2.length, .inr (.inl f)) ∧ tys[t0]? = some (cA, .long) ∧ ∀ (j : Nat) (v : ai_V), ac.2[j]? = some v → ai_RV b ad v (.long (f j)) := by
  rcases h with ⟨h0, h⟩ | ⟨ty, cA, f, t0, h0, h1, h2, h3⟩ | ⟨cA, f, t0, h0, h1, h2, h3⟩ | ⟨ty, cA, f, t0, h0, h1, h2, h3⟩
  · omega
  · exact absurd hl (ai_it_ge h0).2.1
  · exact ⟨cA, f, t0, h1, h2, h3⟩
  · exact absurd hl (ai_rt_ge h0).2.1
theorem ai_RE.refs {b : Nat} {ad : List Nat} {tys : List (ClassId × FieldType)} {ac : ai_C} {e : va_E} {ty : FieldType} (h : ai_RE b ad tys ac e) (hl : ai_rt ac.1 = some ty) : ∃ (cA : ClassId) (f : Nat → Option Nat) (t0 : Nat), e = .inl (cA, ac.2.length, .inr (.inr (.inr (.inr f)))) ∧ tys[t0]? = some (cA, ty) ∧ ∀ (j : Nat) (v : ai_V), ac.2[j]? = some v → ai_RV b ad v (va_rf (f j)) := by
  rcases h with ⟨h0, h⟩ | ⟨ty, cA, f, t0, h0, h1, h2, h3⟩ | ⟨cA, f, t0, h0, h1, h2, h3⟩ | ⟨ty, cA, f, t0, h0, h1, h2, h3⟩
  · have := (ai_rt_ge hl).1; omega
  · rw [(ai_it_ge h0).2.2] at hl; cases hl
  · exact absurd h0 (ai_rt_ge hl).2.1
  · cases hl.symm.trans h0
    exact ⟨cA, f, t0, h1, h2, h3⟩
def ai_RW (D : va_G) (U : State) (A : Nat → Prop) (b : Nat) (ad : List Nat) (w : ai_W) (H : Heap) : Prop :=
  ∃ (ws : va_W) (tys : List (ClassId × FieldType)), va_K D classes tys U ∧ va_P D classes ws H ∧ va_D A ws ∧ ad = ws.map Prod.fst ∧ w.length = ws.length ∧ ∀ (k : Nat) (ac : ai_C), w[k]? = some ac → ∃ q, ws[k]? = some q ∧ ai_RE b ad tys ac q.2
theorem ai_adr {ws : va_W} {k a : Nat} {q : Nat × va_E} (h : (ws.map Prod.fst)[k]? = some a) (hq : ws[k]? = some q) : q = (a, q.2) := by
  rw [List.getElem?_map, hq] at h
  have : q.1 = a := Option.some.inj h
  rw [← this]
theorem ai_map_set {ws : va_W} {k a : Nat} {e0 e : va_E} (h : ws[k]? = some (a, e0)) : (ws.set k (a, e)).map Prod.fst = ws.map Prod.fst := by
  apply List.ext_getElem?
  intro i
  rw [List.getElem?_map, List.getElem?_map]
  by_cases hi : i = k
  · subst hi
    rw [List.getElem?_set_self (List.getElem?_eq_some_iff.mp h).1, h]
    rfl
  · rw [List.getElem?_set_ne (Ne.symm hi)]
theorem ai_cell_set {b : Nat} {ad : List Nat} {tys : List (ClassId × FieldType)} {ws : va_W} {w : ai_W} {k a : Nat} {e0 e : va_E} {ac : ai_C} (hk : ws[k]? = some (a, e0)) (hR : ∀ (k : Nat) (ac : ai_C), w[k]? = some ac → ∃ q, ws[k]? = some q ∧ ai_RE b ad tys ac q.2) (he : ai_RE b ad tys ac e) :
    ∀ (j : Nat) (bc : ai_C), (w.set k ac)[j]? = some bc → ∃ q, (ws.set k (a, e))[j]? = some q ∧ ai_RE b ad tys bc q.2 := by
  intro j bc hj
  have hl := (List.getElem?_eq_some_iff.mp hk).1
  by_cases hi : j = k
  · subst hi
    by_cases h2 : j < w.length
    · rw [List.getElem?_set_self h2] at hj
      cases hj
      exact ⟨_, List.getElem?_set_self hl, he⟩
    · rw [List.getElem?_eq_none (by rw [List.length_set]; omega)] at hj
      cases hj
  · rw [List.getElem?_set_ne (Ne.symm hi)] at hj
    rw [List.getElem?_set_ne (Ne.symm hi)]
    exact hR j bc hj
theorem ai_arr_set {b : Nat} {ad : List Nat} {vs : List ai_V} {g : Nat → Value} {i : Nat} {x : ai_V} {y : Value} (h : ∀ (j : Nat) (v : ai_V), vs[j]? = some v → ai_RV b ad v (g j)) (hx : ai_RV b ad x y) : ∀ (j : Nat) (v : ai_V), (vs.set i x)[j]? = some v → ai_RV b ad v (if j = i then y else g j) := by
  intro j v hj
  by_cases hi : j = i
  · subst hi
    rw [if_pos rfl]
    by_cases h2 : j < vs.length
    · rw [List.getElem?_set_self h2] at hj
      cases hj
      exact hx
    · rw [List.getElem?_eq_none (by rw [List.length_set]; omega)] at hj
      cases hj
  · rw [if_neg hi]
    rw [List.getElem?_set_ne (Ne.symm hi)] at hj
    exact h j v hj
theorem ai_cell_push {b : Nat} {ad : List Nat} {tys tx : List (ClassId × FieldType)} {ws wx : va_W} {w : ai_W} {wa : ai_W} (hlen : w.length = ws.length) (had : ad = ws.map Prod.fst) (hR : ∀ (k : Nat) (ac : ai_C), w[k]? = some ac → ∃ q, ws[k]? = some q ∧ ai_RE b ad tys ac q.2)
    (he : ∀ (k : Nat) (ac : ai_C), wa[k]? = some ac → ∃ q, wx[k]? = some q ∧ ai_RE b (ad ++ wx.map Prod.fst) (tys ++ tx) ac q.2) :
    ∀ (j : Nat) (bc : ai_C), (w ++ wa)[j]? = some bc → ∃ q, (ws ++ wx)[j]? = some q ∧ ai_RE b (ad ++ wx.map Prod.fst) (tys ++ tx) bc q.2 := by
  intro j bc hj
  by_cases hl : j < w.length
  · rw [List.getElem?_append_left hl] at hj
    obtain ⟨q, h1, h2⟩ := hR j bc hj
    exact ⟨q, by rw [List.getElem?_append_left (by omega)]; exact h1, h2.mono _ _⟩
  · rw [List.getElem?_append_right (by omega)] at hj
    obtain ⟨q, h1, h2⟩ := he _ bc hj
    exact ⟨q, by rw [List.getElem?_append_right (by omega), ← hlen]; exact h1, h2⟩
/-- the classes' fields -/
def ai_tt (ci k : Nat) : FieldType := match ci with
  | 0 => tt_0 k
  | 1 => tt_1 k
  | 2 => tt_2 k
  | 3 => tt_3 k
  | 4 => tt_4 k
  | 5 => tt_5 k
  | _ => tt_6 k
def ai_nf (ci : Nat) : Nat := match ci with
  | 0 => 13
  | 1 => 17
  | 2 => 15
  | 3 => 5
  | 4 => 6
  | 5 => 17
  | _ => 43
def ai_fin (ci k : Nat) : Bool := match ci with
  | 0 => (FF_0 k).2.2.2
  | 1 => (FF_1 k).2.2.2
  | 2 => (FF_2 k).2.2.2
  | 3 => (FF_3 k).2.2.2
  | 4 => (FF_4 k).2.2.2
  | 5 => (FF_5 k).2.2.2
  | _ => (FF_6 k).2.2.2
def ai_okT : FieldType → Bool
  | .int | .boolean | .long | .object _ | .array _ => true
  | _ => false
def ai_dv : FieldType → ai_V
  | .long => .inr (.inr (0, 0))
  | .object _ | .array _ => .inl none
  | _ => .inr (.inl (0, 0))
theorem ai_dv_ok {b : Nat} {ad : List Nat} {ty : FieldType} (h : ai_okT ty = true) : ai_RV b ad (ai_dv ty) (defaultValue ty) := by
  cases ty <;> first | exact ⟨0, rfl, by decide, by decide⟩ | exact rfl | cases h
def ai_CK (ci : Nat) (C : String) (T : u_T) (N : Nat) : Prop := N = ai_nf ci ∧ (∀ w ∈ u_ws C T N, w ∈ ww_ok) ∧ (∀ k, k < N → parseFieldDescriptor (T k).2.2.1 = some (ai_tt ci k)) ∧ (∀ a, a < N → ∀ b, b < N → a ≠ b → (T a).2.1 ≠ (T b).2.1) ∧ Cond.instantiable C N ∈ ww_ok ∧ Cond.initialized C ∈ ww_ok ∧ (∀ k, k < N → (T k).1 = C) ∧ (∀ k, (T k).2.2.2 = ai_fin ci k) ∧ (∀ k, k < N → ai_okT (ai_tt ci k) = true)
theorem ai_ck {ci : Nat} {q : vw_C} (h : classes[ci]? = some q) : ci < 7 ∧ ai_CK ci q.1 q.2.1 q.2.2 := by
  match ci, h with
  | 0, h => cases h; exact ⟨by decide, rfl, ii_0, tk_0, nn_0, in_0, iz_0, by decide +kernel, fun _ => rfl, by decide +kernel⟩
  | 1, h => cases h; exact ⟨by decide, rfl, ii_1, tk_1, nn_1, in_1, iz_1, by decide +kernel, fun _ => rfl, by decide +kernel⟩
  | 2, h => cases h; exact ⟨by decide, rfl, ii_2, tk_2, nn_2, in_2, iz_2, by decide +kernel, fun _ => rfl, by decide +kernel⟩
  | 3, h => cases h; exact ⟨by decide, rfl, ii_3, tk_3, nn_3, in_3, iz_3, by decide +kernel, fun _ => rfl, by decide +kernel⟩
  | 4, h => cases h; exact ⟨by decide, rfl, ii_4, tk_4, nn_4, in_4, iz_4, by decide +kernel, fun _ => rfl, by decide +kernel⟩
  | 5, h => cases h; exact ⟨by decide, rfl, ii_5, tk_5, nn_5, in_5, iz_5, by decide +kernel, fun _ => rfl, by decide +kernel⟩
  | 6, h => cases h; exact ⟨by decide, rfl, ii_6, tk_6, nn_6, in_6, iz_6, by decide +kernel, fun _ => rfl, by decide +kernel⟩
  | k + 7, h => exact absurd (List.getElem?_eq_some_iff.mp h).1 (by show ¬ k + 7 < 7; omega)
/-- what a field may take -/
def ai_okf (ty : FieldType) (x : ai_V) : Bool := match ty with
  | .int => (match x with
    | .inr (.inl _) => true
    | _ => false)
  | .boolean => (match x with
    | .inr (.inl q) => ai_le 0 q.1 && ai_le q.2 1
    | _ => false)
  | .long => (match x with
    | .inr (.inr _) => true
    | _ => false)
  | .object _ | .array _ => (match x with
    | .inl _ => true
    | _ => false)
  | _ => false
theorem ai_okf_ok {b : Nat} {ad : List Nat} {ty : FieldType} {x : ai_V} {v : Value} (h : ai_okf ty x = true) (hv : ai_RV b ad x v) : narrow ty v = v ∧ fits ty v = true := by
  unfold ai_okf at h
  split at h
  · split at h
    · obtain ⟨y, rfl, -⟩ := hv
      exact ⟨rfl, rfl⟩
    · cases h
  · split at h
    · next q =>
      obtain ⟨y, rfl, h1, h2⟩ := hv
      rw [Bool.and_eq_true, ai_le_iff, ai_le_iff] at h
      have hy : y = 0 ∨ y = 1 := by
        rcases (show y.toInt = 0 ∨ y.toInt = 1 by omega) with q | q
        · exact Or.inl (Int32.toInt_inj.mp q)
        · exact Or.inr (Int32.toInt_inj.mp q)
      rcases hy with rfl | rfl <;> exact ⟨by decide, by decide⟩
    · cases h
  · split at h
    · obtain ⟨y, rfl, -⟩ := hv
      exact ⟨rfl, rfl⟩
    · cases h
  · split at h
    · rcases ai_RV.ref hv with rfl | ⟨a, rfl⟩ <;> exact ⟨rfl, rfl⟩
    · cases h
  · split at h
    · rcases ai_RV.ref hv with rfl | ⟨a, rfl⟩ <;> exact ⟨rfl, rfl⟩
    · cases h
  · cases h
end
section
/-! ===== new T[n][m]: the outer array, behind it the inner ones (began as the printed names' rows vr_outer and va_mna) ===== -/
theorem ai_outer (c : ClassId) (N h0 : Nat) : ∀ i : Nat, Jvm.Free.Multi.outerC c N h0 i = arrV c N (fun j => va_rf (if j < i then some (h0 + 1 + j) else none))
  | 0 => by
    show ({ cls := c, slots := Array.replicate N .null, vm := .none } : Cell) = _
    rw [arrV_new]
    refine congrArg (arrV c N) (funext fun j => ?_)
    simp [va_rf]
  | i + 1 => by
    show (Jvm.Free.Multi.outerC c N h0 i).setSlot i (.ref (h0 + 1 + i)) = _
    rw [ai_outer c N h0 i, arrV_store]
    refine congrArg (arrV c N) (funext fun j => ?_)
    by_cases e : j = i
    · subst e
      simp [updV, va_rf]
    · by_cases h : j < i
      · simp [updV, e, h, Nat.lt_succ_of_lt h]
      · simp [updV, e, h, show ¬ j < i + 1 by omega]
section AIM
variable {p : Program} {l : Launch} {e : Env} {R : Room} {s : State} {m : MethodId} {args : Array Value} {below : List Frame} {meth : Method} {c : Code} {H : Heap} {locs : List Loc} {cells slots : Nat} {Q : State → Prop}
variable {cc : ByteArray} {pc : Nat} {ls : Array Slot} {rest : List Value} {D : va_G} {cl : List vw_C} {A : Nat → Prop} {tys : List (ClassId × FieldType)} {ws : va_W} {H0 : Heap}
def ai_grid (q N : Nat) (cA cy : ClassId) (z : vp_A) : va_W := (q, .inl (cA, N, .inr (.inr (.inr (.inr (fun i => if i < N then some (q + 1 + i) else none)))))) :: (List.range N).map (fun i => (q + 1 + i, .inl (cy, z)))
theorem ai_grid_adr {q N : Nat} {cA cy : ClassId} {z : vp_A} {k : Nat} {x : Nat × va_E} (h : (ai_grid q N cA cy z)[k]? = some x) : x.1 = q + k := by
  match k, h with
  | 0, h => cases h; rfl
  | k + 1, h =>
    unfold ai_grid at h
    rw [List.getElem?_cons_succ, List.getElem?_map] at h
    by_cases h9 : k < N
    · rw [List.getElem?_range h9] at h
      cases h
      show q + 1 + k = q + (k + 1)
      omega
    · have hn0 : (List.range N)[k]? = none := List.getElem?_eq_none (by rw [List.length_range]; omega)
      rw [hn0] at h
      cases h
theorem ai_mna (hexec : p.tables.exec = Jvm.exec) (hb : c.code = cc) {own : String} {index : Nat} {ty : FieldType} (hown : s.vm.findClass own = some m.cls) (hclink : (Cond.classLink own index ("[" ++ (FieldType.array ty).toString)).before args s = true) (hover : (Cond.arrayOver (.array ty)).before args s = true) (harr : (Cond.arrayClass ty).before args s = true)
    (hRA : ∀ cy : ClassId, s.vm.findClass (FieldType.array ty).toString = some cy → va_RA s cy ty)
    (hK : va_K D cl tys s) (hP : va_P D cl ws H) (hD : va_D A ws) (hS : va_S A H0 H locs) (hA : ∀ q, H0.size ≤ q → A q) {n k : Int32} {N' K' : Nat} {z : vp_A} (hn : ¬ n < 0) (hk : ¬ k < 0) (hN : n.toNatClampNeg = N') (hM : k.toNatClampNeg = K')
    (hb1 : N' * 4 ≤ 536870912) (hb2 : K' * componentBytes ty ≤ 536870912) (hb3 : K' ≤ 536870912) (hdf : fits ty (defaultValue ty) = true) (hdd : (defaultValue ty).isDefault = true) (hcells : cells + (1 + N') ≤ R.cells) (hslots : slots + (N' + N' * K') ≤ R.slots) (hz : ∀ c : ClassId, Jvm.Free.Multi.innerC c K' (defaultValue ty) = vp_cell c z) (hdg : decode cc pc = .ok (.multianewarray index 2, 4))
    (kk : ∀ (q : Nat) (cA cy : ClassId) (H1 : Heap), va_K D cl (tys ++ [(cA, .array ty), (cy, ty)]) s → va_P D cl (ws ++ ai_grid q N' cA cy z) H1 → va_D A (ws ++ ai_grid q N' cA cy z) → va_S A H0 H1 locs →
      W p l e R s m args below meth c H1 locs (cells + 1 + N') (slots + N' + N' * K') Q (F0 m (pc + 4) ls (.ref q :: rest))) : W p l e R s m args below meth c H locs cells slots Q (F0 m pc ls (.int k :: .int n :: rest)) := by
  subst hN
  subst hM
  intro T hT Xs
  obtain ⟨vm₁, cA, cy, -, fA, fC, hO, hI, X', step⟩ := Xs.multianewarray2F hexec hown hclink hover harr (g := F0 m pc ls (.int k :: .int n :: rest)) rfl (by rw [hb]; exact hdg) rfl hn hk hb1 hb2 hb3 hdf hdd hcells hslots
  generalize hF : Jvm.Free.Multi.fill (T.setVm vm₁) cA cy n.toNatClampNeg k.toNatClampNeg (defaultValue ty) n.toNatClampNeg = F at X' step
  have hTh : (T.setVm vm₁).heap = H := hT
  obtain ⟨f1, f2, -, -⟩ := Jvm.Free.Multi.fill_facts (T.setVm vm₁) cA cy n.toNatClampNeg k.toNatClampNeg (defaultValue ty) n.toNatClampNeg
  rw [hF, hTh] at f1 f2
  have hold : ∀ x : Nat, x < H.size → F.heap[x]? = H[x]? := fun x hx => by
    have := Jvm.Free.Multi.fill_old (T.setVm vm₁) cA cy n.toNatClampNeg k.toNatClampNeg (defaultValue ty) (a := x) (by rw [hTh]; exact hx) n.toNatClampNeg
    rw [hF, hTh] at this
    exact this
  have hrow : ∀ j : Nat, j < n.toNatClampNeg → F.heap[H.size + 1 + j]? = some (vp_cell cy z) := fun j hj => by
    have := Jvm.Free.Multi.fill_inner (T.setVm vm₁) cA cy n.toNatClampNeg k.toNatClampNeg (defaultValue ty) n.toNatClampNeg j hj
    rw [hF, hTh, hz] at this
    exact this
  have hout : Jvm.Free.Multi.outerC cA n.toNatClampNeg H.size n.toNatClampNeg = vp_cell cA (n.toNatClampNeg, .inr (.inr (.inr (.inr (fun i => if i < n.toNatClampNeg then some (H.size + 1 + i) else none))))) := by
    rw [vp_cell_q]
    exact ai_outer cA n.toNatClampNeg H.size n.toNatClampNeg
  rw [hout] at f2
  have hP0 : va_P D cl ws F.heap := hP.kept (fun k9 x hx => hold x.1 ((hP k9 x hx).lt))
  have hP2 : va_P D cl (ws ++ ai_grid H.size n.toNatClampNeg cA cy z) F.heap := hP0.app (fun k9 x hx => by
    match k9, hx with
    | 0, hx => cases hx; exact f2
    | k9 + 1, hx =>
      unfold ai_grid at hx
      rw [List.getElem?_cons_succ] at hx
      obtain ⟨i, hi, rfl⟩ := List.mem_map.mp (List.mem_of_getElem? hx)
      exact hrow i (List.mem_range.mp hi))
  have hD2 : va_D A (ws ++ ai_grid H.size n.toNatClampNeg cA cy z) := by
    refine hD.app ⟨fun i j x y hi hj hxy => ?_, fun k9 x hx => ?_⟩ (fun i j x y hi hj hxy => ?_)
    · have h1 := ai_grid_adr hi
      have h2 := ai_grid_adr hj
      omega
    · have h1 := ai_grid_adr hx
      exact hA _ (by have := hS.1; omega)
    · have h1 := (hP i x hi).lt
      have h2 := ai_grid_adr hj
      omega
  have hAr : ArrOfT s cA (.array ty) := fun N9 z9 => by
    obtain ⟨-, k9, hk9, cm9, hkk9⟩ := (hO 0 0 0).1
    exact ⟨(fun q hq => by cases hq), k9, hk9, cm9, hkk9⟩
  have hAi : ArrOfT s cy ty := fun N9 z9 => by
    obtain ⟨-, k9, hk9, cm9, hkk9⟩ := (hI 0 .null).1
    exact ⟨(fun q hq => by cases hq), k9, hk9, cm9, hkk9⟩
  have hK2 : va_K D cl (tys ++ [(cA, .array ty), (cy, ty)]) s := ⟨hK.1, fun k9 x hx => by
    by_cases hl : k9 < tys.length
    · rw [List.getElem?_append_left hl] at hx
      exact hK.2 k9 x hx
    · rw [List.getElem?_append_right (by omega)] at hx
      generalize k9 - tys.length = i at hx
      match i, hx with
      | 0, hx => cases hx; exact ⟨hAr, fA⟩
      | 1, hx => cases hx; exact ⟨hAi, hRA _ fC⟩⟩
  obtain ⟨t, a1, b1⟩ := kk H.size cA cy F.heap hK2 hP2 hD2 ⟨by rw [f1]; have := hS.1; omega, fun x h1 h2 => (hold x (Nat.lt_of_lt_of_le h1 hS.1)).trans (hS.2.1 x h1 h2), hS.2.2⟩ F rfl X'
  refine ⟨t, step t ?_, b1⟩
  have e : T.heap.size = H.size := by rw [hT]
  rw [e]
  exact a1
end AIM
end
section
/-! ===== one instruction of an abstract run: fields, arrays, new cells ===== -/
def ai_nt : ArrayType → Nat
  | .int => 10
  | .long => 11
  | .byte => 12
  | .boolean => 13
  | _ => 99
def ai_zv (t : Nat) : ai_V := bif Nat.beq t 11 then .inr (.inr (0, 0)) else bif Nat.blt t 14 then .inr (.inl (0, 0)) else .inl none
def ai_frc {α : Type} (n : Nat) (f : Nat → α) : α := match n with
  | 0 => f 0
  | k + 1 => f (k + 1)
theorem ai_frc_eq {α : Type} (n : Nat) (f : Nat → α) : ai_frc n f = f n := by cases n <;> rfl
def ai_gH (ini : Bool) (oc : Nat) (scr : List ai_V) (ins : Instr) (a b : Nat) (S : List ai_V) (w : ai_W) : Option (List ai_V × ai_W × Nat × Nat) := match ins with
  | .getfield _ => (match S with
    | .inl (some (k + 2)) :: r => (match w[k]? with
      | some ac => bif Nat.beq ac.1 a then (match ac.2[b]? with
        | some v => some (v :: r, w, 0, 0)
        | none => none) else none
      | none => none)
    | _ => none)
  | .putfield _ => (match S with
    | v :: .inl (some (k + 2)) :: r => (match w[k]? with
      | some ac => bif Nat.beq ac.1 a && (ai_okf (ai_tt a b) v && (!(ai_fin a b) || (ini && Nat.beq a oc))) then (match ac.2[b]? with
        | some _ => some (r, w.set k (ac.1, ac.2.set b v), 0, 0)
        | none => none) else none
      | none => none)
    | _ => none)
  | .iaload => (match S with
    | .inr (.inl q) :: .inl (some 0) :: r => (match ai_ix q with
      | some j => (match scr[j]? with
        | some v => some (v :: r, w, 0, 0)
        | none => none)
      | none => none)
    | .inr (.inl q) :: .inl (some (k + 2)) :: r => (match ai_ix q with
      | some j => (match w[k]? with
        | some ac => bif Nat.beq ac.1 10 then (match ac.2[j]? with
          | some v => some (v :: r, w, 0, 0)
          | none => none) else none
        | none => none)
      | none => none)
    | _ => none)
  | .baload => (match S with
    | .inr (.inl q) :: .inl (some (k + 2)) :: r => (match ai_ix q with
      | some j => (match w[k]? with
        | some ac => bif Nat.beq ac.1 12 || Nat.beq ac.1 13 then (match ac.2[j]? with
          | some v => some (v :: r, w, 0, 0)
          | none => none) else none
        | none => none)
      | none => none)
    | _ => none)
  | .laload => (match S with
    | .inr (.inl q) :: .inl (some (k + 2)) :: r => (match ai_ix q with
      | some j => (match w[k]? with
        | some ac => bif Nat.beq ac.1 11 then (match ac.2[j]? with
          | some v => some (v :: r, w, 0, 0)
          | none => none) else none
        | none => none)
      | none => none)
    | _ => none)
  | .aaload => (match S with
    | .inr (.inl q) :: .inl (some (k + 2)) :: r => (match ai_ix q with
      | some j => (match w[k]? with
        | some ac => (match ai_rt ac.1 with
          | some _ => (match ac.2[j]? with
            | some v => some (v :: r, w, 0, 0)
            | none => none)
          | none => none)
        | none => none)
      | none => none)
    | _ => none)
  | .iastore => (match S with
    | .inr (.inl v) :: .inr (.inl q) :: .inl (some (k + 2)) :: r => (match ai_ix q with
      | some j => (match w[k]? with
        | some ac => bif Nat.beq ac.1 10 then (match ac.2[j]? with
          | some _ => some (r, w.set k (ac.1, ac.2.set j (.inr (.inl v))), 0, 0)
          | none => none) else none
        | none => none)
      | none => none)
    | _ => none)
  | .bastore => (match S with
    | .inr (.inl _) :: .inr (.inl q) :: .inl (some (k + 2)) :: r => (match ai_ix q with
      | some j => (match w[k]? with
        | some ac => bif Nat.beq ac.1 12 || Nat.beq ac.1 13 then (match ac.2[j]? with
          | some _ => some (r, w.set k (ac.1, ac.2.set j (.inr (.inl ai_tI))), 0, 0)
          | none => none) else none
        | none => none)
      | none => none)
    | _ => none)
  | .lastore => (match S with
    | .inr (.inr v) :: .inr (.inl q) :: .inl (some (k + 2)) :: r => (match ai_ix q with
      | some j => (match w[k]? with
        | some ac => bif Nat.beq ac.1 11 then (match ac.2[j]? with
          | some _ => some (r, w.set k (ac.1, ac.2.set j (.inr (.inr v))), 0, 0)
          | none => none) else none
        | none => none)
      | none => none)
    | _ => none)
  | .aastore => (match S with
    | .inl (some (kv + 2)) :: .inr (.inl q) :: .inl (some (k + 2)) :: r => (match ai_ix q with
      | some j => (match w[k]? with
        | some ac => (match w[kv]? with
          | some vc => bif (Nat.beq ac.1 14 && Nat.beq vc.1 1) || (Nat.beq ac.1 15 && Nat.beq vc.1 3) then (match ac.2[j]? with
            | some _ => some (r, w.set k (ac.1, ac.2.set j (.inl (some (kv + 2)))), 0, 0)
            | none => none) else none
          | none => none)
        | none => none)
      | none => none)
    | _ => none)
  | .arraylength => (match S with
    | .inl (some 0) :: r => bif Nat.blt 0 scr.length && Nat.ble scr.length 100000 then some (.inr (.inl (.ofNat scr.length, .ofNat scr.length)) :: r, w, 0, 0) else none
    | .inl (some (k + 2)) :: r => (match w[k]? with
      | some ac => bif Nat.ble 10 ac.1 && Nat.ble ac.2.length 100000 then some (.inr (.inl (.ofNat ac.2.length, .ofNat ac.2.length)) :: r, w, 0, 0) else none
      | none => none)
    | _ => none)
  | .newarray ty => (match S with
    | .inr (.inl q) :: r => (match ai_ix q with
      | some n => bif Nat.blt (ai_nt ty) 14 && Nat.ble n 10000 then some (.inl (some (ai_frc w.length (fun z => z + 2))) :: r, w ++ [(ai_nt ty, List.replicate n (ai_zv (ai_nt ty)))], 1, n) else none
      | none => none)
    | _ => none)
  | .anewarray _ => (match S with
    | .inr (.inl q) :: r => (match ai_ix q with
      | some n => bif Nat.ble n 10000 then some (.inl (some (ai_frc w.length (fun z => z + 2))) :: r, w ++ [(a, List.replicate n (.inl none))], 1, n) else none
      | none => none)
    | _ => none)
  | .multianewarray _ _ => (match S with
    | .inr (.inl q2) :: .inr (.inl q) :: r => (match ai_ix q2 with
      | some k => (match ai_ix q with
        | some n => bif Nat.ble n 10000 && (Nat.ble k 10000 && (Nat.beq a 16 || Nat.beq a 17)) then ai_frc w.length (fun z => some (.inl (some (z + 2)) :: r, w ++ ((a, (List.range n).map (fun i => .inl (some (z + 3 + i)))) :: List.replicate n (a - 6, List.replicate k (ai_zv (a - 6)))), 1 + n, n + n * k)) else none
        | none => none)
      | none => none)
    | _ => none)
  | .new _ => some (.inl (some (ai_frc w.length (fun z => z + 2))) :: S, w ++ [(a, (List.range (ai_nf a)).map (fun k => ai_dv (ai_tt a k)))], 1, ai_nf a)
  | _ => none
/-- what an instruction links -/
def ai_hf (own : String) (ins : Instr) (a b : Nat) : Prop := match ins with
  | .getfield i | .putfield i => ∃ (C : String) (T : u_T) (N : Nat), classes[a]? = some (C, T, N) ∧ b < N ∧ Cond.fieldLink own i C (T b).2.1 (T b).2.2.1 ∈ ww_ok
  | .new i => ∃ (C : String) (T : u_T) (N : Nat), classes[a]? = some (C, T, N) ∧ Cond.classLink own i C ∈ ww_ok
  | .anewarray i => (a = 14 ∧ Cond.classLink own i RR_1 ∈ ww_ok) ∨ (a = 15 ∧ Cond.classLink own i RR_3 ∈ ww_ok)
  | .multianewarray i d => d = 2 ∧ ((a = 16 ∧ Cond.classLink own i "[[I" ∈ ww_ok) ∨ (a = 17 ∧ Cond.classLink own i "[[J" ∈ ww_ok))
  | _ => True
/-- the script, where the frame is the law's -/
def ai_SC (scr : List ai_V) (b : Nat) (A : Nat → Prop) (H0 : Heap) (s : State) : Prop := scr = [] ∨ ∃ xs : Nat → Int32, va_X b scr.length xs s H0 ∧ b < H0.size ∧ ¬ A b ∧ ∀ (j : Nat) (x : ai_V), scr[j]? = some x → ai_RV b [] x (.int (xs j))
def ai_AV (U : State) : Prop := va_AO RR_1 U ∧ va_AO RR_3 U ∧ (Cond.arrayOver (.array .int)).before #[] U = true ∧ (Cond.arrayOver (.array .long)).before #[] U = true
section AIH
variable {p : Program} {l : Launch} {e : Env} {R : Room} {s : State} {m : MethodId} {args : Array Value} {below : List Frame} {meth : Method} {c : Code} {H : Heap} {locs : List Loc} {cells slots : Nat} {Q : State → Prop}
variable {cc : ByteArray} {pc : Nat} {ls : Array Slot} {st : List Value} {bs nL : Nat} {ad : List Nat} {S S' : List ai_V} {D : va_G} {A : Nat → Prop} {H0 : Heap} {w w' : ai_W} {dc ds : Nat}
theorem ai_obj {k : Nat} {v : Value} {ws : va_W} {tys : List (ClassId × FieldType)} {ac : ai_C} (hv : ai_RV bs (ws.map Prod.fst) (.inl (some (k + 2))) v) (hR : ∀ (k : Nat) (ac : ai_C), w[k]? = some ac → ∃ q, ws[k]? = some q ∧ ai_RE bs (ws.map Prod.fst) tys ac q.2) (hk : w[k]? = some ac) :
    ∃ (a : Nat) (e : va_E), v = .ref a ∧ ws[k]? = some (a, e) ∧ ai_RE bs (ws.map Prod.fst) tys ac e := by
  obtain ⟨a, h1, rfl⟩ := hv
  obtain ⟨q, h2, h3⟩ := hR k ac hk
  have := ai_adr h1 h2
  exact ⟨a, q.2, rfl, by rw [h2, ← this], h3⟩
theorem ai_same {α : Prop} {ad : List Nat} (h : ∀ ad' : List Nat, (∃ t, ad' = ad ++ t) → ad' = ad → α) : α := h ad ⟨[], (List.append_nil _).symm⟩ rfl
end AIH
end
section
/-! ===== the heap's instructions hold ===== -/
theorem ai_bif2 {α : Type} {c : Bool} {x : Option α} {y : α} (h : (bif c then x else none) = some y) : c = true ∧ x = some y := by
  cases c with
  | true => exact ⟨rfl, h⟩
  | false => cases h
theorem ac_int : Cond.arrayClass .int ∈ ww_ok := ww_t 180 (by decide +kernel)
theorem ac_long : Cond.arrayClass .long ∈ ww_ok := ww_t 179 (by decide +kernel)
theorem ac_byte : Cond.arrayClass .byte ∈ ww_ok := ww_t 56 (by decide +kernel)
theorem ac_bool : Cond.arrayClass .boolean ∈ ww_ok := ww_t 278 (by decide +kernel)
theorem ai_upd {b : Nat} {ad : List Nat} {vs : List ai_V} {f : Nat → Int32} {i : Nat} {x : ai_V} {y : Int32} (h : ∀ (j : Nat) (v : ai_V), vs[j]? = some v → ai_RV b ad v (.int (f j))) (hx : ai_RV b ad x (.int y)) : ∀ (j : Nat) (v : ai_V), (vs.set i x)[j]? = some v → ai_RV b ad v (.int (upd f i y j)) := by
  intro j v hj
  have h9 := ai_arr_set h hx j v hj
  by_cases q : j = i
  · rw [if_pos q] at h9
    rw [show upd f i y j = y from if_pos q]
    exact h9
  · rw [if_neg q] at h9
    rw [show upd f i y j = f j from if_neg q]
    exact h9
theorem ai_updL {b : Nat} {ad : List Nat} {vs : List ai_V} {f : Nat → Int64} {i : Nat} {x : ai_V} {y : Int64} (h : ∀ (j : Nat) (v : ai_V), vs[j]? = some v → ai_RV b ad v (.long (f j))) (hx : ai_RV b ad x (.long y)) : ∀ (j : Nat) (v : ai_V), (vs.set i x)[j]? = some v → ai_RV b ad v (.long (vp_updL f i y j)) := by
  intro j v hj
  have h9 := ai_arr_set h hx j v hj
  by_cases q : j = i
  · rw [if_pos q] at h9
    rw [show vp_updL f i y j = y from if_pos q]
    exact h9
  · rw [if_neg q] at h9
    rw [show vp_updL f i y j = f j from if_neg q]
    exact h9
theorem ai_updR {b : Nat} {ad : List Nat} {vs : List ai_V} {f : Nat → Option Nat} {i : Nat} {x : ai_V} {y : Option Nat} (h : ∀ (j : Nat) (v : ai_V), vs[j]? = some v → ai_RV b ad v (va_rf (f j))) (hx : ai_RV b ad x (va_rf y)) : ∀ (j : Nat) (v : ai_V), (vs.set i x)[j]? = some v → ai_RV b ad v (va_rf (va_up f i y j)) := by
  intro j v hj
  have h9 := ai_arr_set (g := fun j => va_rf (f j)) h hx j v hj
  by_cases q : j = i
  · rw [if_pos q] at h9
    rw [show va_up f i y j = y from if_pos q]
    exact h9
  · rw [if_neg q] at h9
    rw [show va_up f i y j = f j from if_neg q]
    exact h9
theorem ai_dvs {b : Nat} {ad : List Nat} {f : Nat → FieldType} : ∀ (l : List Nat), (∀ k ∈ l, ai_okT (f k) = true) → ai_RS b ad (l.map (fun k => ai_dv (f k))) (l.map (fun k => defaultValue (f k)))
  | [], _ => trivial
  | k :: l, h => ⟨ai_dv_ok (h k List.mem_cons_self), ai_dvs l (fun j hj => h j (List.mem_cons_of_mem _ hj))⟩
theorem ai_last {q n : Nat} {ws : va_W} {w : ai_W} {e : va_E} (hlen : w.length = ws.length) : ((ws ++ [(q, e)]).map Prod.fst)[w.length]? = some q := by
  rw [List.map_append, hlen, List.getElem?_append_right (by rw [List.length_map]; exact Nat.le_refl _), List.length_map, Nat.sub_self]
  rfl
theorem ai_one {b : Nat} {ad : List Nat} {tys tx : List (ClassId × FieldType)} {ws : va_W} {w : ai_W} {q : Nat} {e : va_E} {ac : ai_C} (hlen : w.length = ws.length) (had : ad = ws.map Prod.fst) (hR : ∀ (k : Nat) (ac : ai_C), w[k]? = some ac → ∃ q, ws[k]? = some q ∧ ai_RE b ad tys ac q.2)
    (he : ai_RE b (ad ++ [q]) (tys ++ tx) ac e) : ∀ (j : Nat) (bc : ai_C), (w ++ [ac])[j]? = some bc → ∃ q', (ws ++ [(q, e)])[j]? = some q' ∧ ai_RE b (ad ++ [q]) (tys ++ tx) bc q'.2 :=
  ai_cell_push (wx := [(q, e)]) hlen had hR (fun k bc hk => by
    match k, hk with
    | 0, hk => cases hk; exact ⟨_, rfl, he⟩)
section AIH2
variable {p : Program} {l : Launch} {e : Env} {R : Room} {s : State} {m : MethodId} {args : Array Value} {below : List Frame} {meth : Method} {c : Code} {H : Heap} {locs : List Loc} {cells slots : Nat} {Q : State → Prop}
variable {cc : ByteArray} {pc : Nat} {ls : Array Slot} {st : List Value} {bs nL : Nat} {ad : List Nat} {S S' : List ai_V} {D : va_G} {A : Nat → Prop} {H0 : Heap} {w w' : ai_W} {dc ds : Nat}
variable {cl : List vw_C} {tys : List (ClassId × FieldType)} {ws : va_W} {rest : List Value} {a : Nat}
theorem ai_aald (hexec : p.tables.exec = Jvm.exec) (hb : c.code = cc) (hK : va_K D cl tys s) (hP : va_P D cl ws H) (q0 t0 : Nat) {cA : ClassId} {ty : FieldType} {n : Nat} {f : Nat → Option Nat} (ha : ws[q0]? = some (a, .inl (cA, n, .inr (.inr (.inr (.inr f)))))) (ht : tys[t0]? = some (cA, ty)) (hty : ty.isReference = true) {i : Int32} (hin : vp_in i n) (hdg : decode cc pc = .ok (.aaload, 1))
    (kk : W p l e R s m args below meth c H locs cells slots Q (F0 m (pc + 1) ls (va_rf (f i.toNatClampNeg) :: rest))) : W p l e R s m args below meth c H locs cells slots Q (F0 m pc ls (.int i :: .ref a :: rest)) := by
  have hlt : i.toNatClampNeg < n := Nat.not_le.mp fun q => hin (Or.inr q)
  exact W.aald (v := va_rf (f i.toNatClampNeg)) (ty := ty) hexec hb (hP q0 _ ha) ((hK.2 t0 _ ht).1 n (fun j => va_rf (f j))) hty (fun q => by cases q) (by show ¬ (i < 0 ∨ (arrV _ _ _).slots.size ≤ _); rw [arrV_size]; exact hin) (by show (arrV _ _ _).slots[_]? = _; rw [arrV_read _ _ hlt]) rfl rfl hdg kk
theorem ai_gH_ok (hx : p.tables.exec = Jvm.exec) (hb : c.code = cc) {own : String} (hown : s.vm.findClass own = some m.cls) (hts : ∀ w ∈ ww_ok, w.before args s = true) (hEV : ai_AV s) {ini : Bool} (hini : ini = true → meth.name = "<init>") {oc : Nat} (hoc : ∀ q, classes[oc]? = some q → own = q.1)
    {ins : Instr} {a b : Nat} (hd : decode cc pc = .ok (ins, ai_len ins)) (hf : ai_hf own ins a b) {scr : List ai_V} (hSC : ai_SC scr bs A H0 s) (h : ai_gH ini oc scr ins a b S w = some (S', w', dc, ds))
    (hW : ai_RW D s A bs ad w H) (hV : va_S A H0 H locs) (hA : ∀ q, H0.size ≤ q → A q) (hS : ai_RS bs ad S st) (hcells : cells + dc ≤ R.cells) (hslots : slots + ds ≤ R.slots)
    (kk : ∀ (H1 : Heap) (locs1 : List Loc) (ad' : List Nat) (st' : List Value), (∃ t, ad' = ad ++ t) → ai_RW D s A bs ad' w' H1 → va_S A H0 H1 locs1 → ai_RS bs ad' S' st' → W p l e R s m args below meth c H1 locs1 (cells + dc) (slots + ds) Q (F0 m (pc + ai_len ins) ls st')) : W p l e R s m args below meth c H locs cells slots Q (F0 m pc ls st) := by
  unfold ai_gH at h
  split at h
  · next i =>
    split at h
    · next k r =>
      split at h
      · next ac hk =>
        obtain ⟨h1, h⟩ := ai_bif2 h
        split at h
        · next v hv =>
          cases h
          have ht := Nat.eq_of_beq_eq_true h1
          obtain ⟨C, T, N, hc, hbN, hlk⟩ := hf
          obtain ⟨ha7, ck⟩ := ai_ck hc
          match st, hS with
          | u :: st', ⟨hu, hS⟩ =>
            obtain ⟨ws, tys, hK, hP, hD, had, hlen, hR⟩ := id hW
            subst had
            obtain ⟨a', e', rfl, he, hre⟩ := ai_obj hu hR hk
            obtain ⟨fs, rfl, hfs⟩ := hre.obj (by omega)
            obtain ⟨x, hx1, hx2⟩ := hfs.get hv
            rw [ht] at he
            exact va_get hx hb hts ck.2.1 hown hK hP k he hc b hbN (hts _ hlk) (fun x9 h9 => by rw [ck.2.2.2.2.2.2.1 b hbN] at h9; exact h9) hx1 hd (kk H locs _ _ ⟨[], (List.append_nil _).symm⟩ hW hV ⟨hx2, hS⟩)
        · cases h
      · cases h
    · cases h
  · next i =>
    split at h
    · next v k r =>
      split at h
      · next ac hk =>
        obtain ⟨h1, h⟩ := ai_bif2 h
        split at h
        · next v0 hv0 =>
          cases h
          rw [Bool.and_eq_true, Bool.and_eq_true, Bool.or_eq_true, Bool.and_eq_true] at h1
          obtain ⟨h1, h2, h3⟩ := h1
          have ht := Nat.eq_of_beq_eq_true h1
          obtain ⟨C, T, N, hc, hbN, hlk⟩ := hf
          obtain ⟨ha7, ck⟩ := ai_ck hc
          match st, hS with
          | [_], hS => exact hS.2.elim
          | y :: u :: st', ⟨hy, hu, hS⟩ =>
            obtain ⟨hn, hfit⟩ := ai_okf_ok h2 hy
            obtain ⟨ws, tys, hK, hP, hD, had, hlen, hR⟩ := id hW
            subst had
            obtain ⟨a', e', rfl, he, hre⟩ := ai_obj hu hR hk
            obtain ⟨fs, rfl, hfs⟩ := hre.obj (by omega)
            obtain ⟨x, hx1, hx2⟩ := hfs.get hv0
            have hlt : b < fs.length := (List.getElem?_eq_some_iff.mp hx1).1
            have hac : ac = (a, ac.2) := by rw [← ht]
            rw [ht] at he
            have fin : ∀ (H1 : Heap) (locs1 : List Loc), va_P D classes (ws.set k (a', .inr (a, fs.set b y))) H1 → va_D A (ws.set k (a', .inr (a, fs.set b y))) → va_S A H0 H1 locs1 → W p l e R s m args below meth c H1 locs1 cells slots Q (F0 m (pc + 3) ls st') := fun H1 locs1 hP1 hD1 hS1 =>
              kk H1 locs1 _ _ ⟨[], (List.append_nil _).symm⟩ ⟨ws.set k (a', .inr (a, fs.set b y)), tys, hK, hP1, hD1, (ai_map_set he).symm, by rw [List.length_set, List.length_set]; exact hlen, ai_cell_set he hR (Or.inl ⟨by show ac.1 < 10; omega, fs.set b y, by rw [ht], hfs.set b hy⟩)⟩ hS1 hS
            cases hfin : ai_fin a b with
            | false => exact va_put hx hb hts ck.2.1 (ai_tt a) ck.2.2.1 ck.2.2.2.1 hown hK hP hD hV k he hc b hbN (hts _ hlk) (fun x9 h9 => by rw [ck.2.2.2.2.2.2.1 b hbN] at h9; exact h9) (by rw [ck.2.2.2.2.2.2.2.1]; exact hfin) (ck.2.2.1 b hbN) hn hfit hlt hd fin
            | true =>
              rcases h3 with h3 | ⟨h3, h4⟩
              · rw [hfin] at h3; cases h3
              · have h4 := Nat.eq_of_beq_eq_true h4
                subst h4
                have hoc' := hoc _ hc
                exact va_putF hx hb hts ck.2.1 (ai_tt a) ck.2.2.1 ck.2.2.2.1 hown hK hP hD hV k he hc b hbN (hts _ hlk) (fun x9 h9 => by rw [ck.2.2.2.2.2.2.1 b hbN] at h9; exact h9) (by rw [ck.2.2.2.2.2.2.2.1]; exact hfin) (hini h3) (by rw [ck.2.2.2.2.2.2.1 b hbN, hoc']) (ck.2.2.1 b hbN) hn hfit hlt hd fin
        · cases h
      · cases h
    · cases h
  · split at h
    · next q r =>
      split at h
      · next j hj =>
        split at h
        · next v hv =>
          cases h
          match st, hS with
          | [_], hS => exact hS.2.elim
          | _ :: _ :: st', ⟨⟨x, rfl, x1, x2⟩, rfl, hS⟩ =>
            obtain ⟨e1, e2, e3, -⟩ := ai_ix_ok hj x1 x2
            rcases hSC with rfl | ⟨xs, hX, hbl, hbA, hxs⟩
            · cases hv
            · refine va_sld hx hb hX hbl hbA hV (ai_in ⟨e2, e3⟩ (List.getElem?_eq_some_iff.mp hv).1) hd (kk H locs _ _ ⟨[], (List.append_nil _).symm⟩ hW hV ⟨?_, hS⟩)
              rw [e2]
              have := (hxs j v hv).mono ad
              rw [List.nil_append] at this
              exact this
        · cases h
      · cases h
    · next q k r =>
      split at h
      · next j hj =>
        split at h
        · next ac hk =>
          obtain ⟨h1, h⟩ := ai_bif2 h
          split at h
          · next v hv =>
            cases h
            have ht := Nat.eq_of_beq_eq_true h1
            match st, hS with
            | [_], hS => exact hS.2.elim
            | _ :: u :: st', ⟨⟨x, rfl, x1, x2⟩, hu, hS⟩ =>
              obtain ⟨e1, e2, e3, -⟩ := ai_ix_ok hj x1 x2
              obtain ⟨ws, tys, hK, hP, hD, had, hlen, hR⟩ := id hW
              subst had
              obtain ⟨a', e', rfl, he, hre⟩ := ai_obj hu hR hk
              obtain ⟨cA, f, t0, rfl, g1, g2⟩ := hre.ints (ty := .int) (by rw [ht]; rfl)
              exact va_iald hx hb hK hP k t0 he g1 (ai_in ⟨e2, e3⟩ (List.getElem?_eq_some_iff.mp hv).1) hd (kk H locs _ _ ⟨[], (List.append_nil _).symm⟩ hW hV ⟨by rw [e2]; exact g2 j v hv, hS⟩)
          · cases h
        · cases h
      · cases h
    · cases h
  · split at h
    · next q k r =>
      split at h
      · next j hj =>
        split at h
        · next ac hk =>
          obtain ⟨h1, h⟩ := ai_bif2 h
          split at h
          · next v hv =>
            cases h
            match st, hS with
            | [_], hS => exact hS.2.elim
            | _ :: u :: st', ⟨⟨x, rfl, x1, x2⟩, hu, hS⟩ =>
              obtain ⟨e1, e2, e3, -⟩ := ai_ix_ok hj x1 x2
              obtain ⟨ws, tys, hK, hP, hD, had, hlen, hR⟩ := id hW
              subst had
              obtain ⟨a', e', rfl, he, hre⟩ := ai_obj hu hR hk
              rw [Bool.or_eq_true] at h1
              rcases h1 with h1 | h1
              · have ht := Nat.eq_of_beq_eq_true h1
                obtain ⟨cA, f, t0, rfl, g1, g2⟩ := hre.ints (ty := .byte) (by rw [ht]; rfl)
                exact va_bald hx hb hK hP k t0 he g1 (ai_in ⟨e2, e3⟩ (List.getElem?_eq_some_iff.mp hv).1) hd (kk H locs _ _ ⟨[], (List.append_nil _).symm⟩ hW hV ⟨by rw [e2]; exact g2 j v hv, hS⟩)
              · have ht := Nat.eq_of_beq_eq_true h1
                obtain ⟨cA, f, t0, rfl, g1, g2⟩ := hre.ints (ty := .boolean) (by rw [ht]; rfl)
                exact va_zald hx hb hK hP k t0 he g1 (ai_in ⟨e2, e3⟩ (List.getElem?_eq_some_iff.mp hv).1) hd (kk H locs _ _ ⟨[], (List.append_nil _).symm⟩ hW hV ⟨by rw [e2]; exact g2 j v hv, hS⟩)
          · cases h
        · cases h
      · cases h
    · cases h
  · split at h
    · next q k r =>
      split at h
      · next j hj =>
        split at h
        · next ac hk =>
          obtain ⟨h1, h⟩ := ai_bif2 h
          split at h
          · next v hv =>
            cases h
            have ht := Nat.eq_of_beq_eq_true h1
            match st, hS with
            | [_], hS => exact hS.2.elim
            | _ :: u :: st', ⟨⟨x, rfl, x1, x2⟩, hu, hS⟩ =>
              obtain ⟨e1, e2, e3, -⟩ := ai_ix_ok hj x1 x2
              obtain ⟨ws, tys, hK, hP, hD, had, hlen, hR⟩ := id hW
              subst had
              obtain ⟨a', e', rfl, he, hre⟩ := ai_obj hu hR hk
              obtain ⟨cA, f, t0, rfl, g1, g2⟩ := hre.longs ht
              exact va_lald hx hb hK hP k t0 he g1 (ai_in ⟨e2, e3⟩ (List.getElem?_eq_some_iff.mp hv).1) hd (kk H locs _ _ ⟨[], (List.append_nil _).symm⟩ hW hV ⟨by rw [e2]; exact g2 j v hv, hS⟩)
          · cases h
        · cases h
      · cases h
    · cases h
  · split at h
    · next q k r =>
      split at h
      · next j hj =>
        split at h
        · next ac hk =>
          split at h
          · next rty hrt =>
            split at h
            · next v hv =>
              cases h
              match st, hS with
              | [_], hS => exact hS.2.elim
              | _ :: u :: st', ⟨⟨x, rfl, x1, x2⟩, hu, hS⟩ =>
                obtain ⟨e1, e2, e3, -⟩ := ai_ix_ok hj x1 x2
                obtain ⟨ws, tys, hK, hP, hD, had, hlen, hR⟩ := id hW
                subst had
                obtain ⟨a', e', rfl, he, hre⟩ := ai_obj hu hR hk
                obtain ⟨cA, f, t0, rfl, g1, g2⟩ := hre.refs hrt
                exact ai_aald hx hb hK hP k t0 he g1 (ai_rt_ge hrt).2.2 (ai_in ⟨e2, e3⟩ (List.getElem?_eq_some_iff.mp hv).1) hd (kk H locs _ _ ⟨[], (List.append_nil _).symm⟩ hW hV ⟨by rw [e2]; exact g2 j v hv, hS⟩)
            · cases h
          · cases h
        · cases h
      · cases h
    · cases h
  · split at h
    · next v q k r =>
      split at h
      · next j hj =>
        split at h
        · next ac hk =>
          obtain ⟨h1, h⟩ := ai_bif2 h
          split at h
          · next v0 hv =>
            cases h
            have ht := Nat.eq_of_beq_eq_true h1
            match st, hS with
            | [_], hS => exact hS.2.elim
            | [_, _], hS => exact hS.2.2.elim
            | _ :: _ :: u :: st', ⟨⟨y, rfl, y1, y2⟩, ⟨x, rfl, x1, x2⟩, hu, hS⟩ =>
              obtain ⟨e1, e2, e3, -⟩ := ai_ix_ok hj x1 x2
              obtain ⟨ws, tys, hK, hP, hD, had, hlen, hR⟩ := id hW
              subst had
              obtain ⟨a', e', rfl, he, hre⟩ := ai_obj hu hR hk
              obtain ⟨cA, f, t0, rfl, g1, g2⟩ := hre.ints (ty := .int) (by rw [ht]; rfl)
              refine va_iast hx hb hK hP hD hV k t0 he g1 (ai_in ⟨e2, e3⟩ (List.getElem?_eq_some_iff.mp hv).1) hd (fun H1 locs1 hP1 hD1 hS1 => ?_)
              rw [e2] at hP1 hD1
              exact kk H1 locs1 _ _ ⟨[], (List.append_nil _).symm⟩ ⟨_, tys, hK, hP1, hD1, (ai_map_set he).symm, by rw [List.length_set, List.length_set]; exact hlen, ai_cell_set he hR (Or.inr (Or.inl ⟨.int, cA, _, t0, by rw [ht]; rfl, by rw [List.length_set], g1, ai_upd g2 ⟨y, rfl, y1, y2⟩⟩))⟩ hS1 hS
          · cases h
        · cases h
      · cases h
    · cases h
  · split at h
    · next v q k r =>
      split at h
      · next j hj =>
        split at h
        · next ac hk =>
          obtain ⟨h1, h⟩ := ai_bif2 h
          split at h
          · next v0 hv =>
            cases h
            match st, hS with
            | [_], hS => exact hS.2.elim
            | [_, _], hS => exact hS.2.2.elim
            | _ :: _ :: u :: st', ⟨⟨y, rfl, y1, y2⟩, ⟨x, rfl, x1, x2⟩, hu, hS⟩ =>
              obtain ⟨e1, e2, e3, -⟩ := ai_ix_ok hj x1 x2
              obtain ⟨ws, tys, hK, hP, hD, had, hlen, hR⟩ := id hW
              subst had
              obtain ⟨a', e', rfl, he, hre⟩ := ai_obj hu hR hk
              rw [Bool.or_eq_true] at h1
              rcases h1 with h1 | h1
              · have ht := Nat.eq_of_beq_eq_true h1
                obtain ⟨cA, f, t0, rfl, g1, g2⟩ := hre.ints (ty := .byte) (by rw [ht]; rfl)
                refine va_bast hx hb hK hP hD hV k t0 he g1 (ai_in ⟨e2, e3⟩ (List.getElem?_eq_some_iff.mp hv).1) hd (fun H1 locs1 hP1 hD1 hS1 => ?_)
                rw [e2] at hP1 hD1
                exact kk H1 locs1 _ _ ⟨[], (List.append_nil _).symm⟩ ⟨_, tys, hK, hP1, hD1, (ai_map_set he).symm, by rw [List.length_set, List.length_set]; exact hlen, ai_cell_set he hR (Or.inr (Or.inl ⟨.byte, cA, _, t0, by rw [ht]; rfl, by rw [List.length_set], g1, ai_upd g2 ⟨_, rfl, ai_tI_ok _⟩⟩))⟩ hS1 hS
              · have ht := Nat.eq_of_beq_eq_true h1
                obtain ⟨cA, f, t0, rfl, g1, g2⟩ := hre.ints (ty := .boolean) (by rw [ht]; rfl)
                refine va_zast hx hb hK hP hD hV k t0 he g1 (ai_in ⟨e2, e3⟩ (List.getElem?_eq_some_iff.mp hv).1) hd (fun H1 locs1 hP1 hD1 hS1 => ?_)
                rw [e2] at hP1 hD1
                exact kk H1 locs1 _ _ ⟨[], (List.append_nil _).symm⟩ ⟨_, tys, hK, hP1, hD1, (ai_map_set he).symm, by rw [List.length_set, List.length_set]; exact hlen, ai_cell_set he hR (Or.inr (Or.inl ⟨.boolean, cA, _, t0, by rw [ht]; rfl, by rw [List.length_set], g1, ai_upd g2 ⟨_, rfl, ai_tI_ok _⟩⟩))⟩ hS1 hS
          · cases h
        · cases h
      · cases h
    · cases h
  · split at h
    · next v q k r =>
      split at h
      · next j hj =>
        split at h
        · next ac hk =>
          obtain ⟨h1, h⟩ := ai_bif2 h
          split at h
          · next v0 hv =>
            cases h
            have ht := Nat.eq_of_beq_eq_true h1
            match st, hS with
            | [_], hS => exact hS.2.elim
            | [_, _], hS => exact hS.2.2.elim
            | _ :: _ :: u :: st', ⟨⟨y, rfl, y1, y2⟩, ⟨x, rfl, x1, x2⟩, hu, hS⟩ =>
              obtain ⟨e1, e2, e3, -⟩ := ai_ix_ok hj x1 x2
              obtain ⟨ws, tys, hK, hP, hD, had, hlen, hR⟩ := id hW
              subst had
              obtain ⟨a', e', rfl, he, hre⟩ := ai_obj hu hR hk
              obtain ⟨cA, f, t0, rfl, g1, g2⟩ := hre.longs ht
              refine va_last hx hb hK hP hD hV k t0 he g1 (ai_in ⟨e2, e3⟩ (List.getElem?_eq_some_iff.mp hv).1) hd (fun H1 locs1 hP1 hD1 hS1 => ?_)
              rw [e2] at hP1 hD1
              exact kk H1 locs1 _ _ ⟨[], (List.append_nil _).symm⟩ ⟨_, tys, hK, hP1, hD1, (ai_map_set he).symm, by rw [List.length_set, List.length_set]; exact hlen, ai_cell_set he hR (Or.inr (Or.inr (Or.inl ⟨cA, _, t0, ht, by rw [List.length_set], g1, ai_updL g2 ⟨y, rfl, y1, y2⟩⟩)))⟩ hS1 hS
          · cases h
        · cases h
      · cases h
    · cases h
  · split at h
    · next kv q k r =>
      split at h
      · next j hj =>
        split at h
        · next ac hk =>
          split at h
          · next vc hkv =>
            obtain ⟨h1, h⟩ := ai_bif2 h
            split at h
            · next v0 hv =>
              cases h
              match st, hS with
              | [_], hS => exact hS.2.elim
              | [_, _], hS => exact hS.2.2.elim
              | y :: _ :: u :: st', ⟨hy, ⟨x, rfl, x1, x2⟩, hu, hS⟩ =>
                obtain ⟨e1, e2, e3, -⟩ := ai_ix_ok hj x1 x2
                obtain ⟨ws, tys, hK, hP, hD, had, hlen, hR⟩ := id hW
                subst had
                obtain ⟨a', e', rfl, he, hre⟩ := ai_obj hu hR hk
                have hy' := hy
                obtain ⟨ay, ey, rfl, hey, hrey⟩ := ai_obj hy hR hkv
                have key : ∀ (ci : Nat) (q9 : vw_C), classes[ci]? = some q9 → vc.1 = ci → ai_rt ac.1 = some (.object q9.1) → W p l e R s m args below meth c H locs cells slots Q (F0 m pc ls (.ref ay :: .int x :: .ref a' :: st')) := by
                  intro ci q9 hq9 hvc hrt
                  have hci := (ai_ck hq9).1
                  obtain ⟨fs, rfl, hfs⟩ := hrey.obj (by omega)
                  rw [hvc] at hey
                  obtain ⟨cA, f, t0, rfl, g1, g2⟩ := hre.refs hrt
                  refine va_astq hx hb hK hP hD hV k t0 kv ci he g1 hey hq9 (ai_in ⟨e2, e3⟩ (List.getElem?_eq_some_iff.mp hv).1) hd (fun H1 locs1 hP1 hD1 hS1 => ?_)
                  rw [e2] at hP1 hD1
                  exact kk H1 locs1 _ _ ⟨[], (List.append_nil _).symm⟩ ⟨_, tys, hK, hP1, hD1, (ai_map_set he).symm, by rw [List.length_set, List.length_set]; exact hlen, ai_cell_set he hR (Or.inr (Or.inr (Or.inr ⟨_, cA, _, t0, hrt, by rw [List.length_set], g1, ai_updR (y := some ay) g2 hy'⟩)))⟩ hS1 hS
                rw [Bool.or_eq_true, Bool.and_eq_true, Bool.and_eq_true] at h1
                rcases h1 with ⟨z1, z2⟩ | ⟨z1, z2⟩
                · exact key 1 _ rfl (Nat.eq_of_beq_eq_true z2) (by rw [Nat.eq_of_beq_eq_true z1]; rfl)
                · exact key 3 _ rfl (Nat.eq_of_beq_eq_true z2) (by rw [Nat.eq_of_beq_eq_true z1]; rfl)
            · cases h
          · cases h
        · cases h
      · cases h
    · cases h
  · split at h
    · next r =>
      obtain ⟨h1, h⟩ := ai_bif2 h
      cases h
      rw [Bool.and_eq_true] at h1
      have hlt : scr.length ≤ 100000 := by simpa [Nat.ble_eq] using h1.2
      match st, hS with
      | _ :: st', ⟨rfl, hS⟩ =>
        rcases hSC with rfl | ⟨xs, hX, hbl, hbA, hxs⟩
        · exact absurd h1.1 (by decide)
        · have e1 : (Int32.ofNat scr.length).toInt = (scr.length : Int) := Int32.toInt_ofNat_of_lt (by omega)
          exact va_slen hx hb hX hbl hbA hV hd (kk H locs _ _ ⟨[], (List.append_nil _).symm⟩ hW hV ⟨⟨_, rfl, by rw [e1]; exact Int.le_refl _, by rw [e1]; exact Int.le_refl _⟩, hS⟩)
    · next k r =>
      split at h
      · next ac hk =>
        obtain ⟨h1, h⟩ := ai_bif2 h
        cases h
        rw [Bool.and_eq_true, Nat.ble_eq, Nat.ble_eq] at h1
        match st, hS with
        | u :: st', ⟨hu, hS⟩ =>
          obtain ⟨ws, tys, hK, hP, hD, had, hlen, hR⟩ := id hW
          subst had
          obtain ⟨a', e', rfl, he, hre⟩ := ai_obj hu hR hk
          have e1 : (Int32.ofNat ac.2.length).toInt = (ac.2.length : Int) := Int32.toInt_ofNat_of_lt (by omega)
          have fin := kk H locs _ (.int (Int32.ofNat ac.2.length) :: st') ⟨[], (List.append_nil _).symm⟩ hW hV ⟨⟨_, rfl, by rw [e1]; exact Int.le_refl _, by rw [e1]; exact Int.le_refl _⟩, hS⟩
          rcases hre with ⟨h0, -⟩ | ⟨ty, cA, f, t0, h0, rfl, g1, -⟩ | ⟨cA, f, t0, h0, rfl, g1, -⟩ | ⟨ty, cA, f, t0, h0, rfl, g1, -⟩
          · omega
          · exact va_alen hx hb hK hP k t0 he g1 rfl hd fin
          · exact va_alen hx hb hK hP k t0 he g1 rfl hd fin
          · exact va_alen hx hb hK hP k t0 he g1 rfl hd fin
      · cases h
    · cases h
  · next ty =>
    split at h
    · next q r =>
      split at h
      · next n hn =>
        obtain ⟨h1, h⟩ := ai_bif2 h
        simp only [Option.some.injEq, Prod.mk.injEq] at h
        obtain ⟨rfl, rfl, rfl, rfl⟩ := h
        rw [Bool.and_eq_true, Nat.ble_eq] at h1
        match st, hS with
        | _ :: st', ⟨⟨x, rfl, x1, x2⟩, hS⟩ =>
          obtain ⟨e1, e2, e3, -⟩ := ai_ix_ok hn x1 x2
          obtain ⟨ws, tys, hK, hP, hD, had, hlen, hR⟩ := id hW
          subst had
          have fin : ∀ (fty : FieldType) (a0 : vp_A), (∀ (cA : ClassId) (q : Nat), ai_RE bs (ws.map Prod.fst ++ [q]) (tys ++ [(cA, fty)]) (ai_nt ty, List.replicate n (ai_zv (ai_nt ty))) (.inl (cA, a0))) → ∀ (q : Nat) (cA : ClassId) (H1 : Heap), va_K D classes (tys ++ [(cA, fty)]) s → va_P D classes (ws ++ [(q, .inl (cA, a0))]) H1 → va_D A (ws ++ [(q, .inl (cA, a0))]) → va_S A H0 H1 locs →
              W p l e R s m args below meth c H1 locs (cells + 1) (slots + n) Q (F0 m (pc + 2) ls (.ref q :: st')) := fun fty a0 hz q cA H1 hK1 hP1 hD1 hS1 =>
            kk H1 locs _ _ ⟨[q], rfl⟩ ⟨_, _, hK1, hP1, hD1, by rw [List.map_append]; rfl, by rw [List.length_append, List.length_append, hlen]; rfl, ai_one hlen rfl hR (hz cA q)⟩ hS1 ⟨by rw [ai_frc_eq]; exact ⟨q, by have := ai_last (q := q) (n := 0) (e := .inl (cA, a0)) hlen; rw [List.map_append] at this; exact this, rfl⟩, hS.mono _⟩
          have rp : ∀ (j : Nat) (v : ai_V), (List.replicate n (ai_zv (ai_nt ty)))[j]? = some v → v = ai_zv (ai_nt ty) := fun j v hj => List.eq_of_mem_replicate (List.mem_of_getElem? hj)
          have tl : ∀ (cA : ClassId) (fty : FieldType), (tys ++ [(cA, fty)])[tys.length]? = some (cA, fty) := fun cA fty => by rw [List.getElem?_append_right (Nat.le_refl _), Nat.sub_self]; rfl
          cases ty with
          | int => exact va_newa (atype := .int) hx hb (hts _ ac_int) rfl hK hP hD hV hA (a0 := (n, .inl (fun _ => 0))) (fun _ => rfl) e3 e2 (by show n * 4 ≤ _; omega) hcells hslots hd (fin .int _ (fun cA q => Or.inr (Or.inl ⟨.int, cA, _, tys.length, rfl, by rw [List.length_replicate], tl _ _, fun j v hj => by rw [rp j v hj]; exact ⟨0, rfl, by decide, by decide⟩⟩)))
          | long => exact va_newa (atype := .long) hx hb (hts _ ac_long) rfl hK hP hD hV hA (a0 := (n, .inr (.inl (fun _ => 0)))) (fun _ => rfl) e3 e2 (by show n * 8 ≤ _; omega) hcells hslots hd (fin .long _ (fun cA q => Or.inr (Or.inr (Or.inl ⟨cA, _, tys.length, rfl, by rw [List.length_replicate], tl _ _, fun j v hj => by rw [rp j v hj]; exact ⟨0, rfl, by decide, by decide⟩⟩))))
          | byte => exact va_newa (atype := .byte) hx hb (hts _ ac_byte) rfl hK hP hD hV hA (a0 := (n, .inl (fun _ => 0))) (fun _ => rfl) e3 e2 (by show n * 1 ≤ _; omega) hcells hslots hd (fin .byte _ (fun cA q => Or.inr (Or.inl ⟨.byte, cA, _, tys.length, rfl, by rw [List.length_replicate], tl _ _, fun j v hj => by rw [rp j v hj]; exact ⟨0, rfl, by decide, by decide⟩⟩)))
          | boolean => exact va_newa (atype := .boolean) hx hb (hts _ ac_bool) rfl hK hP hD hV hA (a0 := (n, .inl (fun _ => 0))) (fun _ => rfl) e3 e2 (by show n * 1 ≤ _; omega) hcells hslots hd (fin .boolean _ (fun cA q => Or.inr (Or.inl ⟨.boolean, cA, _, tys.length, rfl, by rw [List.length_replicate], tl _ _, fun j v hj => by rw [rp j v hj]; exact ⟨0, rfl, by decide, by decide⟩⟩)))
          | _ => exact absurd h1.1 (by decide)
      · cases h
    · cases h
  · next i =>
    split at h
    · next q r =>
      split at h
      · next n hn =>
        obtain ⟨h1, h⟩ := ai_bif2 h
        simp only [Option.some.injEq, Prod.mk.injEq] at h
        obtain ⟨rfl, rfl, rfl, rfl⟩ := h
        rw [Nat.ble_eq] at h1
        match st, hS with
        | _ :: st', ⟨⟨x, rfl, x1, x2⟩, hS⟩ =>
          obtain ⟨e1, e2, e3, -⟩ := ai_ix_ok hn x1 x2
          obtain ⟨ws, tys, hK, hP, hD, had, hlen, hR⟩ := id hW
          subst had
          have key : ∀ C : String, ai_rt a = some (.object C) → (Cond.classLink own i C).before args s = true → va_AO C s → W p l e R s m args below meth c H locs cells slots Q (F0 m pc ls (.int x :: st')) := fun C hrt hlk hao =>
            va_newq hx hb hown hlk hao hK hP hD hV hA e3 e2 (by omega) hcells hslots hd (fun q cA H1 hK1 hP1 hD1 hS1 =>
              kk H1 locs _ _ ⟨[q], rfl⟩ ⟨_, _, hK1, hP1, hD1, by rw [List.map_append]; rfl, by rw [List.length_append, List.length_append, hlen]; rfl, ai_one hlen rfl hR (Or.inr (Or.inr (Or.inr ⟨_, cA, _, tys.length, hrt, by rw [List.length_replicate], by rw [List.getElem?_append_right (Nat.le_refl _), Nat.sub_self]; rfl, fun j v hj => by rw [List.eq_of_mem_replicate (List.mem_of_getElem? hj)]; rfl⟩)))⟩ hS1 ⟨by rw [ai_frc_eq]; exact ⟨q, by have := ai_last (q := q) (n := 0) (e := .inl (cA, n, .inr (.inr (.inr (.inr (fun _ => none)))))) hlen; rw [List.map_append] at this; exact this, rfl⟩, hS.mono _⟩)
          rcases hf with ⟨rfl, hlk⟩ | ⟨rfl, hlk⟩
          · exact key RR_1 rfl (hts _ hlk) hEV.1
          · exact key RR_3 rfl (hts _ hlk) hEV.2.1
      · cases h
    · cases h
  · next i dm =>
    split at h
    · next q2 q r =>
      split at h
      · next k hk =>
        split at h
        · next n hn =>
          obtain ⟨h1, h⟩ := ai_bif2 h
          rw [ai_frc_eq] at h
          cases h
          rw [Bool.and_eq_true, Bool.and_eq_true, Nat.ble_eq, Nat.ble_eq] at h1
          match st, hS with
          | [_], hS => exact hS.2.elim
          | _ :: _ :: st', ⟨⟨y, rfl, y1, y2⟩, ⟨x, rfl, x1, x2⟩, hS⟩ =>
            obtain ⟨e1, e2, e3, -⟩ := ai_ix_ok hn x1 x2
            obtain ⟨f1, f2, f3, -⟩ := ai_ix_ok hk y1 y2
            obtain ⟨ws, tys, hK, hP, hD, had, hlen, hR⟩ := id hW
            subst had
            have hnk : n * k ≤ 10000 * 10000 := Nat.mul_le_mul h1.1 h1.2.1
            obtain ⟨rfl, hf⟩ := hf
            have hb3 : cells + (1 + n) = cells + 1 + n := by omega
            have hb4 : slots + (n + n * k) = slots + n + n * k := by omega
            have key : ∀ (ty : FieldType) (z : vp_A), ai_rt a = some (.array ty) → (Cond.classLink own i ("[" ++ (FieldType.array ty).toString)).before args s = true → (Cond.arrayOver (.array ty)).before args s = true → (Cond.arrayClass ty).before args s = true → (∀ cy : ClassId, s.vm.findClass (FieldType.array ty).toString = some cy → va_RA s cy ty) → k * componentBytes ty ≤ 536870912 → fits ty (defaultValue ty) = true → (defaultValue ty).isDefault = true → (∀ c : ClassId, Jvm.Free.Multi.innerC c k (defaultValue ty) = vp_cell c z) →
                (∀ (ad : List Nat) (tz : List (ClassId × FieldType)) (cy : ClassId) (t0 : Nat), tz[t0]? = some (cy, ty) → ai_RE bs ad tz (a - 6, List.replicate k (ai_zv (a - 6))) (.inl (cy, z))) →
                W p l e R s m args below meth c H locs cells slots Q (F0 m pc ls (.int y :: .int x :: st')) := by
              intro ty z hrt g1 g2 g3 g4 g5 g6 g7 g8 g9
              refine ai_mna hx hb hown g1 g2 g3 g4 hK hP hD hV hA e3 f3 e2 f2 (by omega) g5 (by omega) g6 g7 hcells hslots g8 hd (fun q cA cy H1 hK1 hP1 hD1 hS1 => ?_)
              rw [← hb3, ← hb4]
              have hmap : (ai_grid q n cA cy z).map Prod.fst = q :: (List.range n).map (fun i => q + 1 + i) := by
                unfold ai_grid
                rw [List.map_cons, List.map_map]
                rfl
              have hadr : ∀ j, j < n → (ws.map Prod.fst ++ (ai_grid q n cA cy z).map Prod.fst)[w.length + 1 + j]? = some (q + 1 + j) := fun j hj => by
                rw [hmap, List.getElem?_append_right (by rw [List.length_map]; omega), List.length_map, show w.length + 1 + j - ws.length = j + 1 by omega, List.getElem?_cons_succ, List.getElem?_map, List.getElem?_range hj]
                rfl
              refine kk H1 locs (ws.map Prod.fst ++ (ai_grid q n cA cy z).map Prod.fst) _ ⟨_, rfl⟩ ⟨_, _, hK1, hP1, hD1, by rw [List.map_append], ?_, ai_cell_push hlen rfl hR ?_⟩ hS1 ⟨⟨q, ?_, rfl⟩, hS.mono _⟩
              · unfold ai_grid
                simp [hlen]
              · intro j bc hj
                match j, hj with
                | 0, hj =>
                  cases hj
                  refine ⟨_, rfl, Or.inr (Or.inr (Or.inr ⟨_, cA, _, tys.length, hrt, by rw [List.length_map, List.length_range], by rw [List.getElem?_append_right (Nat.le_refl _), Nat.sub_self]; rfl, fun j v hj => ?_⟩))⟩
                  rw [List.getElem?_map] at hj
                  by_cases hjn : j < n
                  · rw [List.getElem?_range hjn] at hj
                    cases hj
                    rw [if_pos hjn]
                    show ai_RV _ _ (.inl (some (w.length + 3 + j))) _
                    rw [show w.length + 3 + j = (w.length + 1 + j) + 2 by omega]
                    exact ⟨_, hadr j hjn, rfl⟩
                  · rw [List.getElem?_eq_none (by rw [List.length_range]; omega)] at hj
                    cases hj
                | j + 1, hj =>
                  rw [List.getElem?_cons_succ] at hj
                  have hbc := List.eq_of_mem_replicate (List.mem_of_getElem? hj)
                  have hjn : j < n := by
                    have := (List.getElem?_eq_some_iff.mp hj).1
                    rw [List.length_replicate] at this
                    exact this
                  refine ⟨(q + 1 + j, .inl (cy, z)), ?_, ?_⟩
                  · unfold ai_grid
                    rw [List.getElem?_cons_succ, List.getElem?_map, List.getElem?_range hjn]
                    rfl
                  · rw [hbc]
                    exact g9 _ _ cy (tys.length + 1) (by rw [List.getElem?_append_right (by omega), show tys.length + 1 - tys.length = 1 by omega]; rfl)
              · rw [hmap, List.getElem?_append_right (by rw [List.length_map]; omega), List.length_map, hlen, Nat.sub_self]
                rfl
            rcases hf with ⟨rfl, hlk⟩ | ⟨rfl, hlk⟩
            · exact key .int (k, .inl (fun _ => 0)) rfl (hts _ hlk) hEV.2.2.1 (hts _ ac_int) (fun _ h => h) (by show k * 4 ≤ _; omega) rfl rfl (fun c9 => by rw [vp_cell_i]; exact arrV_new _ _ _) (fun ad tz cy t0 ht0 => Or.inr (Or.inl ⟨.int, cy, _, t0, rfl, by rw [List.length_replicate], ht0, fun j v hj => by rw [List.eq_of_mem_replicate (List.mem_of_getElem? hj)]; exact ⟨0, rfl, by decide, by decide⟩⟩))
            · exact key .long (k, .inr (.inl (fun _ => 0))) rfl (hts _ hlk) hEV.2.2.2 (hts _ ac_long) (fun _ h => h) (by show k * 8 ≤ _; omega) rfl rfl (fun c9 => by rw [vp_cell_l]; exact arrV_new _ _ _) (fun ad tz cy t0 ht0 => Or.inr (Or.inr (Or.inl ⟨cy, _, t0, rfl, by rw [List.length_replicate], ht0, fun j v hj => by rw [List.eq_of_mem_replicate (List.mem_of_getElem? hj)]; exact ⟨0, rfl, by decide, by decide⟩⟩)))
        · cases h
      · cases h
    · cases h
  · next i =>
    cases h
    obtain ⟨C, T, N, hc, hlk⟩ := hf
    obtain ⟨ha7, ck⟩ := ai_ck hc
    obtain ⟨hN, ck1, ck2, ck3, ck4, ck5, ck6, ck7, ck8⟩ := ck
    dsimp only at hN
    rw [← hN] at hslots kk
    obtain ⟨ws, tys, hK, hP, hD, had, hlen, hR⟩ := id hW
    subst had
    refine va_new (ci := a) (fs := (List.range N).map (fun k => defaultValue (ai_tt a k))) hx hb hts ck1 (ai_tt a) ck2 hown (hts _ hlk) (hts _ ck4) (hts _ ck5) hK hP hD hV hA hc (fun j hj => ?_) hcells hslots hd (fun q H1 hP1 hD1 hS1 => ?_)
    · unfold vp_V
      rw [List.getD_eq_getElem?_getD, List.getElem?_map, List.getElem?_range hj]
      rfl
    · refine kk H1 locs _ _ ⟨[q], rfl⟩ ⟨_, tys ++ [], by rw [List.append_nil]; exact hK, hP1, hD1, by rw [List.map_append]; rfl, by rw [List.length_append, List.length_append, hlen]; rfl, ai_one hlen rfl hR (Or.inl ⟨by show a < 10; omega, _, rfl, ?_⟩)⟩ hS1 ⟨by rw [ai_frc_eq]; exact ⟨q, by have := ai_last (q := q) (n := 0) (e := .inr (a, (List.range N).map (fun k => defaultValue (ai_tt a k)))) hlen; rw [List.map_append] at this; exact this, rfl⟩, hS.mono _⟩
      exact ai_dvs _ (fun k hk => ck8 k (List.mem_range.mp hk))
  · cases h
end AIH2
end
section
/-! ===== abstract runs of whole methods ===== -/
abbrev ai_E : Type := Nat × Nat × Instr × Nat × Nat × Nat × Int
abbrev ai_M : Type := MethodName × ByteArray × Nat × Option FieldType × Nat × Bool × Nat × List ai_E
abbrev ai_y (M : ai_M) : MethodName := M.1
abbrev ai_by (M : ai_M) : ByteArray := M.2.1
abbrev ai_ml (M : ai_M) : Nat := M.2.2.1
abbrev ai_rt' (M : ai_M) : Option FieldType := M.2.2.2.1
abbrev ai_oc (M : ai_M) : Nat := M.2.2.2.2.1
abbrev ai_ii (M : ai_M) : Bool := M.2.2.2.2.2.1
abbrev ai_na (M : ai_M) : Nat := M.2.2.2.2.2.2.1
abbrev ai_cd (M : ai_M) : List ai_E := M.2.2.2.2.2.2.2
def ai_jm : List ai_E → Nat → List ai_E
  | [], _ => []
  | e :: r, t => bif Nat.beq e.1 t then e :: r else ai_jm r t
theorem ai_jm_sub : ∀ {cd : List ai_E} {t : Nat} {e : ai_E}, e ∈ ai_jm cd t → e ∈ cd
  | [], _, _, h => h
  | x :: r, t, e, h => by
    unfold ai_jm at h
    cases hc : Nat.beq x.1 t with
    | true => rw [hc] at h; exact h
    | false => rw [hc] at h; exact List.mem_cons_of_mem _ (ai_jm_sub h)
def ai_cs : List ai_V → Nat
  | [] => 0
  | x :: S => ai_cat x + ai_cs S
theorem ai_cs_ok {b : Nat} {ad : List Nat} : ∀ {S : List ai_V} {st : List Value}, ai_RS b ad S st → (st.map fun v => v.category).sum = ai_cs S
  | [], [], _ => rfl
  | x :: S, v :: st, h => by
    rw [List.map_cons, List.sum_cons, ai_cs_ok h.2, h.1.cat]
    rfl
  | [], _ :: _, h => h.elim
  | _ :: _, [], h => h.elim
def ai_lv0 : Nat → List ai_V → ai_Ls
  | _, [] => []
  | i, x :: S => (i, x) :: ai_lv0 (i + ai_cat x) S
theorem ai_cat12 (x : ai_V) : ai_cat x = 1 ∨ ai_cat x = 2 := by
  unfold ai_cat
  split
  · exact Or.inr rfl
  · exact Or.inl rfl
theorem ai_lv0_ok {b : Nat} {ad : List Nat} : ∀ {S : List ai_V} {st : List Value} (i : Nat), ai_RS b ad S st → ∀ q ∈ ai_lv0 i S, ∃ v, (q.1, v) ∈ lv_args i st ∧ ai_RV b ad q.2 v
  | [], [], _, _, _, h => by cases h
  | x :: S, v :: st, i, h, q, hq => by
    unfold ai_lv0 at hq
    unfold lv_args
    rcases List.mem_cons.mp hq with rfl | hq
    · exact ⟨v, List.mem_cons_self, h.1⟩
    · obtain ⟨u, h1, h2⟩ := ai_lv0_ok _ h.2 q hq
      refine ⟨u, List.mem_cons_of_mem _ ?_, h2⟩
      have e : (if v.category = 2 then i + 2 else i + 1) = i + ai_cat x := by
        rw [h.1.cat]
        rcases ai_cat12 x with q | q <;> rw [q] <;> rfl
      rw [e]
      exact h1
  | [], _ :: _, _, h, _, _ => h.elim
  | _ :: _, [], _, h, _, _ => h.elim
theorem ai_sl_ok {b : Nat} {ad : List Nat} : ∀ {S : List ai_V} {st : List Value}, ai_RS b ad S st → (lg_sl st).length = ai_cs S
  | [], [], _ => rfl
  | x :: S, v :: st, h => by
    have ih := ai_sl_ok h.2
    unfold lg_sl at ih ⊢
    rw [List.flatMap_cons, List.length_append, ih]
    show _ = ai_cat x + ai_cs S
    congr 1
    rw [h.1.cat]
    rcases ai_cat12 x with q | q <;> rw [q] <;> rfl
  | [], _ :: _, h => h.elim
  | _ :: _, [], h => h.elim
theorem ai_RS.app {b : Nat} {ad : List Nat} : ∀ {S T : List ai_V} {st tt : List Value}, ai_RS b ad S st → ai_RS b ad T tt → ai_RS b ad (S ++ T) (st ++ tt)
  | [], _, [], _, _, h => h
  | _ :: _, _, _ :: _, _, h1, h2 => ⟨h1.1, ai_RS.app h1.2 h2⟩
  | [], _, _ :: _, _, h, _ => h.elim
  | _ :: _, _, [], _, h, _ => h.elim
theorem ai_RS.rev {b : Nat} {ad : List Nat} : ∀ {S : List ai_V} {st : List Value}, ai_RS b ad S st → ai_RS b ad S.reverse st.reverse
  | [], [], _ => trivial
  | _ :: _, _ :: _, h => by
    rw [List.reverse_cons, List.reverse_cons]
    exact (ai_RS.rev h.2).app ⟨h.1, trivial⟩
  | [], _ :: _, h => h.elim
  | _ :: _, [], h => h.elim
theorem ai_RS.take {b : Nat} {ad : List Nat} : ∀ {S : List ai_V} {st : List Value} (n : Nat), ai_RS b ad S st → ai_RS b ad (S.take n) (st.take n) ∧ ai_RS b ad (S.drop n) (st.drop n)
  | _, _, 0, h => ⟨by rw [List.take_zero, List.take_zero]; trivial, h⟩
  | [], [], n + 1, _ => ⟨trivial, trivial⟩
  | _ :: _, _ :: _, n + 1, h => ⟨⟨h.1, (ai_RS.take n h.2).1⟩, (ai_RS.take n h.2).2⟩
  | [], _ :: _, n + 1, h => h.elim
  | _ :: _, [], n + 1, h => h.elim
/-- the returns -/
def ai_rc (rt : Option FieldType) (ins : Instr) (S : List ai_V) : Option (Option ai_V) := match ins with
  | .return_ => (match S with
    | [] => (match rt with
      | none => some none
      | some _ => none)
    | _ => none)
  | .ireturn => (match S with
    | [.inr (.inl q)] => (match rt with
      | some ty => bif ai_okf ty (.inr (.inl q)) then some (some (.inr (.inl q))) else none
      | none => none)
    | _ => none)
  | .lreturn => (match S with
    | [.inr (.inr q)] => (match rt with
      | some .long => some (some (.inr (.inr q)))
      | _ => none)
    | _ => none)
  | .areturn => (match S with
    | [.inl q] => (match rt with
      | some (.object _) => some (some (.inl q))
      | some (.array _) => some (some (.inl q))
      | _ => none)
    | _ => none)
  | _ => none
def ai_RR (b : Nat) (ad : List Nat) (r : Option ai_V) (v : Option Value) : Prop := match r, v with
  | none, none => True
  | some x, some u => ai_RV b ad x u
  | _, _ => False
theorem ai_rc_ok {p : Program} {l : Launch} {e : Env} {R : Room} {s : State} {m : MethodId} {args : Array Value} {below : List Frame} {meth : Method} {c : Code} {H : Heap} {locs : List Loc} {cells slots : Nat} {cc : ByteArray} {pc : Nat} {ls : Array Slot} {st : List Value} {bs : Nat} {ad : List Nat} {S : List ai_V} {free : Addr → Prop} {Qc : Array Value → State → Outcome → State → Prop}
    {rt : Option FieldType} {ins : Instr} {r : Option ai_V} (hx : p.tables.exec = Jvm.exec) (hb : c.code = cc) (hr : meth.sig.returnType = rt) (hlocks : meth.locks = false) (hd : decode cc pc = .ok (ins, 1)) (h : ai_rc rt ins S = some r) (hS : ai_RS bs ad S st)
    (hq : ∀ v : Option Value, ai_RR bs ad r v → ∀ t : State, t.heap = H → s.WarmedH t.vm → Qc args s (.returned v) t) (hf : ∀ q ∈ locs, free q.base) : W p l e R s m args below meth c H locs cells slots (MQ below Qc args s cells slots free) (F0 m pc ls st) := by
  unfold ai_rc at h
  split at h
  · split at h
    · split at h
      · cases h
        match st, hS with
        | [], _ => exact W.vret hx hb hr (hq none trivial) hf hd
      · cases h
    · cases h
  · split at h
    · split at h
      · next q ty =>
        obtain ⟨h1, h2⟩ := ai_bif h
        cases h2
        match st, hS with
        | [u], ⟨hu, _⟩ =>
          obtain ⟨hn, -⟩ := ai_okf_ok h1 hu
          obtain ⟨x, rfl, hx2⟩ := hu
          exact W.zret hx hb hr hn (hq (some (.int x)) ⟨x, rfl, hx2⟩) hf hd
        | _ :: _ :: _, hS => exact hS.2.elim
      · cases h
    · cases h
  · split at h
    · split at h
      · cases h
        match st, hS with
        | [u], ⟨hu, _⟩ =>
          obtain ⟨x, rfl, hx2⟩ := hu
          exact W.lret hx hb hr (hq (some (.long x)) ⟨x, rfl, hx2⟩) hf hd
        | _ :: _ :: _, hS => exact hS.2.elim
      · cases h
    · cases h
  · split at h
    · split at h
      · next q n =>
        cases h
        match st, hS with
        | [u], ⟨hu, _⟩ => exact W.aret hx hb hr (Or.inl ⟨_, rfl⟩) (ai_RV.ref hu) (hq (some u) hu) hf hd
        | _ :: _ :: _, hS => exact hS.2.elim
      · next q n =>
        cases h
        match st, hS with
        | [u], ⟨hu, _⟩ => exact W.aret hx hb hr (Or.inr ⟨_, rfl⟩) (ai_RV.ref hu) (hq (some u) hu) hf hd
        | _ :: _ :: _, hS => exact hS.2.elim
      · cases h
    · cases h
  · cases h
/-- a copy of a row of ints -/
def ai_cp (S : List ai_V) (w : ai_W) : Option (List ai_V × ai_W) := match S with
  | .inr (.inl n) :: .inr (.inl dp) :: .inl (some (k1 + 2)) :: .inr (.inl sp) :: .inl (some (k0 + 2)) :: r => (match ai_ix n, ai_ix dp with
    | some n, some dp => (match ai_ix sp with
      | some sp => (match w[k0]?, w[k1]? with
        | some a0, some a1 => bif Nat.beq a0.1 10 && (Nat.beq a1.1 10 && (Nat.ble (sp + n) a0.2.length && (Nat.ble (dp + n) a1.2.length && Nat.ble (ai_cs r) 8))) then some (r, w.set k1 (a1.1, List.replicate a1.2.length (.inr (.inl ai_tI)))) else none
        | _, _ => none)
      | none => none)
    | _, _ => none)
  | _ => none
/-- the receiver of a call -/
def ai_rv (AS : List ai_V) (b : Nat) (w : ai_W) (oc : Nat) : Bool := match AS with
  | .inl (some (k + 2)) :: _ => (match b with
    | 0 => (match w[k]? with
      | some ac => Nat.beq ac.1 oc
      | none => false)
    | _ => true)
  | _ => Nat.beq b 1
theorem ai_rv_ok {AS : List ai_V} {b : Nat} {w : ai_W} {oc : Nat} (h : ai_rv AS b w oc = true) (hb : b ≠ 1) : ∃ k AS', AS = .inl (some (k + 2)) :: AS' ∧ (b = 0 → ∃ ac, w[k]? = some ac ∧ ac.1 = oc) := by
  unfold ai_rv at h
  split at h
  · next k AS' =>
    refine ⟨k, AS', rfl, fun q => ?_⟩
    subst q
    simp only at h
    split at h
    · next ac hac => exact ⟨ac, hac, Nat.eq_of_beq_eq_true h⟩
    · cases h
  · exact absurd (Nat.eq_of_beq_eq_true h) hb
/-- a method's run: fuel, the script (the law's frame alone), the depth that is left, the method, what is left of its code, place, locals, stack, world, cells and slots that were made -/
def ai_ex (mt : List ai_M) : Nat → List ai_V → Nat → ai_M → List ai_E → Nat → ai_Ls → List ai_V → ai_W → Nat → Nat → Option (Option ai_V × ai_W × Nat × Nat)
  | 0, _, _, _, _, _, _, _, _, _, _ => none
  | f + 1, scr, d, M, cd, pc, L, S, w, c, s => match cd with
    | [] => none
    | (pc0, g, ins, len, a, b, z) :: cd' => bif Nat.beq pc0 pc then (match g with
      | 0 => (match ai_gL ins (ai_ml M) z L S with
        | some (L', S') => ai_ex mt f scr d M cd' (pc0 + len) L' S' w c s
        | none => none)
      | 1 => (match ai_gI ins S with
        | some S' => ai_ex mt f scr d M cd' (pc0 + len) L S' w c s
        | none => none)
      | 2 => (match ai_gJ pc0 ins a S with
        | some (some t, S') => ai_ex mt f scr d M (ai_jm (ai_cd M) t) t L S' w c s
        | some (none, S') => ai_ex mt f scr d M cd' (pc0 + 3) L S' w c s
        | none => none)
      | 3 => (match ai_gH (ai_ii M) (ai_oc M) scr ins a b S w with
        | some (S', w', dc, ds) => ai_ex mt f scr d M cd' (pc0 + len) L S' w' (c + dc) (s + ds)
        | none => none)
      | 4 => (match mt[a]?, d with
        | some N, d' + 1 => bif Nat.ble (ai_cs (S.drop (ai_na N))) 8 && (Nat.ble (ai_na N) S.length && (Nat.ble (ai_cs (S.take (ai_na N)).reverse) (ai_ml N) && ai_rv (S.take (ai_na N)).reverse b w (ai_oc N))) then
          (match ai_ex mt f [] d' N (ai_cd N) 0 (ai_lv0 0 (S.take (ai_na N)).reverse) [] w 0 0 with
          | some (r, w', mc, ms) => ai_ex mt f scr d M cd' (pc0 + 3) L (r.toList ++ S.drop (ai_na N)) w' (c + mc) (s + ms)
          | none => none) else none
        | _, _ => none)
      | 5 => (match S, d with
        | .inl (some _) :: r, _ + 1 => bif Nat.ble (ai_cs r) 8 then ai_ex mt f scr d M cd' (pc0 + 3) L r w c s else none
        | _, _ => none)
      | 6 => (match ai_rc (ai_rt' M) ins S with
        | some r => some (r, w, c, s)
        | none => none)
      | 7 => (match ai_cp S w, d with
        | some (S', w'), _ + 1 => ai_ex mt f scr d M cd' (pc0 + 3) L S' w' c s
        | _, _ => none)
      | _ => none) else none
end
section
/-- the private constructors that are called from outside, the text constants -/
def ai_nw : List (String × Nat × MethodName) := [("TheOtherRoom", 26, ⟨"TheOtherRoom$Tape", "<init>", "()V"⟩), ("TheOtherRoom", 33, ⟨"TheOtherRoom$Walk", "<init>", "()V"⟩), ("TheOtherRoom", 40, ⟨"TheOtherRoom$Search", "<init>", "()V"⟩), ("TheOtherRoom$Search", 58, ⟨"TheOtherRoom$Walk", "<init>", "()V"⟩), ("TheOtherRoom", 48, ⟨"TheOtherRoom$Flat", "<init>", "()V"⟩), ("TheOtherRoom", 71, ⟨"TheOtherRoom$Shelf", "<init>", "()V"⟩)]
def ai_sw : List (String × Nat × String) := [("TheOtherRoom$Tape", 45, "board"), ("TheOtherRoom$Tape", 55, "by"), ("TheOtherRoom$Tape", 63, "wall"), ("TheOtherRoom$Tape", 75, "thing"), ("TheOtherRoom$Tape", 113, "at"), ("TheOtherRoom$Tape", 118, "turned"), ("TheOtherRoom$Tape", 130, "heavy"), ("TheOtherRoom$Tape", 135, "fixed"), ("TheOtherRoom$Tape", 139, "plain"), ("TheOtherRoom$Tape", 80, "hands"), ("TheOtherRoom$Tape", 84, "landing"), ("TheOtherRoom$Tape", 88, "door"), ("TheOtherRoomModel", 248, "board"), ("TheOtherRoomModel", 255, "by"), ("TheOtherRoomModel", 257, "wall"), ("TheOtherRoomModel", 259, "hands"), ("TheOtherRoomModel", 261, "landing"), ("TheOtherRoomModel", 263, "door"), ("TheOtherRoomModel", 265, "thing"), ("TheOtherRoomModel", 269, "at"), ("TheOtherRoomModel", 270, "turned"), ("TheOtherRoomModel", 272, "heavy"), ("TheOtherRoomModel", 274, "fixed"), ("TheOtherRoomModel", 276, "plain")]
theorem ai_nw_in : ∀ q ∈ ai_nw, Cond.methodLinkNest q.1 q.2.1 q.2.2 "TheOtherRoom" ∈ lw_tbl := List.forall_mem_cons.mpr ⟨lw_t 32 (by decide +kernel), List.forall_mem_cons.mpr ⟨lw_t 59 (by decide +kernel), List.forall_mem_cons.mpr ⟨lw_t 120 (by decide +kernel), List.forall_mem_cons.mpr ⟨lw_t 125 (by decide +kernel), List.forall_mem_cons.mpr ⟨lw_t 182 (by decide +kernel), List.forall_mem_cons.mpr ⟨lw_t 280 (by decide +kernel), fun _ h => absurd h List.not_mem_nil⟩⟩⟩⟩⟩⟩
theorem ai_sw_in : ∀ q ∈ ai_sw, Cond.stringRef q.1 q.2.1 q.2.2 ∈ lw_tbl := List.forall_mem_cons.mpr ⟨lw_t 580 (by decide +kernel), List.forall_mem_cons.mpr ⟨lw_t 648 (by decide +kernel), List.forall_mem_cons.mpr ⟨lw_t 668 (by decide +kernel), List.forall_mem_cons.mpr ⟨lw_t 679 (by decide +kernel), List.forall_mem_cons.mpr ⟨lw_t 684 (by decide +kernel), List.forall_mem_cons.mpr ⟨lw_t 685 (by decide +kernel), List.forall_mem_cons.mpr ⟨lw_t 687 (by decide +kernel), List.forall_mem_cons.mpr ⟨lw_t 688 (by decide +kernel), List.forall_mem_cons.mpr ⟨lw_t 689 (by decide +kernel), List.forall_mem_cons.mpr ⟨lw_t 690 (by decide +kernel), List.forall_mem_cons.mpr ⟨lw_t 691 (by decide +kernel), List.forall_mem_cons.mpr ⟨lw_t 692 (by decide +kernel), List.forall_mem_cons.mpr ⟨lw_t 1299 (by decide +kernel), List.forall_mem_cons.mpr ⟨lw_t 1318 (by decide +kernel), List.forall_mem_cons.mpr ⟨lw_t 1323 (by decide +kernel), List.forall_mem_cons.mpr ⟨lw_t 1324 (by decide +kernel), List.forall_mem_cons.mpr ⟨lw_t 1325 (by decide +kernel), List.forall_mem_cons.mpr ⟨lw_t 1326 (by decide +kernel), List.forall_mem_cons.mpr ⟨lw_t 1327 (by decide +kernel), List.forall_mem_cons.mpr ⟨lw_t 1332 (by decide +kernel), List.forall_mem_cons.mpr ⟨lw_t 1333 (by decide +kernel), List.forall_mem_cons.mpr ⟨lw_t 1334 (by decide +kernel), List.forall_mem_cons.mpr ⟨lw_t 1335 (by decide +kernel), List.forall_mem_cons.mpr ⟨lw_t 1336 (by decide +kernel), fun _ h => absurd h List.not_mem_nil⟩⟩⟩⟩⟩⟩⟩⟩⟩⟩⟩⟩⟩⟩⟩⟩⟩⟩⟩⟩⟩⟩⟩⟩
theorem oi_inst : Cond.instanceMethod objectInit ∈ ww_ok := ww_t 24 (by decide +kernel)
theorem oi_code : Cond.code objectInit ⟨#[0xb1]⟩ 1 none ∈ ww_ok := ww_t 25 (by decide +kernel)
theorem ac_nat : Cond.native arraycopyName ∈ ww_ok := ww_t 387 (by decide +kernel)
theorem ac_stat : Cond.static arraycopyName ∈ ww_ok := ww_t 386 (by decide +kernel)
theorem ac_ini : Cond.initialized "java/lang/System" ∈ ww_ok := ww_t 9 (by decide +kernel)
/-- what holds of the tables in every frame, and isn't among the words that keep -/
def ai_EN (U : State) : Prop := ai_AV U ∧ (∀ q ∈ ai_nw, va_Nw (.methodLinkNest q.1 q.2.1 q.2.2 "TheOtherRoom") U) ∧ (∀ q ∈ ai_sw, ∃ a : Nat, vk_R q.1 q.2.1 q.2.2 a U)
theorem ai_over {ty : FieldType} {u U : State} (hvm : u.vm.Alike U.vm) (h : (Cond.arrayOver ty).before #[] u = true) : (Cond.arrayOver ty).before #[] U = true := by
  have h1 : (Cond.arrayOver ty).before #[] (u.setVm U.vm) = true := by rw [Cond.arrayOver_setVmC hvm]; exact h
  exact h1
theorem ai_AV.moved {u U : State} (hvm : u.vm.Alike U.vm) (h : ai_AV u) : ai_AV U := ⟨h.1.moved hvm, h.2.1.moved hvm, ai_over hvm h.2.2.1, ai_over hvm h.2.2.2⟩
theorem ai_EN.same {u U : State} (hv : U.vm = u.vm) (h : ai_EN u) : ai_EN U := by
  refine ⟨h.1.moved (by rw [hv]; exact Vm.Alike.refl _), fun q hq => va_Nw.same rfl hv.symm (h.2.1 q hq), fun q hq => ?_⟩
  obtain ⟨a, ha⟩ := h.2.2 q hq
  exact ⟨a, ha.same hv⟩
theorem ai_EN.warm {s U : State} (hW : s.WarmedH U.vm) (h : ai_EN s) : ai_EN U := by
  refine ⟨h.1.moved hW.alike, fun q hq => va_Nw.warmM hW (h.2.1 q hq), fun q hq => ?_⟩
  obtain ⟨a, ha⟩ := h.2.2 q hq
  exact ⟨a, ha.warm hW⟩
theorem ai_RW.moved {D : va_G} {u U : State} {A : Nat → Prop} {b : Nat} {ad : List Nat} {w : ai_W} {H : Heap} (hvm : u.vm.Alike U.vm) (h : ai_RW D u A b ad w H) : ai_RW D U A b ad w H := by
  obtain ⟨ws, tys, hK, hR⟩ := h
  exact ⟨ws, tys, va_K.moved hvm hK, hR⟩
theorem ai_RW.weaken {D : va_G} {u : State} {A B : Nat → Prop} {b : Nat} {ad : List Nat} {w : ai_W} {H : Heap} (h : ai_RW D u A b ad w H) (hAB : ∀ q, A q → B q) : ai_RW D u B b ad w H := by
  obtain ⟨ws, tys, hK, hP, hD, hR⟩ := h
  exact ⟨ws, tys, hK, hP, hD.weaken (fun _ q _ hq => hAB q.1 hq), hR⟩
theorem ai_RW.adA {D : va_G} {u : State} {A : Nat → Prop} {b : Nat} {ad : List Nat} {w : ai_W} {H : Heap} (h : ai_RW D u A b ad w H) : ∀ q ∈ ad, A q := by
  obtain ⟨ws, tys, hK, hP, hD, had, hR⟩ := h
  intro q hq
  rw [had] at hq
  obtain ⟨x, hx, rfl⟩ := List.mem_map.mp hq
  obtain ⟨k, hk⟩ := List.getElem?_of_mem hx
  exact hD.2 k x hk
/-- a method's own part of the heap: the world's cells, and those that it makes -/
def ai_FA (ad : List Nat) (sz : Nat) : Nat → Prop := fun q => q ∈ ad ∨ sz ≤ q
def ai_Qc (D : va_G) (bs : Nat) (ad : List Nat) (sz : Nat) (r : Option ai_V) (w' : ai_W) : Array Value → State → Outcome → State → Prop := fun _ st oc t =>
  (∃ (v : Option Value) (ad' : List Nat), oc = .returned v ∧ (∃ tl, ad' = ad ++ tl) ∧ ai_RR bs ad' r v ∧ ai_RW D t (ai_FA ad sz) bs ad' w' t.heap) ∧ va_F (ai_FA ad sz) st t
def ai_ws (N : ai_M) : List Cond := Cond.code (ai_y N) (ai_by N) (ai_ml N) (ai_rt' N) :: ww_ok
def ai_Pc (D : va_G) (bs : Nat) (ad : List Nat) (sz : Nat) (w : ai_W) (vs : List Value) : Array Value → State → Prop := va_Pc vs (fun U => U.heap.size = sz ∧ ai_EN U ∧ ai_RW D U (fun _ => True) bs ad w U.heap)
theorem ai_blind (D : va_G) (bs : Nat) (ad : List Nat) (sz : Nat) (w : ai_W) (vs : List Value) : FrameBlind (ai_Pc D bs ad sz w vs) := fun _ U _ _ q => ⟨q.1, q.2.1, q.2.2.1.same rfl, q.2.2.2.moved (Vm.Alike.refl U.vm)⟩
/-- what is known of an instruction beforehand -/
def ai_par (N : ai_M) : Option Nat := (parseMethodDescriptor (ai_y N).desc).map (fun d => d.parameters.length)
def ai_NV (own : String) (i : Nat) (N : ai_M) : Prop := Cond.methodLink own i (ai_y N) ∈ ww_ok ∧ Cond.instanceMethod (ai_y N) ∈ ww_ok ∧ Cond.selects (ai_y N).cls (ai_y N) (ai_y N) ∈ ww_ok ∧ (∃ k, ai_na N = k + 1 ∧ ai_par N = some k) ∧ ∃ q, classes[ai_oc N]? = some q ∧ q.1 = (ai_y N).cls
def ai_NS (own : String) (i : Nat) (N : ai_M) : Prop := Cond.methodLink own i (ai_y N) ∈ ww_ok ∧ Cond.static (ai_y N) ∈ ww_ok ∧ ai_par N = some (ai_na N)
def ai_NI (own : String) (i : Nat) (N : ai_M) : Prop := Cond.methodLink own i (ai_y N) ∈ ww_ok ∧ Cond.instanceMethod (ai_y N) ∈ ww_ok ∧ (ai_y N).name = "<init>" ∧ ai_rt' N = none ∧ ∃ k, ai_na N = k + 1 ∧ ai_par N = some k
def ai_NX (own : String) (i : Nat) (N : ai_M) : Prop := (own, i, ai_y N) ∈ ai_nw ∧ Cond.instanceMethod (ai_y N) ∈ ww_ok ∧ (ai_y N).name = "<init>" ∧ ai_rt' N = none ∧ ∃ k, ai_na N = k + 1 ∧ ai_par N = some k
def ai_CF (own : String) (N : ai_M) (ins : Instr) (b : Nat) : Prop := ∃ i : Nat, (b = 0 ∧ ins = .invokevirtual i ∧ ai_NV own i N) ∨ (b = 1 ∧ ins = .invokestatic i ∧ ai_NS own i N) ∨ (b = 2 ∧ ins = .invokespecial i ∧ ai_NI own i N) ∨ (b = 3 ∧ ins = .invokespecial i ∧ ai_NX own i N)
def ai_EK (mt : List ai_M) (M : ai_M) (x : ai_E) : Prop := decode (ai_by M) x.1 = .ok (x.2.2.1, x.2.2.2.1) ∧ match x.2.1 with
  | 0 => ai_len x.2.2.1 = x.2.2.2.1 ∧ (∀ i, x.2.2.1 = .ldc2_w i → ∃ v : Int64, v.toInt = x.2.2.2.2.2.2 ∧ Cond.constantLong (cn_of (ai_oc M)) i v ∈ ww_ok) ∧ (∀ i, x.2.2.1 = .ldc i → ∃ tx, (cn_of (ai_oc M), i, tx) ∈ ai_sw)
  | 1 => ai_len x.2.2.1 = x.2.2.2.1
  | 2 => (ai_len x.2.2.1 = x.2.2.2.1 ∨ ∃ d lo hi offs, x.2.2.1 = .tableswitch d lo hi offs) ∧ ai_tg x.1 x.2.2.1 x.2.2.2.2.1
  | 3 => ai_len x.2.2.1 = x.2.2.2.1 ∧ ai_hf (cn_of (ai_oc M)) x.2.2.1 x.2.2.2.2.1 x.2.2.2.2.2.1
  | 4 => x.2.2.2.1 = 3 ∧ ∀ N, mt[x.2.2.2.2.1]? = some N → ai_CF (cn_of (ai_oc M)) N x.2.2.1 x.2.2.2.2.2.1
  | 5 => x.2.2.2.1 = 3 ∧ ∃ i, x.2.2.1 = .invokespecial i ∧ Cond.methodLink (cn_of (ai_oc M)) i objectInit ∈ ww_ok
  | 6 => x.2.2.2.1 = 1
  | 7 => x.2.2.2.1 = 3 ∧ ∃ i, x.2.2.1 = .invokestatic i ∧ Cond.methodLink (cn_of (ai_oc M)) i arraycopyName ∈ ww_ok
  | _ => True
def ai_NK (mt : List ai_M) (N : ai_M) : Prop := Cond.code (ai_y N) (ai_by N) (ai_ml N) (ai_rt' N) ∈ ww_ok ∧ Cond.initialized (ai_y N).cls ∈ ww_ok ∧ plainName (ai_y N).cls = true ∧ ((ai_y N).cls ≠ "java/lang/invoke/MethodHandle" ∧ (ai_y N).cls ≠ "java/lang/invoke/VarHandle") ∧ (ai_y N).cls = cn_of (ai_oc N) ∧ ai_ml N ≤ 26 ∧ (ai_ii N = true → (ai_y N).name = "<init>") ∧ ∀ x ∈ ai_cd N, ai_EK mt N x
theorem cn_cl : ∀ {k : Nat} {q : vw_C}, classes[k]? = some q → cn_of k = q.1 := by
  intro k q h
  match k, h with
  | 0, h => cases h; rfl
  | 1, h => cases h; rfl
  | 2, h => cases h; rfl
  | 3, h => cases h; rfl
  | 4, h => cases h; rfl
  | 5, h => cases h; rfl
  | 6, h => cases h; rfl
  | k + 7, h => exact absurd (List.getElem?_eq_some_iff.mp h).1 (by show ¬ k + 7 < 7; omega)
/-- a frame's standing facts -/
def ai_FX (p : Program) (R : Room) (s : State) (m : MethodId) (args : Array Value) (meth : Method) (c : Code) (M : ai_M) (d C Z : Nat) (A : Nat → Prop) (H0 : Heap) (bs : Nat) (scr : List ai_V) : Prop :=
  p.tables.exec = Jvm.exec ∧ c.code = ai_by M ∧ c.maxLocals = ai_ml M ∧ s.vm.findClass (cn_of (ai_oc M)) = some m.cls ∧ (∀ w ∈ ww_ok, w.before args s = true) ∧ ai_EN s ∧ (ai_ii M = true → meth.name = "<init>") ∧ ai_SC scr bs A H0 s ∧ d ≤ R.frames ∧ 45 * d ≤ R.locals ∧ C ≤ R.cells ∧ Z ≤ R.slots ∧ ∀ q, H0.size ≤ q → A q
def ai_GO (l : Launch) (scr : List ai_V) (d : Nat) (M : ai_M) (pc : Nat) (L : ai_Ls) (S : List ai_V) (w : ai_W) (c0 s0 : Nat) (r : Option ai_V) (w' : ai_W) (C Z : Nat) : Prop :=
  ∀ (p : Program) (e : Env) (R : Room) (s : State) (m : MethodId) (args : Array Value) (below : List Frame) (meth : Method) (c : Code) (H : Heap) (locs : List Loc) (Q : State → Prop) (D : va_G) (A : Nat → Prop) (H0 : Heap) (bs : Nat) (ad : List Nat) (ls : Array Slot) (st : List Value),
    ai_FX p R s m args meth c M d C Z A H0 bs scr → ai_RW D s A bs ad w H → va_S A H0 H locs → ai_RL bs ad (ai_ml M) L ls → ai_RS bs ad S st →
    (∀ (pc' : Nat) (ls' : Array Slot) (st' : List Value) (H1 : Heap) (locs1 : List Loc) (ad' : List Nat) (ins : Instr) (S' : List ai_V), (∃ t, ad' = ad ++ t) → ai_RW D s A bs ad' w' H1 → va_S A H0 H1 locs1 → decode (ai_by M) pc' = .ok (ins, 1) → ai_rc (ai_rt' M) ins S' = some r → ai_RS bs ad' S' st' → W p l e R s m args below meth c H1 locs1 C Z Q (F0 m pc' ls' st')) →
    W p l e R s m args below meth c H locs c0 s0 Q (F0 m pc ls st)
theorem ai_pre_trans {a b c : List Nat} (h1 : ∃ t, b = a ++ t) (h2 : ∃ t, c = b ++ t) : ∃ t, c = a ++ t := by
  obtain ⟨t, rfl⟩ := h1
  obtain ⟨u, rfl⟩ := h2
  exact ⟨t ++ u, by rw [List.append_assoc]⟩
theorem ai_met {l : Launch} {mt : List ai_M} {N : ai_M} {d : Nat} {AS : List ai_V} {w w' : ai_W} {r : Option ai_V} {mc ms : Nat} (hN : ai_NK mt N) (hcs : ai_cs AS ≤ ai_ml N) (hg : ai_GO l [] d N 0 (ai_lv0 0 AS) [] w 0 0 r w' mc ms) (D : va_G) (bs : Nat) (ad : List Nat) (sz : Nat) (vs : List Value) (hAS : ai_RS bs ad AS vs) :
    Met l (ai_y N) (ai_ws N) ({ frames := d, cells := mc, slots := ms, locals := 45 * d }) (ai_Pc D bs ad sz w vs) (ai_Qc D bs ad sz r w') mc ms (ai_FA ad sz) := by
  obtain ⟨hN1, hN2, hN3, hN4, hN5, hN6, hN7, hN8⟩ := hN
  refine Met.ofW (cc := ai_by N) (maxL := ai_ml N) (ret := ai_rt' N) hN3 rfl ?_
  intro p e s m args below meth c s₁ B hml hv
  obtain ⟨rfl, hsz, hEN, hRW⟩ := hv
  have hts := atoms_spec (ws := ai_ws N) B.pre
  subst hsz
  obtain ⟨ws, tys, hK, hP, hD, had, hlen, hR⟩ := hRW
  have hD' : va_D (ai_FA ad s.heap.size) ws := ⟨hD.1, fun k q hq => Or.inl (by rw [had]; exact List.mem_map.mpr ⟨q, List.mem_of_getElem? hq, rfl⟩)⟩
  have hl := lv_entry vs (n := ai_ml N) (by rw [ai_sl_ok hAS]; exact hcs)
  rw [lg_entry_eq]
  exact hg p e _ s m _ below meth c s.heap [] _ D (ai_FA ad s.heap.size) s.heap bs ad _ [] ⟨B.exec, B.bytes, hml, by rw [← hN5]; exact findClass_of_methodNamed B.named, fun w hw => hts w (List.mem_cons_of_mem _ hw), hEN, fun h => by rw [(name_of_methodNamed B.named B.method).1]; exact hN7 h, Or.inl rfl, Nat.le_refl _, Nat.le_refl _, Nat.le_refl _, Nat.le_refl _, fun q h => Or.inr h⟩
    ⟨ws, tys, hK, hP, hD', had, hlen, hR⟩ va_S.rf ⟨_, hl, ai_lv0_ok 0 hAS⟩ trivial (fun pc' ls' st' H1 locs1 ad' ins S' hpre hRW1 hS1 hd hrc hRS => ai_rc_ok B.exec B.bytes B.returns B.notSynchronized hd hrc hRS (fun v hv t ht hW => ⟨⟨v, ad', rfl, hpre, hv, by rw [ht]; exact hRW1.moved hW.alike⟩, hS1.F ht⟩) hS1.2.2)
section AIB
variable {p : Program} {l : Launch} {e : Env} {R : Room} {s : State} {m : MethodId} {args : Array Value} {below : List Frame} {meth : Method} {c : Code} {H : Heap} {locs : List Loc} {cells slots mc ms : Nat} {Q : State → Prop}
variable {pc : Nat} {ls : Array Slot} {st0 rest : List Value} {D : va_G} {A : Nat → Prop} {H0 : Heap} {bs : Nat} {ad : List Nat} {w' : ai_W} {r : Option ai_V} {a : Array Value}
theorem ai_back (hr : va_Run p l e R s m args below meth c H locs cells slots mc ms (F0 m pc ls st0) rest (ai_Qc D bs ad H.size r w' a) (ai_FA ad H.size)) (hV : va_S A H0 H locs) (hFA : ∀ q, ai_FA ad H.size q → A q)
    (kk : ∀ (v : Option Value) (H1 : Heap) (locs1 : List Loc) (ad' : List Nat), (∃ tl, ad' = ad ++ tl) → ai_RR bs ad' r v → ai_RW D s A bs ad' w' H1 → va_S A H0 H1 locs1 → W p l e R s m args below meth c H1 locs1 (cells + mc) (slots + ms) Q (F0 m (pc + 3) ls (v.toList ++ rest))) : W p l e R s m args below meth c H locs cells slots Q (F0 m pc ls st0) := by
  intro T hT X
  obtain ⟨v, st₀, t, T', L, h0, X', hL, e1, e2, ⟨⟨v', ad', hv, hpre, hrr, hrw⟩, hz, hk⟩, st⟩ := hr T hT X
  cases hv
  rw [h0] at hz hk
  have hvm : s.vm.Alike t.vm := by rw [← e2]; exact X'.warmed.alike
  obtain ⟨t2, a1, b1⟩ := kk v T'.heap (locs ++ L) ad' hpre hrr (by rw [e1]; exact (hrw.moved hvm.symm).weaken hFA)
    ⟨Nat.le_trans hV.1 (by rw [e1]; exact hz), fun q h1 h2 => by rw [e1, hk q (Nat.lt_of_lt_of_le h1 hV.1) (fun z => h2 (hFA q z))]; exact hV.2.1 q h1 h2, fun q hq => by
      rcases List.mem_append.mp hq with h | h
      · exact hV.2.2 q h
      · exact hFA _ (hL q h)⟩ T' rfl X'
  exact ⟨t2, st t2 a1, b1⟩
end AIB
theorem ww_goodIn (N : ai_M) (h : Cond.code (ai_y N) (ai_by N) (ai_ml N) (ai_rt' N) ∈ ww_ok) : GoodIn ww_ok (ai_ws N) := by
  intro w hw
  rcases List.mem_cons.mp hw with rfl | hw
  · exact ⟨h, good_of_word (ww_good _ h)⟩
  · exact ⟨hw, good_of_word (ww_good _ hw)⟩
end
section
/-! ===== a call, and a whole run ===== -/
section AIC
variable {p : Program} {l : Launch} {e : Env} {R : Room} {s : State} {m : MethodId} {args : Array Value} {below : List Frame} {meth : Method} {c : Code} {H : Heap} {locs : List Loc} {cells slots mc ms : Nat} {Q : State → Prop}
variable {pc : Nat} {ls : Array Slot} {st : List Value} {D : va_G} {A : Nat → Prop} {H0 : Heap} {bs nL : Nat} {ad : List Nat} {w w' : ai_W} {r : Option ai_V} {mt : List ai_M}
theorem ai_call {cc : ByteArray} {own : String} (hx : p.tables.exec = Jvm.exec) (hb : c.code = cc) (hml : c.maxLocals = nL) (hown : s.vm.findClass own = some m.cls) (hts : ∀ w ∈ ww_ok, w.before args s = true) (hEN : ai_EN s)
    {N : ai_M} {d : Nat} {ins : Instr} {b : Nat} (hN : ai_NK mt N) (hCF : ai_CF own N ins b) (hd : decode cc pc = .ok (ins, 3)) {AS : List ai_V} {vs rest : List Value} (hAS : ai_RS bs ad AS vs) (hvl : vs.length = ai_na N) (hst : st = vs.reverse ++ rest) (hcat : (rest.map fun v => v.category).sum ≤ 8)
    (hrcv : ai_rv AS b w (ai_oc N) = true)
    (hls : ls.size = nL) (hW : ai_RW D s A bs ad w H) (hV : va_S A H0 H locs) (hA : ∀ q, H0.size ≤ q → A q)
    (hM : Met l (ai_y N) (ai_ws N) ({ frames := d, cells := mc, slots := ms, locals := 45 * d }) (ai_Pc D bs ad H.size w vs) (ai_Qc D bs ad H.size r w') mc ms (ai_FA ad H.size))
    (hfr : d + 1 ≤ R.frames) (hlo : 45 * (d + 1) ≤ R.locals) (hcells : cells + mc ≤ R.cells) (hslots : slots + ms ≤ R.slots)
    (kk : ∀ (v : Option Value) (H1 : Heap) (locs1 : List Loc) (ad' : List Nat), (∃ tl, ad' = ad ++ tl) → ai_RR bs ad' r v → ai_RW D s A bs ad' w' H1 → va_S A H0 H1 locs1 → W p l e R s m args below meth c H1 locs1 (cells + mc) (slots + ms) Q (F0 m (pc + 3) ls (v.toList ++ rest))) : W p l e R s m args below meth c H locs cells slots Q (F0 m pc ls st) := by
  obtain ⟨hN1, hN2, hN3, hN4, hN5, hN6, hN7, hN8⟩ := hN
  have hFA : ∀ q, ai_FA ad H.size q → A q := fun q hq => by
    rcases hq with hq | hq
    · exact hW.adA q hq
    · exact hA q (Nat.le_trans hV.1 hq)
  have fix : CallFix p m c cc nL s args ww_ok own := ⟨hx, hb, hml, hown, hts⟩
  have hroom : ({ frames := d, cells := mc, slots := ms, locals := 45 * d } : Room).frames + 1 ≤ R.frames ∧ 8 + (ai_ml N + 11) + ({ frames := d, cells := mc, slots := ms, locals := 45 * d } : Room).locals ≤ R.locals := ⟨hfr, by show 8 + (ai_ml N + 11) + 45 * d ≤ R.locals; omega⟩
  have hpre : ∀ U : State, U.heap = H → s.WarmedH U.vm → ai_Pc D bs ad H.size w vs vs.toArray U := fun U hU hWU => ⟨rfl, by rw [hU], hEN.warm hWU, by rw [hU]; exact (hW.moved hWU.alike).weaken (fun _ _ => trivial)⟩
  have hcb : ∀ (i n : Nat), Cond.methodLink own i (ai_y N) ∈ ww_ok → ai_par N = some n → CallB R s args own i (ai_y N) (ai_by N) (ai_ml N) (ai_rt' N) (ai_ws N) ({ frames := d, cells := mc, slots := ms, locals := 45 * d }) mc ms n := fun i n h1 h2 =>
    callB_of n hts (ww_goodIn N hN1) rfl rfl rfl (hts _ hN2) (hts _ h1) ⟨hN4.1, hN4.2, h2⟩ hroom
  obtain ⟨i, hCF⟩ := hCF
  rcases hCF with ⟨rfl, rfl, h1, h2, h3, ⟨k, hk1, hk2⟩, q, hq1, hq2⟩ | ⟨rfl, rfl, h1, h2, h3⟩ | ⟨rfl, rfl, h1, h2, h3, h4, k, hk1, hk2⟩ | ⟨rfl, rfl, h1, h2, h3, h4, k, hk1, hk2⟩
  · obtain ⟨k2, AS', rfl, hac⟩ := ai_rv_ok hrcv (by decide)
    obtain ⟨ac, hac, ht⟩ := hac rfl
    match vs, hAS with
    | u :: As, ⟨hu, hAS⟩ =>
      obtain ⟨ws, tys, hK, hP, hD, had, hlen, hR⟩ := id hW
      rw [had] at hu
      obtain ⟨a', e', rfl, he, hre⟩ := ai_obj hu (by rw [← had]; exact hR) hac
      have h7 := (ai_ck hq1).1
      obtain ⟨fs, rfl, -⟩ := hre.obj (by omega)
      have hrec := va_recv hK hP (ci := ac.1) (q := q) (by rw [ht]; exact hq1) he
      rw [hq2] at hrec
      exact ai_back (va_runV (As := As) (rest := rest) fix hM ⟨hcb i k h1 hk2, hts _ h2, hts _ h3⟩ ⟨ai_blind _ _ _ _ _ _, hrec, hpre⟩ rfl (by have := hvl; rw [List.length_cons] at this; omega) hls (by rw [hst, List.reverse_cons, List.append_assoc]; rfl) (lv_room hcat) hd ⟨hcells, hslots⟩) hV hFA kk
  · refine ai_back (va_runS (As := vs) (rest := rest) fix hM ⟨hcb i _ h1 h3, hts _ h2⟩ ⟨ai_blind _ _ _ _ _ _, hpre⟩ rfl hvl hls hst (lv_room hcat) hd ⟨hcells, hslots⟩) hV hFA kk
  · obtain ⟨k2, AS', rfl, -⟩ := ai_rv_ok hrcv (by decide)
    match vs, hAS with
    | u :: As, ⟨hu, hAS⟩ =>
      obtain ⟨a', h9, rfl⟩ := hu
      have hc2 := hcb i k h1 hk2
      rw [h4] at hc2
      exact ai_back (va_runI (As := As) (rest := rest) fix hM ⟨hc2, h3, hts _ h2⟩ ⟨ai_blind _ _ _ _ _ _, hpre⟩ rfl (by have := hvl; rw [List.length_cons] at this; omega) hls (by rw [hst, List.reverse_cons, List.append_assoc]; rfl) (lv_room hcat) hd ⟨hcells, hslots⟩) hV hFA kk
  · obtain ⟨k2, AS', rfl, -⟩ := ai_rv_ok hrcv (by decide)
    match vs, hAS with
    | u :: As, ⟨hu, hAS⟩ =>
      obtain ⟨a', h9, rfl⟩ := hu
      have hcn := va_cnB (host := "TheOtherRoom") k hts (ww_goodIn N hN1) rfl (rm := { frames := d, cells := mc, slots := ms, locals := 45 * d }) rfl rfl (hEN.2.1 _ h1) (hts _ hN2) ⟨hN4.1, hN4.2, hk2⟩ hroom
      rw [h4] at hcn
      exact ai_back (va_runIN (As := As) (rest := rest) fix hM ⟨hcn, h3, hts _ h2⟩ ⟨ai_blind _ _ _ _ _ _, hpre⟩ rfl (by have := hvl; rw [List.length_cons] at this; omega) hls (by rw [hst, List.reverse_cons, List.append_assoc]; rfl) (lv_room hcat) hd ⟨hcells, hslots⟩) hV hFA kk
theorem ai_cp_ok {cc : ByteArray} {own : String} (hx : p.tables.exec = Jvm.exec) (hb : c.code = cc) (hml : c.maxLocals = nL) (hls : ls.size = nL) (hown : s.vm.findClass own = some m.cls) (hts : ∀ w ∈ ww_ok, w.before args s = true) {i : Nat} (hlk : Cond.methodLink own i arraycopyName ∈ ww_ok) (hd : decode cc pc = .ok (.invokestatic i, 3))
    {S S' : List ai_V} (h : ai_cp S w = some (S', w')) (hW : ai_RW D s A bs ad w H) (hV : va_S A H0 H locs) (hS : ai_RS bs ad S st) (hfr : 1 ≤ R.frames) (hlo : 45 ≤ R.locals)
    (kk : ∀ (H1 : Heap) (locs1 : List Loc) (st' : List Value), ai_RW D s A bs ad w' H1 → va_S A H0 H1 locs1 → ai_RS bs ad S' st' → W p l e R s m args below meth c H1 locs1 cells slots Q (F0 m (pc + 3) ls st')) : W p l e R s m args below meth c H locs cells slots Q (F0 m pc ls st) := by
  unfold ai_cp at h
  split at h
  · next n dp k1 sp k0 rr =>
    split at h
    · next n' dp' hn hdp =>
      split at h
      · next sp' hsp =>
        split at h
        · next a0 a1 h0 h1 =>
          obtain ⟨hc, h⟩ := ai_bif h
          cases h
          rw [Bool.and_eq_true, Bool.and_eq_true, Bool.and_eq_true, Bool.and_eq_true, Nat.ble_eq, Nat.ble_eq, Nat.ble_eq] at hc
          obtain ⟨c1, c2, c3, c4, c5⟩ := hc
          have c1 := Nat.eq_of_beq_eq_true c1
          have c2 := Nat.eq_of_beq_eq_true c2
          match st, hS with
          | [_], hS => exact hS.2.elim
          | [_, _], hS => exact hS.2.2.elim
          | [_, _, _], hS => exact hS.2.2.2.elim
          | [_, _, _, _], hS => exact hS.2.2.2.2.elim
          | _ :: _ :: u1 :: _ :: u0 :: st', ⟨⟨x, rfl, x1, x2⟩, ⟨y, rfl, y1, y2⟩, hu1, ⟨z, rfl, z1, z2⟩, hu0, hS⟩ =>
            obtain ⟨-, e2, e3, -⟩ := ai_ix_ok hn x1 x2
            obtain ⟨-, f2, f3, -⟩ := ai_ix_ok hdp y1 y2
            obtain ⟨-, g2, g3, -⟩ := ai_ix_ok hsp z1 z2
            obtain ⟨ws, tys, hK, hP, hD, had, hlen, hR⟩ := id hW
            subst had
            obtain ⟨a1', e1', rfl, he1, hre1⟩ := ai_obj hu1 hR h1
            obtain ⟨a0', e0', rfl, he0, hre0⟩ := ai_obj hu0 hR h0
            obtain ⟨cA0, f0, t0, rfl, gt0, gf0⟩ := hre0.ints (ty := .int) (by rw [c1]; rfl)
            obtain ⟨cA1, f1, t1, rfl, gt1, gf1⟩ := hre1.ints (ty := .int) (by rw [c2]; rfl)
            have hnf : nativeFrameWords "java/lang/System" "arraycopy" 5 = 7 := by decide +kernel
            refine va_copyi hx hb (hml.trans hls.symm) hown (hts _ hlk) (hts _ ac_nat) (hts _ ac_stat) (hts _ ac_ini) hK hP hD hV k0 k1 t0 t1 he0 he1 gt0 gt1 rfl g3 f3 e3 (by rw [g2, e2]; exact c3) (by rw [f2, e2]; exact c4) (fun _ _ => rfl) hfr (by rw [ai_cs_ok hS, hnf]; omega) hd (fun H1 locs1 hP1 hD1 hS1 => ?_)
            exact kk H1 locs1 _ ⟨_, tys, hK, hP1, hD1, (ai_map_set he1).symm, by rw [List.length_set, List.length_set]; exact hlen, ai_cell_set he1 hR (Or.inr (Or.inl ⟨.int, cA1, _, t1, by rw [c2]; rfl, by rw [List.length_replicate], gt1, fun j v hj => by rw [List.eq_of_mem_replicate (List.mem_of_getElem? hj)]; exact ⟨_, rfl, ai_tI_ok _⟩⟩))⟩ hS1 hS
        · cases h
      · cases h
    · cases h
  · cases h
end AIC
set_option maxHeartbeats 1000000 in
theorem ai_ex_ok (l : Launch) (mt : List ai_M) (hmt : ∀ N ∈ mt, ai_NK mt N) : ∀ (f : Nat) (scr : List ai_V) (d : Nat) (M : ai_M) (cd : List ai_E) (pc : Nat) (L : ai_Ls) (S : List ai_V) (w : ai_W) (c0 s0 : Nat) (r : Option ai_V) (w' : ai_W) (C Z : Nat),
    ai_ex mt f scr d M cd pc L S w c0 s0 = some (r, w', C, Z) → (∀ x ∈ cd, x ∈ ai_cd M) → (∀ x ∈ ai_cd M, ai_EK mt M x) → c0 ≤ C ∧ s0 ≤ Z ∧ ai_GO l scr d M pc L S w c0 s0 r w' C Z := by
  intro f
  induction f with
  | zero =>
    intro scr d M cd pc L S w c0 s0 r w' C Z h
    cases h
  | succ f IH =>
    intro scr d M cd pc L S w c0 s0 r w' C Z h hsub hEK
    unfold ai_ex at h
    split at h
    · cases h
    · next pc0 g ins len a b z cd' =>
      have hq := ai_bif2 h
      clear h
      obtain ⟨hpc, h⟩ := hq
      have hpc2 := Nat.eq_of_beq_eq_true hpc
      clear hpc
      subst hpc2
      have hx := hEK _ (hsub _ List.mem_cons_self)
      have hsub' : ∀ x ∈ cd', x ∈ ai_cd M := fun x hx => hsub x (List.mem_cons_of_mem _ hx)
      obtain ⟨hdec, hx⟩ := hx
      dsimp only at hdec hx
      split at h
      · split at h
        · next L' S' hg =>
          have ih := IH _ _ _ _ _ _ _ _ _ _ _ _ _ _ h hsub' hEK
          obtain ⟨hl, hx1, hx2⟩ := hx
          refine ⟨ih.1, ih.2.1, ?_⟩
          intro p e R s m args below meth c H locs Q D A H0 bs ad ls st hF hW hV hL hS hret
          obtain ⟨g1, g2, g3, g4, g5, g6, g7⟩ := id hF
          exact ai_gL_ok g1 g2 g4 (by rw [hl]; exact hdec) (fun i hi => by obtain ⟨v, h1, h2⟩ := hx1 i hi; exact ⟨v, h1, g5 _ h2⟩) (fun i hi => by obtain ⟨tx, h1⟩ := hx2 i hi; obtain ⟨q, hq⟩ := g6.2.2 _ h1; exact ⟨tx, q, hq⟩) hg hL hS
            (fun ls' st' hL' hS' => by rw [hl]; exact ih.2.2 p e R s m args below meth c H locs Q D A H0 bs ad ls' st' hF hW hV hL' hS' hret)
        · cases h
      · split at h
        · next S' hg =>
          have ih := IH _ _ _ _ _ _ _ _ _ _ _ _ _ _ h hsub' hEK
          refine ⟨ih.1, ih.2.1, ?_⟩
          intro p e R s m args below meth c H locs Q D A H0 bs ad ls st hF hW hV hL hS hret
          obtain ⟨g1, g2, g3, g4, g5, g6, g7⟩ := id hF
          exact ai_gI_ok g1 g2 (by rw [hx]; exact hdec) hg hS (fun st' hS' => by rw [hx]; exact ih.2.2 p e R s m args below meth c H locs Q D A H0 bs ad ls st' hF hW hV hL hS' hret)
        · cases h
      · split at h
        · next t S' hg =>
          have ih := IH _ _ _ _ _ _ _ _ _ _ _ _ _ _ h (fun x hx => ai_jm_sub hx) hEK
          refine ⟨ih.1, ih.2.1, ?_⟩
          intro p e R s m args below meth c H locs Q D A H0 bs ad ls st hF hW hV hL hS hret
          obtain ⟨g1, g2, g3, g4, g5, g6, g7⟩ := id hF
          exact ai_gJ_ok g1 g2 hdec hx.1 hx.2 hg hS (fun st' hS' => ih.2.2 p e R s m args below meth c H locs Q D A H0 bs ad ls st' hF hW hV hL hS' hret)
        · next S' hg =>
          have ih := IH _ _ _ _ _ _ _ _ _ _ _ _ _ _ h hsub' hEK
          refine ⟨ih.1, ih.2.1, ?_⟩
          intro p e R s m args below meth c H locs Q D A H0 bs ad ls st hF hW hV hL hS hret
          obtain ⟨g1, g2, g3, g4, g5, g6, g7⟩ := id hF
          exact ai_gJ_ok g1 g2 hdec hx.1 hx.2 hg hS (fun st' hS' => ih.2.2 p e R s m args below meth c H locs Q D A H0 bs ad ls st' hF hW hV hL hS' hret)
        · cases h
      · split at h
        · next S' w1 dc ds hg =>
          have ih := IH _ _ _ _ _ _ _ _ _ _ _ _ _ _ h hsub' hEK
          obtain ⟨hl, hf⟩ := hx
          refine ⟨by have := ih.1; omega, by have := ih.2.1; omega, ?_⟩
          intro p e R s m args below meth c H locs Q D A H0 bs ad ls st hF hW hV hL hS hret
          obtain ⟨g1, g2, g3, g4, g5, g6, g7, g8, g9, g10, g11, g12, g13⟩ := id hF
          exact ai_gH_ok g1 g2 g4 g5 g6.1 g7 (fun q hq => cn_cl hq) (by rw [hl]; exact hdec) hf g8 hg hW hV g13 hS (by have := ih.1; omega) (by have := ih.2.1; omega)
            (fun H1 locs1 ad' st' hpre hW1 hV1 hS1 => by
              rw [hl]
              obtain ⟨t, rfl⟩ := hpre
              exact ih.2.2 p e R s m args below meth c H1 locs1 Q D A H0 bs _ ls st' hF hW1 hV1 (hL.mono t) hS1 (fun pc' ls' st' H1 locs1 ad' ins S' hpre' => hret pc' ls' st' H1 locs1 ad' ins S' (ai_pre_trans ⟨t, rfl⟩ hpre')))
        · cases h
      · split at h
        · next N d' hN =>
          obtain ⟨hc, h⟩ := ai_bif2 h
          rw [Bool.and_eq_true, Bool.and_eq_true, Bool.and_eq_true, Nat.ble_eq, Nat.ble_eq, Nat.ble_eq] at hc
          obtain ⟨hc1, hc2, hc3, hc4⟩ := hc
          split at h
          · next r1 w1 mc ms hin =>
            have hNK := hmt N (List.mem_of_getElem? hN)
            have ih := IH _ _ _ _ _ _ _ _ _ _ _ _ _ _ h hsub' hEK
            have ihN := IH _ _ _ _ _ _ _ _ _ _ _ _ _ _ hin (fun x hx => hx) hNK.2.2.2.2.2.2.2
            obtain ⟨hl, hcf⟩ := hx
            subst hl
            refine ⟨by have := ih.1; omega, by have := ih.2.1; omega, ?_⟩
            intro p e R s m args below meth c H locs Q D A H0 bs ad ls st hF hW hV hL hS hret
            obtain ⟨g1, g2, g3, g4, g5, g6, g7, g8, g9, g10, g11, g12, g13⟩ := id hF
            have hlsz : ls.size = ai_ml M := by obtain ⟨lv, h9, -⟩ := hL; exact h9.1
            have hT := hS.take (ai_na N)
            have hAS := hT.1.rev
            have hlen := hS.len
            refine ai_call g1 g2 g3 g4 g5 g6 hNK (hcf N hN) hdec hAS (by rw [List.length_reverse, List.length_take]; omega) (by rw [List.reverse_reverse, List.take_append_drop]) (by rw [ai_cs_ok hT.2]; exact hc1) hc4 hlsz hW hV g13
              (ai_met hNK hc3 ihN.2.2 D bs ad H.size _ hAS) (by omega) (by omega) (by have := ih.1; omega) (by have := ih.2.1; omega) (fun v H1 locs1 ad' hpre hrr hW1 hV1 => ?_)
            obtain ⟨t, rfl⟩ := hpre
            refine ih.2.2 p e R s m args below meth c H1 locs1 Q D A H0 bs _ ls _ hF hW1 hV1 (hL.mono t) ?_ (fun pc' ls' st' H1 locs1 ad' ins S' hpre' => hret pc' ls' st' H1 locs1 ad' ins S' (ai_pre_trans ⟨t, rfl⟩ hpre'))
            have hD := hT.2.mono t
            match r1, v, hrr with
            | none, none, _ => exact hD
            | some x, some u, hrr => exact ⟨hrr, hD⟩
          · cases h
        · cases h
      · split at h
        · next k rr d' =>
          obtain ⟨hc, h⟩ := ai_bif2 h
          rw [Nat.ble_eq] at hc
          have ih := IH _ _ _ _ _ _ _ _ _ _ _ _ _ _ h hsub' hEK
          obtain ⟨hl, i, rfl, hlk⟩ := hx
          subst hl
          refine ⟨ih.1, ih.2.1, ?_⟩
          intro p e R s m args below meth c H locs Q D A H0 bs ad ls st hF hW hV hL hS hret
          obtain ⟨g1, g2, g3, g4, g5, g6, g7, g8, g9, g10, g11, g12, g13⟩ := id hF
          have hlsz : ls.size = ai_ml M := by obtain ⟨lv, h9, -⟩ := hL; exact h9.1
          match st, hS with
          | u :: st', ⟨hu, hS⟩ =>
            obtain ⟨a', rfl⟩ := ai_RV.rsm hu
            refine W.objInit g1 g2 g4 (g5 _ hlk) (g5 _ oi_inst) (g5 _ oi_code) rfl (by rw [g3]; exact hlsz) rfl hdec (by omega) ?_ ?_
            · have := lv_room (m := m) (pc := pc0) (ls := ls) (rest := Value.ref a' :: st') (st := st') (by rw [ai_cs_ok hS]; exact hc)
              omega
            · exact ih.2.2 p e R s m args below meth c H locs Q D A H0 bs ad ls st' hF hW hV hL hS hret
        · cases h
      · split at h
        · next r1 hrc =>
          cases h
          refine ⟨Nat.le_refl _, Nat.le_refl _, ?_⟩
          intro p e R s m args below meth c H locs Q D A H0 bs ad ls st hF hW hV hL hS hret
          rw [hx] at hdec
          exact hret _ _ _ _ _ _ _ _ ⟨[], (List.append_nil _).symm⟩ hW hV hdec hrc hS
        · cases h
      · split at h
        · next S' w1 d' hcp =>
          have ih := IH _ _ _ _ _ _ _ _ _ _ _ _ _ _ h hsub' hEK
          obtain ⟨hl, i, rfl, hlk⟩ := hx
          subst hl
          refine ⟨ih.1, ih.2.1, ?_⟩
          intro p e R s m args below meth c H locs Q D A H0 bs ad ls st hF hW hV hL hS hret
          obtain ⟨g1, g2, g3, g4, g5, g6, g7, g8, g9, g10, g11, g12, g13⟩ := id hF
          have hlsz : ls.size = ai_ml M := by obtain ⟨lv, h9, -⟩ := hL; exact h9.1
          exact ai_cp_ok g1 g2 g3 hlsz g4 g5 hlk hdec hcp hW hV hS (by omega) (by omega) (fun H1 locs1 st' hW1 hV1 hS1 => ih.2.2 p e R s m args below meth c H1 locs1 Q D A H0 bs ad ls st' hF hW1 hV1 hL hS1 hret)
        · cases h
      · cases h
end
section
theorem i_vc : Claimed_1_1 ∧ Claimed_1_2 := sorry
end
