section
-- ===== PART A: goes FIRST, ahead of the names: the tables' words, and 'selects' of the private methods out of them =====
/-- a private method of a class that the tables say can be made, by its rows of tables_1 -/
def lw_okq (q : MethodName × Nat) : Prop := (q.1.cls ≠ "java/lang/invoke/MethodHandle" ∧ q.1.cls ≠ "java/lang/invoke/VarHandle") ∧ Cond.instantiable q.1.cls q.2 ∈ tables_1 ∧ Cond.privateMethod q.1 ∈ tables_1 ∧ Cond.instanceMethod q.1 ∈ tables_1
theorem lw_p0 : lw_okq (⟨"SleepingRooms$Nets", "feeds", "(II)Z"⟩, 7) := ⟨⟨by decide +kernel, by decide +kernel⟩, List.mem_of_getElem? (i := 75) (by decide +kernel), List.mem_of_getElem? (i := 468) (by decide +kernel), List.mem_of_getElem? (i := 469) (by decide +kernel)⟩
theorem lw_p1 : lw_okq (⟨"SleepingRooms$Nets", "guardFault", "(III)I"⟩, 7) := ⟨⟨by decide +kernel, by decide +kernel⟩, List.mem_of_getElem? (i := 75) (by decide +kernel), List.mem_of_getElem? (i := 487) (by decide +kernel), List.mem_of_getElem? (i := 488) (by decide +kernel)⟩
theorem lw_p2 : lw_okq (⟨"SleepingRooms$Course", "spread", "(III)I"⟩, 4) := ⟨⟨by decide +kernel, by decide +kernel⟩, List.mem_of_getElem? (i := 118) (by decide +kernel), List.mem_of_getElem? (i := 523) (by decide +kernel), List.mem_of_getElem? (i := 524) (by decide +kernel)⟩
theorem lw_p3 : lw_okq (⟨"SleepingRooms$Course", "linkedTo", "(II)I"⟩, 4) := ⟨⟨by decide +kernel, by decide +kernel⟩, List.mem_of_getElem? (i := 118) (by decide +kernel), List.mem_of_getElem? (i := 530) (by decide +kernel), List.mem_of_getElem? (i := 531) (by decide +kernel)⟩
theorem lw_p4 : lw_okq (⟨"SleepingRooms$Play", "isOn", "(I)Z"⟩, 9) := ⟨⟨by decide +kernel, by decide +kernel⟩, List.mem_of_getElem? (i := 171) (by decide +kernel), List.mem_of_getElem? (i := 572) (by decide +kernel), List.mem_of_getElem? (i := 573) (by decide +kernel)⟩
theorem lw_p5 : lw_okq (⟨"SleepingRooms$Play", "canKeep", "(I)Z"⟩, 9) := ⟨⟨by decide +kernel, by decide +kernel⟩, List.mem_of_getElem? (i := 171) (by decide +kernel), List.mem_of_getElem? (i := 578) (by decide +kernel), List.mem_of_getElem? (i := 579) (by decide +kernel)⟩
theorem lw_p6 : lw_okq (⟨"SleepingRooms$Play", "reasonNotToDo", "(III)I"⟩, 9) := ⟨⟨by decide +kernel, by decide +kernel⟩, List.mem_of_getElem? (i := 171) (by decide +kernel), List.mem_of_getElem? (i := 587) (by decide +kernel), List.mem_of_getElem? (i := 588) (by decide +kernel)⟩
theorem lw_p7 : lw_okq (⟨"SleepingRooms$Play", "sceneAfter", "(II)I"⟩, 9) := ⟨⟨by decide +kernel, by decide +kernel⟩, List.mem_of_getElem? (i := 171) (by decide +kernel), List.mem_of_getElem? (i := 593) (by decide +kernel), List.mem_of_getElem? (i := 594) (by decide +kernel)⟩
theorem lw_p8 : lw_okq (⟨"SleepingRooms$Play", "setLevel", "(II)V"⟩, 9) := ⟨⟨by decide +kernel, by decide +kernel⟩, List.mem_of_getElem? (i := 171) (by decide +kernel), List.mem_of_getElem? (i := 602) (by decide +kernel), List.mem_of_getElem? (i := 603) (by decide +kernel)⟩
theorem lw_p9 : lw_okq (⟨"SleepingRooms$Play", "findNetInDanger", "()V"⟩, 9) := ⟨⟨by decide +kernel, by decide +kernel⟩, List.mem_of_getElem? (i := 171) (by decide +kernel), List.mem_of_getElem? (i := 606) (by decide +kernel), List.mem_of_getElem? (i := 607) (by decide +kernel)⟩
theorem lw_p10 : lw_okq (⟨"SleepingRooms$Play", "danger", "(I)I"⟩, 9) := ⟨⟨by decide +kernel, by decide +kernel⟩, List.mem_of_getElem? (i := 171) (by decide +kernel), List.mem_of_getElem? (i := 610) (by decide +kernel), List.mem_of_getElem? (i := 611) (by decide +kernel)⟩
theorem lw_p11 : lw_okq (⟨"SleepingRooms", "seekStrides", "(II)V"⟩, 9) := ⟨⟨by decide +kernel, by decide +kernel⟩, List.mem_of_getElem? (i := 19) (by decide +kernel), List.mem_of_getElem? (i := 622) (by decide +kernel), List.mem_of_getElem? (i := 623) (by decide +kernel)⟩
theorem lw_p12 : lw_okq (⟨"SleepingRooms$Planner", "supplyThatDiffers", "(II)I"⟩, 5) := ⟨⟨by decide +kernel, by decide +kernel⟩, List.mem_of_getElem? (i := 216) (by decide +kernel), List.mem_of_getElem? (i := 651) (by decide +kernel), List.mem_of_getElem? (i := 652) (by decide +kernel)⟩
theorem lw_p13 : lw_okq (⟨"SleepingRooms$Planner", "switchOff", "(II)V"⟩, 5) := ⟨⟨by decide +kernel, by decide +kernel⟩, List.mem_of_getElem? (i := 216) (by decide +kernel), List.mem_of_getElem? (i := 656) (by decide +kernel), List.mem_of_getElem? (i := 657) (by decide +kernel)⟩
theorem lw_p14 : lw_okq (⟨"SleepingRooms$Planner", "comesFrom", "(II)Z"⟩, 5) := ⟨⟨by decide +kernel, by decide +kernel⟩, List.mem_of_getElem? (i := 216) (by decide +kernel), List.mem_of_getElem? (i := 662) (by decide +kernel), List.mem_of_getElem? (i := 663) (by decide +kernel)⟩
theorem lw_p15 : lw_okq (⟨"SleepingRooms$Planner", "take", "(III)V"⟩, 5) := ⟨⟨by decide +kernel, by decide +kernel⟩, List.mem_of_getElem? (i := 216) (by decide +kernel), List.mem_of_getElem? (i := 668) (by decide +kernel), List.mem_of_getElem? (i := 669) (by decide +kernel)⟩
def lw_privs_1 : List (MethodName × Nat) := [(⟨"SleepingRooms$Nets", "feeds", "(II)Z"⟩, 7), (⟨"SleepingRooms$Nets", "guardFault", "(III)I"⟩, 7), (⟨"SleepingRooms$Course", "spread", "(III)I"⟩, 4), (⟨"SleepingRooms$Course", "linkedTo", "(II)I"⟩, 4), (⟨"SleepingRooms$Play", "isOn", "(I)Z"⟩, 9), (⟨"SleepingRooms$Play", "canKeep", "(I)Z"⟩, 9), (⟨"SleepingRooms$Play", "reasonNotToDo", "(III)I"⟩, 9), (⟨"SleepingRooms$Play", "sceneAfter", "(II)I"⟩, 9), (⟨"SleepingRooms$Play", "setLevel", "(II)V"⟩, 9), (⟨"SleepingRooms$Play", "findNetInDanger", "()V"⟩, 9), (⟨"SleepingRooms$Play", "danger", "(I)I"⟩, 9), (⟨"SleepingRooms", "seekStrides", "(II)V"⟩, 9), (⟨"SleepingRooms$Planner", "supplyThatDiffers", "(II)I"⟩, 5), (⟨"SleepingRooms$Planner", "switchOff", "(II)V"⟩, 5), (⟨"SleepingRooms$Planner", "comesFrom", "(II)Z"⟩, 5), (⟨"SleepingRooms$Planner", "take", "(III)V"⟩, 5)]
theorem lw_r1 : ∀ q ∈ lw_privs_1, lw_okq q := List.forall_mem_cons.mpr ⟨lw_p0, List.forall_mem_cons.mpr ⟨lw_p1, List.forall_mem_cons.mpr ⟨lw_p2, List.forall_mem_cons.mpr ⟨lw_p3, List.forall_mem_cons.mpr ⟨lw_p4, List.forall_mem_cons.mpr ⟨lw_p5, List.forall_mem_cons.mpr ⟨lw_p6, List.forall_mem_cons.mpr ⟨lw_p7, List.forall_mem_cons.mpr ⟨lw_p8, List.forall_mem_cons.mpr ⟨lw_p9, List.forall_mem_cons.mpr ⟨lw_p10, List.forall_mem_cons.mpr ⟨lw_p11, List.forall_mem_cons.mpr ⟨lw_p12, List.forall_mem_cons.mpr ⟨lw_p13, List.forall_mem_cons.mpr ⟨lw_p14, List.forall_mem_cons.mpr ⟨lw_p15, fun _ h => absurd h List.not_mem_nil⟩⟩⟩⟩⟩⟩⟩⟩⟩⟩⟩⟩⟩⟩⟩⟩
theorem lw_p16 : lw_okq (⟨"SleepingRooms$Planner", "switchOn", "(II)V"⟩, 5) := ⟨⟨by decide +kernel, by decide +kernel⟩, List.mem_of_getElem? (i := 216) (by decide +kernel), List.mem_of_getElem? (i := 674) (by decide +kernel), List.mem_of_getElem? (i := 675) (by decide +kernel)⟩
theorem lw_p17 : lw_okq (⟨"SleepingRooms$Reader", "match", "(LSleepingRooms$Codes;Ljava/lang/String;)I"⟩, 4) := ⟨⟨by decide +kernel, by decide +kernel⟩, List.mem_of_getElem? (i := 261) (by decide +kernel), List.mem_of_getElem? (i := 720) (by decide +kernel), List.mem_of_getElem? (i := 721) (by decide +kernel)⟩
theorem lw_p18 : lw_okq (⟨"SleepingRooms$Reader", "readNumber", "(LSleepingRooms$Codes;II)I"⟩, 4) := ⟨⟨by decide +kernel, by decide +kernel⟩, List.mem_of_getElem? (i := 261) (by decide +kernel), List.mem_of_getElem? (i := 780) (by decide +kernel), List.mem_of_getElem? (i := 781) (by decide +kernel)⟩
theorem lw_p19 : lw_okq (⟨"SleepingRooms", "carryOut", "(ILSleepingRooms$Row;)I"⟩, 9) := ⟨⟨by decide +kernel, by decide +kernel⟩, List.mem_of_getElem? (i := 19) (by decide +kernel), List.mem_of_getElem? (i := 791) (by decide +kernel), List.mem_of_getElem? (i := 792) (by decide +kernel)⟩
theorem lw_p20 : lw_okq (⟨"SleepingRooms", "writeLabel", "(I)V"⟩, 9) := ⟨⟨by decide +kernel, by decide +kernel⟩, List.mem_of_getElem? (i := 19) (by decide +kernel), List.mem_of_getElem? (i := 807) (by decide +kernel), List.mem_of_getElem? (i := 808) (by decide +kernel)⟩
theorem lw_p21 : lw_okq (⟨"SleepingRooms", "countNets", "(I)I"⟩, 9) := ⟨⟨by decide +kernel, by decide +kernel⟩, List.mem_of_getElem? (i := 19) (by decide +kernel), List.mem_of_getElem? (i := 830) (by decide +kernel), List.mem_of_getElem? (i := 831) (by decide +kernel)⟩
theorem lw_p22 : lw_okq (⟨"SleepingRoomsModel", "noGuards", "()V"⟩, 39) := ⟨⟨by decide +kernel, by decide +kernel⟩, List.mem_of_getElem? (i := 834) (by decide +kernel), List.mem_of_getElem? (i := 840) (by decide +kernel), List.mem_of_getElem? (i := 841) (by decide +kernel)⟩
theorem lw_p23 : lw_okq (⟨"SleepingRoomsModel", "sceneWith", "(IIII)I"⟩, 39) := ⟨⟨by decide +kernel, by decide +kernel⟩, List.mem_of_getElem? (i := 834) (by decide +kernel), List.mem_of_getElem? (i := 990) (by decide +kernel), List.mem_of_getElem? (i := 991) (by decide +kernel)⟩
theorem lw_p24 : lw_okq (⟨"SleepingRoomsModel", "level", "(II)I"⟩, 39) := ⟨⟨by decide +kernel, by decide +kernel⟩, List.mem_of_getElem? (i := 834) (by decide +kernel), List.mem_of_getElem? (i := 994) (by decide +kernel), List.mem_of_getElem? (i := 995) (by decide +kernel)⟩
theorem lw_p25 : lw_okq (⟨"SleepingRoomsModel", "isNet", "(I)Z"⟩, 39) := ⟨⟨by decide +kernel, by decide +kernel⟩, List.mem_of_getElem? (i := 834) (by decide +kernel), List.mem_of_getElem? (i := 1002) (by decide +kernel), List.mem_of_getElem? (i := 1003) (by decide +kernel)⟩
theorem lw_p26 : lw_okq (⟨"SleepingRoomsModel", "hasGuard", "(I)Z"⟩, 39) := ⟨⟨by decide +kernel, by decide +kernel⟩, List.mem_of_getElem? (i := 834) (by decide +kernel), List.mem_of_getElem? (i := 1010) (by decide +kernel), List.mem_of_getElem? (i := 1011) (by decide +kernel)⟩
theorem lw_p27 : lw_okq (⟨"SleepingRoomsModel", "scenesOf", "(IZ)I"⟩, 39) := ⟨⟨by decide +kernel, by decide +kernel⟩, List.mem_of_getElem? (i := 834) (by decide +kernel), List.mem_of_getElem? (i := 1030) (by decide +kernel), List.mem_of_getElem? (i := 1031) (by decide +kernel)⟩
theorem lw_p28 : lw_okq (⟨"SleepingRoomsModel", "levelOfRoom", "(II)I"⟩, 39) := ⟨⟨by decide +kernel, by decide +kernel⟩, List.mem_of_getElem? (i := 834) (by decide +kernel), List.mem_of_getElem? (i := 1034) (by decide +kernel), List.mem_of_getElem? (i := 1035) (by decide +kernel)⟩
theorem lw_p29 : lw_okq (⟨"SleepingRoomsModel", "isScene", "(I)Z"⟩, 39) := ⟨⟨by decide +kernel, by decide +kernel⟩, List.mem_of_getElem? (i := 834) (by decide +kernel), List.mem_of_getElem? (i := 1042) (by decide +kernel), List.mem_of_getElem? (i := 1043) (by decide +kernel)⟩
theorem lw_p30 : lw_okq (⟨"SleepingRoomsModel", "faultOf", "(II)I"⟩, 39) := ⟨⟨by decide +kernel, by decide +kernel⟩, List.mem_of_getElem? (i := 834) (by decide +kernel), List.mem_of_getElem? (i := 1050) (by decide +kernel), List.mem_of_getElem? (i := 1051) (by decide +kernel)⟩
theorem lw_p31 : lw_okq (⟨"SleepingRoomsModel", "needs", "(I)I"⟩, 39) := ⟨⟨by decide +kernel, by decide +kernel⟩, List.mem_of_getElem? (i := 834) (by decide +kernel), List.mem_of_getElem? (i := 1062) (by decide +kernel), List.mem_of_getElem? (i := 1063) (by decide +kernel)⟩
def lw_privs_2 : List (MethodName × Nat) := [(⟨"SleepingRooms$Planner", "switchOn", "(II)V"⟩, 5), (⟨"SleepingRooms$Reader", "match", "(LSleepingRooms$Codes;Ljava/lang/String;)I"⟩, 4), (⟨"SleepingRooms$Reader", "readNumber", "(LSleepingRooms$Codes;II)I"⟩, 4), (⟨"SleepingRooms", "carryOut", "(ILSleepingRooms$Row;)I"⟩, 9), (⟨"SleepingRooms", "writeLabel", "(I)V"⟩, 9), (⟨"SleepingRooms", "countNets", "(I)I"⟩, 9), (⟨"SleepingRoomsModel", "noGuards", "()V"⟩, 39), (⟨"SleepingRoomsModel", "sceneWith", "(IIII)I"⟩, 39), (⟨"SleepingRoomsModel", "level", "(II)I"⟩, 39), (⟨"SleepingRoomsModel", "isNet", "(I)Z"⟩, 39), (⟨"SleepingRoomsModel", "hasGuard", "(I)Z"⟩, 39), (⟨"SleepingRoomsModel", "scenesOf", "(IZ)I"⟩, 39), (⟨"SleepingRoomsModel", "levelOfRoom", "(II)I"⟩, 39), (⟨"SleepingRoomsModel", "isScene", "(I)Z"⟩, 39), (⟨"SleepingRoomsModel", "faultOf", "(II)I"⟩, 39), (⟨"SleepingRoomsModel", "needs", "(I)I"⟩, 39)]
theorem lw_r2 : ∀ q ∈ lw_privs_2, lw_okq q := List.forall_mem_cons.mpr ⟨lw_p16, List.forall_mem_cons.mpr ⟨lw_p17, List.forall_mem_cons.mpr ⟨lw_p18, List.forall_mem_cons.mpr ⟨lw_p19, List.forall_mem_cons.mpr ⟨lw_p20, List.forall_mem_cons.mpr ⟨lw_p21, List.forall_mem_cons.mpr ⟨lw_p22, List.forall_mem_cons.mpr ⟨lw_p23, List.forall_mem_cons.mpr ⟨lw_p24, List.forall_mem_cons.mpr ⟨lw_p25, List.forall_mem_cons.mpr ⟨lw_p26, List.forall_mem_cons.mpr ⟨lw_p27, List.forall_mem_cons.mpr ⟨lw_p28, List.forall_mem_cons.mpr ⟨lw_p29, List.forall_mem_cons.mpr ⟨lw_p30, List.forall_mem_cons.mpr ⟨lw_p31, fun _ h => absurd h List.not_mem_nil⟩⟩⟩⟩⟩⟩⟩⟩⟩⟩⟩⟩⟩⟩⟩⟩
theorem lw_p32 : lw_okq (⟨"SleepingRoomsModel", "feedOf", "(I)I"⟩, 39) := ⟨⟨by decide +kernel, by decide +kernel⟩, List.mem_of_getElem? (i := 834) (by decide +kernel), List.mem_of_getElem? (i := 1066) (by decide +kernel), List.mem_of_getElem? (i := 1067) (by decide +kernel)⟩
theorem lw_p33 : lw_okq (⟨"SleepingRoomsModel", "idle", "(I)I"⟩, 39) := ⟨⟨by decide +kernel, by decide +kernel⟩, List.mem_of_getElem? (i := 834) (by decide +kernel), List.mem_of_getElem? (i := 1070) (by decide +kernel), List.mem_of_getElem? (i := 1071) (by decide +kernel)⟩
theorem lw_p34 : lw_okq (⟨"SleepingRoomsModel", "faultySet", "(I)I"⟩, 39) := ⟨⟨by decide +kernel, by decide +kernel⟩, List.mem_of_getElem? (i := 834) (by decide +kernel), List.mem_of_getElem? (i := 1077) (by decide +kernel), List.mem_of_getElem? (i := 1078) (by decide +kernel)⟩
theorem lw_p35 : lw_okq (⟨"SleepingRoomsModel", "mends", "(I)Z"⟩, 39) := ⟨⟨by decide +kernel, by decide +kernel⟩, List.mem_of_getElem? (i := 834) (by decide +kernel), List.mem_of_getElem? (i := 1085) (by decide +kernel), List.mem_of_getElem? (i := 1086) (by decide +kernel)⟩
theorem lw_p36 : lw_okq (⟨"SleepingRoomsModel", "findFar", "(II)V"⟩, 39) := ⟨⟨by decide +kernel, by decide +kernel⟩, List.mem_of_getElem? (i := 834) (by decide +kernel), List.mem_of_getElem? (i := 1093) (by decide +kernel), List.mem_of_getElem? (i := 1094) (by decide +kernel)⟩
theorem lw_p37 : lw_okq (⟨"SleepingRoomsModel", "mayBeBetween", "(II)Z"⟩, 39) := ⟨⟨by decide +kernel, by decide +kernel⟩, List.mem_of_getElem? (i := 834) (by decide +kernel), List.mem_of_getElem? (i := 1097) (by decide +kernel), List.mem_of_getElem? (i := 1098) (by decide +kernel)⟩
theorem lw_p38 : lw_okq (⟨"SleepingRoomsModel", "judges", "(I)V"⟩, 39) := ⟨⟨by decide +kernel, by decide +kernel⟩, List.mem_of_getElem? (i := 834) (by decide +kernel), List.mem_of_getElem? (i := 1117) (by decide +kernel), List.mem_of_getElem? (i := 1118) (by decide +kernel)⟩
theorem lw_p39 : lw_okq (⟨"SleepingRoomsModel", "starts", "(I)V"⟩, 39) := ⟨⟨by decide +kernel, by decide +kernel⟩, List.mem_of_getElem? (i := 834) (by decide +kernel), List.mem_of_getElem? (i := 1121) (by decide +kernel), List.mem_of_getElem? (i := 1122) (by decide +kernel)⟩
theorem lw_p40 : lw_okq (⟨"SleepingRoomsModel", "isOnNow", "(I)Z"⟩, 39) := ⟨⟨by decide +kernel, by decide +kernel⟩, List.mem_of_getElem? (i := 834) (by decide +kernel), List.mem_of_getElem? (i := 1125) (by decide +kernel), List.mem_of_getElem? (i := 1126) (by decide +kernel)⟩
theorem lw_p41 : lw_okq (⟨"SleepingRoomsModel", "against", "(III)I"⟩, 39) := ⟨⟨by decide +kernel, by decide +kernel⟩, List.mem_of_getElem? (i := 834) (by decide +kernel), List.mem_of_getElem? (i := 1129) (by decide +kernel), List.mem_of_getElem? (i := 1130) (by decide +kernel)⟩
theorem lw_p42 : lw_okq (⟨"SleepingRoomsModel", "againstPower", "(II)I"⟩, 39) := ⟨⟨by decide +kernel, by decide +kernel⟩, List.mem_of_getElem? (i := 834) (by decide +kernel), List.mem_of_getElem? (i := 1133) (by decide +kernel), List.mem_of_getElem? (i := 1134) (by decide +kernel)⟩
theorem lw_p43 : lw_okq (⟨"SleepingRoomsModel", "sceneNow", "()I"⟩, 39) := ⟨⟨by decide +kernel, by decide +kernel⟩, List.mem_of_getElem? (i := 834) (by decide +kernel), List.mem_of_getElem? (i := 1137) (by decide +kernel), List.mem_of_getElem? (i := 1138) (by decide +kernel)⟩
theorem lw_p44 : lw_okq (⟨"SleepingRoomsModel", "does", "(III)V"⟩, 39) := ⟨⟨by decide +kernel, by decide +kernel⟩, List.mem_of_getElem? (i := 834) (by decide +kernel), List.mem_of_getElem? (i := 1141) (by decide +kernel), List.mem_of_getElem? (i := 1142) (by decide +kernel)⟩
theorem lw_p45 : lw_okq (⟨"SleepingRoomsModel", "powers", "(II)V"⟩, 39) := ⟨⟨by decide +kernel, by decide +kernel⟩, List.mem_of_getElem? (i := 834) (by decide +kernel), List.mem_of_getElem? (i := 1145) (by decide +kernel), List.mem_of_getElem? (i := 1146) (by decide +kernel)⟩
theorem lw_p46 : lw_okq (⟨"SleepingRoomsModel", "badNet", "(I)I"⟩, 39) := ⟨⟨by decide +kernel, by decide +kernel⟩, List.mem_of_getElem? (i := 834) (by decide +kernel), List.mem_of_getElem? (i := 1149) (by decide +kernel), List.mem_of_getElem? (i := 1150) (by decide +kernel)⟩
theorem lw_p47 : lw_okq (⟨"SleepingRoomsModel", "findStrides", "(I)V"⟩, 39) := ⟨⟨by decide +kernel, by decide +kernel⟩, List.mem_of_getElem? (i := 834) (by decide +kernel), List.mem_of_getElem? (i := 1157) (by decide +kernel), List.mem_of_getElem? (i := 1158) (by decide +kernel)⟩
def lw_privs_3 : List (MethodName × Nat) := [(⟨"SleepingRoomsModel", "feedOf", "(I)I"⟩, 39), (⟨"SleepingRoomsModel", "idle", "(I)I"⟩, 39), (⟨"SleepingRoomsModel", "faultySet", "(I)I"⟩, 39), (⟨"SleepingRoomsModel", "mends", "(I)Z"⟩, 39), (⟨"SleepingRoomsModel", "findFar", "(II)V"⟩, 39), (⟨"SleepingRoomsModel", "mayBeBetween", "(II)Z"⟩, 39), (⟨"SleepingRoomsModel", "judges", "(I)V"⟩, 39), (⟨"SleepingRoomsModel", "starts", "(I)V"⟩, 39), (⟨"SleepingRoomsModel", "isOnNow", "(I)Z"⟩, 39), (⟨"SleepingRoomsModel", "against", "(III)I"⟩, 39), (⟨"SleepingRoomsModel", "againstPower", "(II)I"⟩, 39), (⟨"SleepingRoomsModel", "sceneNow", "()I"⟩, 39), (⟨"SleepingRoomsModel", "does", "(III)V"⟩, 39), (⟨"SleepingRoomsModel", "powers", "(II)V"⟩, 39), (⟨"SleepingRoomsModel", "badNet", "(I)I"⟩, 39), (⟨"SleepingRoomsModel", "findStrides", "(I)V"⟩, 39)]
theorem lw_r3 : ∀ q ∈ lw_privs_3, lw_okq q := List.forall_mem_cons.mpr ⟨lw_p32, List.forall_mem_cons.mpr ⟨lw_p33, List.forall_mem_cons.mpr ⟨lw_p34, List.forall_mem_cons.mpr ⟨lw_p35, List.forall_mem_cons.mpr ⟨lw_p36, List.forall_mem_cons.mpr ⟨lw_p37, List.forall_mem_cons.mpr ⟨lw_p38, List.forall_mem_cons.mpr ⟨lw_p39, List.forall_mem_cons.mpr ⟨lw_p40, List.forall_mem_cons.mpr ⟨lw_p41, List.forall_mem_cons.mpr ⟨lw_p42, List.forall_mem_cons.mpr ⟨lw_p43, List.forall_mem_cons.mpr ⟨lw_p44, List.forall_mem_cons.mpr ⟨lw_p45, List.forall_mem_cons.mpr ⟨lw_p46, List.forall_mem_cons.mpr ⟨lw_p47, fun _ h => absurd h List.not_mem_nil⟩⟩⟩⟩⟩⟩⟩⟩⟩⟩⟩⟩⟩⟩⟩⟩
theorem lw_p48 : lw_okq (⟨"SleepingRoomsModel", "oneApart", "(II)I"⟩, 39) := ⟨⟨by decide +kernel, by decide +kernel⟩, List.mem_of_getElem? (i := 834) (by decide +kernel), List.mem_of_getElem? (i := 1161) (by decide +kernel), List.mem_of_getElem? (i := 1162) (by decide +kernel)⟩
theorem lw_p49 : lw_okq (⟨"SleepingRoomsModel", "strideBehind", "(I)I"⟩, 39) := ⟨⟨by decide +kernel, by decide +kernel⟩, List.mem_of_getElem? (i := 834) (by decide +kernel), List.mem_of_getElem? (i := 1165) (by decide +kernel), List.mem_of_getElem? (i := 1166) (by decide +kernel)⟩
theorem lw_p50 : lw_okq (⟨"SleepingRoomsModel", "goesOff", "(II)V"⟩, 39) := ⟨⟨by decide +kernel, by decide +kernel⟩, List.mem_of_getElem? (i := 834) (by decide +kernel), List.mem_of_getElem? (i := 1173) (by decide +kernel), List.mem_of_getElem? (i := 1174) (by decide +kernel)⟩
theorem lw_p51 : lw_okq (⟨"SleepingRoomsModel", "plans", "(III)V"⟩, 39) := ⟨⟨by decide +kernel, by decide +kernel⟩, List.mem_of_getElem? (i := 834) (by decide +kernel), List.mem_of_getElem? (i := 1177) (by decide +kernel), List.mem_of_getElem? (i := 1178) (by decide +kernel)⟩
theorem lw_p52 : lw_okq (⟨"SleepingRoomsModel", "goesOn", "(II)V"⟩, 39) := ⟨⟨by decide +kernel, by decide +kernel⟩, List.mem_of_getElem? (i := 834) (by decide +kernel), List.mem_of_getElem? (i := 1181) (by decide +kernel), List.mem_of_getElem? (i := 1182) (by decide +kernel)⟩
theorem lw_p53 : lw_okq (⟨"SleepingRoomsModel", "readsLine", "()Z"⟩, 39) := ⟨⟨by decide +kernel, by decide +kernel⟩, List.mem_of_getElem? (i := 834) (by decide +kernel), List.mem_of_getElem? (i := 1197) (by decide +kernel), List.mem_of_getElem? (i := 1198) (by decide +kernel)⟩
theorem lw_p54 : lw_okq (⟨"SleepingRoomsModel", "readsWord", "()Z"⟩, 39) := ⟨⟨by decide +kernel, by decide +kernel⟩, List.mem_of_getElem? (i := 834) (by decide +kernel), List.mem_of_getElem? (i := 1201) (by decide +kernel), List.mem_of_getElem? (i := 1202) (by decide +kernel)⟩
theorem lw_p55 : lw_okq (⟨"SleepingRoomsModel", "mayBe", "(I)Z"⟩, 39) := ⟨⟨by decide +kernel, by decide +kernel⟩, List.mem_of_getElem? (i := 834) (by decide +kernel), List.mem_of_getElem? (i := 1205) (by decide +kernel), List.mem_of_getElem? (i := 1206) (by decide +kernel)⟩
theorem lw_p56 : lw_okq (⟨"SleepingRoomsModel", "readsNumber", "(I)Z"⟩, 39) := ⟨⟨by decide +kernel, by decide +kernel⟩, List.mem_of_getElem? (i := 834) (by decide +kernel), List.mem_of_getElem? (i := 1212) (by decide +kernel), List.mem_of_getElem? (i := 1213) (by decide +kernel)⟩
theorem lw_p57 : lw_okq (⟨"SleepingRoomsModel", "doesLine", "()I"⟩, 39) := ⟨⟨by decide +kernel, by decide +kernel⟩, List.mem_of_getElem? (i := 834) (by decide +kernel), List.mem_of_getElem? (i := 1216) (by decide +kernel), List.mem_of_getElem? (i := 1217) (by decide +kernel)⟩
theorem lw_p58 : lw_okq (⟨"SleepingRoomsModel", "writesNet", "(I)V"⟩, 39) := ⟨⟨by decide +kernel, by decide +kernel⟩, List.mem_of_getElem? (i := 834) (by decide +kernel), List.mem_of_getElem? (i := 1231) (by decide +kernel), List.mem_of_getElem? (i := 1232) (by decide +kernel)⟩
theorem lw_p59 : lw_okq (⟨"SleepingRoomsModel", "writes", "(I)V"⟩, 39) := ⟨⟨by decide +kernel, by decide +kernel⟩, List.mem_of_getElem? (i := 834) (by decide +kernel), List.mem_of_getElem? (i := 1235) (by decide +kernel), List.mem_of_getElem? (i := 1236) (by decide +kernel)⟩
theorem lw_p60 : lw_okq (⟨"SleepingRoomsModel", "writesLift", "(I)V"⟩, 39) := ⟨⟨by decide +kernel, by decide +kernel⟩, List.mem_of_getElem? (i := 834) (by decide +kernel), List.mem_of_getElem? (i := 1239) (by decide +kernel), List.mem_of_getElem? (i := 1240) (by decide +kernel)⟩
def lw_privs_4 : List (MethodName × Nat) := [(⟨"SleepingRoomsModel", "oneApart", "(II)I"⟩, 39), (⟨"SleepingRoomsModel", "strideBehind", "(I)I"⟩, 39), (⟨"SleepingRoomsModel", "goesOff", "(II)V"⟩, 39), (⟨"SleepingRoomsModel", "plans", "(III)V"⟩, 39), (⟨"SleepingRoomsModel", "goesOn", "(II)V"⟩, 39), (⟨"SleepingRoomsModel", "readsLine", "()Z"⟩, 39), (⟨"SleepingRoomsModel", "readsWord", "()Z"⟩, 39), (⟨"SleepingRoomsModel", "mayBe", "(I)Z"⟩, 39), (⟨"SleepingRoomsModel", "readsNumber", "(I)Z"⟩, 39), (⟨"SleepingRoomsModel", "doesLine", "()I"⟩, 39), (⟨"SleepingRoomsModel", "writesNet", "(I)V"⟩, 39), (⟨"SleepingRoomsModel", "writes", "(I)V"⟩, 39), (⟨"SleepingRoomsModel", "writesLift", "(I)V"⟩, 39)]
theorem lw_r4 : ∀ q ∈ lw_privs_4, lw_okq q := List.forall_mem_cons.mpr ⟨lw_p48, List.forall_mem_cons.mpr ⟨lw_p49, List.forall_mem_cons.mpr ⟨lw_p50, List.forall_mem_cons.mpr ⟨lw_p51, List.forall_mem_cons.mpr ⟨lw_p52, List.forall_mem_cons.mpr ⟨lw_p53, List.forall_mem_cons.mpr ⟨lw_p54, List.forall_mem_cons.mpr ⟨lw_p55, List.forall_mem_cons.mpr ⟨lw_p56, List.forall_mem_cons.mpr ⟨lw_p57, List.forall_mem_cons.mpr ⟨lw_p58, List.forall_mem_cons.mpr ⟨lw_p59, List.forall_mem_cons.mpr ⟨lw_p60, fun _ h => absurd h List.not_mem_nil⟩⟩⟩⟩⟩⟩⟩⟩⟩⟩⟩⟩⟩
def lw_privs : List (MethodName × Nat) := lw_privs_1 ++ (lw_privs_2 ++ (lw_privs_3 ++ (lw_privs_4)))
def lw_tbl : List Cond := k2_sels lw_privs ++ tables_1
theorem lw_privs_ok : ∀ q ∈ lw_privs, lw_okq q := by
  show ∀ q ∈ lw_privs_1 ++ (lw_privs_2 ++ (lw_privs_3 ++ (lw_privs_4))), lw_okq q
  exact List.forall_mem_append.mpr ⟨lw_r1, List.forall_mem_append.mpr ⟨lw_r2, List.forall_mem_append.mpr ⟨lw_r3, lw_r4⟩⟩⟩
end
section
/-! ===== BEGIN words of one list among another's, by their places ===== -/
theorem goodIn_r {big : List Cond} (ws : List Cond) (ps : List Nat) (hp : ws = ps.filterMap (fun i => big[i]?)) (h : ws.all goodWord = true) : GoodIn big ws := by
  intro w hw
  have h1 := List.all_eq_true.mp h w hw
  rw [hp] at hw
  obtain ⟨i, -, hi⟩ := List.mem_filterMap.mp hw
  have hm : w ∈ big := by first | exact List.mem_of_getElem? hi | exact List.getElem?_mem hi
  exact ⟨hm, good_of_word h1⟩
theorem goodIn_app {big a b : List Cond} (ha : GoodIn big a) (hb : GoodIn big b) : GoodIn big (a ++ b) := fun w h => (List.mem_append.mp h).elim (ha w) (hb w)
theorem goodIn_ca {big a b : List Cond} {c : Cond} (ha : GoodIn big (c :: a)) (hb : GoodIn big b) : GoodIn big (c :: (a ++ b)) := fun w h => (List.mem_cons.mp h).elim (fun e => ha w (List.mem_cons.mpr (Or.inl e))) (fun h => (List.mem_append.mp h).elim (fun h => ha w (List.mem_cons.mpr (Or.inr h))) (hb w))
theorem goodIn_sub {big ws : List Cond} (hm : ∀ w ∈ ws, w ∈ big) (h : ws.all goodWord = true) : GoodIn big ws := fun w hw => ⟨hm w hw, good_of_word (List.all_eq_true.mp h w hw)⟩
/-! ===== END ===== -/

/-! ===== BEGIN printed: names, fields, word lists, decode rows ===== -/
def RX0 : String := "SleepingRooms$Chip"
def TX0 : u_T := fun k => match k with
  | 0 => ("SleepingRooms$Chip", "supplyOf", "LSleepingRooms$Row;", true)
  | 1 => ("SleepingRooms$Chip", "neighboursOf", "LSleepingRooms$Row;", true)
  | 2 => ("SleepingRooms$Chip", "registersOf", "LSleepingRooms$Row;", true)
  | 3 => ("SleepingRooms$Chip", "keeperOf", "LSleepingRooms$Row;", true)
  | 4 => ("SleepingRooms$Chip", "levels", "LSleepingRooms$Row;", true)
  | _ => ("SleepingRooms$Chip", "sceneCount", "I", false)
def tyX0 : Nat → FieldType := fun k => match k with
  | 0 => .object "SleepingRooms$Row"
  | 1 => .object "SleepingRooms$Row"
  | 2 => .object "SleepingRooms$Row"
  | 3 => .object "SleepingRooms$Row"
  | 4 => .object "SleepingRooms$Row"
  | _ => .int
abbrev wsX00 : List Cond := u_ws RX0 TX0 6
theorem nmX0 : ∀ a, a < 6 → ∀ b, b < 6 → a ≠ b → (TX0 a).2.1 ≠ (TX0 b).2.1 := by decide +kernel
theorem tyX0_ok : ∀ k, k < 6 → parseFieldDescriptor (TX0 k).2.2.1 = some (tyX0 k) := by decide +kernel
abbrev cX0_init : ByteArray := prog_2_method_1_code
def yX0_init : MethodName := ⟨RX0, "<init>", "()V"⟩
abbrev cX0_reset : ByteArray := prog_2_method_2_code
def yX0_reset : MethodName := ⟨RX0, "reset", "()V"⟩
abbrev cX0_setNeighbours : ByteArray := prog_2_method_3_code
def yX0_setNeighbours : MethodName := ⟨RX0, "setNeighbours", "(IIZ)I"⟩
abbrev cX0_hasScene : ByteArray := prog_2_method_4_code
def yX0_hasScene : MethodName := ⟨RX0, "hasScene", "(I)Z"⟩
abbrev cX0_addScene : ByteArray := prog_2_method_5_code
def yX0_addScene : MethodName := ⟨RX0, "addScene", "(IIII)I"⟩
abbrev cX0_level : ByteArray := prog_2_method_6_code
def yX0_level : MethodName := ⟨RX0, "level", "(II)I"⟩
abbrev cX0_roomLevel : ByteArray := prog_2_method_7_code
def yX0_roomLevel : MethodName := ⟨RX0, "roomLevel", "(II)I"⟩
abbrev cX0_sceneWith : ByteArray := prog_2_method_8_code
def yX0_sceneWith : MethodName := ⟨RX0, "sceneWith", "(IIII)I"⟩
abbrev cX0_scenesOn : ByteArray := prog_2_method_9_code
def yX0_scenesOn : MethodName := ⟨RX0, "scenesOn", "(I)I"⟩
abbrev cX0_scenesOffButKept : ByteArray := prog_2_method_10_code
def yX0_scenesOffButKept : MethodName := ⟨RX0, "scenesOffButKept", "(I)I"⟩
abbrev cX0_roomsOnWith : ByteArray := prog_2_method_11_code
def yX0_roomsOnWith : MethodName := ⟨RX0, "roomsOnWith", "(I)I"⟩
abbrev cX0_suppliesThatDiffer : ByteArray := prog_2_method_12_code
def yX0_suppliesThatDiffer : MethodName := ⟨RX0, "suppliesThatDiffer", "(II)I"⟩
abbrev cX0_scenesOneSupplyFrom : ByteArray := prog_2_method_13_code
def yX0_scenesOneSupplyFrom : MethodName := ⟨RX0, "scenesOneSupplyFrom", "(I)I"⟩
def RX1 : String := "SleepingRooms$Codes"
def TX1 : u_T := fun k => match k with
  | 0 => ("SleepingRooms$Codes", "cells", "LSleepingRooms$Row;", true)
  | 1 => ("SleepingRooms$Codes", "most", "I", true)
  | _ => ("SleepingRooms$Codes", "count", "I", false)
def tyX1 : Nat → FieldType := fun k => match k with
  | 0 => .object "SleepingRooms$Row"
  | 1 => .int
  | _ => .int
abbrev wsX10 : List Cond := u_ws RX1 TX1 3
theorem nmX1 : ∀ a, a < 3 → ∀ b, b < 3 → a ≠ b → (TX1 a).2.1 ≠ (TX1 b).2.1 := by decide +kernel
theorem tyX1_ok : ∀ k, k < 3 → parseFieldDescriptor (TX1 k).2.2.1 = some (tyX1 k) := by decide +kernel
abbrev cX1_init : ByteArray := prog_3_method_1_code
def yX1_init : MethodName := ⟨RX1, "<init>", "(I)V"⟩
abbrev cX1_add : ByteArray := prog_3_method_2_code
def yX1_add : MethodName := ⟨RX1, "add", "(I)Z"⟩
abbrev cX1_addWord : ByteArray := prog_3_method_3_code
def yX1_addWord : MethodName := ⟨RX1, "addWord", "(Ljava/lang/String;)V"⟩
abbrev cX1_clear : ByteArray := prog_3_method_4_code
def yX1_clear : MethodName := ⟨RX1, "clear", "()V"⟩
abbrev cX1_at : ByteArray := prog_3_method_5_code
def yX1_at : MethodName := ⟨RX1, "at", "(I)I"⟩
def RX2 : String := "SleepingRooms$Course"
def TX2 : u_T := fun k => match k with
  | 0 => ("SleepingRooms$Course", "links", "LSleepingRooms$Row;", true)
  | 1 => ("SleepingRooms$Course", "layers", "LSleepingRooms$Row;", true)
  | 2 => ("SleepingRooms$Course", "places", "LSleepingRooms$Row;", true)
  | _ => ("SleepingRooms$Course", "length", "I", false)
def tyX2 : Nat → FieldType := fun k => match k with
  | 0 => .object "SleepingRooms$Row"
  | 1 => .object "SleepingRooms$Row"
  | 2 => .object "SleepingRooms$Row"
  | _ => .int
abbrev wsX20 : List Cond := u_ws RX2 TX2 4
theorem nmX2 : ∀ a, a < 4 → ∀ b, b < 4 → a ≠ b → (TX2 a).2.1 ≠ (TX2 b).2.1 := by decide +kernel
theorem tyX2_ok : ∀ k, k < 4 → parseFieldDescriptor (TX2 k).2.2.1 = some (tyX2 k) := by decide +kernel
abbrev cX2_init : ByteArray := prog_4_method_1_code
def yX2_init : MethodName := ⟨RX2, "<init>", "()V"⟩
abbrev cX2_seek : ByteArray := prog_4_method_2_code
def yX2_seek : MethodName := ⟨RX2, "seek", "(III)V"⟩
abbrev cX2_spread : ByteArray := prog_4_method_3_code
def yX2_spread : MethodName := ⟨RX2, "spread", "(III)I"⟩
abbrev cX2_linkedTo : ByteArray := prog_4_method_4_code
def yX2_linkedTo : MethodName := ⟨RX2, "linkedTo", "(II)I"⟩
abbrev cX2_lowest : ByteArray := prog_4_method_5_code
def yX2_lowest : MethodName := ⟨RX2, "lowest", "(II)I"⟩
abbrev cX2_lengthOrPlace : ByteArray := prog_4_method_6_code
def yX2_lengthOrPlace : MethodName := ⟨RX2, "lengthOrPlace", "(I)I"⟩
def RX3 : String := "SleepingRooms$Nets"
def TX3 : u_T := fun k => match k with
  | 0 => ("SleepingRooms$Nets", "chip", "LSleepingRooms$Chip;", true)
  | 1 => ("SleepingRooms$Nets", "sourceOf", "LSleepingRooms$Row;", true)
  | 2 => ("SleepingRooms$Nets", "targetOf", "LSleepingRooms$Row;", true)
  | 3 => ("SleepingRooms$Nets", "guardValueOf", "LSleepingRooms$Row;", true)
  | 4 => ("SleepingRooms$Nets", "guardSupplyOf", "LSleepingRooms$Row;", true)
  | 5 => ("SleepingRooms$Nets", "liftOf", "LSleepingRooms$Row;", true)
  | _ => ("SleepingRooms$Nets", "count", "I", false)
def tyX3 : Nat → FieldType := fun k => match k with
  | 0 => .object "SleepingRooms$Chip"
  | 1 => .object "SleepingRooms$Row"
  | 2 => .object "SleepingRooms$Row"
  | 3 => .object "SleepingRooms$Row"
  | 4 => .object "SleepingRooms$Row"
  | 5 => .object "SleepingRooms$Row"
  | _ => .int
abbrev wsX30 : List Cond := u_ws RX3 TX3 7
theorem nmX3 : ∀ a, a < 7 → ∀ b, b < 7 → a ≠ b → (TX3 a).2.1 ≠ (TX3 b).2.1 := by decide +kernel
theorem tyX3_ok : ∀ k, k < 7 → parseFieldDescriptor (TX3 k).2.2.1 = some (tyX3 k) := by decide +kernel
abbrev cX3_init : ByteArray := prog_5_method_1_code
def yX3_init : MethodName := ⟨RX3, "<init>", "(LSleepingRooms$Chip;)V"⟩
abbrev cX3_add : ByteArray := prog_5_method_2_code
def yX3_add : MethodName := ⟨RX3, "add", "(II)I"⟩
abbrev cX3_has : ByteArray := prog_5_method_3_code
def yX3_has : MethodName := ⟨RX3, "has", "(I)Z"⟩
abbrev cX3_isGuarded : ByteArray := prog_5_method_4_code
def yX3_isGuarded : MethodName := ⟨RX3, "isGuarded", "(I)Z"⟩
abbrev cX3_setGuard : ByteArray := prog_5_method_5_code
def yX3_setGuard : MethodName := ⟨RX3, "setGuard", "(III)V"⟩
abbrev cX3_faultIn : ByteArray := prog_5_method_6_code
def yX3_faultIn : MethodName := ⟨RX3, "faultIn", "(II)I"⟩
abbrev cX3_guardFault : ByteArray := prog_5_method_7_code
def yX3_guardFault : MethodName := ⟨RX3, "guardFault", "(III)I"⟩
abbrev cX3_scenesWithFault : ByteArray := prog_5_method_8_code
def yX3_scenesWithFault : MethodName := ⟨RX3, "scenesWithFault", "(I)I"⟩
abbrev cX3_needs : ByteArray := prog_5_method_9_code
def yX3_needs : MethodName := ⟨RX3, "needs", "(I)I"⟩
abbrev cX3_uselessParts : ByteArray := prog_5_method_10_code
def yX3_uselessParts : MethodName := ⟨RX3, "uselessParts", "(I)I"⟩
abbrev cX3_feed : ByteArray := prog_5_method_11_code
def yX3_feed : MethodName := ⟨RX3, "feed", "(I)I"⟩
abbrev cX3_feeds : ByteArray := prog_5_method_12_code
def yX3_feeds : MethodName := ⟨RX3, "feeds", "(II)Z"⟩
abbrev cX3_giveNeeds : ByteArray := prog_5_method_13_code
def yX3_giveNeeds : MethodName := ⟨RX3, "giveNeeds", "(I)Z"⟩
def RX4 : String := "SleepingRooms$Planner"
def TX4 : u_T := fun k => match k with
  | 0 => ("SleepingRooms$Planner", "chip", "LSleepingRooms$Chip;", true)
  | 1 => ("SleepingRooms$Planner", "nets", "LSleepingRooms$Nets;", true)
  | 2 => ("SleepingRooms$Planner", "play", "LSleepingRooms$Play;", true)
  | 3 => ("SleepingRooms$Planner", "draft", "LSleepingRooms$Script;", true)
  | _ => ("SleepingRooms$Planner", "fits", "Z", false)
def tyX4 : Nat → FieldType := fun k => match k with
  | 0 => .object "SleepingRooms$Chip"
  | 1 => .object "SleepingRooms$Nets"
  | 2 => .object "SleepingRooms$Play"
  | 3 => .object "SleepingRooms$Script"
  | _ => .boolean
abbrev wsX40 : List Cond := u_ws RX4 TX4 5
theorem nmX4 : ∀ a, a < 5 → ∀ b, b < 5 → a ≠ b → (TX4 a).2.1 ≠ (TX4 b).2.1 := by decide +kernel
theorem tyX4_ok : ∀ k, k < 5 → parseFieldDescriptor (TX4 k).2.2.1 = some (tyX4 k) := by decide +kernel
abbrev cX4_init : ByteArray := prog_6_method_1_code
def yX4_init : MethodName := ⟨RX4, "<init>", "(LSleepingRooms$Chip;LSleepingRooms$Nets;LSleepingRooms$Play;)V"⟩
abbrev cX4_make : ByteArray := prog_6_method_2_code
def yX4_make : MethodName := ⟨RX4, "make", "(LSleepingRooms$Course;)Z"⟩
abbrev cX4_supplyThatDiffers : ByteArray := prog_6_method_3_code
def yX4_supplyThatDiffers : MethodName := ⟨RX4, "supplyThatDiffers", "(II)I"⟩
abbrev cX4_switchOff : ByteArray := prog_6_method_4_code
def yX4_switchOff : MethodName := ⟨RX4, "switchOff", "(II)V"⟩
abbrev cX4_switchOn : ByteArray := prog_6_method_5_code
def yX4_switchOn : MethodName := ⟨RX4, "switchOn", "(II)V"⟩
abbrev cX4_comesFrom : ByteArray := prog_6_method_6_code
def yX4_comesFrom : MethodName := ⟨RX4, "comesFrom", "(II)Z"⟩
abbrev cX4_take : ByteArray := prog_6_method_7_code
def yX4_take : MethodName := ⟨RX4, "take", "(III)V"⟩
def RX5 : String := "SleepingRooms$Play"
def TX5 : u_T := fun k => match k with
  | 0 => ("SleepingRooms$Play", "chip", "LSleepingRooms$Chip;", true)
  | 1 => ("SleepingRooms$Play", "nets", "LSleepingRooms$Nets;", true)
  | 2 => ("SleepingRooms$Play", "levels", "LSleepingRooms$Row;", true)
  | 3 => ("SleepingRooms$Play", "ready", "I", false)
  | 4 => ("SleepingRooms$Play", "saved", "I", false)
  | 5 => ("SleepingRooms$Play", "held", "I", false)
  | 6 => ("SleepingRooms$Play", "badStep", "I", false)
  | 7 => ("SleepingRooms$Play", "badReason", "I", false)
  | _ => ("SleepingRooms$Play", "badNet", "I", false)
def tyX5 : Nat → FieldType := fun k => match k with
  | 0 => .object "SleepingRooms$Chip"
  | 1 => .object "SleepingRooms$Nets"
  | 2 => .object "SleepingRooms$Row"
  | 3 => .int
  | 4 => .int
  | 5 => .int
  | 6 => .int
  | 7 => .int
  | _ => .int
abbrev wsX50 : List Cond := u_ws RX5 TX5 9
theorem nmX5 : ∀ a, a < 9 → ∀ b, b < 9 → a ≠ b → (TX5 a).2.1 ≠ (TX5 b).2.1 := by decide +kernel
theorem tyX5_ok : ∀ k, k < 9 → parseFieldDescriptor (TX5 k).2.2.1 = some (tyX5 k) := by decide +kernel
abbrev cX5_init : ByteArray := prog_7_method_1_code
def yX5_init : MethodName := ⟨RX5, "<init>", "(LSleepingRooms$Chip;LSleepingRooms$Nets;)V"⟩
abbrev cX5_begin : ByteArray := prog_7_method_2_code
def yX5_begin : MethodName := ⟨RX5, "begin", "(I)V"⟩
abbrev cX5_follow : ByteArray := prog_7_method_3_code
def yX5_follow : MethodName := ⟨RX5, "follow", "(LSleepingRooms$Script;)V"⟩
abbrev cX5_reasonNotToDo : ByteArray := prog_7_method_4_code
def yX5_reasonNotToDo : MethodName := ⟨RX5, "reasonNotToDo", "(III)I"⟩
abbrev cX5_perform : ByteArray := prog_7_method_5_code
def yX5_perform : MethodName := ⟨RX5, "perform", "(III)V"⟩
abbrev cX5_setLevel : ByteArray := prog_7_method_6_code
def yX5_setLevel : MethodName := ⟨RX5, "setLevel", "(II)V"⟩
abbrev cX5_findNetInDanger : ByteArray := prog_7_method_7_code
def yX5_findNetInDanger : MethodName := ⟨RX5, "findNetInDanger", "()V"⟩
abbrev cX5_danger : ByteArray := prog_7_method_8_code
def yX5_danger : MethodName := ⟨RX5, "danger", "(I)I"⟩
abbrev cX5_isOn : ByteArray := prog_7_method_9_code
def yX5_isOn : MethodName := ⟨RX5, "isOn", "(I)Z"⟩
abbrev cX5_canKeep : ByteArray := prog_7_method_10_code
def yX5_canKeep : MethodName := ⟨RX5, "canKeep", "(I)Z"⟩
abbrev cX5_sceneNow : ByteArray := prog_7_method_11_code
def yX5_sceneNow : MethodName := ⟨RX5, "sceneNow", "()I"⟩
abbrev cX5_sceneAfter : ByteArray := prog_7_method_12_code
def yX5_sceneAfter : MethodName := ⟨RX5, "sceneAfter", "(II)I"⟩
def RX6 : String := "SleepingRooms$Reader"
def TX6 : u_T := fun k => match k with
  | 0 => ("SleepingRooms$Reader", "numbers", "LSleepingRooms$Row;", true)
  | 1 => ("SleepingRooms$Reader", "reach", "I", false)
  | 2 => ("SleepingRooms$Reader", "value", "I", false)
  | _ => ("SleepingRooms$Reader", "whole", "Z", false)
def tyX6 : Nat → FieldType := fun k => match k with
  | 0 => .object "SleepingRooms$Row"
  | 1 => .int
  | 2 => .int
  | _ => .boolean
abbrev wsX60 : List Cond := u_ws RX6 TX6 4
theorem nmX6 : ∀ a, a < 4 → ∀ b, b < 4 → a ≠ b → (TX6 a).2.1 ≠ (TX6 b).2.1 := by decide +kernel
theorem tyX6_ok : ∀ k, k < 4 → parseFieldDescriptor (TX6 k).2.2.1 = some (tyX6 k) := by decide +kernel
abbrev cX6_init : ByteArray := prog_8_method_1_code
def yX6_init : MethodName := ⟨RX6, "<init>", "()V"⟩
abbrev cX6_read : ByteArray := prog_8_method_2_code
def yX6_read : MethodName := ⟨RX6, "read", "(LSleepingRooms$Codes;)I"⟩
abbrev cX6_formOf : ByteArray := prog_8_method_3_code
def yX6_formOf : MethodName := ⟨RX6, "formOf", "(I)Ljava/lang/String;"⟩
abbrev cX6_topOf : ByteArray := prog_8_method_4_code
def yX6_topOf : MethodName := ⟨RX6, "topOf", "(C)I"⟩
abbrev cX6_match : ByteArray := prog_8_method_5_code
def yX6_match : MethodName := ⟨RX6, "match", "(LSleepingRooms$Codes;Ljava/lang/String;)I"⟩
abbrev cX6_readNumber : ByteArray := prog_8_method_6_code
def yX6_readNumber : MethodName := ⟨RX6, "readNumber", "(LSleepingRooms$Codes;II)I"⟩
abbrev cX6_digit : ByteArray := prog_8_method_7_code
def yX6_digit : MethodName := ⟨RX6, "digit", "(I)I"⟩
def RX7 : String := "SleepingRooms$Row"
def TX7 : u_T := fun k => match k with
  | _ => ("SleepingRooms$Row", "cells", "[I", true)
def tyX7 : Nat → FieldType := fun k => match k with
  | _ => .array .int
abbrev wsX70 : List Cond := u_ws RX7 TX7 1
theorem nmX7 : ∀ a, a < 1 → ∀ b, b < 1 → a ≠ b → (TX7 a).2.1 ≠ (TX7 b).2.1 := by decide +kernel
theorem tyX7_ok : ∀ k, k < 1 → parseFieldDescriptor (TX7 k).2.2.1 = some (tyX7 k) := by decide +kernel
abbrev cX7_init : ByteArray := prog_9_method_1_code
def yX7_init : MethodName := ⟨RX7, "<init>", "(I)V"⟩
abbrev cX7_at : ByteArray := prog_9_method_2_code
def yX7_at : MethodName := ⟨RX7, "at", "(I)I"⟩
abbrev cX7_put : ByteArray := prog_9_method_3_code
def yX7_put : MethodName := ⟨RX7, "put", "(II)V"⟩
abbrev cX7_exchange : ByteArray := prog_9_method_4_code
def yX7_exchange : MethodName := ⟨RX7, "exchange", "(II)I"⟩
abbrev cX7_clear : ByteArray := prog_9_method_5_code
def yX7_clear : MethodName := ⟨RX7, "clear", "()V"⟩
def RX8 : String := "SleepingRooms$Script"
def TX8 : u_T := fun k => match k with
  | 0 => ("SleepingRooms$Script", "kinds", "LSleepingRooms$Row;", true)
  | 1 => ("SleepingRooms$Script", "xs", "LSleepingRooms$Row;", true)
  | 2 => ("SleepingRooms$Script", "ys", "LSleepingRooms$Row;", true)
  | _ => ("SleepingRooms$Script", "count", "I", false)
def tyX8 : Nat → FieldType := fun k => match k with
  | 0 => .object "SleepingRooms$Row"
  | 1 => .object "SleepingRooms$Row"
  | 2 => .object "SleepingRooms$Row"
  | _ => .int
abbrev wsX80 : List Cond := u_ws RX8 TX8 4
theorem nmX8 : ∀ a, a < 4 → ∀ b, b < 4 → a ≠ b → (TX8 a).2.1 ≠ (TX8 b).2.1 := by decide +kernel
theorem tyX8_ok : ∀ k, k < 4 → parseFieldDescriptor (TX8 k).2.2.1 = some (tyX8 k) := by decide +kernel
abbrev cX8_init : ByteArray := prog_10_method_1_code
def yX8_init : MethodName := ⟨RX8, "<init>", "()V"⟩
abbrev cX8_add : ByteArray := prog_10_method_2_code
def yX8_add : MethodName := ⟨RX8, "add", "(III)Z"⟩
abbrev cX8_clear : ByteArray := prog_10_method_3_code
def yX8_clear : MethodName := ⟨RX8, "clear", "()V"⟩
abbrev cX8_copy : ByteArray := prog_10_method_4_code
def yX8_copy : MethodName := ⟨RX8, "copy", "(LSleepingRooms$Script;)V"⟩
def RX9 : String := "SleepingRooms"
def TX9 : u_T := fun k => match k with
  | 0 => ("SleepingRooms", "chip", "LSleepingRooms$Chip;", true)
  | 1 => ("SleepingRooms", "nets", "LSleepingRooms$Nets;", true)
  | 2 => ("SleepingRooms", "course", "LSleepingRooms$Course;", true)
  | 3 => ("SleepingRooms", "script", "LSleepingRooms$Script;", true)
  | 4 => ("SleepingRooms", "play", "LSleepingRooms$Play;", true)
  | 5 => ("SleepingRooms", "planner", "LSleepingRooms$Planner;", true)
  | 6 => ("SleepingRooms", "tape", "LSleepingRooms$Codes;", true)
  | 7 => ("SleepingRooms", "reader", "LSleepingRooms$Reader;", true)
  | _ => ("SleepingRooms", "label", "LSleepingRooms$Codes;", true)
def tyX9 : Nat → FieldType := fun k => match k with
  | 0 => .object "SleepingRooms$Chip"
  | 1 => .object "SleepingRooms$Nets"
  | 2 => .object "SleepingRooms$Course"
  | 3 => .object "SleepingRooms$Script"
  | 4 => .object "SleepingRooms$Play"
  | 5 => .object "SleepingRooms$Planner"
  | 6 => .object "SleepingRooms$Codes"
  | 7 => .object "SleepingRooms$Reader"
  | _ => .object "SleepingRooms$Codes"
abbrev wsX90 : List Cond := u_ws RX9 TX9 9
theorem nmX9 : ∀ a, a < 9 → ∀ b, b < 9 → a ≠ b → (TX9 a).2.1 ≠ (TX9 b).2.1 := by decide +kernel
theorem tyX9_ok : ∀ k, k < 9 → parseFieldDescriptor (TX9 k).2.2.1 = some (tyX9 k) := by decide +kernel
abbrev cX9_init : ByteArray := prog_1_method_1_code
def yX9_init : MethodName := ⟨RX9, "<init>", "()V"⟩
abbrev cX9_room : ByteArray := prog_1_method_2_code
def yX9_room : MethodName := ⟨RX9, "room", "(II)I"⟩
abbrev cX9_near : ByteArray := prog_1_method_3_code
def yX9_near : MethodName := ⟨RX9, "near", "(III)I"⟩
abbrev cX9_net : ByteArray := prog_1_method_4_code
def yX9_net : MethodName := ⟨RX9, "net", "(II)I"⟩
abbrev cX9_scene : ByteArray := prog_1_method_5_code
def yX9_scene : MethodName := ⟨RX9, "scene", "(IIII)I"⟩
abbrev cX9_guard : ByteArray := prog_1_method_6_code
def yX9_guard : MethodName := ⟨RX9, "guard", "(III)I"⟩
abbrev cX9_open : ByteArray := prog_1_method_7_code
def yX9_open : MethodName := ⟨RX9, "open", "(I)I"⟩
abbrev cX9_lift : ByteArray := prog_1_method_8_code
def yX9_lift : MethodName := ⟨RX9, "lift", "(II)I"⟩
abbrev cX9_keep : ByteArray := prog_1_method_9_code
def yX9_keep : MethodName := ⟨RX9, "keep", "(III)I"⟩
abbrev cX9_anew : ByteArray := prog_1_method_10_code
def yX9_anew : MethodName := ⟨RX9, "anew", "()I"⟩
abbrev cX9_ofRoom : ByteArray := prog_1_method_11_code
def yX9_ofRoom : MethodName := ⟨RX9, "ofRoom", "(II)I"⟩
abbrev cX9_levelIn : ByteArray := prog_1_method_12_code
def yX9_levelIn : MethodName := ⟨RX9, "levelIn", "(II)I"⟩
abbrev cX9_ofNet : ByteArray := prog_1_method_13_code
def yX9_ofNet : MethodName := ⟨RX9, "ofNet", "(II)I"⟩
abbrev cX9_fault : ByteArray := prog_1_method_14_code
def yX9_fault : MethodName := ⟨RX9, "fault", "(II)I"⟩
abbrev cX9_faults : ByteArray := prog_1_method_15_code
def yX9_faults : MethodName := ⟨RX9, "faults", "(I)I"⟩
abbrev cX9_mend : ByteArray := prog_1_method_16_code
def yX9_mend : MethodName := ⟨RX9, "mend", "()I"⟩
abbrev cX9_way : ByteArray := prog_1_method_17_code
def yX9_way : MethodName := ⟨RX9, "way", "(III)I"⟩
abbrev cX9_step : ByteArray := prog_1_method_18_code
def yX9_step : MethodName := ⟨RX9, "step", "(III)I"⟩
abbrev cX9_wipe : ByteArray := prog_1_method_19_code
def yX9_wipe : MethodName := ⟨RX9, "wipe", "()I"⟩
abbrev cX9_stepAt : ByteArray := prog_1_method_20_code
def yX9_stepAt : MethodName := ⟨RX9, "stepAt", "(II)I"⟩
abbrev cX9_judge : ByteArray := prog_1_method_21_code
def yX9_judge : MethodName := ⟨RX9, "judge", "(II)I"⟩
abbrev cX9_stride : ByteArray := prog_1_method_22_code
def yX9_stride : MethodName := ⟨RX9, "stride", "(III)I"⟩
abbrev cX9_plan : ByteArray := prog_1_method_23_code
def yX9_plan : MethodName := ⟨RX9, "plan", "(II)I"⟩
abbrev cX9_key : ByteArray := prog_1_method_24_code
def yX9_key : MethodName := ⟨RX9, "key", "(I)I"⟩
abbrev cX9_blank : ByteArray := prog_1_method_25_code
def yX9_blank : MethodName := ⟨RX9, "blank", "()I"⟩
abbrev cX9_line : ByteArray := prog_1_method_26_code
def yX9_line : MethodName := ⟨RX9, "line", "()I"⟩
abbrev cX9_text : ByteArray := prog_1_method_27_code
def yX9_text : MethodName := ⟨RX9, "text", "(II)I"⟩
abbrev cX9_many : ByteArray := prog_1_method_28_code
def yX9_many : MethodName := ⟨RX9, "many", "(I)I"⟩
abbrev cX9_within : ByteArray := prog_1_method_29_code
def yX9_within : MethodName := ⟨RX9, "within", "(II)Z"⟩
abbrev cX9_isRoom : ByteArray := prog_1_method_30_code
def yX9_isRoom : MethodName := ⟨RX9, "isRoom", "(I)Z"⟩
abbrev cX9_isSupply : ByteArray := prog_1_method_31_code
def yX9_isSupply : MethodName := ⟨RX9, "isSupply", "(I)Z"⟩
abbrev cX9_isLevel : ByteArray := prog_1_method_32_code
def yX9_isLevel : MethodName := ⟨RX9, "isLevel", "(I)Z"⟩
abbrev cX9_isStep : ByteArray := prog_1_method_33_code
def yX9_isStep : MethodName := ⟨RX9, "isStep", "(III)Z"⟩
abbrev cX9_bit : ByteArray := prog_1_method_34_code
def yX9_bit : MethodName := ⟨RX9, "bit", "(I)I"⟩
abbrev cX9_contains : ByteArray := prog_1_method_35_code
def yX9_contains : MethodName := ⟨RX9, "contains", "(II)Z"⟩
abbrev cX9_countNets : ByteArray := prog_1_method_36_code
def yX9_countNets : MethodName := ⟨RX9, "countNets", "(I)I"⟩
abbrev cX9_seekStrides : ByteArray := prog_1_method_37_code
def yX9_seekStrides : MethodName := ⟨RX9, "seekStrides", "(II)V"⟩
abbrev cX9_carryOut : ByteArray := prog_1_method_38_code
def yX9_carryOut : MethodName := ⟨RX9, "carryOut", "(ILSleepingRooms$Row;)I"⟩
abbrev cX9_writeLabel : ByteArray := prog_1_method_39_code
def yX9_writeLabel : MethodName := ⟨RX9, "writeLabel", "(I)V"⟩
abbrev cX9_liftWord : ByteArray := prog_1_method_40_code
def yX9_liftWord : MethodName := ⟨RX9, "liftWord", "(I)Ljava/lang/String;"⟩
def RX10 : String := "SleepingRoomsModel"
def TX10 : u_T := fun k => match k with
  | 0 => ("SleepingRoomsModel", "supplyOf", "[I", true)
  | 1 => ("SleepingRoomsModel", "registersOf", "[I", true)
  | 2 => ("SleepingRoomsModel", "keeperOf", "[I", true)
  | 3 => ("SleepingRoomsModel", "nearOf", "[I", true)
  | 4 => ("SleepingRoomsModel", "scenes", "I", false)
  | 5 => ("SleepingRoomsModel", "levels", "[I", true)
  | 6 => ("SleepingRoomsModel", "nets", "I", false)
  | 7 => ("SleepingRoomsModel", "fromOf", "[I", true)
  | 8 => ("SleepingRoomsModel", "toOf", "[I", true)
  | 9 => ("SleepingRoomsModel", "valueOf", "[I", true)
  | 10 => ("SleepingRoomsModel", "guardOf", "[I", true)
  | 11 => ("SleepingRoomsModel", "liftOf", "[I", true)
  | 12 => ("SleepingRoomsModel", "farOf", "[I", true)
  | 13 => ("SleepingRoomsModel", "steps", "I", false)
  | 14 => ("SleepingRoomsModel", "kindOf", "[I", true)
  | 15 => ("SleepingRoomsModel", "xOf", "[I", true)
  | 16 => ("SleepingRoomsModel", "yOf", "[I", true)
  | 17 => ("SleepingRoomsModel", "now", "[I", true)
  | 18 => ("SleepingRoomsModel", "held", "I", false)
  | 19 => ("SleepingRoomsModel", "ready", "I", false)
  | 20 => ("SleepingRoomsModel", "saved", "I", false)
  | 21 => ("SleepingRoomsModel", "badStep", "I", false)
  | 22 => ("SleepingRoomsModel", "badReason", "I", false)
  | 23 => ("SleepingRoomsModel", "badOne", "I", false)
  | 24 => ("SleepingRoomsModel", "strideFar", "[I", true)
  | 25 => ("SleepingRoomsModel", "planned", "I", false)
  | 26 => ("SleepingRoomsModel", "planKind", "[I", true)
  | 27 => ("SleepingRoomsModel", "planX", "[I", true)
  | 28 => ("SleepingRoomsModel", "planY", "[I", true)
  | 29 => ("SleepingRoomsModel", "tape", "[I", true)
  | 30 => ("SleepingRoomsModel", "taped", "I", false)
  | 31 => ("SleepingRoomsModel", "signs", "[I", true)
  | 32 => ("SleepingRoomsModel", "manyNumbers", "[I", true)
  | 33 => ("SleepingRoomsModel", "greatest", "[I", true)
  | 34 => ("SleepingRoomsModel", "place", "I", false)
  | 35 => ("SleepingRoomsModel", "word", "I", false)
  | 36 => ("SleepingRoomsModel", "numbers", "[I", true)
  | 37 => ("SleepingRoomsModel", "text", "[I", true)
  | _ => ("SleepingRoomsModel", "written", "I", false)
def tyX10 : Nat → FieldType := fun k => match k with
  | 0 => .array .int
  | 1 => .array .int
  | 2 => .array .int
  | 3 => .array .int
  | 4 => .int
  | 5 => .array .int
  | 6 => .int
  | 7 => .array .int
  | 8 => .array .int
  | 9 => .array .int
  | 10 => .array .int
  | 11 => .array .int
  | 12 => .array .int
  | 13 => .int
  | 14 => .array .int
  | 15 => .array .int
  | 16 => .array .int
  | 17 => .array .int
  | 18 => .int
  | 19 => .int
  | 20 => .int
  | 21 => .int
  | 22 => .int
  | 23 => .int
  | 24 => .array .int
  | 25 => .int
  | 26 => .array .int
  | 27 => .array .int
  | 28 => .array .int
  | 29 => .array .int
  | 30 => .int
  | 31 => .array .int
  | 32 => .array .int
  | 33 => .array .int
  | 34 => .int
  | 35 => .int
  | 36 => .array .int
  | 37 => .array .int
  | _ => .int
abbrev wsX100 : List Cond := u_ws RX10 TX10 39
theorem nmX10 : ∀ a, a < 39 → ∀ b, b < 39 → a ≠ b → (TX10 a).2.1 ≠ (TX10 b).2.1 := by decide +kernel
theorem tyX10_ok : ∀ k, k < 39 → parseFieldDescriptor (TX10 k).2.2.1 = some (tyX10 k) := by decide +kernel
abbrev cX10_init : ByteArray := prog_12_method_1_code
def yX10_init : MethodName := ⟨RX10, "<init>", "()V"⟩
abbrev cX10_within : ByteArray := prog_12_method_2_code
def yX10_within : MethodName := ⟨RX10, "within", "(III)Z"⟩
abbrev cX10_isIn : ByteArray := prog_12_method_3_code
def yX10_isIn : MethodName := ⟨RX10, "isIn", "(II)Z"⟩
abbrev cX10_isRoom : ByteArray := prog_12_method_4_code
def yX10_isRoom : MethodName := ⟨RX10, "isRoom", "(I)Z"⟩
abbrev cX10_isSupply : ByteArray := prog_12_method_5_code
def yX10_isSupply : MethodName := ⟨RX10, "isSupply", "(I)Z"⟩
abbrev cX10_noGuards : ByteArray := prog_12_method_6_code
def yX10_noGuards : MethodName := ⟨RX10, "noGuards", "()V"⟩
abbrev cX10_isScene : ByteArray := prog_12_method_7_code
def yX10_isScene : MethodName := ⟨RX10, "isScene", "(I)Z"⟩
abbrev cX10_isNet : ByteArray := prog_12_method_8_code
def yX10_isNet : MethodName := ⟨RX10, "isNet", "(I)Z"⟩
abbrev cX10_level : ByteArray := prog_12_method_9_code
def yX10_level : MethodName := ⟨RX10, "level", "(II)I"⟩
abbrev cX10_levelOfRoom : ByteArray := prog_12_method_10_code
def yX10_levelOfRoom : MethodName := ⟨RX10, "levelOfRoom", "(II)I"⟩
abbrev cX10_room : ByteArray := prog_12_method_11_code
def yX10_room : MethodName := ⟨RX10, "room", "(II)I"⟩
abbrev cX10_near : ByteArray := prog_12_method_12_code
def yX10_near : MethodName := ⟨RX10, "near", "(III)I"⟩
abbrev cX10_net : ByteArray := prog_12_method_13_code
def yX10_net : MethodName := ⟨RX10, "net", "(II)I"⟩
abbrev cX10_sceneWith : ByteArray := prog_12_method_14_code
def yX10_sceneWith : MethodName := ⟨RX10, "sceneWith", "(IIII)I"⟩
abbrev cX10_isLevel : ByteArray := prog_12_method_15_code
def yX10_isLevel : MethodName := ⟨RX10, "isLevel", "(I)Z"⟩
abbrev cX10_scene : ByteArray := prog_12_method_16_code
def yX10_scene : MethodName := ⟨RX10, "scene", "(IIII)I"⟩
abbrev cX10_guard : ByteArray := prog_12_method_17_code
def yX10_guard : MethodName := ⟨RX10, "guard", "(III)I"⟩
abbrev cX10_hasGuard : ByteArray := prog_12_method_18_code
def yX10_hasGuard : MethodName := ⟨RX10, "hasGuard", "(I)Z"⟩
abbrev cX10_open : ByteArray := prog_12_method_19_code
def yX10_open : MethodName := ⟨RX10, "open", "(I)I"⟩
abbrev cX10_lift : ByteArray := prog_12_method_20_code
def yX10_lift : MethodName := ⟨RX10, "lift", "(II)I"⟩
abbrev cX10_keep : ByteArray := prog_12_method_21_code
def yX10_keep : MethodName := ⟨RX10, "keep", "(III)I"⟩
abbrev cX10_anew : ByteArray := prog_12_method_22_code
def yX10_anew : MethodName := ⟨RX10, "anew", "()I"⟩
abbrev cX10_scenesOf : ByteArray := prog_12_method_23_code
def yX10_scenesOf : MethodName := ⟨RX10, "scenesOf", "(IZ)I"⟩
abbrev cX10_ofRoom : ByteArray := prog_12_method_24_code
def yX10_ofRoom : MethodName := ⟨RX10, "ofRoom", "(II)I"⟩
abbrev cX10_levelIn : ByteArray := prog_12_method_25_code
def yX10_levelIn : MethodName := ⟨RX10, "levelIn", "(II)I"⟩
abbrev cX10_faultOf : ByteArray := prog_12_method_26_code
def yX10_faultOf : MethodName := ⟨RX10, "faultOf", "(II)I"⟩
abbrev cX10_fault : ByteArray := prog_12_method_27_code
def yX10_fault : MethodName := ⟨RX10, "fault", "(II)I"⟩
abbrev cX10_faults : ByteArray := prog_12_method_28_code
def yX10_faults : MethodName := ⟨RX10, "faults", "(I)I"⟩
abbrev cX10_needs : ByteArray := prog_12_method_29_code
def yX10_needs : MethodName := ⟨RX10, "needs", "(I)I"⟩
abbrev cX10_feedOf : ByteArray := prog_12_method_30_code
def yX10_feedOf : MethodName := ⟨RX10, "feedOf", "(I)I"⟩
abbrev cX10_idle : ByteArray := prog_12_method_31_code
def yX10_idle : MethodName := ⟨RX10, "idle", "(I)I"⟩
abbrev cX10_faultySet : ByteArray := prog_12_method_32_code
def yX10_faultySet : MethodName := ⟨RX10, "faultySet", "(I)I"⟩
abbrev cX10_ofNet : ByteArray := prog_12_method_33_code
def yX10_ofNet : MethodName := ⟨RX10, "ofNet", "(II)I"⟩
abbrev cX10_mends : ByteArray := prog_12_method_34_code
def yX10_mends : MethodName := ⟨RX10, "mends", "(I)Z"⟩
abbrev cX10_mend : ByteArray := prog_12_method_35_code
def yX10_mend : MethodName := ⟨RX10, "mend", "()I"⟩
abbrev cX10_mayBeBetween : ByteArray := prog_12_method_36_code
def yX10_mayBeBetween : MethodName := ⟨RX10, "mayBeBetween", "(II)Z"⟩
abbrev cX10_findFar : ByteArray := prog_12_method_37_code
def yX10_findFar : MethodName := ⟨RX10, "findFar", "(II)V"⟩
abbrev cX10_way : ByteArray := prog_12_method_38_code
def yX10_way : MethodName := ⟨RX10, "way", "(III)I"⟩
abbrev cX10_step : ByteArray := prog_12_method_39_code
def yX10_step : MethodName := ⟨RX10, "step", "(III)I"⟩
abbrev cX10_wipe : ByteArray := prog_12_method_40_code
def yX10_wipe : MethodName := ⟨RX10, "wipe", "()I"⟩
abbrev cX10_stepAt : ByteArray := prog_12_method_41_code
def yX10_stepAt : MethodName := ⟨RX10, "stepAt", "(II)I"⟩
abbrev cX10_isOnNow : ByteArray := prog_12_method_42_code
def yX10_isOnNow : MethodName := ⟨RX10, "isOnNow", "(I)Z"⟩
abbrev cX10_starts : ByteArray := prog_12_method_43_code
def yX10_starts : MethodName := ⟨RX10, "starts", "(I)V"⟩
abbrev cX10_sceneNow : ByteArray := prog_12_method_44_code
def yX10_sceneNow : MethodName := ⟨RX10, "sceneNow", "()I"⟩
abbrev cX10_against : ByteArray := prog_12_method_45_code
def yX10_against : MethodName := ⟨RX10, "against", "(III)I"⟩
abbrev cX10_againstPower : ByteArray := prog_12_method_46_code
def yX10_againstPower : MethodName := ⟨RX10, "againstPower", "(II)I"⟩
abbrev cX10_does : ByteArray := prog_12_method_47_code
def yX10_does : MethodName := ⟨RX10, "does", "(III)V"⟩
abbrev cX10_powers : ByteArray := prog_12_method_48_code
def yX10_powers : MethodName := ⟨RX10, "powers", "(II)V"⟩
abbrev cX10_badNet : ByteArray := prog_12_method_49_code
def yX10_badNet : MethodName := ⟨RX10, "badNet", "(I)I"⟩
abbrev cX10_judges : ByteArray := prog_12_method_50_code
def yX10_judges : MethodName := ⟨RX10, "judges", "(I)V"⟩
abbrev cX10_judge : ByteArray := prog_12_method_51_code
def yX10_judge : MethodName := ⟨RX10, "judge", "(II)I"⟩
abbrev cX10_oneApart : ByteArray := prog_12_method_52_code
def yX10_oneApart : MethodName := ⟨RX10, "oneApart", "(II)I"⟩
abbrev cX10_findStrides : ByteArray := prog_12_method_53_code
def yX10_findStrides : MethodName := ⟨RX10, "findStrides", "(I)V"⟩
abbrev cX10_strideBehind : ByteArray := prog_12_method_54_code
def yX10_strideBehind : MethodName := ⟨RX10, "strideBehind", "(I)I"⟩
abbrev cX10_stride : ByteArray := prog_12_method_55_code
def yX10_stride : MethodName := ⟨RX10, "stride", "(III)I"⟩
abbrev cX10_plans : ByteArray := prog_12_method_56_code
def yX10_plans : MethodName := ⟨RX10, "plans", "(III)V"⟩
abbrev cX10_goesOff : ByteArray := prog_12_method_57_code
def yX10_goesOff : MethodName := ⟨RX10, "goesOff", "(II)V"⟩
abbrev cX10_goesOn : ByteArray := prog_12_method_58_code
def yX10_goesOn : MethodName := ⟨RX10, "goesOn", "(II)V"⟩
abbrev cX10_plan : ByteArray := prog_12_method_59_code
def yX10_plan : MethodName := ⟨RX10, "plan", "(II)I"⟩
abbrev cX10_key : ByteArray := prog_12_method_60_code
def yX10_key : MethodName := ⟨RX10, "key", "(I)I"⟩
abbrev cX10_blank : ByteArray := prog_12_method_61_code
def yX10_blank : MethodName := ⟨RX10, "blank", "()I"⟩
abbrev cX10_wordLong : ByteArray := prog_12_method_62_code
def yX10_wordLong : MethodName := ⟨RX10, "wordLong", "(I)I"⟩
abbrev cX10_mayBe : ByteArray := prog_12_method_63_code
def yX10_mayBe : MethodName := ⟨RX10, "mayBe", "(I)Z"⟩
abbrev cX10_readsWord : ByteArray := prog_12_method_64_code
def yX10_readsWord : MethodName := ⟨RX10, "readsWord", "()Z"⟩
abbrev cX10_readsNumber : ByteArray := prog_12_method_65_code
def yX10_readsNumber : MethodName := ⟨RX10, "readsNumber", "(I)Z"⟩
abbrev cX10_readsLine : ByteArray := prog_12_method_66_code
def yX10_readsLine : MethodName := ⟨RX10, "readsLine", "()Z"⟩
abbrev cX10_doesLine : ByteArray := prog_12_method_67_code
def yX10_doesLine : MethodName := ⟨RX10, "doesLine", "()I"⟩
abbrev cX10_line : ByteArray := prog_12_method_68_code
def yX10_line : MethodName := ⟨RX10, "line", "()I"⟩
abbrev cX10_writes : ByteArray := prog_12_method_69_code
def yX10_writes : MethodName := ⟨RX10, "writes", "(I)V"⟩
abbrev cX10_writesLift : ByteArray := prog_12_method_70_code
def yX10_writesLift : MethodName := ⟨RX10, "writesLift", "(I)V"⟩
abbrev cX10_writesNet : ByteArray := prog_12_method_71_code
def yX10_writesNet : MethodName := ⟨RX10, "writesNet", "(I)V"⟩
abbrev cX10_text : ByteArray := prog_12_method_72_code
def yX10_text : MethodName := ⟨RX10, "text", "(II)I"⟩
abbrev cX10_many : ByteArray := prog_12_method_73_code
def yX10_many : MethodName := ⟨RX10, "many", "(I)I"⟩
def RJ6 : String := "java/lang/Integer"
def TJ6 : u_T := fun k => match k with
  | _ => ("", "", "", false)
def tyJ6 : Nat → FieldType := fun k => match k with
  | _ => .int
abbrev wsJ60 : List Cond := u_ws RJ6 TJ6 0
theorem nmJ6 : ∀ a, a < 0 → ∀ b, b < 0 → a ≠ b → (TJ6 a).2.1 ≠ (TJ6 b).2.1 := by decide +kernel
theorem tyJ6_ok : ∀ k, k < 0 → parseFieldDescriptor (TJ6 k).2.2.1 = some (tyJ6 k) := by decide +kernel
abbrev cJ6_bitCount_0f7a4 : ByteArray := prog_13_method_49_code
def yJ6_bitCount_0f7a4 : MethodName := ⟨RJ6, "bitCount", "(I)I"⟩
def RJ9 : String := "java/lang/Math"
def TJ9 : u_T := fun k => match k with
  | _ => ("", "", "", false)
def tyJ9 : Nat → FieldType := fun k => match k with
  | _ => .int
abbrev wsJ90 : List Cond := u_ws RJ9 TJ9 0
theorem nmJ9 : ∀ a, a < 0 → ∀ b, b < 0 → a ≠ b → (TJ9 a).2.1 ≠ (TJ9 b).2.1 := by decide +kernel
theorem tyJ9_ok : ∀ k, k < 0 → parseFieldDescriptor (TJ9 k).2.2.1 = some (tyJ9 k) := by decide +kernel
abbrev cJ9_max_7cf53 : ByteArray := prog_14_method_65_code
def yJ9_max_7cf53 : MethodName := ⟨RJ9, "max", "(II)I"⟩
def RJ0 : String := "java/lang/String"
def TJ0 : u_T := fun k => match k with
  | _ => ("", "", "", false)
def tyJ0 : Nat → FieldType := fun k => match k with
  | _ => .int
abbrev wsJ00 : List Cond := u_ws RJ0 TJ0 0
theorem nmJ0 : ∀ a, a < 0 → ∀ b, b < 0 → a ≠ b → (TJ0 a).2.1 ≠ (TJ0 b).2.1 := by decide +kernel
theorem tyJ0_ok : ∀ k, k < 0 → parseFieldDescriptor (TJ0 k).2.2.1 = some (tyJ0 k) := by decide +kernel
abbrev cJ0_length_8abf5 : ByteArray := prog_15_method_54_code
def yJ0_length_8abf5 : MethodName := ⟨RJ0, "length", "()I"⟩
abbrev cJ0_charAt_5068e : ByteArray := prog_15_method_56_code
def yJ0_charAt_5068e : MethodName := ⟨RJ0, "charAt", "(I)C"⟩
abbrev cJ0_coder_7d493 : ByteArray := prog_15_method_152_code
def yJ0_coder_7d493 : MethodName := ⟨RJ0, "coder", "()B"⟩
abbrev cJ0_isLatin1_aae02 : ByteArray := prog_15_method_154_code
def yJ0_isLatin1_aae02 : MethodName := ⟨RJ0, "isLatin1", "()Z"⟩
abbrev cJ0_checkIndex_df160 : ByteArray := prog_15_method_155_code
def yJ0_checkIndex_df160 : MethodName := ⟨RJ0, "checkIndex", "(II)V"⟩
def RJ1 : String := "java/lang/StringLatin1"
def TJ1 : u_T := fun k => match k with
  | _ => ("", "", "", false)
def tyJ1 : Nat → FieldType := fun k => match k with
  | _ => .int
abbrev wsJ10 : List Cond := u_ws RJ1 TJ1 0
theorem nmJ1 : ∀ a, a < 0 → ∀ b, b < 0 → a ≠ b → (TJ1 a).2.1 ≠ (TJ1 b).2.1 := by decide +kernel
theorem tyJ1_ok : ∀ k, k < 0 → parseFieldDescriptor (TJ1 k).2.2.1 = some (tyJ1 k) := by decide +kernel
abbrev cJ1_charAt_3b067 : ByteArray := prog_16_method_2_code
def yJ1_charAt_3b067 : MethodName := ⟨RJ1, "charAt", "([BI)C"⟩
def RJ2 : String := "java/lang/StringUTF16"
def TJ2 : u_T := fun k => match k with
  | _ => ("", "", "", false)
def tyJ2 : Nat → FieldType := fun k => match k with
  | _ => .int
abbrev wsJ20 : List Cond := u_ws RJ2 TJ2 0
theorem nmJ2 : ∀ a, a < 0 → ∀ b, b < 0 → a ≠ b → (TJ2 a).2.1 ≠ (TJ2 b).2.1 := by decide +kernel
theorem tyJ2_ok : ∀ k, k < 0 → parseFieldDescriptor (TJ2 k).2.2.1 = some (tyJ2 k) := by decide +kernel
abbrev cJ2_getChar_3b067 : ByteArray := prog_17_method_5_code
def yJ2_getChar_3b067 : MethodName := ⟨RJ2, "getChar", "([BI)C"⟩
abbrev cJ2_length_9d52b : ByteArray := prog_17_method_6_code
def yJ2_length_9d52b : MethodName := ⟨RJ2, "length", "([B)I"⟩
abbrev cJ2_charAt_3b067 : ByteArray := prog_17_method_83_code
def yJ2_charAt_3b067 : MethodName := ⟨RJ2, "charAt", "([BI)C"⟩
abbrev cJ2_checkIndex_2214a : ByteArray := prog_17_method_91_code
def yJ2_checkIndex_2214a : MethodName := ⟨RJ2, "checkIndex", "(I[B)V"⟩
def RJ3 : String := "jdk/internal/util/Preconditions"
def TJ3 : u_T := fun k => match k with
  | _ => ("", "", "", false)
def tyJ3 : Nat → FieldType := fun k => match k with
  | _ => .int
abbrev wsJ30 : List Cond := u_ws RJ3 TJ3 0
theorem nmJ3 : ∀ a, a < 0 → ∀ b, b < 0 → a ≠ b → (TJ3 a).2.1 ≠ (TJ3 b).2.1 := by decide +kernel
theorem tyJ3_ok : ∀ k, k < 0 → parseFieldDescriptor (TJ3 k).2.2.1 = some (tyJ3 k) := by decide +kernel
abbrev cJ3_checkIndex_8e157 : ByteArray := prog_18_method_11_code
def yJ3_checkIndex_8e157 : MethodName := ⟨RJ3, "checkIndex", "(IILjava/util/function/BiFunction;)I"⟩
def RL : String := "SleepingRoomsLaw"
abbrev cL_law : ByteArray := code
def yL_law : MethodName := ⟨RL, "law", "([I)Z"⟩
/-! ===== END ===== -/
abbrev vwCl : List vw_C := [(RX0, TX0, 6), (RX1, TX1, 3), (RX2, TX2, 4), (RX3, TX3, 7), (RX4, TX4, 5), (RX5, TX5, 9), (RX6, TX6, 4), (RX7, TX7, 1), (RX8, TX8, 4), (RX9, TX9, 9), (RX10, TX10, 39)]
end
section
/-! ===== the pure machine: worlds, tables, the condition of a stretch ===== -/
/-- a cell's shape: an array of n ints, or an object: its class's number and its fields (none: an int; some none: null; some (some k): cell k) -/
abbrev xS : Type := Nat ⊕ (Nat × List (Option (Option Nat)))
/-- a world: the cells' shapes, and the ints of each cell; the script's ints stand at 1000, its length at 1001 -/
abbrev xW : Type := List xS × (Nat → Nat → Int32)
/-- place in the code, locals, operand stack, world, cells and slots made so far -/
abbrev xC : Type := Nat × List (Option Value) × List Value × xW × Nat × Nat
/-- a row of a table: place, instruction, its length, what it links, its constant -/
abbrev xT : Type := Nat × Instr × Nat × List Nat × Int32
/-- what a call does: answer, world, and what it asks -/
abbrev xSm : Type := List Value → xW → Option (Option Value × xW × Prop)
abbrev xEx : Type := Option Value → xW → Nat → Nat → Prop
/-- what stays through a run: where the first cell lies, classes, the class of int arrays, the texts and their bytes, the script -/
abbrev xG : Type := Nat × va_G × ClassId × (Nat → Nat) × (Nat → Nat) × Nat × Nat × (Nat → Int32)
def x_h (g : xG) : Nat := g.1
def x_D (g : xG) : va_G := g.2.1
def x_cI (g : xG) : ClassId := g.2.2.1
def x_sk (g : xG) : Nat → Nat := g.2.2.2.1
def x_sv (g : xG) : Nat → Nat := g.2.2.2.2.1
def x_b (g : xG) : Nat := g.2.2.2.2.2.1
def x_L (g : xG) : Nat := g.2.2.2.2.2.2.1
def x_xs (g : xG) : Nat → Int32 := g.2.2.2.2.2.2.2
def x_A (g : xG) : Nat → Prop := fun q => x_h g ≤ q
def x_ad (g : xG) (k : Nat) : Nat := if k < 1000 then x_h g + k else if k = 1000 then x_b g else x_sk g (k - 1001)
def x_v (g : xG) (v : Value) : Value := match v with
  | .ref k => .ref (x_ad g k)
  | v => v
def x_fv (x : Int32) (f : Option (Option Nat)) : Value := match f with
  | none => .int x
  | some none => .null
  | some (some r) => .ref r
def x_c (g : xG) (σ : Nat → Nat → Int32) (k : Nat) (sh : xS) : va_E := match sh with
  | .inl n => .inl (x_cI g, n, .inl (σ k))
  | .inr o => .inr (o.1, o.2.mapIdx (fun j f => x_v g (x_fv (σ k j) f)))
def x_cs (g : xG) (w : xW) : va_W := w.1.mapIdx (fun k sh => (x_h g + k, x_c g w.2 k sh))
def x_H (g : xG) (w : xW) (H : Heap) : Prop := H.size = x_h g + w.1.length ∧ w.1.length < 1000 ∧ va_P (x_D g) vwCl (x_cs g w) H ∧ (∀ j, j < x_L g → w.2 1000 j = x_xs g j) ∧ w.2 1001 0 = Int32.ofNat (x_L g)
/-- one int of one cell anew -/
def x_u (σ : Nat → Nat → Int32) (a k : Nat) (x : Int32) : Nat → Nat → Int32 := fun i j => if i = a then (if j = k then x else σ i j) else σ i j
/-- a new cell's ints are 0 -/
def x_z (σ : Nat → Nat → Int32) (a : Nat) : Nat → Nat → Int32 := fun i j => if i = a then 0 else σ i j
theorem x_ad_lt {g : xG} {k : Nat} (h : k < 1000) : x_ad g k = x_h g + k := by rw [x_ad, if_pos h]
theorem x_ad_b {g : xG} : x_ad g 1000 = x_b g := by simp [x_ad]
theorem x_ad_s {g : xG} (i : Nat) : x_ad g (1001 + i) = x_sk g i := by
  rw [x_ad, if_neg (by omega), if_neg (by omega), Nat.add_sub_cancel_left]
theorem x_cs_at {g : xG} {w : xW} {k : Nat} {sh : xS} (h : w.1[k]? = some sh) : (x_cs g w)[k]? = some (x_h g + k, x_c g w.2 k sh) := by
  simp [x_cs, List.getElem?_mapIdx, h]
theorem x_cs_of {g : xG} {w : xW} {k : Nat} {q : Nat × va_E} (h : (x_cs g w)[k]? = some q) : ∃ sh, w.1[k]? = some sh ∧ q = (x_h g + k, x_c g w.2 k sh) := by
  simp only [x_cs, List.getElem?_mapIdx, Option.map_eq_some_iff] at h
  obtain ⟨sh, h1, h2⟩ := h
  exact ⟨sh, h1, h2.symm⟩
theorem x_lt {w : xW} {k : Nat} {sh : xS} (h : w.1[k]? = some sh) : k < w.1.length := (List.getElem?_eq_some_iff.mp h).1
theorem x_D_of {g : xG} {w : xW} : va_D (x_A g) (x_cs g w) := by
  refine ⟨fun i j p q hi hj e => ?_, fun k q hk => ?_⟩
  · obtain ⟨_, _, rfl⟩ := x_cs_of hi
    obtain ⟨_, _, rfl⟩ := x_cs_of hj
    have e : x_h g + i = x_h g + j := e
    omega
  · obtain ⟨_, _, rfl⟩ := x_cs_of hk
    exact Nat.le_add_right _ _
theorem x_cat {g : xG} (v : Value) : (x_v g v).category = v.category := by cases v <;> rfl
theorem x_cats {g : xG} (st : List Value) : ((st.map (x_v g)).map fun v => v.category).sum = (st.map Value.category).sum := by
  induction st with
  | nil => rfl
  | cons v st ih => simp only [List.map_cons, List.sum_cons, x_cat, ih]
/-- the world behind an int's store in an array -/
theorem x_set_a {g : xG} {w : xW} {a n k : Nat} {x : Int32} (h : w.1[a]? = some (.inl n)) : (x_cs g w).set a (x_h g + a, .inl (x_cI g, n, .inl (upd (w.2 a) k x))) = x_cs g (w.1, x_u w.2 a k x) := by
  apply List.ext_getElem?
  intro i
  rw [List.getElem?_set]
  have hl : a < (x_cs g w).length := by simp only [x_cs, List.length_mapIdx]; exact x_lt h
  by_cases hi : a = i
  · subst hi
    rw [if_pos rfl, if_pos hl]
    rw [x_cs_at (w := (w.1, x_u w.2 a k x)) h]
    simp only [x_c]
    congr 6
    funext j
    simp [x_u, upd]
  · rw [if_neg hi]
    simp only [x_cs, List.getElem?_mapIdx]
    congr 1
    funext sh
    have e : x_u w.2 a k x i = w.2 i := by funext j; simp [x_u, Ne.symm hi]
    cases sh <;> simp only [x_c, e]
/-- .. in a field -/
theorem x_set_f {g : xG} {w : xW} {a ci k : Nat} {fs : List (Option (Option Nat))} {x : Int32} (h : w.1[a]? = some (.inr (ci, fs))) (hk : fs[k]? = some none) : (x_cs g w).set a (x_h g + a, .inr (ci, (fs.mapIdx (fun j f => x_v g (x_fv (w.2 a j) f))).set k (.int x))) = x_cs g (w.1, x_u w.2 a k x) := by
  apply List.ext_getElem?
  intro i
  rw [List.getElem?_set]
  have hl : a < (x_cs g w).length := by simp only [x_cs, List.length_mapIdx]; exact x_lt h
  by_cases hi : a = i
  · subst hi
    rw [if_pos rfl, if_pos hl]
    rw [x_cs_at (w := (w.1, x_u w.2 a k x)) h]
    simp only [x_c]
    congr 4
    apply List.ext_getElem?
    intro j
    rw [List.getElem?_set]
    by_cases hj : k = j
    · subst hj
      have hkl : k < fs.length := (List.getElem?_eq_some_iff.mp hk).1
      rw [if_pos rfl, if_pos (by simpa using hkl), List.getElem?_mapIdx, hk]
      simp [x_fv, x_u, x_v]
    · rw [if_neg hj]
      simp only [List.getElem?_mapIdx]
      congr 1
      funext f
      simp [x_u, Ne.symm hj]
  · rw [if_neg hi]
    simp only [x_cs, List.getElem?_mapIdx]
    congr 1
    funext sh
    have e : x_u w.2 a k x i = w.2 i := by funext j; simp [x_u, Ne.symm hi]
    cases sh <;> simp only [x_c, e]
/-- .. of a reference in a field -/
theorem x_set_r {g : xG} {w : xW} {a ci k r : Nat} {fs : List (Option (Option Nat))} {y : Option Nat} (h : w.1[a]? = some (.inr (ci, fs))) (hk : fs[k]? = some (some y)) : (x_cs g w).set a (x_h g + a, .inr (ci, (fs.mapIdx (fun j f => x_v g (x_fv (w.2 a j) f))).set k (x_v g (.ref r)))) = x_cs g (w.1.set a (.inr (ci, fs.set k (some (some r)))), w.2) := by
  apply List.ext_getElem?
  intro i
  rw [List.getElem?_set]
  have hla := x_lt h
  have hl : a < (x_cs g w).length := by simp only [x_cs, List.length_mapIdx]; exact hla
  by_cases hi : a = i
  · subst hi
    rw [if_pos rfl, if_pos hl]
    rw [x_cs_at (w := (w.1.set a (.inr (ci, fs.set k (some (some r)))), w.2)) (sh := .inr (ci, fs.set k (some (some r)))) (by simp [hla])]
    simp only [x_c]
    congr 4
    apply List.ext_getElem?
    intro j
    rw [List.getElem?_set]
    have hkl : k < fs.length := (List.getElem?_eq_some_iff.mp hk).1
    by_cases hj : k = j
    · subst hj
      simp [hkl, List.getElem?_mapIdx, x_fv]
    · rw [if_neg hj]
      simp only [List.getElem?_mapIdx, List.getElem?_set, if_neg hj]
  · rw [if_neg hi]
    simp only [x_cs, List.getElem?_mapIdx, List.getElem?_set, if_neg hi]
/-! ===== methods ===== -/
/-- a method: its name, code, number of locals, answer's type, room -/
abbrev xM : Type := MethodName × ByteArray × Nat × Option FieldType × Room
/-- the words that all methods have: those of the tables that any state of a run keeps -/
def x_tb : List Cond := lw_tbl.filter goodWord
def x_ws (M : xM) : List Cond := .code M.1 M.2.1 M.2.2.1 M.2.2.2.1 :: x_tb
theorem x_tb_of {i : Nat} {w : Cond} (h : (decide (lw_tbl[i]? = some w) && goodWord w) = true) : w ∈ x_tb := by
  simp only [Bool.and_eq_true, decide_eq_true_eq] at h
  exact List.mem_filter.mpr ⟨List.mem_of_getElem? h.1, h.2⟩
def x_wd (i : Nat) (w : Cond) : Bool := decide (lw_tbl[i]? = some w) && goodWord w
theorem x_wd_in {M : xM} {i : Nat} {w : Cond} (h : x_wd i w = true) : w ∈ x_ws M := List.mem_cons_of_mem _ (x_tb_of h)
theorem x_good {M M' : xM} (h : Cond.code M'.1 M'.2.1 M'.2.2.1 M'.2.2.2.1 ∈ x_tb) : GoodIn (x_ws M) (x_ws M') := by
  intro w hw
  have hm : w ∈ x_tb := by
    rcases List.mem_cons.mp hw with rfl | hw
    · exact h
    · exact hw
  exact ⟨List.mem_cons_of_mem _ hm, good_of_word (List.mem_filter.mp hm).2⟩
/-- calls of private methods between the classes -/
def x_nest : List (String × Nat × MethodName × String) := [("SleepingRooms", 9, ⟨"SleepingRooms$Chip", "<init>", "()V"⟩, "SleepingRooms"), ("SleepingRooms", 27, ⟨"SleepingRooms$Course", "<init>", "()V"⟩, "SleepingRooms"), ("SleepingRooms", 34, ⟨"SleepingRooms$Script", "<init>", "()V"⟩, "SleepingRooms"), ("SleepingRooms$Planner", 11, ⟨"SleepingRooms$Script", "<init>", "()V"⟩, "SleepingRooms"), ("SleepingRooms", 68, ⟨"SleepingRooms$Reader", "<init>", "()V"⟩, "SleepingRooms"), ("SleepingRooms$Chip", 43, ⟨"SleepingRooms", "bit", "(I)I"⟩, "SleepingRooms"), ("SleepingRooms$Chip", 50, ⟨"SleepingRooms", "contains", "(II)Z"⟩, "SleepingRooms"), ("SleepingRooms$Nets", 75, ⟨"SleepingRooms", "bit", "(I)I"⟩, "SleepingRooms"), ("SleepingRooms$Course", 46, ⟨"SleepingRooms", "bit", "(I)I"⟩, "SleepingRooms"), ("SleepingRooms$Course", 49, ⟨"SleepingRooms", "contains", "(II)Z"⟩, "SleepingRooms"), ("SleepingRooms$Play", 52, ⟨"SleepingRooms", "bit", "(I)I"⟩, "SleepingRooms"), ("SleepingRooms$Play", 108, ⟨"SleepingRooms", "contains", "(II)Z"⟩, "SleepingRooms"), ("SleepingRooms$Planner", 85, ⟨"SleepingRooms", "contains", "(II)Z"⟩, "SleepingRooms")]
def x_strs : List (String × Nat × String) := [("SleepingRooms$Reader", 42, "room R S"), ("SleepingRooms$Reader", 44, "near R R V"), ("SleepingRooms$Reader", 46, "net R R"), ("SleepingRooms$Reader", 48, "scene L L L L"), ("SleepingRooms$Reader", 50, "guard N V S"), ("SleepingRooms$Reader", 52, "lift N W"), ("SleepingRooms$Reader", 54, "keep R K S"), ("SleepingRooms", 333, "up"), ("SleepingRooms", 335, "down"), ("SleepingRooms", 337, "both"), ("SleepingRooms", 339, "none")]
def x_len : List Nat := [8, 10, 7, 13, 11, 8, 10, 2, 4, 4, 4]
def x_byt : List (List Int32) := [[114, 111, 111, 109, 32, 82, 32, 83], [110, 101, 97, 114, 32, 82, 32, 82, 32, 86], [110, 101, 116, 32, 82, 32, 82], [115, 99, 101, 110, 101, 32, 76, 32, 76, 32, 76, 32, 76], [103, 117, 97, 114, 100, 32, 78, 32, 86, 32, 83], [108, 105, 102, 116, 32, 78, 32, 87], [107, 101, 101, 112, 32, 82, 32, 75, 32, 83], [117, 112], [100, 111, 119, 110], [98, 111, 116, 104], [110, 111, 110, 101]]
/-- what a state of the run keeps: classes, links, texts, script -/
def x_K (g : xG) (U : State) : Prop :=
  va_K (x_D g) vwCl [(x_cI g, .int)] U ∧ (∀ q ∈ x_nest, va_Nw (.methodLinkNest q.1 q.2.1 q.2.2.1 q.2.2.2) U) ∧ (vk_S 11 x_len x_byt (x_sk g) (x_sv g) (x_A g) U U.heap ∧ (∀ i q, x_strs[i]? = some q → vk_R q.1 q.2.1 q.2.2 (x_sk g i) U) ∧ va_Z "java/lang/String" "COMPACT_STRINGS" "Z" (.int 1) (x_A g) U U.heap ∧ va_Zq "jdk/internal/util/Preconditions" "SIOOBE_FORMATTER" "Ljava/util/function/BiFunction;" (x_A g) U U.heap) ∧ va_X (x_b g) (x_L g) (x_xs g) U U.heap ∧ x_b g < x_h g ∧ x_h g ≤ U.heap.size ∧ x_L g ≤ 2560
theorem x_K.to {g : xG} {s U : State} {H : Heap} {locs : List Loc} (h : x_K g s) (hW : s.WarmedH U.vm) (hU : U.heap = H) (hS : va_S (x_A g) s.heap H locs) : x_K g U := by
  obtain ⟨h1, h2, ⟨h3, h4, h5, h6⟩, h7, h8, h9, h10⟩ := h
  subst hU
  have hk : ∀ a : Nat, a < s.heap.size → ¬ x_A g a → U.heap[a]? = s.heap[a]? := hS.2.1
  refine ⟨va_K.moved hW.alike h1, fun q hq => va_Nw.warmM hW (h2 q hq), ⟨(h3.kept hk).moved hW.alike, fun i q hq => (h4 i q hq).warm hW, ?_, ?_⟩, ?_, h8, Nat.le_trans h9 hS.1, h10⟩
  · exact va_Z.moved hW.alike (h5.kept hk)
  · exact va_Zq.moved hW.alike (h6.kept hk)
  · exact (h7.kept (hk _ (Nat.lt_of_lt_of_le h8 h9) (Nat.not_le.mpr h8))).moved hW.alike
theorem x_K.same {g : xG} {s U : State} (h : x_K g s) (hv : U.vm = s.vm) (hh : U.heap = s.heap) : x_K g U := by
  obtain ⟨h1, h2, ⟨h3, h4, h5, h6⟩, h7, h8, h9, h10⟩ := h
  have ha : s.vm.Alike U.vm := by rw [hv]; exact Vm.Alike.refl _
  refine ⟨va_K.moved ha h1, fun q hq => va_Nw.same rfl hv.symm (h2 q hq), ⟨by rw [hh]; exact h3.moved ha, fun i q hq => (h4 i q hq).same hv, ?_, ?_⟩, ?_, h8, by rw [hh]; exact h9, h10⟩
  · rw [hh]; exact va_Z.moved ha h5
  · rw [hh]; exact va_Zq.moved ha h6
  · rw [hh]; exact h7.moved ha
/-- a method's contract: from these arguments and this world it comes to an answer and a world with Q -/
def x_Q (g : xG) (Q : Option Value → xW → Prop) : Array Value → State → Outcome → State → Prop := fun _ st oc t => (∃ (r : Option Value) (w : xW), oc = .returned (r.map (x_v g)) ∧ Q r w ∧ x_H g w t.heap) ∧ va_F (x_A g) st t
def x_Con (M : xM) (args : List Value) (w : xW) (Q : Option Value → xW → Prop) : Prop :=
  ∀ (g : xG) (l : Launch), Met l M.1 (x_ws M) M.2.2.2.2 (va_Pc (args.map (x_v g)) (fun U => x_K g U ∧ x_H g w U.heap)) (x_Q g Q) M.2.2.2.2.cells M.2.2.2.2.slots (x_A g)
/-- the locals -/
def x_lv (g : xG) (ls : Array Slot) (nL : Nat) (lv : List (Option Value)) : Prop := lv.length = nL ∧ ls.size = nL ∧ lv_wf ls ∧ ∀ (i : Nat) (v : Value), lv[i]? = some (some v) → v.category = 1 ∧ ls[i]? = some (.val (x_v g v))
/-- the machine's side of a method that runs -/
def x_X (M : xM) (g : xG) (p : Program) (s : State) (m : MethodId) (args : Array Value) (meth : Method) (c : Code) : Prop :=
  p.tables.exec = Jvm.exec ∧ c.code = M.2.1 ∧ meth.sig.returnType = M.2.2.2.1 ∧ meth.locks = false ∧ c.maxLocals = M.2.2.1 ∧ s.vm.findClass M.1.cls = some m.cls ∧ (∀ w ∈ x_ws M, w.before args s = true) ∧ meth.name = M.1.name ∧ x_K g s
/-- which answers end the method, by which instruction -/
def x_rt (M : xM) (pc : Nat) (v : Option Value) : Prop :=
  (v = none ∧ decode M.2.1 pc = .ok (.return_, 1) ∧ M.2.2.2.1 = none) ∨ (∃ x : Int32, v = some (.int x) ∧ decode M.2.1 pc = .ok (.ireturn, 1) ∧ (M.2.2.2.1 = some .int ∨ M.2.2.2.1 = some .boolean ∧ (x = 0 ∨ x = 1))) ∨ ∃ a : Nat, v = some (.ref a) ∧ decode M.2.1 pc = .ok (.areturn, 1) ∧ ∃ n, M.2.2.2.1 = some (.object n)
def x_end (M : xM) (g : xG) (Ex : xEx) (p : Program) (l : Launch) (e : Env) (s : State) (m : MethodId) (args : Array Value) (below : List Frame) (meth : Method) (c : Code) (Qf : State → Prop) : Prop :=
  ∀ (pc : Nat) (H : Heap) (locs : List Loc) (ls : Array Slot) (v : Option Value) (w : xW) (cs ss : Nat), x_rt M pc v → Ex v w cs ss → x_H g w H → va_S (x_A g) s.heap H locs → W p l e M.2.2.2.2 s m args below meth c H locs cs ss Qf (F0 m pc ls ((v.map (x_v g)).toList))
/-- THE JUDGEMENT: from this place the method ends, with Ex -/
def x_G (M : xM) (Ex : xEx) (c : xC) : Prop :=
  ∀ (g : xG) (p : Program) (l : Launch) (e : Env) (s : State) (m : MethodId) (args : Array Value) (below : List Frame) (meth : Method) (co : Code) (H : Heap) (locs : List Loc) (ls : Array Slot) (Qf : State → Prop),
    x_X M g p s m args meth co → x_end M g Ex p l e s m args below meth co Qf → x_H g c.2.2.2.1 H → va_S (x_A g) s.heap H locs → x_lv g ls M.2.2.1 c.2.1 →
    W p l e M.2.2.2.2 s m args below meth co H locs c.2.2.2.2.1 c.2.2.2.2.2 Qf (F0 m c.1 ls (c.2.2.1.map (x_v g)))
end
section
/-! ===== the condition of a step, and of a stretch ===== -/
def x_look : List xT → Nat → Option xT
  | [], _ => none
  | t :: ts, pc => match Nat.beq t.1 pc with
    | true => some t
    | false => x_look ts pc
def x_sum : List (Nat × xSm) → Nat → Option xSm
  | [], _ => none
  | q :: qs, i => match Nat.beq q.1 i with
    | true => some q.2
    | false => x_sum qs i
/-- a switch over v, v + 1 .. -/
def x_sw (k : Nat → Prop) (d : Nat) : List Nat → Int32 → Int32 → Prop
  | [], _, _ => k d
  | t :: ts, v, x => (x = v → k t) ∧ (¬ x = v → x_sw k d ts (v + 1) x)
/-- a branch -/
def x_br (c : Jvm.ClassFile.Cond) (x y : Int32) (kt kf : Prop) : Prop := match c with
  | .eq => (x = y → kt) ∧ (¬ x = y → kf)
  | .ne => (¬ x = y → kt) ∧ (x = y → kf)
  | .lt => (x < y → kt) ∧ (¬ x < y → kf)
  | .ge => (y ≤ x → kt) ∧ (¬ y ≤ x → kf)
  | .gt => (y < x → kt) ∧ (¬ y < x → kf)
  | .le => (x ≤ y → kt) ∧ (¬ x ≤ y → kf)
/-- a new object's fields, by its class's number -/
def x_new : List (List (Option (Option Nat))) := [[some none, some none, some none, some none, some none, none], [some none, none, none], [some none, some none, some none, none], [some none, some none, some none, some none, some none, some none, none], [some none, some none, some none, some none, none], [some none, some none, some none, none, none, none, none, none, none], [some none, none, none, none], [some none], [some none, some none, some none, none], [some none, some none, some none, some none, some none, some none, some none, some none, some none], [some none, some none, some none, some none, none, some none, none, some none, some none, some none, some none, some none, some none, none, some none, some none, some none, some none, none, none, none, none, none, none, some none, none, some none, some none, some none, some none, none, some none, some none, some none, none, none, some none, some none, none]]
/-- the field of a cell: its value -/
def x_rd (w : xW) (a ci k : Nat) : Option Value := match w.1[a]? with
  | some (.inr o) => match Nat.beq o.1 ci with
    | true => match o.2[k]? with
      | some f => some (x_fv (w.2 a k) f)
      | none => none
    | false => none
  | _ => none
/-- the length of an array -/
def x_al (w : xW) (a : Nat) : Option Nat := match w.1[a]? with
  | some (.inl n) => some n
  | _ => none
/-- a receiver of class ci (99: a text) -/
def x_rc (w : xW) (a ci : Nat) : Bool := match Nat.beq ci 99 with
  | true => Nat.ble 1001 a && Nat.ble a 1011
  | false => match w.1[a]? with
    | some (.inr o) => Nat.beq o.1 ci
    | _ => false
def x_rcv (w : xW) (args : List Value) (ci : Nat) : Bool := match args with
  | .ref a :: _ => x_rc w a ci
  | _ => false
/-- a call by its summary: aux is callee, number of arguments (with the receiver), kind, the receiver's class, cells, slots, words .. -/
def x_call (R : Room) (sums : List (Nat × xSm)) (aux : List Nat) (st : List Value) (w : xW) (cs ss : Nat) (k : List Value → xW → Nat → Nat → Prop) : Prop := match aux with
  | mi :: na :: kd :: ci :: mc :: ms :: _ => match x_sum sums mi with
    | some f => match Nat.ble ((List.map Value.category (st.drop na)).sum) 8 && (Nat.beq (st.take na).length na && (Nat.beq kd 1 || Nat.beq kd 4 || x_rcv w (st.take na).reverse ci)) && (Nat.ble (cs + mc) R.cells && Nat.ble (ss + ms) R.slots) with
      | true => match f (st.take na).reverse w with
        | some r => r.2.2 ∧ k (r.1.toList ++ st.drop na) r.2.1 mc ms
        | none => False
      | false => False
    | none => False
  | _ => False
/-- what a stretch that begins with this instruction asks, if the rest asks k -/
def x_st (R : Room) (sums : List (Nat × xSm)) (Ex : xEx) (t : xT) (c : xC) (k : xC → Prop) : Prop :=
  match t, c with
  | (_, ins, len, aux, cst), (pc, lv, st, w, cs, ss) => match ins with
    | .iconst _ => k (pc + len, lv, .int cst :: st, w, cs, ss)
    | .bipush _ => k (pc + len, lv, .int cst :: st, w, cs, ss)
    | .sipush _ => k (pc + len, lv, .int cst :: st, w, cs, ss)
    | .ldc_w _ => match aux with
      | 0 :: _ => k (pc + len, lv, .int cst :: st, w, cs, ss)
      | 1 :: r :: _ => k (pc + len, lv, .ref r :: st, w, cs, ss)
      | _ => False
    | .ldc _ => k (pc + len, lv, .ref (aux.headD 0) :: st, w, cs, ss)
    | .iload_n i => match lv[(i : Nat)]? with
      | some (some (.int x)) => k (pc + len, lv, .int x :: st, w, cs, ss)
      | _ => False
    | .iload i => match lv[i]? with
      | some (some (.int x)) => k (pc + len, lv, .int x :: st, w, cs, ss)
      | _ => False
    | .aload_n i => match lv[(i : Nat)]? with
      | some (some (.ref x)) => k (pc + len, lv, .ref x :: st, w, cs, ss)
      | _ => False
    | .istore_n i => match st with
      | .int x :: st => k (pc + len, lv.set i (some (.int x)), st, w, cs, ss)
      | _ => False
    | .istore i => match st with
      | .int x :: st => k (pc + len, lv.set i (some (.int x)), st, w, cs, ss)
      | _ => False
    | .astore_n i => match st with
      | .ref x :: st => k (pc + len, lv.set i (some (.ref x)), st, w, cs, ss)
      | _ => False
    | .iinc i _ => match lv[i]? with
      | some (some (.int x)) => k (pc + len, lv.set i (some (.int (x + cst))), st, w, cs, ss)
      | _ => False
    | .iadd => match st with
      | .int y :: .int x :: st => k (pc + len, lv, .int (x + y) :: st, w, cs, ss)
      | _ => False
    | .isub => match st with
      | .int y :: .int x :: st => k (pc + len, lv, .int (x - y) :: st, w, cs, ss)
      | _ => False
    | .imul => match st with
      | .int y :: .int x :: st => k (pc + len, lv, .int (x * y) :: st, w, cs, ss)
      | _ => False
    | .iand => match st with
      | .int y :: .int x :: st => k (pc + len, lv, .int (x &&& y) :: st, w, cs, ss)
      | _ => False
    | .ior => match st with
      | .int y :: .int x :: st => k (pc + len, lv, .int (x ||| y) :: st, w, cs, ss)
      | _ => False
    | .ixor => match st with
      | .int y :: .int x :: st => k (pc + len, lv, .int (x ^^^ y) :: st, w, cs, ss)
      | _ => False
    | .ishl => match st with
      | .int y :: .int x :: st => k (pc + len, lv, .int (x <<< (y &&& 31)) :: st, w, cs, ss)
      | _ => False
    | .ishr => match st with
      | .int y :: .int x :: st => k (pc + len, lv, .int (x >>> (y &&& 31)) :: st, w, cs, ss)
      | _ => False
    | .iushr => match st with
      | .int y :: .int x :: st => k (pc + len, lv, .int ((x.toUInt32 >>> (y.toUInt32 &&& Int32.toUInt32 31)).toInt32) :: st, w, cs, ss)
      | _ => False
    | .dup => match st with
      | .int x :: st => k (pc + len, lv, .int x :: .int x :: st, w, cs, ss)
      | .ref x :: st => k (pc + len, lv, .ref x :: .ref x :: st, w, cs, ss)
      | _ => False
    | .pop => match st with
      | .int _ :: st => k (pc + len, lv, st, w, cs, ss)
      | .ref _ :: st => k (pc + len, lv, st, w, cs, ss)
      | _ => False
    | .goto _ => k (aux.headD 0, lv, st, w, cs, ss)
    | .ifCond c _ => match st with
      | .int x :: st => x_br c x 0 (k (aux.headD 0, lv, st, w, cs, ss)) (k (pc + len, lv, st, w, cs, ss))
      | _ => False
    | .if_icmp c _ => match st with
      | .int y :: .int x :: st => x_br c x y (k (aux.headD 0, lv, st, w, cs, ss)) (k (pc + len, lv, st, w, cs, ss))
      | _ => False
    | .tableswitch _ _ _ _ => match st with
      | .int x :: st => x_sw (fun t => k (t, lv, st, w, cs, ss)) (aux.headD 0) aux.tail cst x
      | _ => False
    | .getfield _ => match st, aux with
      | .ref a :: st, ci :: j :: _ => match x_rd w a ci j with
        | some v => k (pc + len, lv, v :: st, w, cs, ss)
        | none => False
      | _, _ => False
    | .putfield _ => match st, aux with
      | .int x :: .ref a :: st, ci :: j :: _ :: ty :: _ => match x_rd w a ci j with
        | some (.int _) => match ty with
          | 0 => k (pc + len, lv, st, (w.1, x_u w.2 a j x), cs, ss)
          | 1 => (x = 0 ∨ x = 1) ∧ k (pc + len, lv, st, (w.1, x_u w.2 a j x), cs, ss)
          | _ => False
        | _ => False
      | .ref r :: .ref a :: st, ci :: j :: _ :: 2 :: _ => match w.1[a]? with
        | some (.inr o) => match Nat.beq o.1 ci, o.2[j]? with
          | true, some (some _) => k (pc + len, lv, st, (w.1.set a (.inr (o.1, o.2.set j (some (some r)))), w.2), cs, ss)
          | _, _ => False
        | _ => False
      | _, _ => False
    | .iaload => match st with
      | .int i :: .ref a :: st => match Nat.beq a 1000 with
        | true => vp_in i (w.2 1001 0).toNatClampNeg ∧ k (pc + len, lv, .int (w.2 1000 i.toNatClampNeg) :: st, w, cs, ss)
        | false => match x_al w a with
          | some n => vp_in i n ∧ k (pc + len, lv, .int (w.2 a i.toNatClampNeg) :: st, w, cs, ss)
          | none => False
      | _ => False
    | .iastore => match st with
      | .int x :: .int i :: .ref a :: st => match x_al w a with
        | some n => vp_in i n ∧ k (pc + len, lv, st, (w.1, x_u w.2 a i.toNatClampNeg x), cs, ss)
        | none => False
      | _ => False
    | .arraylength => match st with
      | .ref a :: st => match Nat.beq a 1000 with
        | true => k (pc + len, lv, .int (w.2 1001 0) :: st, w, cs, ss)
        | false => match x_al w a with
          | some n => k (pc + len, lv, .int (Int32.ofNat n) :: st, w, cs, ss)
          | none => False
      | _ => False
    | .invokevirtual _ => x_call R sums aux st w cs ss (fun st w mc ms => k (pc + len, lv, st, w, cs + mc, ss + ms))
    | .invokestatic _ => x_call R sums aux st w cs ss (fun st w mc ms => k (pc + len, lv, st, w, cs + mc, ss + ms))
    | .invokespecial _ => match aux with
      | 9999 :: _ => match st with
        | .ref _ :: st => match Nat.ble ((List.map Value.category st).sum) 8 with
          | true => k (pc + len, lv, st, w, cs, ss)
          | false => False
        | _ => False
      | _ => x_call R sums aux st w cs ss (fun st w mc ms => k (pc + len, lv, st, w, cs + mc, ss + ms))
    | .new _ => match aux with
      | ci :: N :: _ => (cs + 1 ≤ R.cells ∧ ss + N ≤ R.slots ∧ w.1.length + 1 < 1000) ∧ k (pc + len, lv, .ref w.1.length :: st, (w.1 ++ [.inr (ci, x_new.getD ci [])], x_z w.2 w.1.length), cs + 1, ss + N)
      | _ => False
    | .newarray _ => match st with
      | .int n :: st => (¬ n < 0 ∧ n.toNatClampNeg ≤ 1000 ∧ cs + 1 ≤ R.cells ∧ ss + n.toNatClampNeg ≤ R.slots ∧ w.1.length + 1 < 1000) ∧ k (pc + len, lv, .ref w.1.length :: st, (w.1 ++ [.inl n.toNatClampNeg], x_z w.2 w.1.length), cs + 1, ss + n.toNatClampNeg)
      | _ => False
    | .ireturn => match st with
      | [.int x] => match aux with
        | [1] => (x = 0 ∨ x = 1) ∧ Ex (some (.int x)) w cs ss
        | _ => Ex (some (.int x)) w cs ss
      | _ => False
    | .areturn => match st with
      | [.ref a] => Ex (some (.ref a)) w cs ss
      | _ => False
    | .return_ => match st with
      | [] => Ex none w cs ss
      | _ => False
    | _ => False
/-- what a stretch of at most n steps asks, up to the places 'cuts', where it asks L -/
def x_wp (R : Room) (sums : List (Nat × xSm)) (tb : List xT) (cuts : List Nat) (L : xC → Prop) (Ex : xEx) : Nat → xC → Prop
  | 0, c => L c
  | n + 1, c => match x_look tb c.1 with
    | some t => x_st R sums Ex t c (fun c' => match cuts.elem c'.1 with
      | true => L c'
      | false => x_wp R sums tb cuts L Ex n c')
    | none => False
end
section
/-! ===== the methods: names, codes, rooms (printed by wip/whole/gen.py) ===== -/
def M_X0_init : xM := (yX0_init, cX0_init, 1, none, { frames := 2, cells := 10, slots := 61, locals := 41 })
def M_X0_reset : xM := (yX0_reset, cX0_reset, 1, none, { frames := 1, cells := 0, slots := 0, locals := 21 })
def M_X0_setNeighbours : xM := (yX0_setNeighbours, cX0_setNeighbours, 6, (some .int), { frames := 2, cells := 0, slots := 0, locals := 41 })
def M_X0_hasScene : xM := (yX0_hasScene, cX0_hasScene, 2, (some .boolean), { frames := 0, cells := 0, slots := 0, locals := 0 })
def M_X0_addScene : xM := (yX0_addScene, cX0_addScene, 6, (some .int), { frames := 1, cells := 0, slots := 0, locals := 22 })
def M_X0_level : xM := (yX0_level, cX0_level, 3, (some .int), { frames := 1, cells := 0, slots := 0, locals := 21 })
def M_X0_roomLevel : xM := (yX0_roomLevel, cX0_roomLevel, 3, (some .int), { frames := 2, cells := 0, slots := 0, locals := 43 })
def M_X0_sceneWith : xM := (yX0_sceneWith, cX0_sceneWith, 6, (some .int), { frames := 2, cells := 0, slots := 0, locals := 43 })
def M_X0_scenesOn : xM := (yX0_scenesOn, cX0_scenesOn, 4, (some .int), { frames := 3, cells := 0, slots := 0, locals := 65 })
def M_X0_scenesOffButKept : xM := (yX0_scenesOffButKept, cX0_scenesOffButKept, 4, (some .int), { frames := 3, cells := 0, slots := 0, locals := 65 })
def M_X0_roomsOnWith : xM := (yX0_roomsOnWith, cX0_roomsOnWith, 5, (some .int), { frames := 4, cells := 0, slots := 0, locals := 88 })
def M_X0_suppliesThatDiffer : xM := (yX0_suppliesThatDiffer, cX0_suppliesThatDiffer, 5, (some .int), { frames := 2, cells := 0, slots := 0, locals := 43 })
def M_X0_scenesOneSupplyFrom : xM := (yX0_scenesOneSupplyFrom, cX0_scenesOneSupplyFrom, 4, (some .int), { frames := 3, cells := 0, slots := 0, locals := 67 })
def M_X1_init_24 : xM := (yX1_init, cX1_init, 2, none, { frames := 2, cells := 2, slots := 25, locals := 41 })
def M_X1_init_40 : xM := (yX1_init, cX1_init, 2, none, { frames := 2, cells := 2, slots := 41, locals := 41 })
def M_X1_add : xM := (yX1_add, cX1_add, 2, (some .boolean), { frames := 1, cells := 0, slots := 0, locals := 22 })
def M_X1_addWord : xM := (yX1_addWord, cX1_addWord, 3, none, { frames := 4, cells := 0, slots := 0, locals := 131 })
def M_X1_clear : xM := (yX1_clear, cX1_clear, 1, none, { frames := 0, cells := 0, slots := 0, locals := 0 })
def M_X1_at : xM := (yX1_at, cX1_at, 2, (some .int), { frames := 1, cells := 0, slots := 0, locals := 21 })
def M_X2_init : xM := (yX2_init, cX2_init, 1, none, { frames := 2, cells := 6, slots := 27, locals := 41 })
def M_X2_seek : xM := (yX2_seek, cX2_seek, 7, none, { frames := 4, cells := 0, slots := 0, locals := 91 })
def M_X2_spread : xM := (yX2_spread, cX2_spread, 7, (some .int), { frames := 3, cells := 0, slots := 0, locals := 65 })
def M_X2_linkedTo : xM := (yX2_linkedTo, cX2_linkedTo, 5, (some .int), { frames := 2, cells := 0, slots := 0, locals := 41 })
def M_X2_lowest : xM := (yX2_lowest, cX2_lowest, 3, (some .int), { frames := 2, cells := 0, slots := 0, locals := 41 })
def M_X2_lengthOrPlace : xM := (yX2_lengthOrPlace, cX2_lengthOrPlace, 2, (some .int), { frames := 1, cells := 0, slots := 0, locals := 21 })
def M_X3_init : xM := (yX3_init, cX3_init, 2, none, { frames := 2, cells := 10, slots := 85, locals := 41 })
def M_X3_add : xM := (yX3_add, cX3_add, 3, (some .int), { frames := 2, cells := 0, slots := 0, locals := 45 })
def M_X3_has : xM := (yX3_has, cX3_has, 2, (some .boolean), { frames := 0, cells := 0, slots := 0, locals := 0 })
def M_X3_isGuarded : xM := (yX3_isGuarded, cX3_isGuarded, 2, (some .boolean), { frames := 1, cells := 0, slots := 0, locals := 21 })
def M_X3_setGuard : xM := (yX3_setGuard, cX3_setGuard, 4, none, { frames := 1, cells := 0, slots := 0, locals := 22 })
def M_X3_faultIn : xM := (yX3_faultIn, cX3_faultIn, 6, (some .int), { frames := 3, cells := 0, slots := 0, locals := 67 })
def M_X3_guardFault : xM := (yX3_guardFault, cX3_guardFault, 5, (some .int), { frames := 2, cells := 0, slots := 0, locals := 43 })
def M_X3_scenesWithFault : xM := (yX3_scenesWithFault, cX3_scenesWithFault, 4, (some .int), { frames := 4, cells := 0, slots := 0, locals := 92 })
def M_X3_needs : xM := (yX3_needs, cX3_needs, 6, (some .int), { frames := 3, cells := 0, slots := 0, locals := 65 })
def M_X3_uselessParts : xM := (yX3_uselessParts, cX3_uselessParts, 3, (some .int), { frames := 4, cells := 0, slots := 0, locals := 90 })
def M_X3_feed : xM := (yX3_feed, cX3_feed, 4, (some .int), { frames := 4, cells := 0, slots := 0, locals := 89 })
def M_X3_feeds : xM := (yX3_feeds, cX3_feeds, 5, (some .boolean), { frames := 3, cells := 0, slots := 0, locals := 65 })
def M_X3_giveNeeds : xM := (yX3_giveNeeds, cX3_giveNeeds, 8, (some .boolean), { frames := 5, cells := 0, slots := 0, locals := 112 })
def M_X4_init : xM := (yX4_init, cX4_init, 4, none, { frames := 3, cells := 7, slots := 127, locals := 61 })
def M_X4_make : xM := (yX4_make, cX4_make, 6, (some .boolean), { frames := 5, cells := 0, slots := 0, locals := 116 })
def M_X4_supplyThatDiffers : xM := (yX4_supplyThatDiffers, cX4_supplyThatDiffers, 4, (some .int), { frames := 2, cells := 0, slots := 0, locals := 43 })
def M_X4_switchOff : xM := (yX4_switchOff, cX4_switchOff, 4, none, { frames := 4, cells := 0, slots := 0, locals := 93 })
def M_X4_switchOn : xM := (yX4_switchOn, cX4_switchOn, 4, none, { frames := 4, cells := 0, slots := 0, locals := 93 })
def M_X4_comesFrom : xM := (yX4_comesFrom, cX4_comesFrom, 3, (some .boolean), { frames := 1, cells := 0, slots := 0, locals := 21 })
def M_X4_take : xM := (yX4_take, cX4_take, 4, none, { frames := 3, cells := 0, slots := 0, locals := 70 })
def M_X5_init : xM := (yX5_init, cX5_init, 3, none, { frames := 2, cells := 2, slots := 5, locals := 41 })
def M_X5_begin : xM := (yX5_begin, cX5_begin, 3, none, { frames := 2, cells := 0, slots := 0, locals := 43 })
def M_X5_follow : xM := (yX5_follow, cX5_follow, 6, none, { frames := 5, cells := 0, slots := 0, locals := 113 })
def M_X5_reasonNotToDo : xM := (yX5_reasonNotToDo, cX5_reasonNotToDo, 4, (some .int), { frames := 4, cells := 0, slots := 0, locals := 90 })
def M_X5_perform : xM := (yX5_perform, cX5_perform, 4, none, { frames := 2, cells := 0, slots := 0, locals := 47 })
def M_X5_setLevel : xM := (yX5_setLevel, cX5_setLevel, 6, none, { frames := 1, cells := 0, slots := 0, locals := 22 })
def M_X5_findNetInDanger : xM := (yX5_findNetInDanger, cX5_findNetInDanger, 3, none, { frames := 3, cells := 0, slots := 0, locals := 66 })
def M_X5_danger : xM := (yX5_danger, cX5_danger, 5, (some .int), { frames := 2, cells := 0, slots := 0, locals := 42 })
def M_X5_isOn : xM := (yX5_isOn, cX5_isOn, 2, (some .boolean), { frames := 1, cells := 0, slots := 0, locals := 21 })
def M_X5_canKeep : xM := (yX5_canKeep, cX5_canKeep, 2, (some .boolean), { frames := 1, cells := 0, slots := 0, locals := 21 })
def M_X5_sceneNow : xM := (yX5_sceneNow, cX5_sceneNow, 1, (some .int), { frames := 4, cells := 0, slots := 0, locals := 90 })
def M_X5_sceneAfter : xM := (yX5_sceneAfter, cX5_sceneAfter, 3, (some .int), { frames := 3, cells := 0, slots := 0, locals := 68 })
def M_X6_init : xM := (yX6_init, cX6_init, 1, none, { frames := 2, cells := 2, slots := 5, locals := 41 })
def M_X6_read : xM := (yX6_read, cX6_read, 3, (some .int), { frames := 5, cells := 0, slots := 0, locals := 159 })
def M_X6_formOf : xM := (yX6_formOf, cX6_formOf, 1, (some (.object "java/lang/String")), { frames := 0, cells := 0, slots := 0, locals := 0 })
def M_X6_topOf : xM := (yX6_topOf, cX6_topOf, 1, (some .int), { frames := 0, cells := 0, slots := 0, locals := 0 })
def M_X6_match : xM := (yX6_match, cX6_match, 9, (some .int), { frames := 4, cells := 0, slots := 0, locals := 131 })
def M_X6_readNumber : xM := (yX6_readNumber, cX6_readNumber, 6, (some .int), { frames := 2, cells := 0, slots := 0, locals := 42 })
def M_X6_digit : xM := (yX6_digit, cX6_digit, 1, (some .int), { frames := 0, cells := 0, slots := 0, locals := 0 })
def M_X7_init_4 : xM := (yX7_init, cX7_init, 2, none, { frames := 1, cells := 1, slots := 4, locals := 20 })
def M_X7_init_6 : xM := (yX7_init, cX7_init, 2, none, { frames := 1, cells := 1, slots := 6, locals := 20 })
def M_X7_init_8 : xM := (yX7_init, cX7_init, 2, none, { frames := 1, cells := 1, slots := 8, locals := 20 })
def M_X7_init_16 : xM := (yX7_init, cX7_init, 2, none, { frames := 1, cells := 1, slots := 16, locals := 20 })
def M_X7_init_24 : xM := (yX7_init, cX7_init, 2, none, { frames := 1, cells := 1, slots := 24, locals := 20 })
def M_X7_init_32 : xM := (yX7_init, cX7_init, 2, none, { frames := 1, cells := 1, slots := 32, locals := 20 })
def M_X7_init_40 : xM := (yX7_init, cX7_init, 2, none, { frames := 1, cells := 1, slots := 40, locals := 20 })
def M_X7_at : xM := (yX7_at, cX7_at, 2, (some .int), { frames := 0, cells := 0, slots := 0, locals := 0 })
def M_X7_put : xM := (yX7_put, cX7_put, 3, none, { frames := 0, cells := 0, slots := 0, locals := 0 })
def M_X7_exchange : xM := (yX7_exchange, cX7_exchange, 4, (some .int), { frames := 1, cells := 0, slots := 0, locals := 22 })
def M_X7_clear : xM := (yX7_clear, cX7_clear, 2, none, { frames := 0, cells := 0, slots := 0, locals := 0 })
def M_X8_init : xM := (yX8_init, cX8_init, 1, none, { frames := 2, cells := 6, slots := 123, locals := 41 })
def M_X8_add : xM := (yX8_add, cX8_add, 4, (some .boolean), { frames := 1, cells := 0, slots := 0, locals := 22 })
def M_X8_clear : xM := (yX8_clear, cX8_clear, 1, none, { frames := 0, cells := 0, slots := 0, locals := 0 })
def M_X8_copy : xM := (yX8_copy, cX8_copy, 3, none, { frames := 2, cells := 0, slots := 0, locals := 45 })
def M_X9_init : xM := (yX9_init, cX9_init, 1, none, { frames := 4, cells := 56, slots := 544, locals := 84 })
def M_X9_room : xM := (yX9_room, cX9_room, 3, (some .int), { frames := 2, cells := 0, slots := 0, locals := 45 })
def M_X9_near : xM := (yX9_near, cX9_near, 4, (some .int), { frames := 3, cells := 0, slots := 0, locals := 66 })
def M_X9_net : xM := (yX9_net, cX9_net, 3, (some .int), { frames := 3, cells := 0, slots := 0, locals := 67 })
def M_X9_scene : xM := (yX9_scene, cX9_scene, 5, (some .int), { frames := 3, cells := 0, slots := 0, locals := 68 })
def M_X9_guard : xM := (yX9_guard, cX9_guard, 4, (some .int), { frames := 2, cells := 0, slots := 0, locals := 45 })
def M_X9_open : xM := (yX9_open, cX9_open, 3, (some .int), { frames := 2, cells := 0, slots := 0, locals := 45 })
def M_X9_lift : xM := (yX9_lift, cX9_lift, 3, (some .int), { frames := 2, cells := 0, slots := 0, locals := 45 })
def M_X9_keep : xM := (yX9_keep, cX9_keep, 4, (some .int), { frames := 2, cells := 0, slots := 0, locals := 45 })
def M_X9_anew : xM := (yX9_anew, cX9_anew, 2, (some .int), { frames := 2, cells := 0, slots := 0, locals := 41 })
def M_X9_ofRoom : xM := (yX9_ofRoom, cX9_ofRoom, 3, (some .int), { frames := 4, cells := 0, slots := 0, locals := 88 })
def M_X9_levelIn : xM := (yX9_levelIn, cX9_levelIn, 3, (some .int), { frames := 2, cells := 0, slots := 0, locals := 43 })
def M_X9_ofNet : xM := (yX9_ofNet, cX9_ofNet, 3, (some .int), { frames := 5, cells := 0, slots := 0, locals := 115 })
def M_X9_fault : xM := (yX9_fault, cX9_fault, 3, (some .int), { frames := 4, cells := 0, slots := 0, locals := 92 })
def M_X9_faults : xM := (yX9_faults, cX9_faults, 5, (some .int), { frames := 4, cells := 0, slots := 0, locals := 92 })
def M_X9_mend : xM := (yX9_mend, cX9_mend, 3, (some .int), { frames := 6, cells := 0, slots := 0, locals := 139 })
def M_X9_way : xM := (yX9_way, cX9_way, 6, (some .int), { frames := 5, cells := 0, slots := 0, locals := 117 })
def M_X9_step : xM := (yX9_step, cX9_step, 4, (some .int), { frames := 3, cells := 0, slots := 0, locals := 63 })
def M_X9_wipe : xM := (yX9_wipe, cX9_wipe, 2, (some .int), { frames := 1, cells := 0, slots := 0, locals := 20 })
def M_X9_stepAt : xM := (yX9_stepAt, cX9_stepAt, 3, (some .int), { frames := 1, cells := 0, slots := 0, locals := 21 })
def M_X9_judge : xM := (yX9_judge, cX9_judge, 3, (some .int), { frames := 6, cells := 0, slots := 0, locals := 138 })
def M_X9_stride : xM := (yX9_stride, cX9_stride, 4, (some .int), { frames := 6, cells := 0, slots := 0, locals := 140 })
def M_X9_plan : xM := (yX9_plan, cX9_plan, 3, (some .int), { frames := 6, cells := 0, slots := 0, locals := 141 })
def M_X9_key : xM := (yX9_key, cX9_key, 2, (some .int), { frames := 2, cells := 0, slots := 0, locals := 43 })
def M_X9_blank : xM := (yX9_blank, cX9_blank, 2, (some .int), { frames := 1, cells := 0, slots := 0, locals := 20 })
def M_X9_line : xM := (yX9_line, cX9_line, 2, (some .int), { frames := 6, cells := 0, slots := 0, locals := 181 })
def M_X9_text : xM := (yX9_text, cX9_text, 3, (some .int), { frames := 6, cells := 0, slots := 0, locals := 175 })
def M_X9_many : xM := (yX9_many, cX9_many, 2, (some .int), { frames := 6, cells := 0, slots := 0, locals := 139 })
def M_X9_within : xM := (yX9_within, cX9_within, 2, (some .boolean), { frames := 0, cells := 0, slots := 0, locals := 0 })
def M_X9_isRoom : xM := (yX9_isRoom, cX9_isRoom, 1, (some .boolean), { frames := 1, cells := 0, slots := 0, locals := 21 })
def M_X9_isSupply : xM := (yX9_isSupply, cX9_isSupply, 1, (some .boolean), { frames := 1, cells := 0, slots := 0, locals := 21 })
def M_X9_isLevel : xM := (yX9_isLevel, cX9_isLevel, 1, (some .boolean), { frames := 1, cells := 0, slots := 0, locals := 21 })
def M_X9_isStep : xM := (yX9_isStep, cX9_isStep, 3, (some .boolean), { frames := 2, cells := 0, slots := 0, locals := 41 })
def M_X9_bit : xM := (yX9_bit, cX9_bit, 1, (some .int), { frames := 0, cells := 0, slots := 0, locals := 0 })
def M_X9_contains : xM := (yX9_contains, cX9_contains, 2, (some .boolean), { frames := 1, cells := 0, slots := 0, locals := 20 })
def M_X9_countNets : xM := (yX9_countNets, cX9_countNets, 5, (some .int), { frames := 5, cells := 0, slots := 0, locals := 115 })
def M_X9_seekStrides : xM := (yX9_seekStrides, cX9_seekStrides, 4, none, { frames := 5, cells := 0, slots := 0, locals := 117 })
def M_X9_carryOut : xM := (yX9_carryOut, cX9_carryOut, 6, (some .int), { frames := 4, cells := 0, slots := 0, locals := 92 })
def M_X9_writeLabel : xM := (yX9_writeLabel, cX9_writeLabel, 3, none, { frames := 5, cells := 0, slots := 0, locals := 153 })
def M_X9_liftWord : xM := (yX9_liftWord, cX9_liftWord, 1, (some (.object "java/lang/String")), { frames := 0, cells := 0, slots := 0, locals := 0 })
def M_X10_init : xM := (yX10_init, cX10_init, 1, none, { frames := 1, cells := 25, slots := 1012, locals := 21 })
def M_X10_within : xM := (yX10_within, cX10_within, 3, (some .boolean), { frames := 0, cells := 0, slots := 0, locals := 0 })
def M_X10_isIn : xM := (yX10_isIn, cX10_isIn, 2, (some .boolean), { frames := 0, cells := 0, slots := 0, locals := 0 })
def M_X10_isRoom : xM := (yX10_isRoom, cX10_isRoom, 1, (some .boolean), { frames := 1, cells := 0, slots := 0, locals := 22 })
def M_X10_isSupply : xM := (yX10_isSupply, cX10_isSupply, 1, (some .boolean), { frames := 1, cells := 0, slots := 0, locals := 22 })
def M_X10_noGuards : xM := (yX10_noGuards, cX10_noGuards, 2, none, { frames := 0, cells := 0, slots := 0, locals := 0 })
def M_X10_isScene : xM := (yX10_isScene, cX10_isScene, 2, (some .boolean), { frames := 1, cells := 0, slots := 0, locals := 22 })
def M_X10_isNet : xM := (yX10_isNet, cX10_isNet, 2, (some .boolean), { frames := 1, cells := 0, slots := 0, locals := 22 })
def M_X10_level : xM := (yX10_level, cX10_level, 3, (some .int), { frames := 0, cells := 0, slots := 0, locals := 0 })
def M_X10_levelOfRoom : xM := (yX10_levelOfRoom, cX10_levelOfRoom, 3, (some .int), { frames := 1, cells := 0, slots := 0, locals := 22 })
def M_X10_room : xM := (yX10_room, cX10_room, 4, (some .int), { frames := 2, cells := 0, slots := 0, locals := 42 })
def M_X10_near : xM := (yX10_near, cX10_near, 5, (some .int), { frames := 2, cells := 0, slots := 0, locals := 42 })
def M_X10_net : xM := (yX10_net, cX10_net, 3, (some .int), { frames := 2, cells := 0, slots := 0, locals := 42 })
def M_X10_sceneWith : xM := (yX10_sceneWith, cX10_sceneWith, 6, (some .int), { frames := 1, cells := 0, slots := 0, locals := 22 })
def M_X10_isLevel : xM := (yX10_isLevel, cX10_isLevel, 1, (some .boolean), { frames := 1, cells := 0, slots := 0, locals := 22 })
def M_X10_scene : xM := (yX10_scene, cX10_scene, 5, (some .int), { frames := 2, cells := 0, slots := 0, locals := 47 })
def M_X10_guard : xM := (yX10_guard, cX10_guard, 4, (some .int), { frames := 2, cells := 0, slots := 0, locals := 43 })
def M_X10_hasGuard : xM := (yX10_hasGuard, cX10_hasGuard, 2, (some .boolean), { frames := 0, cells := 0, slots := 0, locals := 0 })
def M_X10_open : xM := (yX10_open, cX10_open, 3, (some .int), { frames := 2, cells := 0, slots := 0, locals := 43 })
def M_X10_lift : xM := (yX10_lift, cX10_lift, 4, (some .int), { frames := 2, cells := 0, slots := 0, locals := 43 })
def M_X10_keep : xM := (yX10_keep, cX10_keep, 5, (some .int), { frames := 2, cells := 0, slots := 0, locals := 42 })
def M_X10_anew : xM := (yX10_anew, cX10_anew, 3, (some .int), { frames := 1, cells := 0, slots := 0, locals := 21 })
def M_X10_scenesOf : xM := (yX10_scenesOf, cX10_scenesOf, 6, (some .int), { frames := 2, cells := 0, slots := 0, locals := 44 })
def M_X10_ofRoom : xM := (yX10_ofRoom, cX10_ofRoom, 3, (some .int), { frames := 3, cells := 0, slots := 0, locals := 69 })
def M_X10_levelIn : xM := (yX10_levelIn, cX10_levelIn, 3, (some .int), { frames := 2, cells := 0, slots := 0, locals := 43 })
def M_X10_faultOf : xM := (yX10_faultOf, cX10_faultOf, 6, (some .int), { frames := 2, cells := 0, slots := 0, locals := 44 })
def M_X10_fault : xM := (yX10_fault, cX10_fault, 3, (some .int), { frames := 3, cells := 0, slots := 0, locals := 69 })
def M_X10_faults : xM := (yX10_faults, cX10_faults, 5, (some .int), { frames := 3, cells := 0, slots := 0, locals := 69 })
def M_X10_needs : xM := (yX10_needs, cX10_needs, 6, (some .int), { frames := 2, cells := 0, slots := 0, locals := 44 })
def M_X10_feedOf : xM := (yX10_feedOf, cX10_feedOf, 6, (some .int), { frames := 2, cells := 0, slots := 0, locals := 44 })
def M_X10_idle : xM := (yX10_idle, cX10_idle, 4, (some .int), { frames := 3, cells := 0, slots := 0, locals := 69 })
def M_X10_faultySet : xM := (yX10_faultySet, cX10_faultySet, 4, (some .int), { frames := 3, cells := 0, slots := 0, locals := 69 })
def M_X10_ofNet : xM := (yX10_ofNet, cX10_ofNet, 3, (some .int), { frames := 4, cells := 0, slots := 0, locals := 92 })
def M_X10_mends : xM := (yX10_mends, cX10_mends, 6, (some .boolean), { frames := 3, cells := 0, slots := 0, locals := 69 })
def M_X10_mend : xM := (yX10_mend, cX10_mend, 3, (some .int), { frames := 4, cells := 0, slots := 0, locals := 94 })
def M_X10_mayBeBetween : xM := (yX10_mayBeBetween, cX10_mayBeBetween, 3, (some .boolean), { frames := 3, cells := 0, slots := 0, locals := 69 })
def M_X10_findFar : xM := (yX10_findFar, cX10_findFar, 8, none, { frames := 4, cells := 0, slots := 0, locals := 91 })
def M_X10_way : xM := (yX10_way, cX10_way, 7, (some .int), { frames := 5, cells := 0, slots := 0, locals := 118 })
def M_X10_step : xM := (yX10_step, cX10_step, 5, (some .int), { frames := 2, cells := 0, slots := 0, locals := 42 })
def M_X10_wipe : xM := (yX10_wipe, cX10_wipe, 2, (some .int), { frames := 0, cells := 0, slots := 0, locals := 0 })
def M_X10_stepAt : xM := (yX10_stepAt, cX10_stepAt, 3, (some .int), { frames := 1, cells := 0, slots := 0, locals := 22 })
def M_X10_isOnNow : xM := (yX10_isOnNow, cX10_isOnNow, 2, (some .boolean), { frames := 0, cells := 0, slots := 0, locals := 0 })
def M_X10_starts : xM := (yX10_starts, cX10_starts, 3, none, { frames := 1, cells := 0, slots := 0, locals := 22 })
def M_X10_sceneNow : xM := (yX10_sceneNow, cX10_sceneNow, 1, (some .int), { frames := 2, cells := 0, slots := 0, locals := 47 })
def M_X10_against : xM := (yX10_against, cX10_against, 4, (some .int), { frames := 4, cells := 0, slots := 0, locals := 91 })
def M_X10_againstPower : xM := (yX10_againstPower, cX10_againstPower, 5, (some .int), { frames := 3, cells := 0, slots := 0, locals := 67 })
def M_X10_does : xM := (yX10_does, cX10_does, 4, none, { frames := 1, cells := 0, slots := 0, locals := 24 })
def M_X10_powers : xM := (yX10_powers, cX10_powers, 5, none, { frames := 0, cells := 0, slots := 0, locals := 0 })
def M_X10_badNet : xM := (yX10_badNet, cX10_badNet, 6, (some .int), { frames := 1, cells := 0, slots := 0, locals := 21 })
def M_X10_judges : xM := (yX10_judges, cX10_judges, 5, none, { frames := 5, cells := 0, slots := 0, locals := 114 })
def M_X10_judge : xM := (yX10_judge, cX10_judge, 3, (some .int), { frames := 6, cells := 0, slots := 0, locals := 138 })
def M_X10_oneApart : xM := (yX10_oneApart, cX10_oneApart, 6, (some .int), { frames := 1, cells := 0, slots := 0, locals := 22 })
def M_X10_findStrides : xM := (yX10_findStrides, cX10_findStrides, 6, none, { frames := 2, cells := 0, slots := 0, locals := 47 })
def M_X10_strideBehind : xM := (yX10_strideBehind, cX10_strideBehind, 3, (some .int), { frames := 2, cells := 0, slots := 0, locals := 47 })
def M_X10_stride : xM := (yX10_stride, cX10_stride, 6, (some .int), { frames := 3, cells := 0, slots := 0, locals := 72 })
def M_X10_plans : xM := (yX10_plans, cX10_plans, 4, none, { frames := 2, cells := 0, slots := 0, locals := 47 })
def M_X10_goesOff : xM := (yX10_goesOff, cX10_goesOff, 4, none, { frames := 3, cells := 0, slots := 0, locals := 70 })
def M_X10_goesOn : xM := (yX10_goesOn, cX10_goesOn, 4, none, { frames := 3, cells := 0, slots := 0, locals := 70 })
def M_X10_plan : xM := (yX10_plan, cX10_plan, 6, (some .int), { frames := 4, cells := 0, slots := 0, locals := 93 })
def M_X10_key : xM := (yX10_key, cX10_key, 2, (some .int), { frames := 1, cells := 0, slots := 0, locals := 22 })
def M_X10_blank : xM := (yX10_blank, cX10_blank, 2, (some .int), { frames := 0, cells := 0, slots := 0, locals := 0 })
def M_X10_wordLong : xM := (yX10_wordLong, cX10_wordLong, 1, (some .int), { frames := 0, cells := 0, slots := 0, locals := 0 })
def M_X10_mayBe : xM := (yX10_mayBe, cX10_mayBe, 3, (some .boolean), { frames := 1, cells := 0, slots := 0, locals := 20 })
def M_X10_readsWord : xM := (yX10_readsWord, cX10_readsWord, 4, (some .boolean), { frames := 2, cells := 0, slots := 0, locals := 42 })
def M_X10_readsNumber : xM := (yX10_readsNumber, cX10_readsNumber, 4, (some .boolean), { frames := 1, cells := 0, slots := 0, locals := 22 })
def M_X10_readsLine : xM := (yX10_readsLine, cX10_readsLine, 2, (some .boolean), { frames := 3, cells := 0, slots := 0, locals := 65 })
def M_X10_doesLine : xM := (yX10_doesLine, cX10_doesLine, 3, (some .int), { frames := 3, cells := 0, slots := 0, locals := 71 })
def M_X10_line : xM := (yX10_line, cX10_line, 1, (some .int), { frames := 4, cells := 0, slots := 0, locals := 93 })
def M_X10_writes : xM := (yX10_writes, cX10_writes, 2, none, { frames := 0, cells := 0, slots := 0, locals := 0 })
def M_X10_writesLift : xM := (yX10_writesLift, cX10_writesLift, 2, none, { frames := 1, cells := 0, slots := 0, locals := 21 })
def M_X10_writesNet : xM := (yX10_writesNet, cX10_writesNet, 3, none, { frames := 3, cells := 0, slots := 0, locals := 69 })
def M_X10_text : xM := (yX10_text, cX10_text, 3, (some .int), { frames := 4, cells := 0, slots := 0, locals := 91 })
def M_X10_many : xM := (yX10_many, cX10_many, 6, (some .int), { frames := 4, cells := 0, slots := 0, locals := 92 })
def M_J6_bitCount_0f7a4 : xM := (yJ6_bitCount_0f7a4, cJ6_bitCount_0f7a4, 1, (some .int), { frames := 0, cells := 0, slots := 0, locals := 0 })
def M_J9_max_7cf53 : xM := (yJ9_max_7cf53, cJ9_max_7cf53, 2, (some .int), { frames := 0, cells := 0, slots := 0, locals := 0 })
def M_J0_length_8abf5 : xM := (yJ0_length_8abf5, cJ0_length_8abf5, 1, (some .int), { frames := 3, cells := 0, slots := 0, locals := 110 })
def M_J0_charAt_5068e : xM := (yJ0_charAt_5068e, cJ0_charAt_5068e, 2, (some .char), { frames := 3, cells := 0, slots := 0, locals := 110 })
def M_L_law : xM := (yL_law, cL_law, 4, (some .boolean), { frames := 10, cells := 83, slots := 1132, locals := 354 })
def x_mt : List xM := [M_X0_init, M_X0_reset, M_X0_setNeighbours, M_X0_hasScene, M_X0_addScene, M_X0_level, M_X0_roomLevel, M_X0_sceneWith, M_X0_scenesOn, M_X0_scenesOffButKept, M_X0_roomsOnWith, M_X0_suppliesThatDiffer, M_X0_scenesOneSupplyFrom, M_X1_init_24, M_X1_init_40, M_X1_add, M_X1_addWord, M_X1_clear, M_X1_at, M_X2_init, M_X2_seek, M_X2_spread, M_X2_linkedTo, M_X2_lowest, M_X2_lengthOrPlace, M_X3_init, M_X3_add, M_X3_has, M_X3_isGuarded, M_X3_setGuard, M_X3_faultIn, M_X3_guardFault, M_X3_scenesWithFault, M_X3_needs, M_X3_uselessParts, M_X3_feed, M_X3_feeds, M_X3_giveNeeds, M_X4_init, M_X4_make, M_X4_supplyThatDiffers, M_X4_switchOff, M_X4_switchOn, M_X4_comesFrom, M_X4_take, M_X5_init, M_X5_begin, M_X5_follow, M_X5_reasonNotToDo, M_X5_perform, M_X5_setLevel, M_X5_findNetInDanger, M_X5_danger, M_X5_isOn, M_X5_canKeep, M_X5_sceneNow, M_X5_sceneAfter, M_X6_init, M_X6_read, M_X6_formOf, M_X6_topOf, M_X6_match, M_X6_readNumber, M_X6_digit, M_X7_init_4, M_X7_init_6, M_X7_init_8, M_X7_init_16, M_X7_init_24, M_X7_init_32, M_X7_init_40, M_X7_at, M_X7_put, M_X7_exchange, M_X7_clear, M_X8_init, M_X8_add, M_X8_clear, M_X8_copy, M_X9_init, M_X9_room, M_X9_near, M_X9_net, M_X9_scene, M_X9_guard, M_X9_open, M_X9_lift, M_X9_keep, M_X9_anew, M_X9_ofRoom, M_X9_levelIn, M_X9_ofNet, M_X9_fault, M_X9_faults, M_X9_mend, M_X9_way, M_X9_step, M_X9_wipe, M_X9_stepAt, M_X9_judge, M_X9_stride, M_X9_plan, M_X9_key, M_X9_blank, M_X9_line, M_X9_text, M_X9_many, M_X9_within, M_X9_isRoom, M_X9_isSupply, M_X9_isLevel, M_X9_isStep, M_X9_bit, M_X9_contains, M_X9_countNets, M_X9_seekStrides, M_X9_carryOut, M_X9_writeLabel, M_X9_liftWord, M_X10_init, M_X10_within, M_X10_isIn, M_X10_isRoom, M_X10_isSupply, M_X10_noGuards, M_X10_isScene, M_X10_isNet, M_X10_level, M_X10_levelOfRoom, M_X10_room, M_X10_near, M_X10_net, M_X10_sceneWith, M_X10_isLevel, M_X10_scene, M_X10_guard, M_X10_hasGuard, M_X10_open, M_X10_lift, M_X10_keep, M_X10_anew, M_X10_scenesOf, M_X10_ofRoom, M_X10_levelIn, M_X10_faultOf, M_X10_fault, M_X10_faults, M_X10_needs, M_X10_feedOf, M_X10_idle, M_X10_faultySet, M_X10_ofNet, M_X10_mends, M_X10_mend, M_X10_mayBeBetween, M_X10_findFar, M_X10_way, M_X10_step, M_X10_wipe, M_X10_stepAt, M_X10_isOnNow, M_X10_starts, M_X10_sceneNow, M_X10_against, M_X10_againstPower, M_X10_does, M_X10_powers, M_X10_badNet, M_X10_judges, M_X10_judge, M_X10_oneApart, M_X10_findStrides, M_X10_strideBehind, M_X10_stride, M_X10_plans, M_X10_goesOff, M_X10_goesOn, M_X10_plan, M_X10_key, M_X10_blank, M_X10_wordLong, M_X10_mayBe, M_X10_readsWord, M_X10_readsNumber, M_X10_readsLine, M_X10_doesLine, M_X10_line, M_X10_writes, M_X10_writesLift, M_X10_writesNet, M_X10_text, M_X10_many, M_J6_bitCount_0f7a4, M_J9_max_7cf53, M_J0_length_8abf5, M_J0_charAt_5068e, M_L_law]
def x_m (i : Nat) : xM := x_mt.getD i M_X7_at
end
section
/-! ===== each instruction's rule ===== -/
theorem x_G_of {M : xM} {Ex : xEx} {pc pc' : Nat} {lv : List (Option Value)} {st st' : List Value} {w : xW} {cs ss : Nat}
    (h : ∀ (g : xG) (p : Program) (l : Launch) (e : Env) (s : State) (m : MethodId) (args : Array Value) (below : List Frame) (meth : Method) (co : Code) (H : Heap) (locs : List Loc) (ls : Array Slot) (Qf : State → Prop), x_X M g p s m args meth co → x_H g w H → va_S (x_A g) s.heap H locs → x_lv g ls M.2.2.1 lv →
      W p l e M.2.2.2.2 s m args below meth co H locs cs ss Qf (F0 m pc' ls (st'.map (x_v g))) → W p l e M.2.2.2.2 s m args below meth co H locs cs ss Qf (F0 m pc ls (st.map (x_v g))))
    (k : x_G M Ex (pc', lv, st', w, cs, ss)) : x_G M Ex (pc, lv, st, w, cs, ss) :=
  fun g p l e s m args below meth co H locs ls Qf X E hH hS hL => h g p l e s m args below meth co H locs ls Qf X hH hS hL (k g p l e s m args below meth co H locs ls Qf X E hH hS hL)
/-- .. of two ways on -/
theorem x_G_of2 {M : xM} {Ex : xEx} {pc pc' pc2 : Nat} {lv : List (Option Value)} {st st' : List Value} {w : xW} {cs ss : Nat} {a b : Prop}
    (h : ∀ (g : xG) (p : Program) (l : Launch) (e : Env) (s : State) (m : MethodId) (args : Array Value) (below : List Frame) (meth : Method) (co : Code) (H : Heap) (locs : List Loc) (ls : Array Slot) (Qf : State → Prop), x_X M g p s m args meth co →
      (a → W p l e M.2.2.2.2 s m args below meth co H locs cs ss Qf (F0 m pc' ls (st'.map (x_v g)))) → (b → W p l e M.2.2.2.2 s m args below meth co H locs cs ss Qf (F0 m pc2 ls (st'.map (x_v g)))) → W p l e M.2.2.2.2 s m args below meth co H locs cs ss Qf (F0 m pc ls (st.map (x_v g))))
    (k1 : a → x_G M Ex (pc', lv, st', w, cs, ss)) (k2 : b → x_G M Ex (pc2, lv, st', w, cs, ss)) : x_G M Ex (pc, lv, st, w, cs, ss) :=
  fun g p l e s m args below meth co H locs ls Qf X E hH hS hL => h g p l e s m args below meth co H locs ls Qf X (fun z => k1 z g p l e s m args below meth co H locs ls Qf X E hH hS hL) (fun z => k2 z g p l e s m args below meth co H locs ls Qf X E hH hS hL)
/-- .. where the locals change -/
theorem x_G_lv {M : xM} {Ex : xEx} {pc pc' : Nat} {lv lv' : List (Option Value)} {st st' : List Value} {w : xW} {cs ss : Nat}
    (h : ∀ (g : xG) (p : Program) (l : Launch) (e : Env) (s : State) (m : MethodId) (args : Array Value) (below : List Frame) (meth : Method) (co : Code) (H : Heap) (locs : List Loc) (ls : Array Slot) (Qf : State → Prop), x_X M g p s m args meth co → x_lv g ls M.2.2.1 lv →
      (∀ ls' : Array Slot, x_lv g ls' M.2.2.1 lv' → W p l e M.2.2.2.2 s m args below meth co H locs cs ss Qf (F0 m pc' ls' (st'.map (x_v g)))) → W p l e M.2.2.2.2 s m args below meth co H locs cs ss Qf (F0 m pc ls (st.map (x_v g))))
    (k : x_G M Ex (pc', lv', st', w, cs, ss)) : x_G M Ex (pc, lv, st, w, cs, ss) :=
  fun g p l e s m args below meth co H locs ls Qf X E hH hS hL => h g p l e s m args below meth co H locs ls Qf X hL (fun ls' hL' => k g p l e s m args below meth co H locs ls' Qf X E hH hS hL')
def x_ll (g : xG) (lv : List (Option Value)) : List (Nat × Value) := lv.zipIdx.filterMap (fun q => q.1.map (fun v => (q.2, x_v g v)))
theorem x_ll_mem {g : xG} {lv : List (Option Value)} {q : Nat × Value} : q ∈ x_ll g lv ↔ ∃ v, lv[q.1]? = some (some v) ∧ q.2 = x_v g v := by
  simp only [x_ll, List.mem_filterMap, List.mem_zipIdx_iff_getElem?, Option.map_eq_some_iff, Prod.exists]
  constructor
  · rintro ⟨a, b, h1, v, rfl, rfl⟩
    exact ⟨v, h1, rfl⟩
  · rintro ⟨v, h1, h2⟩
    exact ⟨some v, q.1, h1, v, rfl, by rw [← h2]⟩
theorem x_lv_has {g : xG} {ls : Array Slot} {nL : Nat} {lv : List (Option Value)} (h : x_lv g ls nL lv) : lv_has ls nL (x_ll g lv) := by
  refine ⟨h.2.1, h.2.2.1, fun q hq => ?_⟩
  obtain ⟨v, h1, h2⟩ := x_ll_mem.mp hq
  rw [h2]
  exact (h.2.2.2 q.1 v h1).2
theorem x_lv_back {g : xG} {ls ls' : Array Slot} {nL i : Nat} {lv : List (Option Value)} {v : Value} (h : x_lv g ls nL lv) (hc : v.category = 1)
    (h' : lv_has ls' nL ((i, x_v g v) :: (x_ll g lv).filter (fun q => !(q.1 == i) && !(q.1 + 1 == i && q.2.category == 2)))) : x_lv g ls' nL (lv.set i (some v)) := by
  refine ⟨by rw [List.length_set]; exact h.1, h'.1, h'.2.1, fun j u hj => ?_⟩
  rw [List.getElem?_set] at hj
  by_cases hij : i = j
  · subst hij
    rw [if_pos rfl] at hj
    split at hj
    · cases hj
      exact ⟨hc, h'.2.2 (i, x_v g v) List.mem_cons_self⟩
    · cases hj
  · rw [if_neg hij] at hj
    have hu := h.2.2.2 j u hj
    refine ⟨hu.1, h'.2.2 (j, x_v g u) (List.mem_cons_of_mem _ (List.mem_filter.mpr ⟨x_ll_mem.mpr ⟨u, hj, rfl⟩, ?_⟩))⟩
    have e1 : (j == i) = false := by simpa using Ne.symm hij
    have e2 : ((x_v g u).category == 2) = false := by rw [x_cat, hu.1]; rfl
    simp [e1, e2]
/-- a call -/
theorem x_run {p : Program} {l : Launch} {e : Env} {R : Room} {s : State} {m : MethodId} {args a : Array Value} {below : List Frame} {meth : Method} {c : Code} {H : Heap} {locs : List Loc} {cells slots mc ms pc : Nat} {Qf : State → Prop} {ls : Array Slot} {st0 rest : List Value} {g : xG} {Q : Option Value → xW → Prop}
    (hr : va_Run p l e R s m args below meth c H locs cells slots mc ms (F0 m pc ls st0) rest (x_Q g Q a) (x_A g)) (hS : va_S (x_A g) s.heap H locs)
    (kk : ∀ (r : Option Value) (w : xW) (H1 : Heap) (locs1 : List Loc), Q r w → x_H g w H1 → va_S (x_A g) s.heap H1 locs1 → W p l e R s m args below meth c H1 locs1 (cells + mc) (slots + ms) Qf (F0 m (pc + 3) ls ((r.map (x_v g)).toList ++ rest))) : W p l e R s m args below meth c H locs cells slots Qf (F0 m pc ls st0) := by
  intro T hT X
  obtain ⟨v, st₀, t, T', L, h0, X', hL, e1, e2, ⟨⟨r, w, hv, hq, hw⟩, hz, hk⟩, st⟩ := hr T hT X
  cases hv
  rw [h0] at hz hk
  obtain ⟨t2, a1, b1⟩ := kk r w T'.heap (locs ++ L) hq (by rw [e1]; exact hw)
    ⟨Nat.le_trans hS.1 (by rw [e1]; exact hz), fun q h1 h2 => by rw [e1, hk q (Nat.lt_of_lt_of_le h1 hS.1) h2]; exact hS.2.1 q h1 h2, fun q hq => by
      rcases List.mem_append.mp hq with h | h
      · exact hS.2.2 q h
      · exact hL q h⟩ T' rfl X'
  exact ⟨t2, st t2 a1, b1⟩
end
section
/-! ===== rules that write: fields, arrays, new cells ===== -/
theorem x_ins {ws : List Cond} (ps : List Nat) (h : (Nat.beq ws.length ps.length && (ws.zip ps).all (fun q => x_wd q.2 q.1)) = true) : ∀ w ∈ ws, w ∈ x_tb := by
  simp only [Bool.and_eq_true, List.all_eq_true] at h
  have hl : ws.length = ps.length := Nat.eq_of_beq_eq_true h.1
  intro w hw
  obtain ⟨i, hi, rfl⟩ := List.getElem_of_mem hw
  have hi2 : i < ps.length := by omega
  have hm : (ws[i], ps[i]) ∈ ws.zip ps := by
    rw [List.mem_iff_getElem]
    exact ⟨i, by simp; omega, by simp⟩
  exact x_tb_of (h.2 _ hm)
/-- a class's words, types and names -/
def x_Cl (ci : Nat) (q : vw_C) : Prop := (∀ w ∈ u_ws q.1 q.2.1 q.2.2, w ∈ x_tb) ∧ ∃ ty0 : Nat → FieldType, (∀ k, k < q.2.2 → parseFieldDescriptor (q.2.1 k).2.2.1 = some (ty0 k)) ∧ (∀ a, a < q.2.2 → ∀ b, b < q.2.2 → a ≠ b → (q.2.1 a).2.1 ≠ (q.2.1 b).2.1) ∧ (∀ j, j < q.2.2 → defaultValue (ty0 j) = vp_V ((x_new.getD ci []).map (fun f => x_fv 0 f)) j)
theorem x_in0 : ∀ w ∈ wsX00, w ∈ x_tb := x_ins [122, 124, 126, 128, 130, 132] (by decide +kernel)
theorem x_df0 : ∀ j, j < 6 → defaultValue (tyX0 j) = vp_V ((x_new.getD 0 []).map (fun f => x_fv 0 f)) j := by decide +kernel
theorem x_in1 : ∀ w ∈ wsX10, w ∈ x_tb := x_ins [314, 316, 318] (by decide +kernel)
theorem x_df1 : ∀ j, j < 3 → defaultValue (tyX1 j) = vp_V ((x_new.getD 1 []).map (fun f => x_fv 0 f)) j := by decide +kernel
theorem x_in2 : ∀ w ∈ wsX20, w ∈ x_tb := x_ins [193, 195, 197, 199] (by decide +kernel)
theorem x_df2 : ∀ j, j < 4 → defaultValue (tyX2 j) = vp_V ((x_new.getD 2 []).map (fun f => x_fv 0 f)) j := by decide +kernel
theorem x_in3 : ∀ w ∈ wsX30, w ∈ x_tb := x_ins [163, 165, 167, 169, 171, 173, 175] (by decide +kernel)
theorem x_df3 : ∀ j, j < 7 → defaultValue (tyX3 j) = vp_V ((x_new.getD 3 []).map (fun f => x_fv 0 f)) j := by decide +kernel
theorem x_in4 : ∀ w ∈ wsX40, w ∈ x_tb := x_ins [290, 292, 294, 296, 298] (by decide +kernel)
theorem x_df4 : ∀ j, j < 5 → defaultValue (tyX4 j) = vp_V ((x_new.getD 4 []).map (fun f => x_fv 0 f)) j := by decide +kernel
theorem x_in5 : ∀ w ∈ wsX50, w ∈ x_tb := x_ins [257, 259, 261, 263, 265, 267, 269, 271, 273] (by decide +kernel)
theorem x_df5 : ∀ j, j < 9 → defaultValue (tyX5 j) = vp_V ((x_new.getD 5 []).map (fun f => x_fv 0 f)) j := by decide +kernel
theorem x_in6 : ∀ w ∈ wsX60, w ∈ x_tb := x_ins [335, 337, 339, 341] (by decide +kernel)
theorem x_df6 : ∀ j, j < 4 → defaultValue (tyX6 j) = vp_V ((x_new.getD 6 []).map (fun f => x_fv 0 f)) j := by decide +kernel
theorem x_in7 : ∀ w ∈ wsX70, w ∈ x_tb := x_ins [100] (by decide +kernel)
theorem x_df7 : ∀ j, j < 1 → defaultValue (tyX7 j) = vp_V ((x_new.getD 7 []).map (fun f => x_fv 0 f)) j := by decide +kernel
theorem x_in8 : ∀ w ∈ wsX80, w ∈ x_tb := x_ins [222, 224, 226, 228] (by decide +kernel)
theorem x_df8 : ∀ j, j < 4 → defaultValue (tyX8 j) = vp_V ((x_new.getD 8 []).map (fun f => x_fv 0 f)) j := by decide +kernel
theorem x_in9 : ∀ w ∈ wsX90, w ∈ x_tb := x_ins [353, 355, 357, 359, 361, 363, 365, 367, 369] (by decide +kernel)
theorem x_df9 : ∀ j, j < 9 → defaultValue (tyX9 j) = vp_V ((x_new.getD 9 []).map (fun f => x_fv 0 f)) j := by decide +kernel
theorem x_in10 : ∀ w ∈ wsX100, w ∈ x_tb := x_ins [943, 945, 947, 949, 951, 953, 955, 957, 959, 961, 963, 965, 967, 969, 971, 973, 975, 977, 979, 981, 983, 985, 987, 989, 991, 993, 995, 997, 999, 1001, 1003, 1005, 1007, 1009, 1011, 1013, 1015, 1017, 1019] (by decide +kernel)
theorem x_df10 : ∀ j, j < 39 → defaultValue (tyX10 j) = vp_V ((x_new.getD 10 []).map (fun f => x_fv 0 f)) j := by decide +kernel
theorem x_cls : ∀ (ci : Nat) (q : vw_C), vwCl[ci]? = some q → x_Cl ci q := by
  intro ci q hq
  match ci, hq with
  | 0, hq => cases hq; exact ⟨x_in0, tyX0, tyX0_ok, nmX0, x_df0⟩
  | 1, hq => cases hq; exact ⟨x_in1, tyX1, tyX1_ok, nmX1, x_df1⟩
  | 2, hq => cases hq; exact ⟨x_in2, tyX2, tyX2_ok, nmX2, x_df2⟩
  | 3, hq => cases hq; exact ⟨x_in3, tyX3, tyX3_ok, nmX3, x_df3⟩
  | 4, hq => cases hq; exact ⟨x_in4, tyX4, tyX4_ok, nmX4, x_df4⟩
  | 5, hq => cases hq; exact ⟨x_in5, tyX5, tyX5_ok, nmX5, x_df5⟩
  | 6, hq => cases hq; exact ⟨x_in6, tyX6, tyX6_ok, nmX6, x_df6⟩
  | 7, hq => cases hq; exact ⟨x_in7, tyX7, tyX7_ok, nmX7, x_df7⟩
  | 8, hq => cases hq; exact ⟨x_in8, tyX8, tyX8_ok, nmX8, x_df8⟩
  | 9, hq => cases hq; exact ⟨x_in9, tyX9, tyX9_ok, nmX9, x_df9⟩
  | 10, hq => cases hq; exact ⟨x_in10, tyX10, tyX10_ok, nmX10, x_df10⟩
  | k + 11, hq => simp [vwCl] at hq
theorem x_new_ok : ∀ l ∈ x_new, ∀ f ∈ l, f = none ∨ f = some none := by decide +kernel
theorem x_new_v (g : xG) (ci : Nat) : (x_new.getD ci []).mapIdx (fun _ f => x_v g (x_fv 0 f)) = (x_new.getD ci []).map (fun f => x_fv 0 f) := by
  have h : ∀ f ∈ x_new.getD ci [], f = none ∨ f = some none := by
    intro f hf
    by_cases hl : ci < x_new.length
    · rw [List.getD_eq_getElem?_getD, List.getElem?_eq_getElem hl] at hf
      exact x_new_ok _ (List.getElem_mem hl) f hf
    · rw [List.getD_eq_getElem?_getD, List.getElem?_eq_none (by omega)] at hf
      simp at hf
  apply List.ext_getElem?
  intro i
  simp only [List.getElem?_mapIdx, List.getElem?_map]
  cases hi : (x_new.getD ci [])[i]? with
  | none => rfl
  | some f =>
    rcases h f (List.mem_of_getElem? hi) with rfl | rfl <;> rfl
theorem x_z_same {σ : Nat → Nat → Int32} {a i : Nat} (h : i ≠ a) : x_z σ a i = σ i := by funext j; simp [x_z, h]
theorem x_u_same {σ : Nat → Nat → Int32} {a k i : Nat} {x : Int32} (h : i ≠ a) : x_u σ a k x i = σ i := by funext j; simp [x_u, h]
theorem x_H.w {g : xG} {w : xW} {H H1 : Heap} {σ : Nat → Nat → Int32} (h : x_H g w H) (hz : H1.size = H.size) (hP : va_P (x_D g) vwCl (x_cs g (w.1, σ)) H1) (h0 : σ 1000 = w.2 1000) (h1 : σ 1001 = w.2 1001) : x_H g (w.1, σ) H1 :=
  ⟨hz.trans h.1, h.2.1, hP, fun j hj => by show σ 1000 j = _; rw [h0]; exact h.2.2.2.1 j hj, by show σ 1001 0 = _; rw [h1]; exact h.2.2.2.2⟩
/-- an int field's or a reference field's store -/
theorem x_put {M : xM} {g : xG} {p : Program} {l : Launch} {e : Env} {s : State} {m : MethodId} {args : Array Value} {below : List Frame} {meth : Method} {co : Code} {H : Heap} {locs : List Loc} {ls : Array Slot} {Qf : State → Prop} {w : xW} {cs ss pc a ci k i wi : Nat} {rest : List Value} {fs : List (Option (Option Nat))} {q : vw_C} {v : Value} {ty : FieldType}
    (X : x_X M g p s m args meth co) (hH : x_H g w H) (hS : va_S (x_A g) s.heap H locs) (ha : w.1[a]? = some (.inr (ci, fs))) (hc : vwCl[ci]? = some q) (hk : k < q.2.2) (hwd : x_wd wi (.fieldLink M.1.cls i (q.2.1 k).1 (q.2.1 k).2.1 (q.2.1 k).2.2.1) = true)
    (hfin : (q.2.1 k).2.2.2 = false ∨ (q.2.1 k).2.2.2 = true ∧ M.1.name = "<init>" ∧ (q.2.1 k).1 = M.1.cls) (hd : parseFieldDescriptor (q.2.1 k).2.2.1 = some ty) (hn : narrow ty v = v) (hfit : fits ty v = true) (hl : k < fs.length) (hdg : decode M.2.1 pc = .ok (.putfield i, 3))
    (kk : ∀ (H1 : Heap) (locs1 : List Loc), va_P (x_D g) vwCl ((x_cs g w).set a (x_h g + a, .inr (ci, (fs.mapIdx (fun j f => x_v g (x_fv (w.2 a j) f))).set k v))) H1 → H1.size = H.size → va_S (x_A g) s.heap H1 locs1 → W p l e M.2.2.2.2 s m args below meth co H1 locs1 cs ss Qf (F0 m (pc + 3) ls rest)) :
    W p l e M.2.2.2.2 s m args below meth co H locs cs ss Qf (F0 m pc ls (v :: .ref (x_ad g a) :: rest)) := by
  obtain ⟨hx, hb, -, -, -, hown, hts, hname, hK⟩ := X
  obtain ⟨C, T, N⟩ := q
  obtain ⟨hin, ty0, hty, hnm, -⟩ := x_cls ci _ hc
  have hin' : ∀ w ∈ u_ws C T N, w ∈ x_ws M := fun w hw => List.mem_cons_of_mem _ (hin w hw)
  have hap := va_apart (own := M.1.cls) (args := args) (s := s) hts hin' ty0 hty hnm hK.1 hc
  have hlink := hts _ (x_wd_in (M := M) hwd)
  have hal : a < 1000 := Nat.lt_trans (x_lt ha) hH.2.1
  rw [x_ad_lt hal]
  have hP := hH.2.2.1
  have he := x_cs_at (g := g) ha
  obtain ⟨r, h1, cell, q1, q2, q3, q4⟩ := hP a _ he
  have hr : r = (C, T, N) := Option.some.inj (h1.symm.trans hc)
  subst hr
  obtain ⟨hS1, hfc, kC, hkC, hkind⟩ := hK.1.1 ci _ hc
  obtain ⟨cf, kf, fi, f, hi, hsl⟩ := hS1 k hk
  have hlay := hts _ (hin' _ (u_in_lay hk))
  have hst := (u_facts hfc hkC (u_lays hts hin' hk) hi).1
  have fin : ∀ (H' : Heap), H'[x_h g + a]? = some (cell.setSlot f.slot v) → H'.size = H.size → (∀ q, q ≠ x_h g + a → H'[q]? = H[q]?) → W p l e M.2.2.2.2 s m args below meth co H' (locs ++ [⟨x_h g + a, f.slot⟩]) cs ss Qf (F0 m (pc + 3) ls rest) := by
    intro H' e1 e2 e3
    rw [hsl] at e1 ⊢
    refine kk H' _ (hP.set (x_D_of (w := w)) he ⟨_, hc, t_OB.to (V := updV (vp_V (fs.mapIdx (fun j f => x_v g (x_fv (w.2 a j) f)))) k v) ⟨_, e1, q2, q3, t_set q4 hap hk v⟩ (fun j _ => vp_updV_set (by simpa using hl) v j)⟩ e3) e2 (hS.put e2 e3 (Nat.le_add_right _ _))
  rcases hfin with hf | ⟨hf, hnm2, hdecl⟩
  · unfold u_lay at hlay
    rw [if_neg (by rw [hf]; decide)] at hlay
    have h6 := u_store hfc hkC hkind hlay hi hd hn hfit
    exact W.putK hx hb (f := f) ⟨hown, hlink, ⟨_, _, _, hi⟩, hst⟩ (by rw [q2]; exact h6) q1 q3 (by rw [hsl]; exact k2_hasslot (q4 k hk)) rfl rfl hdg fin
  · unfold u_lay at hlay
    rw [if_pos hf] at hlay
    have hcf : m.cls = cf := by
      obtain ⟨_, _, c', _, _, _, -, -, hf', -, -, -, hown2, -⟩ := Cond.laysFinal_spec hlay
      have e1 : c' = cf := by have := hi.symm.trans hf'; simp at this; exact this.1.symm
      rw [show (T k).1 = M.1.cls from hdecl] at hown2
      rw [← e1]; exact Option.some.inj (hown.symm.trans hown2)
    have h6 := u_fits hfc hkC hkind (Or.inr hlay) hi hd hn hfit
    exact W.putFinK hx hb hown hlink hi hst hcf (by rw [hname]; exact hnm2) (by rw [q2]; exact h6) q1 q3 (by rw [hsl]; exact k2_hasslot (q4 k hk)) rfl rfl hdg fin
/-- an array's store -/
theorem x_iast {M : xM} {g : xG} {p : Program} {l : Launch} {e : Env} {s : State} {m : MethodId} {args : Array Value} {below : List Frame} {meth : Method} {co : Code} {H : Heap} {locs : List Loc} {ls : Array Slot} {Qf : State → Prop} {w : xW} {cs ss pc a n : Nat} {rest : List Value} {i x : Int32}
    (X : x_X M g p s m args meth co) (hH : x_H g w H) (hS : va_S (x_A g) s.heap H locs) (ha : w.1[a]? = some (.inl n)) (hin : vp_in i n) (hdg : decode M.2.1 pc = .ok (.iastore, 1))
    (kk : ∀ (H1 : Heap) (locs1 : List Loc), x_H g (w.1, x_u w.2 a i.toNatClampNeg x) H1 → va_S (x_A g) s.heap H1 locs1 → W p l e M.2.2.2.2 s m args below meth co H1 locs1 cs ss Qf (F0 m (pc + 1) ls rest)) :
    W p l e M.2.2.2.2 s m args below meth co H locs cs ss Qf (F0 m pc ls (.int x :: .int i :: .ref (x_ad g a) :: rest)) := by
  obtain ⟨hx, hb, -, -, -, hown, hts, hname, hK⟩ := X
  have hal : a < 1000 := Nat.lt_trans (x_lt ha) hH.2.1
  rw [x_ad_lt hal]
  have hP := hH.2.2.1
  have he := x_cs_at (g := g) ha
  refine W.iast hx hb (hP a _ he) ((hK.1.2 0 _ rfl).1 n (fun j => .int (w.2 a j))) (fun q => by cases q) (by show ¬ (i < 0 ∨ (arrV _ _ _).slots.size ≤ _); rw [arrV_size]; exact hin) rfl rfl hdg fun H1 e1 z oq => ?_
  refine kk H1 _ (hH.w z ?_ (x_u_same (by omega)) (x_u_same (by omega))) (hS.put z oq (Nat.le_add_right _ _))
  rw [← x_set_a ha]
  refine hP.set (x_D_of (w := w)) he ?_ oq
  show H1[x_h g + a]? = some (vp_cell _ _)
  rw [e1]
  show some ((vp_cell _ _).setSlot _ _) = _
  rw [vp_cell_i, vp_cell_i, arrV_store]
  congr 2
  funext q
  by_cases hq : q = i.toNatClampNeg
  · subst hq
    simp [updV, upd]
  · simp [updV, upd, hq]
end
section
theorem x_cs_push {g : xG} {w : xW} {sh : xS} {σ : Nat → Nat → Int32} (hσ : ∀ i, i < w.1.length → σ i = w.2 i) : x_cs g (w.1 ++ [sh], σ) = x_cs g w ++ [(x_h g + w.1.length, x_c g σ w.1.length sh)] := by
  apply List.ext_getElem?
  intro i
  by_cases hi : i < w.1.length
  · rw [List.getElem?_append_left (by simpa [x_cs] using hi)]
    simp only [x_cs, List.getElem?_mapIdx]
    rw [List.getElem?_append_left hi]
    congr 1
    funext sh
    cases sh <;> simp only [x_c, hσ i hi]
  · rw [List.getElem?_append_right (by simp [x_cs]; omega)]
    simp only [x_cs, List.getElem?_mapIdx, List.length_mapIdx]
    rw [List.getElem?_append_right (by omega)]
    by_cases h2 : i = w.1.length
    · subst h2
      simp
    · have h3 : ([sh] : List xS)[i - w.1.length]? = none := by rw [List.getElem?_eq_none]; simp; omega
      rw [h3]
      rw [List.getElem?_eq_none]
      · rfl
      · simp; omega
/-- a new cell's world -/
theorem x_H.push {g : xG} {w : xW} {H H1 : Heap} {sh : xS} (h : x_H g w H) (hl : w.1.length + 1 < 1000) (hz : H1.size = H.size + 1) (hq : ∀ q, q < H.size → H1[q]? = H[q]?) (hc : va_at (x_D g) vwCl (x_h g + w.1.length, x_c g (x_z w.2 w.1.length) w.1.length sh) H1) : x_H g (w.1 ++ [sh], x_z w.2 w.1.length) H1 := by
  obtain ⟨h1, h2, h3, h4, h5⟩ := h
  refine ⟨by rw [hz, h1, List.length_append]; rfl, by rw [List.length_append]; exact hl, ?_, fun j hj => ?_, ?_⟩
  · rw [x_cs_push (fun i hi => x_z_same (by omega))]
    refine (h3.kept (fun k q hk => hq q.1 (h3 k q hk).lt)).app (fun k q hk => ?_)
    have hk0 : k < 1 := (List.getElem?_eq_some_iff.mp hk).1
    rw [show k = 0 by omega] at hk
    cases hk
    exact hc
  · show x_z w.2 w.1.length 1000 j = _
    rw [x_z_same (by omega)]
    exact h4 j hj
  · show x_z w.2 w.1.length 1001 0 = _
    rw [x_z_same (by omega)]
    exact h5
theorem x_zz {σ : Nat → Nat → Int32} {a j : Nat} : x_z σ a a j = 0 := by simp [x_z]
theorem x_S_grow {g : xG} {s : State} {H H1 : Heap} {locs : List Loc} (hS : va_S (x_A g) s.heap H locs) (hz : H1.size = H.size + 1) (hq : ∀ q, q < H.size → H1[q]? = H[q]?) : va_S (x_A g) s.heap H1 locs :=
  ⟨Nat.le_trans hS.1 (by omega), fun x h1 h2 => (hq x (Nat.lt_of_lt_of_le h1 hS.1)).trans (hS.2.1 x h1 h2), hS.2.2⟩
/-- a new object -/
theorem x_newo {M : xM} {g : xG} {p : Program} {l : Launch} {e : Env} {s : State} {m : MethodId} {args : Array Value} {below : List Frame} {meth : Method} {co : Code} {H : Heap} {locs : List Loc} {ls : Array Slot} {Qf : State → Prop} {w : xW} {cs ss pc ci i wl wi wn : Nat} {rest : List Value} {q : vw_C}
    (X : x_X M g p s m args meth co) (hH : x_H g w H) (hS : va_S (x_A g) s.heap H locs) (hc : vwCl[ci]? = some q) (h1 : x_wd wl (.classLink M.1.cls i q.1) = true) (h2 : x_wd wi (.instantiable q.1 q.2.2) = true) (h3 : x_wd wn (.initialized q.1) = true)
    (hcells : cs + 1 ≤ M.2.2.2.2.cells) (hslots : ss + q.2.2 ≤ M.2.2.2.2.slots) (hlen : w.1.length + 1 < 1000) (hdg : decode M.2.1 pc = .ok (.new i, 3))
    (kk : ∀ (H1 : Heap), x_H g (w.1 ++ [.inr (ci, x_new.getD ci [])], x_z w.2 w.1.length) H1 → va_S (x_A g) s.heap H1 locs → W p l e M.2.2.2.2 s m args below meth co H1 locs (cs + 1) (ss + q.2.2) Qf (F0 m (pc + 3) ls (.ref (x_ad g w.1.length) :: rest))) :
    W p l e M.2.2.2.2 s m args below meth co H locs cs ss Qf (F0 m pc ls rest) := by
  obtain ⟨hx, hb, -, -, -, hown, hts, hname, hK⟩ := X
  obtain ⟨C, T, N⟩ := q
  obtain ⟨hin, ty0, hty, hnm, hdf⟩ := x_cls ci _ hc
  have hin' : ∀ w ∈ u_ws C T N, w ∈ x_ws M := fun w hw => List.mem_cons_of_mem _ (hin w hw)
  have hKn := hK.1.1 ci _ hc
  refine W.newcK hx hb hown (hts _ (x_wd_in (M := M) h1)) (hts _ (x_wd_in (M := M) h2)) (hts _ (x_wd_in (M := M) h3)) rfl hdg hcells hslots hKn.2.1 hH.1 fun H1 kC hkC e1 z1 o1 => ?_
  have hz : H1.size = H.size + 1 := by rw [z1, hH.1]
  have ho : ∀ q, q < H.size → H1[q]? = H[q]? := fun q hq => o1 q (by rw [← hH.1]; exact hq)
  have hK1 : x_H g (w.1 ++ [.inr (ci, x_new.getD ci [])], x_z w.2 w.1.length) H1 := by
    refine hH.push hlen hz ho ⟨_, hc, ?_⟩
    show t_OB _ _ _ _ _ (vp_V ((x_new.getD ci []).mapIdx _))
    have e0 : (x_new.getD ci []).mapIdx (fun j f => x_v g (x_fv (x_z w.2 w.1.length w.1.length j) f)) = (x_new.getD ci []).map (fun f => x_fv 0 f) := by
      rw [← x_new_v g ci]
      congr 1
      funext j f
      rw [x_zz]
    rw [e0]
    exact (u_born ty0 hts hin' hKn hkC e1 hty).to hdf
  have hk := kk H1 hK1 (x_S_grow hS hz ho)
  rw [x_ad_lt (by omega)] at hk
  exact hk
/-- a new array of ints -/
theorem x_newi {M : xM} {g : xG} {p : Program} {l : Launch} {e : Env} {s : State} {m : MethodId} {args : Array Value} {below : List Frame} {meth : Method} {co : Code} {H : Heap} {locs : List Loc} {ls : Array Slot} {Qf : State → Prop} {w : xW} {cs ss pc wl : Nat} {rest : List Value} {n : Int32}
    (X : x_X M g p s m args meth co) (hH : x_H g w H) (hS : va_S (x_A g) s.heap H locs) (h1 : x_wd wl (.arrayClass .int) = true) (hn : ¬ n < 0) (hN : n.toNatClampNeg ≤ 1000)
    (hcells : cs + 1 ≤ M.2.2.2.2.cells) (hslots : ss + n.toNatClampNeg ≤ M.2.2.2.2.slots) (hlen : w.1.length + 1 < 1000) (hdg : decode M.2.1 pc = .ok (.newarray .int, 2))
    (kk : ∀ (H1 : Heap), x_H g (w.1 ++ [.inl n.toNatClampNeg], x_z w.2 w.1.length) H1 → va_S (x_A g) s.heap H1 locs → W p l e M.2.2.2.2 s m args below meth co H1 locs (cs + 1) (ss + n.toNatClampNeg) Qf (F0 m (pc + 2) ls (.ref (x_ad g w.1.length) :: rest))) :
    W p l e M.2.2.2.2 s m args below meth co H locs cs ss Qf (F0 m pc ls (.int n :: rest)) := by
  obtain ⟨hx, hb, -, -, -, hown, hts, hname, hK⟩ := X
  refine va_newaK (atype := .int) hx hb (hts _ (x_wd_in (M := M) h1)) rfl hdg rfl hn rfl (by show n.toNatClampNeg * 4 ≤ 536870912; omega) hcells hslots hH.1 fun H1 cA e1 z1 o1 hAr hNm => ?_
  have hcA : cA = x_cI g := by
    have h9 : s.vm.findClass ("[" ++ (FieldType.int).toString) = some (x_cI g) := (hK.1.2 0 _ rfl).2
    exact Option.some.inj (hNm.symm.trans h9)
  subst hcA
  have hz : H1.size = H.size + 1 := by rw [z1, hH.1]
  have ho : ∀ q, q < H.size → H1[q]? = H[q]? := fun q hq => o1 q (by rw [← hH.1]; exact hq)
  have hK1 : x_H g (w.1 ++ [.inl n.toNatClampNeg], x_z w.2 w.1.length) H1 := by
    refine hH.push hlen hz ho ?_
    show H1[x_h g + w.1.length]? = some (vp_cell _ _)
    rw [e1, vp_cell_i]
    congr 2
    funext q
    rw [x_zz]
    rfl
  have hk := kk H1 hK1 (x_S_grow hS hz ho)
  rw [x_ad_lt (by omega)] at hk
  exact hk
end
section
/-! ===== a table's rows, held against the code and the tables ===== -/
/-- a call's words -/
def x_okC (M : xM) (i : Nat) (aux : List Nat) : Bool := match aux with
  | mi :: na :: kd :: ci :: mc :: ms :: wl :: wi :: ws :: wn :: wc :: _ =>
    (x_wd wc (.code (x_m mi).1 (x_m mi).2.1 (x_m mi).2.2.1 (x_m mi).2.2.2.1) && x_wd wn (.initialized (x_m mi).1.cls) && decide ((x_m mi).1.cls ≠ "java/lang/invoke/MethodHandle" ∧ (x_m mi).1.cls ≠ "java/lang/invoke/VarHandle") && decide ((x_m mi).2.2.2.2.cells = mc ∧ (x_m mi).2.2.2.2.slots = ms ∧ (x_m mi).2.2.2.2.frames + 1 ≤ M.2.2.2.2.frames ∧ 8 + ((x_m mi).2.2.1 + 11) + (x_m mi).2.2.2.2.locals ≤ M.2.2.2.2.locals)) &&
      (match kd with
      | 0 => x_wd wl (.methodLink M.1.cls i (x_m mi).1) && x_wd wi (.instanceMethod (x_m mi).1) && x_wd ws (.selects (x_m mi).1.cls (x_m mi).1 (x_m mi).1) && decide ((parseMethodDescriptor (x_m mi).1.desc).map (fun d => d.parameters.length) = some (na - 1) ∧ 0 < na) && (match Nat.beq ci 99 with
        | true => decide ((x_m mi).1.cls = "java/lang/String")
        | false => match vwCl[ci]? with
          | some q => decide (q.1 = (x_m mi).1.cls)
          | none => false)
      | 1 => x_wd wl (.methodLink M.1.cls i (x_m mi).1) && x_wd wi (.static (x_m mi).1) && decide ((parseMethodDescriptor (x_m mi).1.desc).map (fun d => d.parameters.length) = some na)
      | 2 => x_wd wl (.methodLink M.1.cls i (x_m mi).1) && x_wd wi (.instanceMethod (x_m mi).1) && decide ((parseMethodDescriptor (x_m mi).1.desc).map (fun d => d.parameters.length) = some (na - 1) ∧ 0 < na ∧ (x_m mi).1.name = "<init>" ∧ (x_m mi).2.2.2.1 = none)
      | 4 => decide (x_nest[wl]? = some (M.1.cls, i, (x_m mi).1, "SleepingRooms")) && x_wd wi (.static (x_m mi).1) && decide ((parseMethodDescriptor (x_m mi).1.desc).map (fun d => d.parameters.length) = some na)
      | 5 => decide (x_nest[wl]? = some (M.1.cls, i, (x_m mi).1, "SleepingRooms")) && x_wd wi (.instanceMethod (x_m mi).1) && decide ((parseMethodDescriptor (x_m mi).1.desc).map (fun d => d.parameters.length) = some (na - 1) ∧ 0 < na ∧ (x_m mi).1.name = "<init>" ∧ (x_m mi).2.2.2.1 = none)
      | _ => false)
  | _ => false
/-- which kinds an instruction may call by -/
def x_kd (aux : List Nat) (ks : List Nat) : Bool := match aux with
  | _ :: _ :: kd :: _ => ks.elem kd
  | _ => false
def x_okI (M : xM) (t : xT) : Bool := match t with
  | (pc, ins, len, aux, cst) => match ins with
    | .iconst n => decide (Int32.ofInt n = cst ∧ len = 1)
    | .bipush n => decide ((Int8.ofInt n).toInt32 = cst ∧ len = 2)
    | .sipush n => decide ((Int16.ofInt n).toInt32 = cst ∧ len = 3)
    | .ldc_w i => match aux with
      | 0 :: j :: _ => x_wd j (.constant M.1.cls i cst) && decide (len = 3)
      | _ => false
    | .iload_n _ => decide (len = 1)
    | .iload _ => decide (len = 2)
    | .aload_n _ => decide (len = 1)
    | .istore_n i => decide (len = 1 ∧ (i : Nat) < M.2.2.1)
    | .istore i => decide (len = 2 ∧ i < M.2.2.1)
    | .astore_n i => decide (len = 1 ∧ (i : Nat) < M.2.2.1)
    | .iinc _ n => decide (Int32.ofInt n = cst ∧ len = 3)
    | .iadd => decide (len = 1)
    | .isub => decide (len = 1)
    | .imul => decide (len = 1)
    | .iand => decide (len = 1)
    | .ior => decide (len = 1)
    | .ixor => decide (len = 1)
    | .ishl => decide (len = 1)
    | .ishr => decide (len = 1)
    | .iushr => decide (len = 1)
    | .dup => decide (len = 1)
    | .pop => decide (len = 1)
    | .goto off => decide ((pc : Int) + off = (aux.headD 0 : Nat) ∧ len = 3)
    | .ifCond _ off => decide ((pc : Int) + off = (aux.headD 0 : Nat) ∧ len = 3)
    | .if_icmp _ off => decide ((pc : Int) + off = (aux.headD 0 : Nat) ∧ len = 3)
    | .getfield i => match aux with
      | ci :: j :: wi :: _ => match vwCl[ci]? with
        | some q => decide (j < q.2.2 ∧ len = 3) && x_wd wi (.fieldLink M.1.cls i (q.2.1 j).1 (q.2.1 j).2.1 (q.2.1 j).2.2.1)
        | none => false
      | _ => false
    | .putfield i => match aux with
      | ci :: j :: wi :: ty :: _ => match vwCl[ci]? with
        | some q => decide (j < q.2.2 ∧ len = 3) && x_wd wi (.fieldLink M.1.cls i (q.2.1 j).1 (q.2.1 j).2.1 (q.2.1 j).2.2.1) && decide ((q.2.1 j).2.2.2 = false ∨ (q.2.1 j).2.2.2 = true ∧ M.1.name = "<init>" ∧ (q.2.1 j).1 = M.1.cls) &&
          (match ty with
          | 0 => decide (parseFieldDescriptor (q.2.1 j).2.2.1 = some .int)
          | 1 => decide (parseFieldDescriptor (q.2.1 j).2.2.1 = some .boolean)
          | 2 => match parseFieldDescriptor (q.2.1 j).2.2.1 with
            | some (.object _) => true
            | some (.array _) => true
            | _ => false
          | _ => false)
        | none => false
      | _ => false
    | .iaload => decide (len = 1)
    | .iastore => decide (len = 1)
    | .arraylength => decide (len = 1)
    | .invokevirtual i => decide (len = 3) && x_okC M i aux && x_kd aux [0]
    | .invokestatic i => decide (len = 3) && x_okC M i aux && x_kd aux [1, 4]
    | .invokespecial i => match aux with
      | 9999 :: a :: b :: c :: _ => decide (len = 3 ∧ 1 ≤ M.2.2.2.2.frames ∧ 20 ≤ M.2.2.2.2.locals) && x_wd a (.methodLink M.1.cls i objectInit) && x_wd b (.instanceMethod objectInit) && x_wd c (.code objectInit ⟨#[0xb1]⟩ 1 none)
      | _ => decide (len = 3) && x_okC M i aux && x_kd aux [2, 5]
    | .new i => match aux with
      | ci :: N :: a :: b :: c :: _ => match vwCl[ci]? with
        | some q => decide (len = 3 ∧ q.2.2 = N) && x_wd a (.classLink M.1.cls i q.1) && x_wd b (.instantiable q.1 q.2.2) && x_wd c (.initialized q.1)
        | none => false
      | _ => false
    | .newarray ty => match aux with
      | a :: _ => decide (len = 2 ∧ ty = .int) && x_wd a (.arrayClass .int)
      | _ => false
    | .ireturn => match aux with
      | [1] => decide (len = 1 ∧ M.2.2.2.1 = some .boolean)
      | _ => decide (len = 1 ∧ M.2.2.2.1 = some .int)
    | .areturn => match M.2.2.2.1 with
      | some (.object _) => decide (len = 1)
      | _ => false
    | .return_ => decide (len = 1 ∧ M.2.2.2.1 = none)
    | _ => false
def x_okT (M : xM) (t : xT) : Bool := decide (decode M.2.1 t.1 = .ok (t.2.1, t.2.2.1)) && x_okI M t
def x_VS (q : Nat × xSm) : Prop := ∀ (args : List Value) (w : xW) (r : Option Value × xW × Prop), q.2 args w = some r → r.2.2 → x_Con (x_m q.1) args w (fun a b => a = r.1 ∧ b = r.2.1)
theorem x_sum_in {sums : List (Nat × xSm)} {i : Nat} {f : xSm} (h : x_sum sums i = some f) : (i, f) ∈ sums := by
  induction sums with
  | nil => cases h
  | cons q qs ih =>
    rw [x_sum] at h
    split at h
    · next hb =>
      cases h
      have : q.1 = i := Nat.eq_of_beq_eq_true hb
      rw [← this]
      exact List.mem_cons_self
    · exact List.mem_cons_of_mem _ (ih h)
theorem x_look_in {tb : List xT} {pc : Nat} {t : xT} (h : x_look tb pc = some t) : t ∈ tb ∧ t.1 = pc := by
  induction tb with
  | nil => cases h
  | cons q qs ih =>
    rw [x_look] at h
    split at h
    · next hb =>
      cases h
      exact ⟨List.mem_cons_self, Nat.eq_of_beq_eq_true hb⟩
    · exact ⟨List.mem_cons_of_mem _ (ih h).1, (ih h).2⟩
theorem x_blind {g : xG} {w : xW} {av : List Value} : FrameBlind (va_Pc av (fun U => x_K g U ∧ x_H g w U.heap)) := fun _ _ _ _ h => ⟨h.1, h.2.1.same rfl rfl, h.2.2⟩
end
section
/-! ===== a call by its summary ===== -/
theorem x_callG {M : xM} {Ex : xEx} {sums : List (Nat × xSm)} {aux lvx : List Nat} {pc i cs ss : Nat} {lv : List (Option Value)} {st : List Value} {w : xW} {k : xC → Prop} {ins : Instr}
    (hsum : ∀ q ∈ sums, x_VS q) (hok : x_okC M i aux = true) (hd : decode M.2.1 pc = .ok (ins, 3)) (hins : (ins = .invokevirtual i ∧ x_kd aux [0] = true) ∨ (ins = .invokestatic i ∧ x_kd aux [1, 4] = true) ∨ (ins = .invokespecial i ∧ x_kd aux [2, 5] = true))
    (h : x_call M.2.2.2.2 sums aux st w cs ss (fun st w mc ms => k (pc + 3, lv, st, w, cs + mc, ss + ms))) (hk : ∀ c, k c → x_G M Ex c) : x_G M Ex (pc, lv, st, w, cs, ss) := by
  unfold x_call at h
  split at h
  rotate_left
  · exact h.elim
  next mi na kd ci mc ms more =>
  split at h
  rotate_left
  · exact h.elim
  next f hf =>
  split at h
  rotate_left
  · exact h.elim
  next hb =>
  split at h
  rotate_left
  · exact h.elim
  next r hr =>
  obtain ⟨hP, hkk⟩ := h
  have hV := hsum _ (x_sum_in hf) _ _ _ hr hP
  have hG := hk _ hkk
  simp only [Bool.and_eq_true, Bool.or_eq_true] at hb
  obtain ⟨⟨hcat, hlen, hrcv⟩, hroom1, hroom2⟩ := hb
  have hcat := Nat.le_of_ble_eq_true hcat
  have hlen : (st.take na).length = na := Nat.eq_of_beq_eq_true hlen
  have hf9 : cs + mc ≤ M.2.2.2.2.cells ∧ ss + ms ≤ M.2.2.2.2.slots := ⟨Nat.le_of_ble_eq_true hroom1, Nat.le_of_ble_eq_true hroom2⟩
  unfold x_okC at hok
  split at hok
  rotate_left
  · cases hok
  next mi' na' kd' ci' mc' ms' wl wi ws wn wc more' he =>
  cases he
  simp only [Bool.and_eq_true, decide_eq_true_eq] at hok
  obtain ⟨⟨⟨⟨hwc, hwn⟩, hy⟩, hrc, hrs, hfr, hlo⟩, hkind⟩ := hok
  intro g p l e s m args below meth co H locs ls Qf X E hH hS hL
  have hX := X
  obtain ⟨hx, hb, -, -, hml, hown, hts, -, hK⟩ := X
  have hgood : GoodIn (x_ws M) (x_ws (x_m mi)) := x_good (x_tb_of hwc)
  have hini := hts _ (x_wd_in (M := M) hwn)
  have hM := hV g l
  have hpre : ∀ U : State, U.heap = H → s.WarmedH U.vm → x_K g U ∧ x_H g w U.heap := fun U hU hW => ⟨hK.to hW hU hS, by rw [hU]; exact hH⟩
  have hst : st.map (x_v g) = (((st.take na).reverse).map (x_v g)).reverse ++ (st.drop na).map (x_v g) := by
    rw [← List.map_reverse, List.reverse_reverse, ← List.map_append, List.take_append_drop]
  have hcat2 : (((st.drop na).map (x_v g)).map fun v => v.category).sum ≤ 8 := by rw [x_cats]; exact hcat
  have fin : ∀ (a : Array Value), va_Run p l e M.2.2.2.2 s m args below meth co H locs cs ss mc ms (F0 m pc ls (st.map (x_v g))) ((st.drop na).map (x_v g)) (x_Q g (fun a b => a = r.1 ∧ b = r.2.1) a) (x_A g) → W p l e M.2.2.2.2 s m args below meth co H locs cs ss Qf (F0 m pc ls (st.map (x_v g))) := by
    intro a hrun
    refine x_run hrun hS (fun r1 w1 H1 locs1 hq hH1 hS1 => ?_)
    obtain ⟨rfl, rfl⟩ := hq
    have h9 := hG g p l e s m args below meth co H1 locs1 ls Qf hX E hH1 hS1 hL
    have e9 : ((r.1.toList ++ st.drop na).map (x_v g)) = (r.1.map (x_v g)).toList ++ (st.drop na).map (x_v g) := by
      rw [List.map_append]
      cases r.1 <;> rfl
    rw [e9] at h9
    exact h9
  subst hrc
  subst hrs
  split at hkind
  -- a virtual call
  · simp only [Bool.and_eq_true, decide_eq_true_eq] at hkind
    obtain ⟨⟨⟨⟨hwl, hwi⟩, hws⟩, hpar, hna⟩, hcls⟩ := hkind
    have hins : ins = .invokevirtual i := by
      rcases hins with h | h | h
      · exact h.1
      · exact absurd h.2 Bool.false_ne_true
      · exact absurd h.2 Bool.false_ne_true
    subst hins
    have hrcv : x_rcv w (st.take na).reverse ci = true := by
      rcases hrcv with (h | h) | h
      · cases h
      · cases h
      · exact h
    obtain ⟨a, tl, hargs⟩ : ∃ a tl, (st.take na).reverse = .ref a :: tl := by
      unfold x_rcv at hrcv
      split at hrcv
      · exact ⟨_, _, by assumption⟩
      · cases hrcv
    rw [hargs] at hM hst hrcv
    have hrec : ∃ cellB : Cell, H[x_ad g a]? = some cellB ∧ cellB.vm.isStatics = false ∧ s.vm.findClass (x_m mi).1.cls = some cellB.cls := by
      unfold x_rcv x_rc at hrcv
      dsimp only at hrcv
      split at hrcv
      · next h99 =>
        rw [h99] at hcls
        simp only [Bool.and_eq_true] at hrcv
        have h1 := Nat.le_of_ble_eq_true hrcv.1
        have h2 := Nat.le_of_ble_eq_true hrcv.2
        obtain ⟨j, rfl⟩ := Nat.le.dest h1
        rw [x_ad_s, of_decide_eq_true hcls]
        exact vk_recv hK.2.2.1.1 (by omega) hS
      · next h99 =>
        rw [h99] at hcls
        dsimp only at hcls
        split at hrcv
        · next o ho =>
          have hci : o.1 = ci := Nat.eq_of_beq_eq_true hrcv
          split at hcls
          · next q hq =>
            rw [← of_decide_eq_true hcls, x_ad_lt (Nat.lt_trans (x_lt ho) hH.2.1)]
            refine va_recv (ci := ci) (q0 := a) hK.1 hH.2.2.1 hq (fs := o.2.mapIdx (fun j f => x_v g (x_fv (w.2 a j) f))) ?_
            rw [x_cs_at ho, ← hci]
            rfl
          · cases hcls
        · cases hrcv
    have hlen2 : tl.length = na - 1 := by
      have := congrArg List.length hargs
      rw [List.length_reverse, hlen] at this
      simp at this
      omega
    refine fin _ (va_runV (As := tl.map (x_v g)) (b := x_ad g a) (C := (x_m mi).1.cls) (n := na - 1) ⟨hx, hb, hml, hown, hts⟩ hM ⟨callB_of (na - 1) hts hgood rfl rfl rfl hini (hts _ (x_wd_in (M := M) hwl)) ⟨hy.1, hy.2, hpar⟩ ⟨hfr, hlo⟩, hts _ (x_wd_in (M := M) hwi), hts _ (x_wd_in (M := M) hws)⟩
      ⟨x_blind, hrec, fun U hU hW => ⟨rfl, hpre U hU hW⟩⟩ rfl (by rw [List.length_map]; exact hlen2) hL.2.1 ?_ (lv_room hcat2) hd hf9)
    rw [hst]
    simp [x_v]
  -- a static one
  · simp only [Bool.and_eq_true, decide_eq_true_eq] at hkind
    obtain ⟨⟨hwl, hwi⟩, hpar⟩ := hkind
    have hins : ins = .invokestatic i := by
      rcases hins with h | h | h
      · exact absurd h.2 Bool.false_ne_true
      · exact h.1
      · exact absurd h.2 Bool.false_ne_true
    subst hins
    exact fin _ (va_runS (As := ((st.take na).reverse).map (x_v g)) (n := na) ⟨hx, hb, hml, hown, hts⟩ hM ⟨callB_of na hts hgood rfl rfl rfl hini (hts _ (x_wd_in (M := M) hwl)) ⟨hy.1, hy.2, hpar⟩ ⟨hfr, hlo⟩, hts _ (x_wd_in (M := M) hwi)⟩
      ⟨x_blind, fun U hU hW => ⟨rfl, hpre U hU hW⟩⟩ rfl (by rw [List.length_map, List.length_reverse]; exact hlen) hL.2.1 hst (lv_room hcat2) hd hf9)
  -- a constructor
  · simp only [Bool.and_eq_true, decide_eq_true_eq] at hkind
    obtain ⟨⟨hwl, hwi⟩, hpar, hna, hname, hret⟩ := hkind
    have hins : ins = .invokespecial i := by
      rcases hins with h | h | h
      · exact absurd h.2 Bool.false_ne_true
      · exact absurd h.2 Bool.false_ne_true
      · exact h.1
    subst hins
    have hrcv : x_rcv w (st.take na).reverse ci = true := by
      rcases hrcv with (h | h) | h
      · cases h
      · cases h
      · exact h
    obtain ⟨a, tl, hargs⟩ : ∃ a tl, (st.take na).reverse = .ref a :: tl := by
      unfold x_rcv at hrcv
      split at hrcv
      · exact ⟨_, _, by assumption⟩
      · cases hrcv
    rw [hargs] at hM hst
    have hlen2 : tl.length = na - 1 := by
      have := congrArg List.length hargs
      rw [List.length_reverse, hlen] at this
      simp at this
      omega
    have hcb := callB_of (own := M.1.cls) (index := i) (y := (x_m mi).1) (bytes := (x_m mi).2.1) (maxL := (x_m mi).2.2.1) (ret := (x_m mi).2.2.2.1) (R := M.2.2.2.2) (rm := (x_m mi).2.2.2.2) (na - 1) hts hgood rfl rfl rfl hini (hts _ (x_wd_in (M := M) hwl)) ⟨hy.1, hy.2, hpar⟩ ⟨hfr, hlo⟩
    rw [hret] at hcb
    refine fin _ (va_runI (As := tl.map (x_v g)) (b := x_ad g a) (n := na - 1) ⟨hx, hb, hml, hown, hts⟩ hM ⟨hcb, hname, hts _ (x_wd_in (M := M) hwi)⟩
      ⟨x_blind, fun U hU hW => ⟨rfl, hpre U hU hW⟩⟩ rfl (by rw [List.length_map]; exact hlen2) hL.2.1 ?_ (lv_room hcat2) hd hf9)
    rw [hst]
    simp [x_v]
  -- a private static one of another class
  · simp only [Bool.and_eq_true, decide_eq_true_eq] at hkind
    obtain ⟨⟨hwl, hwi⟩, hpar⟩ := hkind
    have hins : ins = .invokestatic i := by
      rcases hins with h | h | h
      · exact absurd h.2 Bool.false_ne_true
      · exact h.1
      · exact absurd h.2 Bool.false_ne_true
    subst hins
    have hn := hK.2.1 _ (List.mem_of_getElem? hwl)
    exact fin _ (va_runSN (As := ((st.take na).reverse).map (x_v g)) (n := na) ⟨hx, hb, hml, hown, hts⟩ hM ⟨va_cnB na hts hgood rfl rfl rfl hn hini ⟨hy.1, hy.2, hpar⟩ ⟨hfr, hlo⟩, hts _ (x_wd_in (M := M) hwi), trivial⟩
      ⟨x_blind, fun U hU hW => ⟨rfl, hpre U hU hW⟩⟩ rfl (by rw [List.length_map, List.length_reverse]; exact hlen) hL.2.1 hst (lv_room hcat2) hd hf9)
  -- a private constructor
  · simp only [Bool.and_eq_true, decide_eq_true_eq] at hkind
    obtain ⟨⟨hwl, hwi⟩, hpar, hna, hname, hret⟩ := hkind
    have hins : ins = .invokespecial i := by
      rcases hins with h | h | h
      · exact absurd h.2 Bool.false_ne_true
      · exact absurd h.2 Bool.false_ne_true
      · exact h.1
    subst hins
    have hn := hK.2.1 _ (List.mem_of_getElem? hwl)
    have hrcv : x_rcv w (st.take na).reverse ci = true := by
      rcases hrcv with (h | h) | h
      · cases h
      · cases h
      · exact h
    obtain ⟨a, tl, hargs⟩ : ∃ a tl, (st.take na).reverse = .ref a :: tl := by
      unfold x_rcv at hrcv
      split at hrcv
      · exact ⟨_, _, by assumption⟩
      · cases hrcv
    rw [hargs] at hM hst
    have hlen2 : tl.length = na - 1 := by
      have := congrArg List.length hargs
      rw [List.length_reverse, hlen] at this
      simp at this
      omega
    have hcb := va_cnB (own := M.1.cls) (index := i) (y := (x_m mi).1) (bytes := (x_m mi).2.1) (maxL := (x_m mi).2.2.1) (ret := (x_m mi).2.2.2.1) (R := M.2.2.2.2) (rm := (x_m mi).2.2.2.2) (na - 1) hts hgood rfl rfl rfl hn hini ⟨hy.1, hy.2, hpar⟩ ⟨hfr, hlo⟩
    rw [hret] at hcb
    refine fin _ (va_runIN (As := tl.map (x_v g)) (b := x_ad g a) (n := na - 1) ⟨hx, hb, hml, hown, hts⟩ hM ⟨hcb, hname, hts _ (x_wd_in (M := M) hwi)⟩
      ⟨x_blind, fun U hU hW => ⟨rfl, hpre U hU hW⟩⟩ rfl (by rw [List.length_map]; exact hlen2) hL.2.1 ?_ (lv_room hcat2) hd hf9)
    rw [hst]
    simp [x_v]
  · cases hkind
end
section
/-! ===== a step is sound ===== -/
theorem x_rd_of {w : xW} {a ci j : Nat} {v : Value} (h : x_rd w a ci j = some v) : ∃ (fs : List (Option (Option Nat))) (f : Option (Option Nat)), w.1[a]? = some (.inr (ci, fs)) ∧ fs[j]? = some f ∧ v = x_fv (w.2 a j) f := by
  unfold x_rd at h
  split at h
  · next o ho =>
    split at h
    · next hb =>
      have e : o.1 = ci := Nat.eq_of_beq_eq_true hb
      split at h
      · next f hf =>
        cases h
        refine ⟨o.2, f, ?_, hf, rfl⟩
        rw [ho, ← e]
      · cases h
    · cases h
  · cases h
theorem x_al_of {w : xW} {a n : Nat} (h : x_al w a = some n) : w.1[a]? = some (.inl n) := by
  unfold x_al at h
  split at h
  · next n' hn =>
    cases h
    exact hn
  · cases h
set_option maxHeartbeats 4000000 in
theorem x_st_sound {M : xM} {Ex : xEx} {sums : List (Nat × xSm)} {t : xT} {c : xC} {k : xC → Prop} (hsum : ∀ q ∈ sums, x_VS q) (hok : x_okT M t = true) (hpc : t.1 = c.1) (h : x_st M.2.2.2.2 sums Ex t c k) (hk : ∀ c, k c → x_G M Ex c) : x_G M Ex c := by
  obtain ⟨pc0, ins, len, aux, cst⟩ := t
  obtain ⟨pc, lv, st, w, cs, ss⟩ := c
  have hpc : pc0 = pc := hpc
  subst hpc
  simp only [x_okT, Bool.and_eq_true, decide_eq_true_eq] at hok
  obtain ⟨hd, hok⟩ := hok
  cases ins
  case iconst n =>
    simp only [x_okI, decide_eq_true_eq] at hok
    obtain ⟨hv, rfl⟩ := hok
    exact x_G_of (fun g p l e s m args below meth co H locs ls Qf X hH hS hL k => lv_iconst X.1 X.2.1 hd hv k) (hk _ h)
  case bipush n =>
    simp only [x_okI, decide_eq_true_eq] at hok
    obtain ⟨hv, rfl⟩ := hok
    exact x_G_of (fun g p l e s m args below meth co H locs ls Qf X hH hS hL k => lv_bipush X.1 X.2.1 hd hv k) (hk _ h)
  case sipush n =>
    simp only [x_okI, decide_eq_true_eq] at hok
    obtain ⟨hv, rfl⟩ := hok
    exact x_G_of (fun g p l e s m args below meth co H locs ls Qf X hH hS hL k => lv_sipush X.1 X.2.1 hd hv k) (hk _ h)
  case ldc_w i =>
    simp only [x_okI] at hok
    split at hok
    · next j _ =>
      simp only [Bool.and_eq_true, decide_eq_true_eq] at hok
      obtain ⟨hw, rfl⟩ := hok
      exact x_G_of (fun g p l e s m args below meth co H locs ls Qf X hH hS hL k => lv_ldcw X.1 X.2.1 X.2.2.2.2.2.1 (X.2.2.2.2.2.2.1 _ (x_wd_in (M := M) hw)) hd k) (hk _ h)
    · cases hok
  case iload_n i =>
    simp only [x_okI, decide_eq_true_eq] at hok
    subst hok
    simp only [x_st] at h
    split at h
    · next x hx =>
      exact x_G_of (fun g p l e s m args below meth co H locs ls Qf X hH hS hL k => lv_iload_n X.1 X.2.1 hd rfl (hL.2.2.2 _ _ hx).2 k) (hk _ h)
    · exact h.elim
  case iload i =>
    simp only [x_okI, decide_eq_true_eq] at hok
    subst hok
    simp only [x_st] at h
    split at h
    · next x hx =>
      exact x_G_of (fun g p l e s m args below meth co H locs ls Qf X hH hS hL k => lv_iload X.1 X.2.1 hd (hL.2.2.2 _ _ hx).2 k) (hk _ h)
    · exact h.elim
  case aload_n i =>
    simp only [x_okI, decide_eq_true_eq] at hok
    subst hok
    simp only [x_st] at h
    split at h
    · next x hx =>
      exact x_G_of (fun g p l e s m args below meth co H locs ls Qf X hH hS hL k => lv_aload_n X.1 X.2.1 hd rfl (hL.2.2.2 _ _ hx).2 k) (hk _ h)
    · exact h.elim
  case istore_n i =>
    simp only [x_okI, decide_eq_true_eq] at hok
    obtain ⟨rfl, hi⟩ := hok
    simp only [x_st] at h
    split at h
    · next x st' =>
      exact x_G_lv (fun g p l e s m args below meth co H locs ls Qf X hL k => lv_istore_n X.1 X.2.1 hd rfl (x_lv_has hL) hi rfl (fun ls' h' => k ls' (x_lv_back hL rfl h'))) (hk _ h)
    · exact h.elim
  case istore i =>
    simp only [x_okI, decide_eq_true_eq] at hok
    obtain ⟨rfl, hi⟩ := hok
    simp only [x_st] at h
    split at h
    · next x st' =>
      exact x_G_lv (fun g p l e s m args below meth co H locs ls Qf X hL k => lv_istore X.1 X.2.1 hd (x_lv_has hL) hi rfl (fun ls' h' => k ls' (x_lv_back hL rfl h'))) (hk _ h)
    · exact h.elim
  case astore_n i =>
    simp only [x_okI, decide_eq_true_eq] at hok
    obtain ⟨rfl, hi⟩ := hok
    simp only [x_st] at h
    split at h
    · next x st' =>
      exact x_G_lv (fun g p l e s m args below meth co H locs ls Qf X hL k => lv_astore_n X.1 X.2.1 hd rfl (x_lv_has hL) hi rfl (fun ls' h' => k ls' (x_lv_back (v := .ref x) hL rfl h'))) (hk _ h)
    · exact h.elim
  case iinc i n =>
    simp only [x_okI, decide_eq_true_eq] at hok
    obtain ⟨hv, rfl⟩ := hok
    simp only [x_st] at h
    split at h
    · next x hx =>
      refine x_G_lv (fun g p l e s m args below meth co H locs ls Qf X hL k => ?_) (hk _ h)
      have hm : ((i, Value.int x) : Nat × Value) ∈ x_ll g lv := x_ll_mem.mpr ⟨.int x, hx, rfl⟩
      obtain ⟨j, hj⟩ := List.mem_iff_getElem?.mp hm
      have hi : i < M.2.2.1 := by rw [← hL.1]; exact (List.getElem?_eq_some_iff.mp hx).1
      exact lv_iinc X.1 X.2.1 hd (x_lv_has hL) hj (by rw [hv]) hi rfl (fun ls' h' => k ls' (x_lv_back (v := .int (x + cst)) hL rfl h'))
    · exact h.elim
  case iadd =>
    simp only [x_okI, decide_eq_true_eq] at hok
    subst hok
    simp only [x_st] at h
    split at h
    · exact x_G_of (fun g p l e s m args below meth co H locs ls Qf X hH hS hL k => lv_iadd X.1 X.2.1 hd k) (hk _ h)
    · exact h.elim
  case isub =>
    simp only [x_okI, decide_eq_true_eq] at hok
    subst hok
    simp only [x_st] at h
    split at h
    · exact x_G_of (fun g p l e s m args below meth co H locs ls Qf X hH hS hL k => lv_isub X.1 X.2.1 hd k) (hk _ h)
    · exact h.elim
  case imul =>
    simp only [x_okI, decide_eq_true_eq] at hok
    subst hok
    simp only [x_st] at h
    split at h
    · exact x_G_of (fun g p l e s m args below meth co H locs ls Qf X hH hS hL k => lv_imul X.1 X.2.1 hd k) (hk _ h)
    · exact h.elim
  case iand =>
    simp only [x_okI, decide_eq_true_eq] at hok
    subst hok
    simp only [x_st] at h
    split at h
    · exact x_G_of (fun g p l e s m args below meth co H locs ls Qf X hH hS hL k => lv_iand X.1 X.2.1 hd k) (hk _ h)
    · exact h.elim
  case ior =>
    simp only [x_okI, decide_eq_true_eq] at hok
    subst hok
    simp only [x_st] at h
    split at h
    · exact x_G_of (fun g p l e s m args below meth co H locs ls Qf X hH hS hL k => lv_ior X.1 X.2.1 hd k) (hk _ h)
    · exact h.elim
  case ixor =>
    simp only [x_okI, decide_eq_true_eq] at hok
    subst hok
    simp only [x_st] at h
    split at h
    · exact x_G_of (fun g p l e s m args below meth co H locs ls Qf X hH hS hL k => lv_ixor X.1 X.2.1 hd k) (hk _ h)
    · exact h.elim
  case ishl =>
    simp only [x_okI, decide_eq_true_eq] at hok
    subst hok
    simp only [x_st] at h
    split at h
    · exact x_G_of (fun g p l e s m args below meth co H locs ls Qf X hH hS hL k => lv_ishl X.1 X.2.1 hd k) (hk _ h)
    · exact h.elim
  case ishr =>
    simp only [x_okI, decide_eq_true_eq] at hok
    subst hok
    simp only [x_st] at h
    split at h
    · exact x_G_of (fun g p l e s m args below meth co H locs ls Qf X hH hS hL k => lv_ishr X.1 X.2.1 hd k) (hk _ h)
    · exact h.elim
  case iushr =>
    simp only [x_okI, decide_eq_true_eq] at hok
    subst hok
    simp only [x_st] at h
    split at h
    · exact x_G_of (fun g p l e s m args below meth co H locs ls Qf X hH hS hL k => lv_iushr X.1 X.2.1 hd rfl k) (hk _ h)
    · exact h.elim
  case dup =>
    simp only [x_okI, decide_eq_true_eq] at hok
    subst hok
    simp only [x_st] at h
    split at h
    · exact x_G_of (fun g p l e s m args below meth co H locs ls Qf X hH hS hL k => lv_dup X.1 X.2.1 hd rfl k) (hk _ h)
    · exact x_G_of (fun g p l e s m args below meth co H locs ls Qf X hH hS hL k => lv_dup X.1 X.2.1 hd rfl k) (hk _ h)
    · exact h.elim
  case pop =>
    simp only [x_okI, decide_eq_true_eq] at hok
    subst hok
    simp only [x_st] at h
    split at h
    · next x st' => exact x_G_of (fun g p l e s m args below meth co H locs ls Qf X hH hS hL k => lv_pop (va := .int x) X.1 X.2.1 hd rfl k) (hk _ h)
    · next x st' => exact x_G_of (fun g p l e s m args below meth co H locs ls Qf X hH hS hL k => lv_pop (va := x_v g (.ref x)) X.1 X.2.1 hd rfl k) (hk _ h)
    · exact h.elim
  case goto off =>
    simp only [x_okI, decide_eq_true_eq] at hok
    obtain ⟨ht, rfl⟩ := hok
    exact x_G_of (fun g p l e s m args below meth co H locs ls Qf X hH hS hL k => lv_goto X.1 X.2.1 hd ht k) (hk _ h)
  case ifCond cc off =>
    simp only [x_okI, decide_eq_true_eq] at hok
    obtain ⟨ht, rfl⟩ := hok
    simp only [x_st] at h
    split at h
    · next x st' =>
      cases cc
      · exact x_G_of2 (fun g p l e s m args below meth co H locs ls Qf X k1 k2 => lv_if_eq X.1 X.2.1 hd ht k1 k2) (fun z => hk _ (h.1 z)) (fun z => hk _ (h.2 z))
      · exact x_G_of2 (fun g p l e s m args below meth co H locs ls Qf X k1 k2 => lv_if_ne X.1 X.2.1 hd ht k1 k2) (fun z => hk _ (h.1 z)) (fun z => hk _ (h.2 z))
      · exact x_G_of2 (fun g p l e s m args below meth co H locs ls Qf X k1 k2 => lv_if_lt X.1 X.2.1 hd ht k1 k2) (fun z => hk _ (h.1 z)) (fun z => hk _ (h.2 z))
      · exact x_G_of2 (fun g p l e s m args below meth co H locs ls Qf X k1 k2 => lv_if_ge X.1 X.2.1 hd ht k1 k2) (fun z => hk _ (h.1 z)) (fun z => hk _ (h.2 z))
      · exact x_G_of2 (fun g p l e s m args below meth co H locs ls Qf X k1 k2 => lv_if_gt X.1 X.2.1 hd ht k1 k2) (fun z => hk _ (h.1 z)) (fun z => hk _ (h.2 z))
      · exact x_G_of2 (fun g p l e s m args below meth co H locs ls Qf X k1 k2 => lv_if_le X.1 X.2.1 hd ht k1 k2) (fun z => hk _ (h.1 z)) (fun z => hk _ (h.2 z))
    · exact h.elim
  case if_icmp cc off =>
    simp only [x_okI, decide_eq_true_eq] at hok
    obtain ⟨ht, rfl⟩ := hok
    simp only [x_st] at h
    split at h
    · next y x st' =>
      cases cc
      · exact x_G_of2 (fun g p l e s m args below meth co H locs ls Qf X k1 k2 => lv_icmp_eq X.1 X.2.1 hd ht k1 k2) (fun z => hk _ (h.1 z)) (fun z => hk _ (h.2 z))
      · exact x_G_of2 (fun g p l e s m args below meth co H locs ls Qf X k1 k2 => lv_icmp_ne X.1 X.2.1 hd ht k1 k2) (fun z => hk _ (h.1 z)) (fun z => hk _ (h.2 z))
      · exact x_G_of2 (fun g p l e s m args below meth co H locs ls Qf X k1 k2 => lv_icmp_lt X.1 X.2.1 hd ht k1 k2) (fun z => hk _ (h.1 z)) (fun z => hk _ (h.2 z))
      · exact x_G_of2 (fun g p l e s m args below meth co H locs ls Qf X k1 k2 => lv_icmp_ge X.1 X.2.1 hd ht k1 k2) (fun z => hk _ (h.1 z)) (fun z => hk _ (h.2 z))
      · exact x_G_of2 (fun g p l e s m args below meth co H locs ls Qf X k1 k2 => lv_icmp_gt X.1 X.2.1 hd ht k1 k2) (fun z => hk _ (h.1 z)) (fun z => hk _ (h.2 z))
      · exact x_G_of2 (fun g p l e s m args below meth co H locs ls Qf X k1 k2 => lv_icmp_le X.1 X.2.1 hd ht k1 k2) (fun z => hk _ (h.1 z)) (fun z => hk _ (h.2 z))
    · exact h.elim
  case getfield i =>
    simp only [x_okI] at hok
    simp only [x_st] at h
    split at h
    · next a st' ci j more =>
      split at h
      · next v hv =>
        obtain ⟨fs, f, h1, h2, rfl⟩ := x_rd_of hv
        split at hok
        · next ci' j' wi more' he =>
          cases he
          split at hok
          · next q hq =>
            simp only [Bool.and_eq_true, decide_eq_true_eq] at hok
            obtain ⟨⟨hj, rfl⟩, hw⟩ := hok
            refine x_G_of (fun g p l e s m args below meth co H locs ls Qf X hH hS hL k => ?_) (hk _ h)
            obtain ⟨C, T, N⟩ := q
            show W p l e _ s m args below meth co H locs cs ss Qf (F0 m pc0 ls (.ref (x_ad g a) :: st'.map (x_v g)))
            rw [x_ad_lt (Nat.lt_trans (x_lt h1) hH.2.1)]
            exact va_get (C := C) (T := T) (N := N) (ci := ci) X.1 X.2.1 X.2.2.2.2.2.2.1 (fun w hw => List.mem_cons_of_mem _ ((x_cls ci _ hq).1 w hw)) X.2.2.2.2.2.1 X.2.2.2.2.2.2.2.2.1 hH.2.2.1 a (x_cs_at h1) hq j hj (X.2.2.2.2.2.2.1 _ (x_wd_in (M := M) hw)) (fun _ h9 => h9) (by simp [List.getElem?_mapIdx, h2]) hd k
          · cases hok
        · cases hok
      · exact h.elim
    · exact h.elim
  case putfield i =>
    simp only [x_okI] at hok
    split at hok
    · next ci j wi ty more =>
      split at hok
      · next q hq =>
        simp only [Bool.and_eq_true, decide_eq_true_eq] at hok
        obtain ⟨⟨⟨⟨hj, rfl⟩, hw⟩, hfin⟩, hty⟩ := hok
        simp only [x_st] at h
        split at h
        · next x a st' ci' j' wi' ty' more' he =>
          cases he
          split at h
          · next x0 hv =>
            obtain ⟨fs, f, h1, h2, h3⟩ := x_rd_of hv
            have hf : f = none := by
              rcases f with _ | _ | _
              · rfl
              · cases h3
              · cases h3
            subst hf
            have hlj : j < fs.length := (List.getElem?_eq_some_iff.mp h2).1
            have done : ∀ (ft : FieldType), parseFieldDescriptor (q.2.1 j).2.2.1 = some ft → narrow ft (.int x) = .int x → fits ft (.int x) = true → k (pc0 + 3, lv, st', (w.1, x_u w.2 a j x), cs, ss) → x_G M Ex (pc0, lv, .int x :: .ref a :: st', w, cs, ss) := by
              intro ft hft hn hfit h
              intro g p l e s m args below meth co H locs ls Qf X E hH hS hL
              refine x_put X hH hS h1 hq hj hw hfin hft hn hfit hlj hd (fun H1 locs1 hP1 hz hS1 => ?_)
              dsimp only at hP1
              rw [show x_v g (.int x) = .int x from rfl, x_set_f h1 h2] at hP1
              have hal : a < 1000 := Nat.lt_trans (x_lt h1) hH.2.1
              exact hk _ h g p l e s m args below meth co H1 locs1 ls Qf X E (hH.w hz hP1 (x_u_same (Nat.ne_of_gt hal)) (x_u_same (Nat.ne_of_gt (Nat.lt_succ_of_lt hal)))) hS1 hL
            split at h
            · exact done .int (of_decide_eq_true hty) rfl rfl h
            · refine done .boolean (of_decide_eq_true hty) ?_ ?_ h.2
              · rcases h.1 with rfl | rfl <;> decide +kernel
              · rcases h.1 with rfl | rfl <;> decide +kernel
            · exact h.elim
          · exact h.elim
        · next r a st' ci' j' wi' more' he =>
          cases he
          split at h
          · next o ho =>
            split at h
            · next y hb hy =>
              have e1 : o.1 = ci := Nat.eq_of_beq_eq_true hb
              have h1 : w.1[a]? = some (.inr (ci, o.2)) := by rw [ho, ← e1]
              have hlj : j < o.2.length := (List.getElem?_eq_some_iff.mp hy).1
              have done : ∀ (ft : FieldType), parseFieldDescriptor (q.2.1 j).2.2.1 = some ft → (∀ z, narrow ft (.ref z) = .ref z) → (∀ z, fits ft (.ref z) = true) → x_G M Ex (pc0, lv, .ref r :: .ref a :: st', w, cs, ss) := by
                intro ft hft hn hfit
                intro g p l e s m args below meth co H locs ls Qf X E hH hS hL
                refine x_put (v := x_v g (.ref r)) X hH hS h1 hq hj hw hfin hft (hn _) (hfit _) hlj hd (fun H1 locs1 hP1 hz hS1 => ?_)
                dsimp only at hP1
                rw [x_set_r h1 hy] at hP1
                rw [e1] at h
                refine hk _ h g p l e s m args below meth co H1 locs1 ls Qf X E ⟨?_, ?_, hP1, hH.2.2.2.1, hH.2.2.2.2⟩ hS1 hL
                · show H1.size = x_h g + (w.1.set a _).length
                  rw [List.length_set, hz]
                  exact hH.1
                · show (w.1.set a _).length < 1000
                  rw [List.length_set]
                  exact hH.2.1
              have hty : (match parseFieldDescriptor (q.2.1 j).2.2.1 with
                | some (.object _) => true
                | some (.array _) => true
                | _ => false) = true := hty
              split at hty
              · next n hn => exact done _ hn (fun _ => rfl) (fun _ => rfl)
              · next n hn => exact done _ hn (fun _ => rfl) (fun _ => rfl)
              · cases hty
            · exact h.elim
          · exact h.elim
        · exact h.elim
      · cases hok
    · cases hok
  case iaload =>
    simp only [x_okI, decide_eq_true_eq] at hok
    subst hok
    simp only [x_st] at h
    split at h
    · next i a st' =>
      split at h
      · next hb =>
        have ha : a = 1000 := Nat.eq_of_beq_eq_true hb
        subst ha
        refine x_G_of (fun g p l e s m args below meth co H locs ls Qf X hH hS hL k => ?_) (hk _ h.2)
        obtain ⟨hx, hb, -, -, -, -, -, -, -, -, -, hXs, hbh, hhs, hL5⟩ := X
        have hn : (w.2 1001 0).toNatClampNeg = x_L g := by
          rw [hH.2.2.2.2]
          exact nI_clamp (by omega)
        have hin : vp_in i (x_L g) := by rw [← hn]; exact h.1
        have hlt : i.toNatClampNeg < x_L g := Nat.not_le.mp fun q => hin (Or.inr q)
        show W p l e _ s m args below meth co H locs cs ss Qf (F0 m pc0 ls (.int i :: .ref (x_ad g 1000) :: st'.map (x_v g)))
        rw [x_ad_b]
        refine va_sld hx hb hXs (Nat.lt_of_lt_of_le hbh hhs) (Nat.not_le.mpr hbh) hS hin hd ?_
        rw [← hH.2.2.2.1 _ hlt]
        exact k
      · next hb =>
        split at h
        · next n hn =>
          have h1 := x_al_of hn
          refine x_G_of (fun g p l e s m args below meth co H locs ls Qf X hH hS hL k => ?_) (hk _ h.2)
          show W p l e _ s m args below meth co H locs cs ss Qf (F0 m pc0 ls (.int i :: .ref (x_ad g a) :: st'.map (x_v g)))
          rw [x_ad_lt (Nat.lt_trans (x_lt h1) hH.2.1)]
          exact va_iald X.1 X.2.1 X.2.2.2.2.2.2.2.2.1 hH.2.2.1 a 0 (x_cs_at h1) rfl h.1 hd k
        · exact h.elim
    · exact h.elim
  case iastore =>
    simp only [x_okI, decide_eq_true_eq] at hok
    subst hok
    simp only [x_st] at h
    split at h
    · next x i a st' =>
      split at h
      · next n hn =>
        have h1 := x_al_of hn
        intro g p l e s m args below meth co H locs ls Qf X E hH hS hL
        exact x_iast X hH hS h1 h.1 hd (fun H1 locs1 hH1 hS1 => hk _ h.2 g p l e s m args below meth co H1 locs1 ls Qf X E hH1 hS1 hL)
      · exact h.elim
    · exact h.elim
  case arraylength =>
    simp only [x_okI, decide_eq_true_eq] at hok
    subst hok
    simp only [x_st] at h
    split at h
    · next a st' =>
      split at h
      · next hb =>
        have ha : a = 1000 := Nat.eq_of_beq_eq_true hb
        subst ha
        refine x_G_of (fun g p l e s m args below meth co H locs ls Qf X hH hS hL k => ?_) (hk _ h)
        obtain ⟨hx, hb, -, -, -, -, -, -, -, -, -, hXs, hbh, hhs, hL5⟩ := X
        show W p l e _ s m args below meth co H locs cs ss Qf (F0 m pc0 ls (.ref (x_ad g 1000) :: st'.map (x_v g)))
        rw [x_ad_b]
        refine va_slen hx hb hXs (Nat.lt_of_lt_of_le hbh hhs) (Nat.not_le.mpr hbh) hS hd ?_
        rw [← hH.2.2.2.2]
        exact k
      · next hb =>
        split at h
        · next n hn =>
          have h1 := x_al_of hn
          refine x_G_of (fun g p l e s m args below meth co H locs ls Qf X hH hS hL k => ?_) (hk _ h)
          show W p l e _ s m args below meth co H locs cs ss Qf (F0 m pc0 ls (.ref (x_ad g a) :: st'.map (x_v g)))
          rw [x_ad_lt (Nat.lt_trans (x_lt h1) hH.2.1)]
          exact va_alen X.1 X.2.1 X.2.2.2.2.2.2.2.2.1 hH.2.2.1 a 0 (x_cs_at h1) (ty := .int) rfl rfl hd k
        · exact h.elim
    · exact h.elim
  case invokevirtual i =>
    simp only [x_okI, Bool.and_eq_true, decide_eq_true_eq] at hok
    obtain ⟨⟨rfl, hc⟩, hkd⟩ := hok
    exact x_callG (lvx := []) hsum hc hd (Or.inl ⟨rfl, hkd⟩) h hk
  case invokestatic i =>
    simp only [x_okI, Bool.and_eq_true, decide_eq_true_eq] at hok
    obtain ⟨⟨rfl, hc⟩, hkd⟩ := hok
    exact x_callG (lvx := []) hsum hc hd (Or.inr (Or.inl ⟨rfl, hkd⟩)) h hk
  case invokespecial i =>
    simp only [x_okI] at hok
    simp only [x_st] at h
    split at h
    · next more =>
      split at hok
      · next a b c more' he =>
        cases he
        simp only [Bool.and_eq_true, decide_eq_true_eq] at hok
        obtain ⟨⟨⟨⟨rfl, hf, hl⟩, ha⟩, hb⟩, hc⟩ := hok
        split at h
        · next r st' =>
          split at h
          · next hcat =>
            have hcat := Nat.le_of_ble_eq_true hcat
            refine x_G_of (fun g p l e s m args below meth co H locs ls Qf X hH hS hL k => ?_) (hk _ h)
            have h8 : 2 * (F0 m pc0 ls (st'.map (x_v g))).monitorRoom + ((st'.map (x_v g)).map fun v => v.category).sum ≤ 8 := lv_room (by rw [x_cats]; exact hcat)
            exact W.objInit X.1 X.2.1 X.2.2.2.2.2.1 (X.2.2.2.2.2.2.1 _ (x_wd_in (M := M) ha)) (X.2.2.2.2.2.2.1 _ (x_wd_in (M := M) hb)) (X.2.2.2.2.2.2.1 _ (x_wd_in (M := M) hc)) rfl (by rw [X.2.2.2.2.1]; exact hL.2.1) rfl hd hf (Nat.le_trans (Nat.add_le_add_right h8 12) hl) k
          · exact h.elim
        · exact h.elim
      · next hne =>
        simp only [Bool.and_eq_true, decide_eq_true_eq] at hok
        rcases more with _ | ⟨a, _ | ⟨b, _ | ⟨c, more⟩⟩⟩
        · exact absurd hok.1.2 Bool.false_ne_true
        · exact absurd hok.1.2 Bool.false_ne_true
        · exact absurd hok.1.2 Bool.false_ne_true
        · exact absurd rfl (hne a b c more)
    · next hne =>
      split at hok
      · next a b c more' => exact absurd rfl (hne _)
      · simp only [Bool.and_eq_true, decide_eq_true_eq] at hok
        obtain ⟨⟨rfl, hc⟩, hkd⟩ := hok
        exact x_callG (lvx := []) hsum hc hd (Or.inr (Or.inr ⟨rfl, hkd⟩)) h hk
  case new i =>
    simp only [x_okI] at hok
    simp only [x_st] at h
    split at hok
    · next ci N a b c more =>
      split at hok
      · next q hq =>
        simp only [Bool.and_eq_true, decide_eq_true_eq] at hok
        obtain ⟨⟨⟨⟨rfl, rfl⟩, ha⟩, hb⟩, hc⟩ := hok
        obtain ⟨⟨h1, h2, h3⟩, h4⟩ := h
        intro g p l e s m args below meth co H locs ls Qf X E hH hS hL
        exact x_newo X hH hS hq ha hb hc h1 h2 h3 hd (fun H1 hH1 hS1 => hk _ h4 g p l e s m args below meth co H1 locs ls Qf X E hH1 hS1 hL)
      · cases hok
    · cases hok
  case newarray ty =>
    simp only [x_okI] at hok
    simp only [x_st] at h
    split at hok
    · next a more =>
      simp only [Bool.and_eq_true, decide_eq_true_eq] at hok
      obtain ⟨⟨rfl, rfl⟩, ha⟩ := hok
      split at h
      · next n st' =>
        obtain ⟨⟨h0, h1, h2, h3, h4⟩, h5⟩ := h
        intro g p l e s m args below meth co H locs ls Qf X E hH hS hL
        exact x_newi X hH hS ha h0 h1 h2 h3 h4 hd (fun H1 hH1 hS1 => hk _ h5 g p l e s m args below meth co H1 locs ls Qf X E hH1 hS1 hL)
      · exact h.elim
    · cases hok
  case ireturn =>
    simp only [x_okI] at hok
    simp only [x_st] at h
    split at h
    · next x =>
      split at h
      · next =>
        simp only [decide_eq_true_eq] at hok
        obtain ⟨rfl, hr⟩ := hok
        intro g p l e s m args below meth co H locs ls Qf X E hH hS hL
        exact E pc0 H locs ls (some (.int x)) w cs ss (Or.inr (Or.inl ⟨x, rfl, hd, Or.inr ⟨hr, h.1⟩⟩)) h.2 hH hS
      · next hne =>
        split at hok
        · next => exact absurd rfl hne
        · simp only [decide_eq_true_eq] at hok
          obtain ⟨rfl, hr⟩ := hok
          intro g p l e s m args below meth co H locs ls Qf X E hH hS hL
          exact E pc0 H locs ls (some (.int x)) w cs ss (Or.inr (Or.inl ⟨x, rfl, hd, Or.inl hr⟩)) h hH hS
    · exact h.elim
  case areturn =>
    simp only [x_okI] at hok
    simp only [x_st] at h
    split at hok
    · next n hr =>
      simp only [decide_eq_true_eq] at hok
      subst hok
      split at h
      · next a =>
        intro g p l e s m args below meth co H locs ls Qf X E hH hS hL
        exact E pc0 H locs ls (some (.ref a)) w cs ss (Or.inr (Or.inr ⟨a, rfl, hd, n, hr⟩)) h hH hS
      · exact h.elim
    · cases hok
  case return_ =>
    simp only [x_okI, decide_eq_true_eq] at hok
    obtain ⟨rfl, hr⟩ := hok
    simp only [x_st] at h
    split at h
    · intro g p l e s m args below meth co H locs ls Qf X E hH hS hL
      exact E pc0 H locs ls none w cs ss (Or.inl ⟨rfl, hd, hr⟩) h hH hS
    · exact h.elim
  all_goals cases hok
/-- A STRETCH: what it asks is enough -/
theorem x_wp_sound {M : xM} {Ex : xEx} {sums : List (Nat × xSm)} {tb : List xT} {cuts : List Nat} (hsum : ∀ q ∈ sums, x_VS q) (htb : tb.all (x_okT M) = true) : ∀ (n : Nat) (c : xC), x_wp M.2.2.2.2 sums tb cuts (x_G M Ex) Ex n c → x_G M Ex c := by
  intro n
  induction n with
  | zero => exact fun c h => h
  | succ n ih =>
    intro c h
    rw [x_wp] at h
    split at h
    · next t ht =>
      obtain ⟨h1, h2⟩ := x_look_in ht
      refine x_st_sound hsum (List.all_eq_true.mp htb t h1) h2 h (fun c' hc' => ?_)
      split at hc'
      · exact hc'
      · exact ih c' hc'
    · exact h.elim
/-- the end of a contract -/
def x_ExC (M : xM) (Q : Option Value → xW → Prop) : xEx := fun r w cs ss => cs ≤ M.2.2.2.2.cells ∧ ss ≤ M.2.2.2.2.slots ∧ Q r w
/-- the locals at the entry -/
def x_lv0 (args : List Value) (nL : Nat) : List (Option Value) := args.map some ++ List.replicate (nL - args.length) none
end
section
/-! ===== a contract out of a walk ===== -/
theorem x_lv_entry {g : xG} {args : List Value} {n : Nat} (hl : args.length ≤ n) (hc : ∀ v ∈ args, v.category = 1) : x_lv g ((lg_sl (args.map (x_v g)) ++ List.replicate (n - (lg_sl (args.map (x_v g))).length) Slot.unset).toArray) n (x_lv0 args n) := by
  have hsl : ∀ vs : List Value, (∀ v ∈ vs, v.category = 1) → lg_sl (vs.map (x_v g)) = vs.map (fun v => Slot.val (x_v g v)) := by
    intro vs
    induction vs with
    | nil => intro _; rfl
    | cons v vs ih =>
      intro h
      have h1 := ih (fun u hu => h u (List.mem_cons_of_mem _ hu))
      have h2 : (x_v g v).category = 1 := by rw [x_cat]; exact h v List.mem_cons_self
      simp only [List.map_cons]
      rw [← h1]
      simp [lg_sl, h2]
  have e := hsl args hc
  have h0 := lv_entry (args.map (x_v g)) (n := n) (by rw [e, List.length_map]; exact hl)
  refine ⟨by simp [x_lv0]; omega, h0.1, h0.2.1, fun i v hi => ?_⟩
  have hi2 : i < args.length := by
    rcases Nat.lt_or_ge i args.length with q | q
    · exact q
    · unfold x_lv0 at hi
      rw [List.getElem?_append_right (by simpa using q)] at hi
      rw [List.getElem?_replicate] at hi
      split at hi <;> cases hi
  unfold x_lv0 at hi
  rw [List.getElem?_append_left (by simpa using hi2)] at hi
  have hv : args[i]? = some v := by
    rw [List.getElem?_map] at hi
    cases ha : args[i]? with
    | none => rw [ha] at hi; cases hi
    | some u => rw [ha] at hi; cases hi; rfl
  refine ⟨hc v (List.mem_of_getElem? hv), ?_⟩
  obtain ⟨_, hv2⟩ := List.getElem?_eq_some_iff.mp hv
  rw [e]
  simp [List.getElem?_append_left, hi2, hv2]
theorem x_con {M : xM} {args : List Value} {w : xW} {Q : Option Value → xW → Prop} (hy : plainName M.1.cls = true) (hl : args.length ≤ M.2.2.1) (hc : ∀ v ∈ args, v.category = 1) (h : x_G M (x_ExC M Q) (0, x_lv0 args M.2.2.1, [], w, 0, 0)) : x_Con M args w Q := by
  intro g l
  refine Met.ofW (cc := M.2.1) (maxL := M.2.2.1) (ret := M.2.2.2.1) hy rfl ?_
  intro p e s m a below meth c s₁ B hml hv
  obtain ⟨rfl, hK, hH⟩ := hv
  have X : x_X M g p s m (args.map (x_v g)).toArray meth c := ⟨B.exec, B.bytes, B.returns, B.notSynchronized, hml, findClass_of_methodNamed B.named, atoms_spec (ws := x_ws M) B.pre, (name_of_methodNamed B.named B.method).1, hK⟩
  rw [lg_entry_eq]
  refine h g p l e s m _ below meth c s.heap [] _ _ X ?_ hH va_S.rf (x_lv_entry hl hc)
  intro pc H locs ls v w' cs ss hrt hEx hH' hS'
  obtain ⟨hcs, hss, hQ⟩ := hEx
  refine W.widen (k := M.2.2.2.2.cells) (n := M.2.2.2.2.slots) hcs hss ?_
  have hlocks := B.notSynchronized
  rcases hrt with ⟨rfl, hd, hr⟩ | ⟨x, rfl, hd, hr⟩ | ⟨b, rfl, hd, n, hr⟩
  · exact W.vret B.exec B.bytes (B.returns.trans hr) (fun t ht hW => ⟨⟨none, w', rfl, hQ, by rw [ht]; exact hH'⟩, hS'.F ht⟩) hS'.2.2 hd
  · rcases hr with hr | ⟨hr, hx⟩
    · exact W.iret (v := x) B.exec B.bytes (B.returns.trans hr) (fun t ht hW => ⟨⟨some (.int x), w', rfl, hQ, by rw [ht]; exact hH'⟩, hS'.F ht⟩) hS'.2.2 hd
    · refine W.zret (v := x) (ty := .boolean) B.exec B.bytes (B.returns.trans hr) ?_ (fun t ht hW => ⟨⟨some (.int x), w', rfl, hQ, by rw [ht]; exact hH'⟩, hS'.F ht⟩) hS'.2.2 hd
      rcases hx with rfl | rfl <;> decide +kernel
  · exact W.aret (v := x_v g (.ref b)) (rt := .object n) B.exec B.bytes (B.returns.trans hr) (Or.inl ⟨n, rfl⟩) (Or.inr ⟨_, rfl⟩) (fun t ht hW => ⟨⟨some (.ref b), w', rfl, hQ, by rw [ht]; exact hH'⟩, hS'.F ht⟩) hS'.2.2 hd
end
section
/-! ===== the constructors: tables and checks (printed by wip/whole/ctor.py) ===== -/
def tb_X0_init : List xT := [(0, .aload_n 0, 1, [], 0),
  (1, .invokespecial 3, 3, [9999, 92, 85, 86], 0),
  (4, .aload_n 0, 1, [], 0),
  (5, .new 9, 3, [7, 1, 93, 94, 64], 0),
  (8, .dup, 1, [], 0),
  (9, .bipush 6, 2, [], 6),
  (11, .invokespecial 11, 3, [65, 2, 2, 7, 1, 6, 95, 96, 0, 64, 97], 0),
  (14, .putfield 14, 3, [0, 0, 104, 2, 1], 0),
  (17, .aload_n 0, 1, [], 0),
  (18, .new 9, 3, [7, 1, 93, 94, 64], 0),
  (21, .dup, 1, [], 0),
  (22, .bipush 6, 2, [], 6),
  (24, .invokespecial 11, 3, [65, 2, 2, 7, 1, 6, 95, 96, 0, 64, 97], 0),
  (27, .putfield 20, 3, [0, 1, 108, 2, 1], 0),
  (30, .aload_n 0, 1, [], 0),
  (31, .new 9, 3, [7, 1, 93, 94, 64], 0),
  (34, .dup, 1, [], 0),
  (35, .bipush 6, 2, [], 6),
  (37, .invokespecial 11, 3, [65, 2, 2, 7, 1, 6, 95, 96, 0, 64, 97], 0),
  (40, .putfield 23, 3, [0, 2, 110, 2, 1], 0),
  (43, .aload_n 0, 1, [], 0),
  (44, .new 9, 3, [7, 1, 93, 94, 64], 0),
  (47, .dup, 1, [], 0),
  (48, .bipush 6, 2, [], 6),
  (50, .invokespecial 11, 3, [65, 2, 2, 7, 1, 6, 95, 96, 0, 64, 97], 0),
  (53, .putfield 26, 3, [0, 3, 114, 2, 1], 0),
  (56, .aload_n 0, 1, [], 0),
  (57, .new 9, 3, [7, 1, 93, 94, 64], 0),
  (60, .dup, 1, [], 0),
  (61, .bipush 32, 2, [], 32),
  (63, .invokespecial 11, 3, [69, 2, 2, 7, 1, 32, 95, 96, 0, 64, 97], 0),
  (66, .putfield 29, 3, [0, 4, 118, 2, 1], 0),
  (69, .return_, 1, [], 0)]
set_option maxRecDepth 100000 in
theorem ok_X0_init : tb_X0_init.all (x_okT M_X0_init) = true := by decide +kernel
def tb_X1_init_24 : List xT := [(0, .aload_n 0, 1, [], 0),
  (1, .invokespecial 3, 3, [9999, 306, 85, 86], 0),
  (4, .aload_n 0, 1, [], 0),
  (5, .iload_n 1, 1, [], 0),
  (6, .putfield 9, 3, [1, 1, 310, 0, 1], 0),
  (9, .aload_n 0, 1, [], 0),
  (10, .new 15, 3, [7, 1, 307, 94, 64], 0),
  (13, .dup, 1, [], 0),
  (14, .iload_n 1, 1, [], 0),
  (15, .invokespecial 17, 3, [68, 2, 2, 7, 1, 24, 308, 96, 0, 64, 97], 0),
  (18, .putfield 20, 3, [1, 0, 309, 2, 1], 0),
  (21, .return_, 1, [], 0)]
set_option maxRecDepth 100000 in
theorem ok_X1_init_24 : tb_X1_init_24.all (x_okT M_X1_init_24) = true := by decide +kernel
def tb_X1_init_40 : List xT := [(0, .aload_n 0, 1, [], 0),
  (1, .invokespecial 3, 3, [9999, 306, 85, 86], 0),
  (4, .aload_n 0, 1, [], 0),
  (5, .iload_n 1, 1, [], 0),
  (6, .putfield 9, 3, [1, 1, 310, 0, 1], 0),
  (9, .aload_n 0, 1, [], 0),
  (10, .new 15, 3, [7, 1, 307, 94, 64], 0),
  (13, .dup, 1, [], 0),
  (14, .iload_n 1, 1, [], 0),
  (15, .invokespecial 17, 3, [70, 2, 2, 7, 1, 40, 308, 96, 0, 64, 97], 0),
  (18, .putfield 20, 3, [1, 0, 309, 2, 1], 0),
  (21, .return_, 1, [], 0)]
set_option maxRecDepth 100000 in
theorem ok_X1_init_40 : tb_X1_init_40.all (x_okT M_X1_init_40) = true := by decide +kernel
def tb_X2_init : List xT := [(0, .aload_n 0, 1, [], 0),
  (1, .invokespecial 3, 3, [9999, 183, 85, 86], 0),
  (4, .aload_n 0, 1, [], 0),
  (5, .new 9, 3, [7, 1, 184, 94, 64], 0),
  (8, .dup, 1, [], 0),
  (9, .bipush 8, 2, [], 8),
  (11, .invokespecial 11, 3, [66, 2, 2, 7, 1, 8, 185, 96, 0, 64, 97], 0),
  (14, .putfield 14, 3, [2, 0, 186, 2, 1], 0),
  (17, .aload_n 0, 1, [], 0),
  (18, .new 9, 3, [7, 1, 184, 94, 64], 0),
  (21, .dup, 1, [], 0),
  (22, .bipush 8, 2, [], 8),
  (24, .invokespecial 11, 3, [66, 2, 2, 7, 1, 8, 185, 96, 0, 64, 97], 0),
  (27, .putfield 20, 3, [2, 1, 188, 2, 1], 0),
  (30, .aload_n 0, 1, [], 0),
  (31, .new 9, 3, [7, 1, 184, 94, 64], 0),
  (34, .dup, 1, [], 0),
  (35, .bipush 8, 2, [], 8),
  (37, .invokespecial 11, 3, [66, 2, 2, 7, 1, 8, 185, 96, 0, 64, 97], 0),
  (40, .putfield 23, 3, [2, 2, 189, 2, 1], 0),
  (43, .return_, 1, [], 0)]
set_option maxRecDepth 100000 in
theorem ok_X2_init : tb_X2_init.all (x_okT M_X2_init) = true := by decide +kernel
def tb_X3_init : List xT := [(0, .aload_n 0, 1, [], 0),
  (1, .invokespecial 3, 3, [9999, 140, 85, 86], 0),
  (4, .aload_n 0, 1, [], 0),
  (5, .new 9, 3, [7, 1, 141, 94, 64], 0),
  (8, .dup, 1, [], 0),
  (9, .bipush 16, 2, [], 16),
  (11, .invokespecial 11, 3, [67, 2, 2, 7, 1, 16, 142, 96, 0, 64, 97], 0),
  (14, .putfield 14, 3, [3, 1, 144, 2, 1], 0),
  (17, .aload_n 0, 1, [], 0),
  (18, .new 9, 3, [7, 1, 141, 94, 64], 0),
  (21, .dup, 1, [], 0),
  (22, .bipush 16, 2, [], 16),
  (24, .invokespecial 11, 3, [67, 2, 2, 7, 1, 16, 142, 96, 0, 64, 97], 0),
  (27, .putfield 20, 3, [3, 2, 148, 2, 1], 0),
  (30, .aload_n 0, 1, [], 0),
  (31, .new 9, 3, [7, 1, 141, 94, 64], 0),
  (34, .dup, 1, [], 0),
  (35, .bipush 16, 2, [], 16),
  (37, .invokespecial 11, 3, [67, 2, 2, 7, 1, 16, 142, 96, 0, 64, 97], 0),
  (40, .putfield 23, 3, [3, 3, 152, 2, 1], 0),
  (43, .aload_n 0, 1, [], 0),
  (44, .new 9, 3, [7, 1, 141, 94, 64], 0),
  (47, .dup, 1, [], 0),
  (48, .bipush 16, 2, [], 16),
  (50, .invokespecial 11, 3, [67, 2, 2, 7, 1, 16, 142, 96, 0, 64, 97], 0),
  (53, .putfield 26, 3, [3, 4, 154, 2, 1], 0),
  (56, .aload_n 0, 1, [], 0),
  (57, .new 9, 3, [7, 1, 141, 94, 64], 0),
  (60, .dup, 1, [], 0),
  (61, .bipush 16, 2, [], 16),
  (63, .invokespecial 11, 3, [67, 2, 2, 7, 1, 16, 142, 96, 0, 64, 97], 0),
  (66, .putfield 29, 3, [3, 5, 157, 2, 1], 0),
  (69, .aload_n 0, 1, [], 0),
  (70, .aload_n 1, 1, [], 0),
  (71, .putfield 32, 3, [3, 0, 143, 2, 1], 0),
  (74, .return_, 1, [], 0)]
set_option maxRecDepth 100000 in
theorem ok_X3_init : tb_X3_init.all (x_okT M_X3_init) = true := by decide +kernel
def tb_X4_init : List xT := [(0, .aload_n 0, 1, [], 0),
  (1, .invokespecial 3, 3, [9999, 281, 85, 86], 0),
  (4, .aload_n 0, 1, [], 0),
  (5, .new 9, 3, [8, 4, 282, 203, 67], 0),
  (8, .dup, 1, [], 0),
  (9, .invokespecial 11, 3, [75, 1, 5, 8, 6, 123, 3, 205, 0, 67, 206], 0),
  (12, .putfield 12, 3, [4, 3, 287, 2, 1], 0),
  (15, .aload_n 0, 1, [], 0),
  (16, .aload_n 1, 1, [], 0),
  (17, .putfield 18, 3, [4, 0, 284, 2, 1], 0),
  (20, .aload_n 0, 1, [], 0),
  (21, .aload_n 2, 1, [], 0),
  (22, .putfield 22, 3, [4, 1, 285, 2, 1], 0),
  (25, .aload_n 0, 1, [], 0),
  (26, .aload_n 3, 1, [], 0),
  (27, .putfield 26, 3, [4, 2, 286, 2, 1], 0),
  (30, .return_, 1, [], 0)]
set_option maxRecDepth 100000 in
theorem ok_X4_init : tb_X4_init.all (x_okT M_X4_init) = true := by decide +kernel
def tb_X5_init : List xT := [(0, .aload_n 0, 1, [], 0),
  (1, .invokespecial 3, 3, [9999, 236, 85, 86], 0),
  (4, .aload_n 0, 1, [], 0),
  (5, .new 9, 3, [7, 1, 237, 94, 64], 0),
  (8, .dup, 1, [], 0),
  (9, .iconst 4, 1, [], 4),
  (10, .invokespecial 11, 3, [64, 2, 2, 7, 1, 4, 238, 96, 0, 64, 97], 0),
  (13, .putfield 14, 3, [5, 2, 241, 2, 1], 0),
  (16, .aload_n 0, 1, [], 0),
  (17, .aload_n 1, 1, [], 0),
  (18, .putfield 20, 3, [5, 0, 239, 2, 1], 0),
  (21, .aload_n 0, 1, [], 0),
  (22, .aload_n 2, 1, [], 0),
  (23, .putfield 24, 3, [5, 1, 240, 2, 1], 0),
  (26, .return_, 1, [], 0)]
set_option maxRecDepth 100000 in
theorem ok_X5_init : tb_X5_init.all (x_okT M_X5_init) = true := by decide +kernel
def tb_X6_init : List xT := [(0, .aload_n 0, 1, [], 0),
  (1, .invokespecial 3, 3, [9999, 326, 85, 86], 0),
  (4, .aload_n 0, 1, [], 0),
  (5, .new 9, 3, [7, 1, 327, 94, 64], 0),
  (8, .dup, 1, [], 0),
  (9, .iconst 4, 1, [], 4),
  (10, .invokespecial 11, 3, [64, 2, 2, 7, 1, 4, 328, 96, 0, 64, 97], 0),
  (13, .putfield 14, 3, [6, 0, 329, 2, 1], 0),
  (16, .return_, 1, [], 0)]
set_option maxRecDepth 100000 in
theorem ok_X6_init : tb_X6_init.all (x_okT M_X6_init) = true := by decide +kernel
def tb_X7_init_4 : List xT := [(0, .aload_n 0, 1, [], 0),
  (1, .invokespecial 1, 3, [9999, 98, 85, 86], 0),
  (4, .aload_n 0, 1, [], 0),
  (5, .iload_n 1, 1, [], 0),
  (6, .ifCond .le 7, 3, [13], 0),
  (9, .iload_n 1, 1, [], 0),
  (10, .goto 4, 3, [14], 0),
  (13, .iconst 0, 1, [], 0),
  (14, .newarray .int, 2, [103], 0),
  (16, .putfield 7, 3, [7, 0, 99, 2, 1], 0),
  (19, .return_, 1, [], 0)]
set_option maxRecDepth 100000 in
theorem ok_X7_init_4 : tb_X7_init_4.all (x_okT M_X7_init_4) = true := by decide +kernel
def tb_X7_init_6 : List xT := [(0, .aload_n 0, 1, [], 0),
  (1, .invokespecial 1, 3, [9999, 98, 85, 86], 0),
  (4, .aload_n 0, 1, [], 0),
  (5, .iload_n 1, 1, [], 0),
  (6, .ifCond .le 7, 3, [13], 0),
  (9, .iload_n 1, 1, [], 0),
  (10, .goto 4, 3, [14], 0),
  (13, .iconst 0, 1, [], 0),
  (14, .newarray .int, 2, [103], 0),
  (16, .putfield 7, 3, [7, 0, 99, 2, 1], 0),
  (19, .return_, 1, [], 0)]
set_option maxRecDepth 100000 in
theorem ok_X7_init_6 : tb_X7_init_6.all (x_okT M_X7_init_6) = true := by decide +kernel
def tb_X7_init_8 : List xT := [(0, .aload_n 0, 1, [], 0),
  (1, .invokespecial 1, 3, [9999, 98, 85, 86], 0),
  (4, .aload_n 0, 1, [], 0),
  (5, .iload_n 1, 1, [], 0),
  (6, .ifCond .le 7, 3, [13], 0),
  (9, .iload_n 1, 1, [], 0),
  (10, .goto 4, 3, [14], 0),
  (13, .iconst 0, 1, [], 0),
  (14, .newarray .int, 2, [103], 0),
  (16, .putfield 7, 3, [7, 0, 99, 2, 1], 0),
  (19, .return_, 1, [], 0)]
set_option maxRecDepth 100000 in
theorem ok_X7_init_8 : tb_X7_init_8.all (x_okT M_X7_init_8) = true := by decide +kernel
def tb_X7_init_16 : List xT := [(0, .aload_n 0, 1, [], 0),
  (1, .invokespecial 1, 3, [9999, 98, 85, 86], 0),
  (4, .aload_n 0, 1, [], 0),
  (5, .iload_n 1, 1, [], 0),
  (6, .ifCond .le 7, 3, [13], 0),
  (9, .iload_n 1, 1, [], 0),
  (10, .goto 4, 3, [14], 0),
  (13, .iconst 0, 1, [], 0),
  (14, .newarray .int, 2, [103], 0),
  (16, .putfield 7, 3, [7, 0, 99, 2, 1], 0),
  (19, .return_, 1, [], 0)]
set_option maxRecDepth 100000 in
theorem ok_X7_init_16 : tb_X7_init_16.all (x_okT M_X7_init_16) = true := by decide +kernel
def tb_X7_init_24 : List xT := [(0, .aload_n 0, 1, [], 0),
  (1, .invokespecial 1, 3, [9999, 98, 85, 86], 0),
  (4, .aload_n 0, 1, [], 0),
  (5, .iload_n 1, 1, [], 0),
  (6, .ifCond .le 7, 3, [13], 0),
  (9, .iload_n 1, 1, [], 0),
  (10, .goto 4, 3, [14], 0),
  (13, .iconst 0, 1, [], 0),
  (14, .newarray .int, 2, [103], 0),
  (16, .putfield 7, 3, [7, 0, 99, 2, 1], 0),
  (19, .return_, 1, [], 0)]
set_option maxRecDepth 100000 in
theorem ok_X7_init_24 : tb_X7_init_24.all (x_okT M_X7_init_24) = true := by decide +kernel
def tb_X7_init_32 : List xT := [(0, .aload_n 0, 1, [], 0),
  (1, .invokespecial 1, 3, [9999, 98, 85, 86], 0),
  (4, .aload_n 0, 1, [], 0),
  (5, .iload_n 1, 1, [], 0),
  (6, .ifCond .le 7, 3, [13], 0),
  (9, .iload_n 1, 1, [], 0),
  (10, .goto 4, 3, [14], 0),
  (13, .iconst 0, 1, [], 0),
  (14, .newarray .int, 2, [103], 0),
  (16, .putfield 7, 3, [7, 0, 99, 2, 1], 0),
  (19, .return_, 1, [], 0)]
set_option maxRecDepth 100000 in
theorem ok_X7_init_32 : tb_X7_init_32.all (x_okT M_X7_init_32) = true := by decide +kernel
def tb_X7_init_40 : List xT := [(0, .aload_n 0, 1, [], 0),
  (1, .invokespecial 1, 3, [9999, 98, 85, 86], 0),
  (4, .aload_n 0, 1, [], 0),
  (5, .iload_n 1, 1, [], 0),
  (6, .ifCond .le 7, 3, [13], 0),
  (9, .iload_n 1, 1, [], 0),
  (10, .goto 4, 3, [14], 0),
  (13, .iconst 0, 1, [], 0),
  (14, .newarray .int, 2, [103], 0),
  (16, .putfield 7, 3, [7, 0, 99, 2, 1], 0),
  (19, .return_, 1, [], 0)]
set_option maxRecDepth 100000 in
theorem ok_X7_init_40 : tb_X7_init_40.all (x_okT M_X7_init_40) = true := by decide +kernel
def tb_X8_init : List xT := [(0, .aload_n 0, 1, [], 0),
  (1, .invokespecial 3, 3, [9999, 207, 85, 86], 0),
  (4, .aload_n 0, 1, [], 0),
  (5, .new 9, 3, [7, 1, 208, 94, 64], 0),
  (8, .dup, 1, [], 0),
  (9, .bipush 40, 2, [], 40),
  (11, .invokespecial 11, 3, [70, 2, 2, 7, 1, 40, 209, 96, 0, 64, 97], 0),
  (14, .putfield 14, 3, [8, 0, 210, 2, 1], 0),
  (17, .aload_n 0, 1, [], 0),
  (18, .new 9, 3, [7, 1, 208, 94, 64], 0),
  (21, .dup, 1, [], 0),
  (22, .bipush 40, 2, [], 40),
  (24, .invokespecial 11, 3, [70, 2, 2, 7, 1, 40, 209, 96, 0, 64, 97], 0),
  (27, .putfield 20, 3, [8, 1, 213, 2, 1], 0),
  (30, .aload_n 0, 1, [], 0),
  (31, .new 9, 3, [7, 1, 208, 94, 64], 0),
  (34, .dup, 1, [], 0),
  (35, .bipush 40, 2, [], 40),
  (37, .invokespecial 11, 3, [70, 2, 2, 7, 1, 40, 209, 96, 0, 64, 97], 0),
  (40, .putfield 23, 3, [8, 2, 216, 2, 1], 0),
  (43, .return_, 1, [], 0)]
set_option maxRecDepth 100000 in
theorem ok_X8_init : tb_X8_init.all (x_okT M_X8_init) = true := by decide +kernel
def tb_X9_init : List xT := [(0, .aload_n 0, 1, [], 0),
  (1, .invokespecial 1, 3, [9999, 84, 85, 86], 0),
  (4, .aload_n 0, 1, [], 0),
  (5, .new 7, 3, [0, 6, 87, 88, 63], 0),
  (8, .dup, 1, [], 0),
  (9, .invokespecial 9, 3, [0, 1, 5, 0, 10, 61, 0, 90, 0, 63, 91], 0),
  (12, .putfield 10, 3, [9, 0, 344, 2, 1], 0),
  (15, .aload_n 0, 1, [], 0),
  (16, .new 16, 3, [3, 7, 135, 136, 65], 0),
  (19, .dup, 1, [], 0),
  (20, .aload_n 0, 1, [], 0),
  (21, .getfield 10, 3, [9, 0, 344], 0),
  (24, .invokespecial 18, 3, [25, 2, 2, 3, 10, 85, 137, 138, 0, 65, 139], 0),
  (27, .putfield 21, 3, [9, 1, 345, 2, 1], 0),
  (30, .aload_n 0, 1, [], 0),
  (31, .new 25, 3, [2, 4, 178, 179, 66], 0),
  (34, .dup, 1, [], 0),
  (35, .invokespecial 27, 3, [19, 1, 5, 2, 6, 27, 1, 181, 0, 66, 182], 0),
  (38, .putfield 28, 3, [9, 2, 346, 2, 1], 0),
  (41, .aload_n 0, 1, [], 0),
  (42, .new 32, 3, [8, 4, 202, 203, 67], 0),
  (45, .dup, 1, [], 0),
  (46, .invokespecial 34, 3, [75, 1, 5, 8, 6, 123, 2, 205, 0, 67, 206], 0),
  (49, .putfield 35, 3, [9, 3, 347, 2, 1], 0),
  (52, .aload_n 0, 1, [], 0),
  (53, .new 39, 3, [5, 9, 231, 232, 68], 0),
  (56, .dup, 1, [], 0),
  (57, .aload_n 0, 1, [], 0),
  (58, .getfield 10, 3, [9, 0, 344], 0),
  (61, .aload_n 0, 1, [], 0),
  (62, .getfield 21, 3, [9, 1, 345], 0),
  (65, .invokespecial 41, 3, [45, 3, 2, 5, 2, 5, 233, 234, 0, 68, 235], 0),
  (68, .putfield 44, 3, [9, 4, 348, 2, 1], 0),
  (71, .aload_n 0, 1, [], 0),
  (72, .new 48, 3, [4, 5, 276, 277, 69], 0),
  (75, .dup, 1, [], 0),
  (76, .aload_n 0, 1, [], 0),
  (77, .getfield 10, 3, [9, 0, 344], 0),
  (80, .aload_n 0, 1, [], 0),
  (81, .getfield 21, 3, [9, 1, 345], 0),
  (84, .aload_n 0, 1, [], 0),
  (85, .getfield 44, 3, [9, 4, 348], 0),
  (88, .invokespecial 50, 3, [38, 4, 2, 4, 7, 127, 278, 279, 0, 69, 280], 0),
  (91, .putfield 53, 3, [9, 5, 349, 2, 1], 0),
  (94, .aload_n 0, 1, [], 0),
  (95, .new 57, 3, [1, 3, 301, 302, 70], 0),
  (98, .dup, 1, [], 0),
  (99, .bipush 24, 2, [], 24),
  (101, .invokespecial 59, 3, [13, 2, 2, 1, 2, 25, 303, 304, 0, 70, 305], 0),
  (104, .putfield 62, 3, [9, 6, 350, 2, 1], 0),
  (107, .aload_n 0, 1, [], 0),
  (108, .new 66, 3, [6, 4, 321, 322, 71], 0),
  (111, .dup, 1, [], 0),
  (112, .invokespecial 68, 3, [57, 1, 5, 6, 2, 5, 4, 324, 0, 71, 325], 0),
  (115, .putfield 69, 3, [9, 7, 351, 2, 1], 0),
  (118, .aload_n 0, 1, [], 0),
  (119, .new 57, 3, [1, 3, 301, 302, 70], 0),
  (122, .dup, 1, [], 0),
  (123, .bipush 40, 2, [], 40),
  (125, .invokespecial 59, 3, [14, 2, 2, 1, 2, 41, 303, 304, 0, 70, 305], 0),
  (128, .putfield 73, 3, [9, 8, 352, 2, 1], 0),
  (131, .return_, 1, [], 0)]
set_option maxRecDepth 100000 in
theorem ok_X9_init : tb_X9_init.all (x_okT M_X9_init) = true := by decide +kernel
def tb_X10_init : List xT := [(0, .aload_n 0, 1, [], 0),
  (1, .invokespecial 1, 3, [9999, 899, 85, 86], 0),
  (4, .aload_n 0, 1, [], 0),
  (5, .bipush 6, 2, [], 6),
  (7, .newarray .int, 2, [103], 0),
  (9, .putfield 7, 3, [10, 0, 904, 2, 1], 0),
  (12, .aload_n 0, 1, [], 0),
  (13, .bipush 6, 2, [], 6),
  (15, .newarray .int, 2, [103], 0),
  (17, .putfield 13, 3, [10, 1, 905, 2, 1], 0),
  (20, .aload_n 0, 1, [], 0),
  (21, .bipush 6, 2, [], 6),
  (23, .newarray .int, 2, [103], 0),
  (25, .putfield 16, 3, [10, 2, 906, 2, 1], 0),
  (28, .aload_n 0, 1, [], 0),
  (29, .bipush 6, 2, [], 6),
  (31, .newarray .int, 2, [103], 0),
  (33, .putfield 19, 3, [10, 3, 907, 2, 1], 0),
  (36, .aload_n 0, 1, [], 0),
  (37, .bipush 32, 2, [], 32),
  (39, .newarray .int, 2, [103], 0),
  (41, .putfield 22, 3, [10, 5, 909, 2, 1], 0),
  (44, .aload_n 0, 1, [], 0),
  (45, .bipush 16, 2, [], 16),
  (47, .newarray .int, 2, [103], 0),
  (49, .putfield 25, 3, [10, 7, 911, 2, 1], 0),
  (52, .aload_n 0, 1, [], 0),
  (53, .bipush 16, 2, [], 16),
  (55, .newarray .int, 2, [103], 0),
  (57, .putfield 28, 3, [10, 8, 912, 2, 1], 0),
  (60, .aload_n 0, 1, [], 0),
  (61, .bipush 16, 2, [], 16),
  (63, .newarray .int, 2, [103], 0),
  (65, .putfield 31, 3, [10, 9, 913, 2, 1], 0),
  (68, .aload_n 0, 1, [], 0),
  (69, .bipush 16, 2, [], 16),
  (71, .newarray .int, 2, [103], 0),
  (73, .putfield 34, 3, [10, 10, 914, 2, 1], 0),
  (76, .aload_n 0, 1, [], 0),
  (77, .bipush 16, 2, [], 16),
  (79, .newarray .int, 2, [103], 0),
  (81, .putfield 37, 3, [10, 11, 915, 2, 1], 0),
  (84, .aload_n 0, 1, [], 0),
  (85, .bipush 6, 2, [], 6),
  (87, .newarray .int, 2, [103], 0),
  (89, .putfield 40, 3, [10, 12, 916, 2, 1], 0),
  (92, .aload_n 0, 1, [], 0),
  (93, .bipush 40, 2, [], 40),
  (95, .newarray .int, 2, [103], 0),
  (97, .putfield 43, 3, [10, 14, 918, 2, 1], 0),
  (100, .aload_n 0, 1, [], 0),
  (101, .bipush 40, 2, [], 40),
  (103, .newarray .int, 2, [103], 0),
  (105, .putfield 46, 3, [10, 15, 919, 2, 1], 0),
  (108, .aload_n 0, 1, [], 0),
  (109, .bipush 40, 2, [], 40),
  (111, .newarray .int, 2, [103], 0),
  (113, .putfield 49, 3, [10, 16, 920, 2, 1], 0),
  (116, .aload_n 0, 1, [], 0),
  (117, .iconst 4, 1, [], 4),
  (118, .newarray .int, 2, [103], 0),
  (120, .putfield 52, 3, [10, 17, 921, 2, 1], 0),
  (123, .aload_n 0, 1, [], 0),
  (124, .bipush 8, 2, [], 8),
  (126, .newarray .int, 2, [103], 0),
  (128, .putfield 55, 3, [10, 24, 928, 2, 1], 0),
  (131, .aload_n 0, 1, [], 0),
  (132, .sipush 200, 3, [], 200),
  (135, .newarray .int, 2, [103], 0),
  (137, .putfield 58, 3, [10, 26, 930, 2, 1], 0),
  (140, .aload_n 0, 1, [], 0),
  (141, .sipush 200, 3, [], 200),
  (144, .newarray .int, 2, [103], 0),
  (146, .putfield 61, 3, [10, 27, 931, 2, 1], 0),
  (149, .aload_n 0, 1, [], 0),
  (150, .sipush 200, 3, [], 200),
  (153, .newarray .int, 2, [103], 0),
  (155, .putfield 64, 3, [10, 28, 932, 2, 1], 0),
  (158, .aload_n 0, 1, [], 0),
  (159, .bipush 24, 2, [], 24),
  (161, .newarray .int, 2, [103], 0),
  (163, .putfield 67, 3, [10, 29, 933, 2, 1], 0),
  (166, .aload_n 0, 1, [], 0),
  (167, .bipush 35, 2, [], 35),
  (169, .newarray .int, 2, [103], 0),
  (171, .dup, 1, [], 0),
  (172, .iconst 0, 1, [], 0),
  (173, .bipush 114, 2, [], 114),
  (175, .iastore, 1, [], 0),
  (176, .dup, 1, [], 0),
  (177, .iconst 1, 1, [], 1),
  (178, .bipush 111, 2, [], 111),
  (180, .iastore, 1, [], 0),
  (181, .dup, 1, [], 0),
  (182, .iconst 2, 1, [], 2),
  (183, .bipush 111, 2, [], 111),
  (185, .iastore, 1, [], 0),
  (186, .dup, 1, [], 0),
  (187, .iconst 3, 1, [], 3),
  (188, .bipush 109, 2, [], 109),
  (190, .iastore, 1, [], 0),
  (191, .dup, 1, [], 0),
  (192, .iconst 4, 1, [], 4),
  (193, .iconst 0, 1, [], 0),
  (194, .iastore, 1, [], 0),
  (195, .dup, 1, [], 0),
  (196, .iconst 5, 1, [], 5),
  (197, .bipush 110, 2, [], 110),
  (199, .iastore, 1, [], 0),
  (200, .dup, 1, [], 0),
  (201, .bipush 6, 2, [], 6),
  (203, .bipush 101, 2, [], 101),
  (205, .iastore, 1, [], 0),
  (206, .dup, 1, [], 0),
  (207, .bipush 7, 2, [], 7),
  (209, .bipush 97, 2, [], 97),
  (211, .iastore, 1, [], 0),
  (212, .dup, 1, [], 0),
  (213, .bipush 8, 2, [], 8),
  (215, .bipush 114, 2, [], 114),
  (217, .iastore, 1, [], 0),
  (218, .dup, 1, [], 0),
  (219, .bipush 9, 2, [], 9),
  (221, .iconst 0, 1, [], 0),
  (222, .iastore, 1, [], 0),
  (223, .dup, 1, [], 0),
  (224, .bipush 10, 2, [], 10),
  (226, .bipush 110, 2, [], 110),
  (228, .iastore, 1, [], 0),
  (229, .dup, 1, [], 0),
  (230, .bipush 11, 2, [], 11),
  (232, .bipush 101, 2, [], 101),
  (234, .iastore, 1, [], 0),
  (235, .dup, 1, [], 0),
  (236, .bipush 12, 2, [], 12),
  (238, .bipush 116, 2, [], 116),
  (240, .iastore, 1, [], 0),
  (241, .dup, 1, [], 0),
  (242, .bipush 13, 2, [], 13),
  (244, .iconst 0, 1, [], 0),
  (245, .iastore, 1, [], 0),
  (246, .dup, 1, [], 0),
  (247, .bipush 14, 2, [], 14),
  (249, .iconst 0, 1, [], 0),
  (250, .iastore, 1, [], 0),
  (251, .dup, 1, [], 0),
  (252, .bipush 15, 2, [], 15),
  (254, .bipush 115, 2, [], 115),
  (256, .iastore, 1, [], 0),
  (257, .dup, 1, [], 0),
  (258, .bipush 16, 2, [], 16),
  (260, .bipush 99, 2, [], 99),
  (262, .iastore, 1, [], 0),
  (263, .dup, 1, [], 0),
  (264, .bipush 17, 2, [], 17),
  (266, .bipush 101, 2, [], 101),
  (268, .iastore, 1, [], 0),
  (269, .dup, 1, [], 0),
  (270, .bipush 18, 2, [], 18),
  (272, .bipush 110, 2, [], 110),
  (274, .iastore, 1, [], 0),
  (275, .dup, 1, [], 0),
  (276, .bipush 19, 2, [], 19),
  (278, .bipush 101, 2, [], 101),
  (280, .iastore, 1, [], 0),
  (281, .dup, 1, [], 0),
  (282, .bipush 20, 2, [], 20),
  (284, .bipush 103, 2, [], 103),
  (286, .iastore, 1, [], 0),
  (287, .dup, 1, [], 0),
  (288, .bipush 21, 2, [], 21),
  (290, .bipush 117, 2, [], 117),
  (292, .iastore, 1, [], 0),
  (293, .dup, 1, [], 0),
  (294, .bipush 22, 2, [], 22),
  (296, .bipush 97, 2, [], 97),
  (298, .iastore, 1, [], 0),
  (299, .dup, 1, [], 0),
  (300, .bipush 23, 2, [], 23),
  (302, .bipush 114, 2, [], 114),
  (304, .iastore, 1, [], 0),
  (305, .dup, 1, [], 0),
  (306, .bipush 24, 2, [], 24),
  (308, .bipush 100, 2, [], 100),
  (310, .iastore, 1, [], 0),
  (311, .dup, 1, [], 0),
  (312, .bipush 25, 2, [], 25),
  (314, .bipush 108, 2, [], 108),
  (316, .iastore, 1, [], 0),
  (317, .dup, 1, [], 0),
  (318, .bipush 26, 2, [], 26),
  (320, .bipush 105, 2, [], 105),
  (322, .iastore, 1, [], 0),
  (323, .dup, 1, [], 0),
  (324, .bipush 27, 2, [], 27),
  (326, .bipush 102, 2, [], 102),
  (328, .iastore, 1, [], 0),
  (329, .dup, 1, [], 0),
  (330, .bipush 28, 2, [], 28),
  (332, .bipush 116, 2, [], 116),
  (334, .iastore, 1, [], 0),
  (335, .dup, 1, [], 0),
  (336, .bipush 29, 2, [], 29),
  (338, .iconst 0, 1, [], 0),
  (339, .iastore, 1, [], 0),
  (340, .dup, 1, [], 0),
  (341, .bipush 30, 2, [], 30),
  (343, .bipush 107, 2, [], 107),
  (345, .iastore, 1, [], 0),
  (346, .dup, 1, [], 0),
  (347, .bipush 31, 2, [], 31),
  (349, .bipush 101, 2, [], 101),
  (351, .iastore, 1, [], 0),
  (352, .dup, 1, [], 0),
  (353, .bipush 32, 2, [], 32),
  (355, .bipush 101, 2, [], 101),
  (357, .iastore, 1, [], 0),
  (358, .dup, 1, [], 0),
  (359, .bipush 33, 2, [], 33),
  (361, .bipush 112, 2, [], 112),
  (363, .iastore, 1, [], 0),
  (364, .dup, 1, [], 0),
  (365, .bipush 34, 2, [], 34),
  (367, .iconst 0, 1, [], 0),
  (368, .iastore, 1, [], 0),
  (369, .putfield 70, 3, [10, 31, 935, 2, 1], 0),
  (372, .aload_n 0, 1, [], 0),
  (373, .bipush 7, 2, [], 7),
  (375, .newarray .int, 2, [103], 0),
  (377, .dup, 1, [], 0),
  (378, .iconst 0, 1, [], 0),
  (379, .iconst 2, 1, [], 2),
  (380, .iastore, 1, [], 0),
  (381, .dup, 1, [], 0),
  (382, .iconst 1, 1, [], 1),
  (383, .iconst 3, 1, [], 3),
  (384, .iastore, 1, [], 0),
  (385, .dup, 1, [], 0),
  (386, .iconst 2, 1, [], 2),
  (387, .iconst 2, 1, [], 2),
  (388, .iastore, 1, [], 0),
  (389, .dup, 1, [], 0),
  (390, .iconst 3, 1, [], 3),
  (391, .iconst 4, 1, [], 4),
  (392, .iastore, 1, [], 0),
  (393, .dup, 1, [], 0),
  (394, .iconst 4, 1, [], 4),
  (395, .iconst 3, 1, [], 3),
  (396, .iastore, 1, [], 0),
  (397, .dup, 1, [], 0),
  (398, .iconst 5, 1, [], 5),
  (399, .iconst 2, 1, [], 2),
  (400, .iastore, 1, [], 0),
  (401, .dup, 1, [], 0),
  (402, .bipush 6, 2, [], 6),
  (404, .iconst 3, 1, [], 3),
  (405, .iastore, 1, [], 0),
  (406, .putfield 73, 3, [10, 32, 936, 2, 1], 0),
  (409, .aload_n 0, 1, [], 0),
  (410, .bipush 28, 2, [], 28),
  (412, .newarray .int, 2, [103], 0),
  (414, .dup, 1, [], 0),
  (415, .iconst 0, 1, [], 0),
  (416, .iconst 5, 1, [], 5),
  (417, .iastore, 1, [], 0),
  (418, .dup, 1, [], 0),
  (419, .iconst 1, 1, [], 1),
  (420, .iconst 3, 1, [], 3),
  (421, .iastore, 1, [], 0),
  (422, .dup, 1, [], 0),
  (423, .iconst 2, 1, [], 2),
  (424, .iconst 0, 1, [], 0),
  (425, .iastore, 1, [], 0),
  (426, .dup, 1, [], 0),
  (427, .iconst 3, 1, [], 3),
  (428, .iconst 0, 1, [], 0),
  (429, .iastore, 1, [], 0),
  (430, .dup, 1, [], 0),
  (431, .iconst 4, 1, [], 4),
  (432, .iconst 5, 1, [], 5),
  (433, .iastore, 1, [], 0),
  (434, .dup, 1, [], 0),
  (435, .iconst 5, 1, [], 5),
  (436, .iconst 5, 1, [], 5),
  (437, .iastore, 1, [], 0),
  (438, .dup, 1, [], 0),
  (439, .bipush 6, 2, [], 6),
  (441, .iconst 1, 1, [], 1),
  (442, .iastore, 1, [], 0),
  (443, .dup, 1, [], 0),
  (444, .bipush 7, 2, [], 7),
  (446, .iconst 0, 1, [], 0),
  (447, .iastore, 1, [], 0),
  (448, .dup, 1, [], 0),
  (449, .bipush 8, 2, [], 8),
  (451, .iconst 5, 1, [], 5),
  (452, .iastore, 1, [], 0),
  (453, .dup, 1, [], 0),
  (454, .bipush 9, 2, [], 9),
  (456, .iconst 5, 1, [], 5),
  (457, .iastore, 1, [], 0),
  (458, .dup, 1, [], 0),
  (459, .bipush 10, 2, [], 10),
  (461, .iconst 0, 1, [], 0),
  (462, .iastore, 1, [], 0),
  (463, .dup, 1, [], 0),
  (464, .bipush 11, 2, [], 11),
  (466, .iconst 0, 1, [], 0),
  (467, .iastore, 1, [], 0),
  (468, .dup, 1, [], 0),
  (469, .bipush 12, 2, [], 12),
  (471, .iconst 3, 1, [], 3),
  (472, .iastore, 1, [], 0),
  (473, .dup, 1, [], 0),
  (474, .bipush 13, 2, [], 13),
  (476, .iconst 3, 1, [], 3),
  (477, .iastore, 1, [], 0),
  (478, .dup, 1, [], 0),
  (479, .bipush 14, 2, [], 14),
  (481, .iconst 3, 1, [], 3),
  (482, .iastore, 1, [], 0),
  (483, .dup, 1, [], 0),
  (484, .bipush 15, 2, [], 15),
  (486, .iconst 3, 1, [], 3),
  (487, .iastore, 1, [], 0),
  (488, .dup, 1, [], 0),
  (489, .bipush 16, 2, [], 16),
  (491, .bipush 15, 2, [], 15),
  (493, .iastore, 1, [], 0),
  (494, .dup, 1, [], 0),
  (495, .bipush 17, 2, [], 17),
  (497, .iconst 1, 1, [], 1),
  (498, .iastore, 1, [], 0),
  (499, .dup, 1, [], 0),
  (500, .bipush 18, 2, [], 18),
  (502, .iconst 3, 1, [], 3),
  (503, .iastore, 1, [], 0),
  (504, .dup, 1, [], 0),
  (505, .bipush 19, 2, [], 19),
  (507, .iconst 0, 1, [], 0),
  (508, .iastore, 1, [], 0),
  (509, .dup, 1, [], 0),
  (510, .bipush 20, 2, [], 20),
  (512, .bipush 15, 2, [], 15),
  (514, .iastore, 1, [], 0),
  (515, .dup, 1, [], 0),
  (516, .bipush 21, 2, [], 21),
  (518, .iconst 3, 1, [], 3),
  (519, .iastore, 1, [], 0),
  (520, .dup, 1, [], 0),
  (521, .bipush 22, 2, [], 22),
  (523, .iconst 0, 1, [], 0),
  (524, .iastore, 1, [], 0),
  (525, .dup, 1, [], 0),
  (526, .bipush 23, 2, [], 23),
  (528, .iconst 0, 1, [], 0),
  (529, .iastore, 1, [], 0),
  (530, .dup, 1, [], 0),
  (531, .bipush 24, 2, [], 24),
  (533, .iconst 5, 1, [], 5),
  (534, .iastore, 1, [], 0),
  (535, .dup, 1, [], 0),
  (536, .bipush 25, 2, [], 25),
  (538, .bipush 9, 2, [], 9),
  (540, .iastore, 1, [], 0),
  (541, .dup, 1, [], 0),
  (542, .bipush 26, 2, [], 26),
  (544, .iconst 3, 1, [], 3),
  (545, .iastore, 1, [], 0),
  (546, .dup, 1, [], 0),
  (547, .bipush 27, 2, [], 27),
  (549, .iconst 0, 1, [], 0),
  (550, .iastore, 1, [], 0),
  (551, .putfield 76, 3, [10, 33, 937, 2, 1], 0),
  (554, .aload_n 0, 1, [], 0),
  (555, .iconst 4, 1, [], 4),
  (556, .newarray .int, 2, [103], 0),
  (558, .putfield 79, 3, [10, 36, 940, 2, 1], 0),
  (561, .aload_n 0, 1, [], 0),
  (562, .bipush 40, 2, [], 40),
  (564, .newarray .int, 2, [103], 0),
  (566, .putfield 82, 3, [10, 37, 941, 2, 1], 0),
  (569, .aload_n 0, 1, [], 0),
  (570, .invokevirtual 85, 3, [124, 1, 0, 10, 0, 0, 900, 902, 22, 72, 903], 0),
  (573, .return_, 1, [], 0)]
set_option maxRecDepth 100000 in
theorem ok_X10_init : tb_X10_init.all (x_okT M_X10_init) = true := by decide +kernel
def tb_X10_noGuards : List xT := [(0, .iconst 0, 1, [], 0),
  (1, .istore_n 1, 1, [], 0),
  (2, .iload_n 1, 1, [], 0),
  (3, .bipush 16, 2, [], 16),
  (5, .if_icmp .ge 25, 3, [30], 0),
  (8, .aload_n 0, 1, [], 0),
  (9, .getfield 31, 3, [10, 9, 913], 0),
  (12, .iload_n 1, 1, [], 0),
  (13, .bipush (-9), 2, [], (-9)),
  (15, .iastore, 1, [], 0),
  (16, .aload_n 0, 1, [], 0),
  (17, .getfield 34, 3, [10, 10, 914], 0),
  (20, .iload_n 1, 1, [], 0),
  (21, .bipush (-9), 2, [], (-9)),
  (23, .iastore, 1, [], 0),
  (24, .iinc 1 1, 3, [], 1),
  (27, .goto (-25), 3, [2], 0),
  (30, .return_, 1, [], 0)]
set_option maxRecDepth 100000 in
theorem ok_X10_noGuards : tb_X10_noGuards.all (x_okT M_X10_noGuards) = true := by decide +kernel
end
section
theorem x_wp_pf {R : Room} {sums : List (Nat × xSm)} {tb : List xT} {cuts : List Nat} {L : xC → Prop} {Ex : xEx} {n pc i len ci j wi cs ss a r : Nat} {more : List Nat} {cst : Int32} {lv : List (Option Value)} {st : List Value} {w : xW} {fs : List (Option (Option Nat))} {y : Option Nat}
    (hl : x_look tb pc = some (pc, .putfield i, len, ci :: j :: wi :: 2 :: more, cst)) (h : w.1[a]? = some (.inr (ci, fs))) (hf : fs[j]? = some (some y)) (hcut : cuts.elem (pc + len) = false)
    (hk : x_wp R sums tb cuts L Ex n (pc + len, lv, st, (w.1.set a (.inr (ci, fs.set j (some (some r)))), w.2), cs, ss)) : x_wp R sums tb cuts L Ex (n + 1) (pc, lv, .ref r :: .ref a :: st, w, cs, ss) := by
  rw [x_wp]
  dsimp only
  rw [hl]
  simp only [x_st]
  rw [h]
  dsimp only
  have hb : Nat.beq ci ci = true := Nat.beq_refl ci
  rw [hb, hf]
  dsimp only
  rw [hcut]
  exact hk
def sm_X7_init_4 : xSm := fun args w => match args with
  | [.ref a, .int x] => match decide (x = 4), w.1[a]?, Nat.blt (w.1.length + 1) 1000 with
    | true, some (.inr (7, [some none])), true => some (none, ((w.1 ++ [(.inl 4 : xS)]).set a (.inr (7, [some (some w.1.length)])), x_z w.2 w.1.length), True)
    | _, _, _ => none
  | _ => none
theorem vs_X7_init_4 : x_VS (64, sm_X7_init_4) := by
  intro args w r hr hP
  unfold sm_X7_init_4 at hr
  dsimp only at hr
  split at hr
  · next a x =>
    split at hr
    · next h1 h2 h3 =>
      cases hr
      have hx := of_decide_eq_true h1
      subst hx
      have hlt : w.1.length + 1 < 1000 := by simpa using h3
      have h4 : (w.1 ++ [(.inl 4 : xS)])[a]? = some (.inr (7, [some none])) := by rw [List.getElem?_append_left (x_lt h2)]; exact h2
      refine x_con (M := M_X7_init_4) (args := [.ref a, .int 4]) rfl (Nat.le_of_ble_eq_true rfl) (by simp [Value.category]) (x_wp_sound (sums := []) (cuts := []) (by simp) ok_X7_init_4 30 _ ?_)
      refine And.intro (fun h => ?_) (fun _ => ?_)
      · exact absurd h (by decide)
      refine And.intro ⟨by decide, Nat.le_of_ble_eq_true rfl, Nat.le_of_ble_eq_true rfl, Nat.le_of_ble_eq_true rfl, hlt⟩ ?_
      refine x_wp_pf (n := 21) (pc := 16) rfl h4 rfl rfl ?_
      exact ⟨Nat.le_of_ble_eq_true rfl, Nat.le_of_ble_eq_true rfl, rfl, rfl⟩
    · cases hr
  · cases hr
def sm_X7_init_6 : xSm := fun args w => match args with
  | [.ref a, .int x] => match decide (x = 6), w.1[a]?, Nat.blt (w.1.length + 1) 1000 with
    | true, some (.inr (7, [some none])), true => some (none, ((w.1 ++ [(.inl 6 : xS)]).set a (.inr (7, [some (some w.1.length)])), x_z w.2 w.1.length), True)
    | _, _, _ => none
  | _ => none
theorem vs_X7_init_6 : x_VS (65, sm_X7_init_6) := by
  intro args w r hr hP
  unfold sm_X7_init_6 at hr
  dsimp only at hr
  split at hr
  · next a x =>
    split at hr
    · next h1 h2 h3 =>
      cases hr
      have hx := of_decide_eq_true h1
      subst hx
      have hlt : w.1.length + 1 < 1000 := by simpa using h3
      have h4 : (w.1 ++ [(.inl 6 : xS)])[a]? = some (.inr (7, [some none])) := by rw [List.getElem?_append_left (x_lt h2)]; exact h2
      refine x_con (M := M_X7_init_6) (args := [.ref a, .int 6]) rfl (Nat.le_of_ble_eq_true rfl) (by simp [Value.category]) (x_wp_sound (sums := []) (cuts := []) (by simp) ok_X7_init_6 30 _ ?_)
      refine And.intro (fun h => ?_) (fun _ => ?_)
      · exact absurd h (by decide)
      refine And.intro ⟨by decide, Nat.le_of_ble_eq_true rfl, Nat.le_of_ble_eq_true rfl, Nat.le_of_ble_eq_true rfl, hlt⟩ ?_
      refine x_wp_pf (n := 21) (pc := 16) rfl h4 rfl rfl ?_
      exact ⟨Nat.le_of_ble_eq_true rfl, Nat.le_of_ble_eq_true rfl, rfl, rfl⟩
    · cases hr
  · cases hr
def sm_X7_init_8 : xSm := fun args w => match args with
  | [.ref a, .int x] => match decide (x = 8), w.1[a]?, Nat.blt (w.1.length + 1) 1000 with
    | true, some (.inr (7, [some none])), true => some (none, ((w.1 ++ [(.inl 8 : xS)]).set a (.inr (7, [some (some w.1.length)])), x_z w.2 w.1.length), True)
    | _, _, _ => none
  | _ => none
theorem vs_X7_init_8 : x_VS (66, sm_X7_init_8) := by
  intro args w r hr hP
  unfold sm_X7_init_8 at hr
  dsimp only at hr
  split at hr
  · next a x =>
    split at hr
    · next h1 h2 h3 =>
      cases hr
      have hx := of_decide_eq_true h1
      subst hx
      have hlt : w.1.length + 1 < 1000 := by simpa using h3
      have h4 : (w.1 ++ [(.inl 8 : xS)])[a]? = some (.inr (7, [some none])) := by rw [List.getElem?_append_left (x_lt h2)]; exact h2
      refine x_con (M := M_X7_init_8) (args := [.ref a, .int 8]) rfl (Nat.le_of_ble_eq_true rfl) (by simp [Value.category]) (x_wp_sound (sums := []) (cuts := []) (by simp) ok_X7_init_8 30 _ ?_)
      refine And.intro (fun h => ?_) (fun _ => ?_)
      · exact absurd h (by decide)
      refine And.intro ⟨by decide, Nat.le_of_ble_eq_true rfl, Nat.le_of_ble_eq_true rfl, Nat.le_of_ble_eq_true rfl, hlt⟩ ?_
      refine x_wp_pf (n := 21) (pc := 16) rfl h4 rfl rfl ?_
      exact ⟨Nat.le_of_ble_eq_true rfl, Nat.le_of_ble_eq_true rfl, rfl, rfl⟩
    · cases hr
  · cases hr
def sm_X7_init_16 : xSm := fun args w => match args with
  | [.ref a, .int x] => match decide (x = 16), w.1[a]?, Nat.blt (w.1.length + 1) 1000 with
    | true, some (.inr (7, [some none])), true => some (none, ((w.1 ++ [(.inl 16 : xS)]).set a (.inr (7, [some (some w.1.length)])), x_z w.2 w.1.length), True)
    | _, _, _ => none
  | _ => none
theorem vs_X7_init_16 : x_VS (67, sm_X7_init_16) := by
  intro args w r hr hP
  unfold sm_X7_init_16 at hr
  dsimp only at hr
  split at hr
  · next a x =>
    split at hr
    · next h1 h2 h3 =>
      cases hr
      have hx := of_decide_eq_true h1
      subst hx
      have hlt : w.1.length + 1 < 1000 := by simpa using h3
      have h4 : (w.1 ++ [(.inl 16 : xS)])[a]? = some (.inr (7, [some none])) := by rw [List.getElem?_append_left (x_lt h2)]; exact h2
      refine x_con (M := M_X7_init_16) (args := [.ref a, .int 16]) rfl (Nat.le_of_ble_eq_true rfl) (by simp [Value.category]) (x_wp_sound (sums := []) (cuts := []) (by simp) ok_X7_init_16 30 _ ?_)
      refine And.intro (fun h => ?_) (fun _ => ?_)
      · exact absurd h (by decide)
      refine And.intro ⟨by decide, Nat.le_of_ble_eq_true rfl, Nat.le_of_ble_eq_true rfl, Nat.le_of_ble_eq_true rfl, hlt⟩ ?_
      refine x_wp_pf (n := 21) (pc := 16) rfl h4 rfl rfl ?_
      exact ⟨Nat.le_of_ble_eq_true rfl, Nat.le_of_ble_eq_true rfl, rfl, rfl⟩
    · cases hr
  · cases hr
def sm_X7_init_24 : xSm := fun args w => match args with
  | [.ref a, .int x] => match decide (x = 24), w.1[a]?, Nat.blt (w.1.length + 1) 1000 with
    | true, some (.inr (7, [some none])), true => some (none, ((w.1 ++ [(.inl 24 : xS)]).set a (.inr (7, [some (some w.1.length)])), x_z w.2 w.1.length), True)
    | _, _, _ => none
  | _ => none
theorem vs_X7_init_24 : x_VS (68, sm_X7_init_24) := by
  intro args w r hr hP
  unfold sm_X7_init_24 at hr
  dsimp only at hr
  split at hr
  · next a x =>
    split at hr
    · next h1 h2 h3 =>
      cases hr
      have hx := of_decide_eq_true h1
      subst hx
      have hlt : w.1.length + 1 < 1000 := by simpa using h3
      have h4 : (w.1 ++ [(.inl 24 : xS)])[a]? = some (.inr (7, [some none])) := by rw [List.getElem?_append_left (x_lt h2)]; exact h2
      refine x_con (M := M_X7_init_24) (args := [.ref a, .int 24]) rfl (Nat.le_of_ble_eq_true rfl) (by simp [Value.category]) (x_wp_sound (sums := []) (cuts := []) (by simp) ok_X7_init_24 30 _ ?_)
      refine And.intro (fun h => ?_) (fun _ => ?_)
      · exact absurd h (by decide)
      refine And.intro ⟨by decide, Nat.le_of_ble_eq_true rfl, Nat.le_of_ble_eq_true rfl, Nat.le_of_ble_eq_true rfl, hlt⟩ ?_
      refine x_wp_pf (n := 21) (pc := 16) rfl h4 rfl rfl ?_
      exact ⟨Nat.le_of_ble_eq_true rfl, Nat.le_of_ble_eq_true rfl, rfl, rfl⟩
    · cases hr
  · cases hr
def sm_X7_init_32 : xSm := fun args w => match args with
  | [.ref a, .int x] => match decide (x = 32), w.1[a]?, Nat.blt (w.1.length + 1) 1000 with
    | true, some (.inr (7, [some none])), true => some (none, ((w.1 ++ [(.inl 32 : xS)]).set a (.inr (7, [some (some w.1.length)])), x_z w.2 w.1.length), True)
    | _, _, _ => none
  | _ => none
theorem vs_X7_init_32 : x_VS (69, sm_X7_init_32) := by
  intro args w r hr hP
  unfold sm_X7_init_32 at hr
  dsimp only at hr
  split at hr
  · next a x =>
    split at hr
    · next h1 h2 h3 =>
      cases hr
      have hx := of_decide_eq_true h1
      subst hx
      have hlt : w.1.length + 1 < 1000 := by simpa using h3
      have h4 : (w.1 ++ [(.inl 32 : xS)])[a]? = some (.inr (7, [some none])) := by rw [List.getElem?_append_left (x_lt h2)]; exact h2
      refine x_con (M := M_X7_init_32) (args := [.ref a, .int 32]) rfl (Nat.le_of_ble_eq_true rfl) (by simp [Value.category]) (x_wp_sound (sums := []) (cuts := []) (by simp) ok_X7_init_32 30 _ ?_)
      refine And.intro (fun h => ?_) (fun _ => ?_)
      · exact absurd h (by decide)
      refine And.intro ⟨by decide, Nat.le_of_ble_eq_true rfl, Nat.le_of_ble_eq_true rfl, Nat.le_of_ble_eq_true rfl, hlt⟩ ?_
      refine x_wp_pf (n := 21) (pc := 16) rfl h4 rfl rfl ?_
      exact ⟨Nat.le_of_ble_eq_true rfl, Nat.le_of_ble_eq_true rfl, rfl, rfl⟩
    · cases hr
  · cases hr
def sm_X7_init_40 : xSm := fun args w => match args with
  | [.ref a, .int x] => match decide (x = 40), w.1[a]?, Nat.blt (w.1.length + 1) 1000 with
    | true, some (.inr (7, [some none])), true => some (none, ((w.1 ++ [(.inl 40 : xS)]).set a (.inr (7, [some (some w.1.length)])), x_z w.2 w.1.length), True)
    | _, _, _ => none
  | _ => none
theorem vs_X7_init_40 : x_VS (70, sm_X7_init_40) := by
  intro args w r hr hP
  unfold sm_X7_init_40 at hr
  dsimp only at hr
  split at hr
  · next a x =>
    split at hr
    · next h1 h2 h3 =>
      cases hr
      have hx := of_decide_eq_true h1
      subst hx
      have hlt : w.1.length + 1 < 1000 := by simpa using h3
      have h4 : (w.1 ++ [(.inl 40 : xS)])[a]? = some (.inr (7, [some none])) := by rw [List.getElem?_append_left (x_lt h2)]; exact h2
      refine x_con (M := M_X7_init_40) (args := [.ref a, .int 40]) rfl (Nat.le_of_ble_eq_true rfl) (by simp [Value.category]) (x_wp_sound (sums := []) (cuts := []) (by simp) ok_X7_init_40 30 _ ?_)
      refine And.intro (fun h => ?_) (fun _ => ?_)
      · exact absurd h (by decide)
      refine And.intro ⟨by decide, Nat.le_of_ble_eq_true rfl, Nat.le_of_ble_eq_true rfl, Nat.le_of_ble_eq_true rfl, hlt⟩ ?_
      refine x_wp_pf (n := 21) (pc := 16) rfl h4 rfl rfl ?_
      exact ⟨Nat.le_of_ble_eq_true rfl, Nat.le_of_ble_eq_true rfl, rfl, rfl⟩
    · cases hr
  · cases hr
def sms_0 : List (Nat × xSm) := [(64, sm_X7_init_4), (65, sm_X7_init_6), (66, sm_X7_init_8), (67, sm_X7_init_16), (68, sm_X7_init_24), (69, sm_X7_init_32), (70, sm_X7_init_40)]
theorem vss_0 : ∀ q ∈ sms_0, x_VS q := by
  intro q hq
  simp only [sms_0, List.mem_cons, List.mem_nil_iff, or_false] at hq
  rcases hq with rfl | rfl | rfl | rfl | rfl | rfl | rfl
  · exact vs_X7_init_4
  · exact vs_X7_init_6
  · exact vs_X7_init_8
  · exact vs_X7_init_16
  · exact vs_X7_init_24
  · exact vs_X7_init_32
  · exact vs_X7_init_40
end
section
/-! ===== the other constructors, at the worlds where they run ===== -/
def sb_X0_init_0 : List xS := [.inr (9, [some none, some none, some none, some none, some none, some none, some none, some none, some none]), .inr (0, [some none, some none, some none, some none, some none, none])]
def sa_X0_init_0 : List xS := [.inr (9, [some none, some none, some none, some none, some none, some none, some none, some none, some none]), .inr (0, [some (some 2), some (some 4), some (some 6), some (some 8), some (some 10), none]), .inr (7, [some (some 3)]), .inl 6, .inr (7, [some (some 5)]), .inl 6, .inr (7, [some (some 7)]), .inl 6, .inr (7, [some (some 9)]), .inl 6, .inr (7, [some (some 11)]), .inl 32]
def sg_X0_init_0 (σ : Nat → Nat → Int32) : Nat → Nat → Int32 := x_z (x_z (x_z (x_z (x_z (x_z (x_z (x_z (x_z (x_z (σ) 2) 3) 4) 5) 6) 7) 8) 9) 10) 11
def sm_X0_init : xSm := fun args w =>
  match decide (args = [.ref 1] ∧ w.1 = sb_X0_init_0) with
  | true => some (none, (sa_X0_init_0, sg_X0_init_0 w.2), True)
  | false =>
  none
set_option maxRecDepth 100000 in
set_option maxHeartbeats 4000000 in
theorem vs_X0_init : x_VS (0, sm_X0_init) := by
  intro args w r hr hP
  unfold sm_X0_init at hr
  dsimp only at hr
  split at hr
  · next hd =>
    cases hr
    obtain ⟨hd1, hd2⟩ := of_decide_eq_true hd
    obtain ⟨w1, w2⟩ := w
    subst hd1
    dsimp only at hd2
    subst hd2
    refine x_con (M := M_X0_init) (args := [.ref 1]) rfl (Nat.le_of_ble_eq_true rfl) (by simp [Value.category]) (x_wp_sound (sums := sms_0) (cuts := []) vss_0 ok_X0_init 2000 _ ?_)
    refine And.intro ⟨Nat.le_of_ble_eq_true rfl, Nat.le_of_ble_eq_true rfl, Nat.le_of_ble_eq_true rfl⟩ ?_
    change x_wp _ _ _ _ _ _ 1996 (8, [some (.ref 1)], [.ref 2, .ref 1], (([.inr (9, [some none, some none, some none, some none, some none, some none, some none, some none, some none]), .inr (0, [some none, some none, some none, some none, some none, none]), .inr (7, [some none])] : List xS), x_z (w2) 2), 1, 1)
    refine And.intro trivial ?_
    change x_wp _ _ _ _ _ _ 1993 (14, [some (.ref 1)], [.ref 2, .ref 1], (([.inr (9, [some none, some none, some none, some none, some none, some none, some none, some none, some none]), .inr (0, [some none, some none, some none, some none, some none, none]), .inr (7, [some (some 3)]), .inl 6] : List xS), x_z (x_z (w2) 2) 3), 2, 7)
    refine And.intro ⟨Nat.le_of_ble_eq_true rfl, Nat.le_of_ble_eq_true rfl, Nat.le_of_ble_eq_true rfl⟩ ?_
    change x_wp _ _ _ _ _ _ 1990 (21, [some (.ref 1)], [.ref 4, .ref 1], (([.inr (9, [some none, some none, some none, some none, some none, some none, some none, some none, some none]), .inr (0, [some (some 2), some none, some none, some none, some none, none]), .inr (7, [some (some 3)]), .inl 6, .inr (7, [some none])] : List xS), x_z (x_z (x_z (w2) 2) 3) 4), 3, 8)
    refine And.intro trivial ?_
    change x_wp _ _ _ _ _ _ 1987 (27, [some (.ref 1)], [.ref 4, .ref 1], (([.inr (9, [some none, some none, some none, some none, some none, some none, some none, some none, some none]), .inr (0, [some (some 2), some none, some none, some none, some none, none]), .inr (7, [some (some 3)]), .inl 6, .inr (7, [some (some 5)]), .inl 6] : List xS), x_z (x_z (x_z (x_z (w2) 2) 3) 4) 5), 4, 14)
    refine And.intro ⟨Nat.le_of_ble_eq_true rfl, Nat.le_of_ble_eq_true rfl, Nat.le_of_ble_eq_true rfl⟩ ?_
    change x_wp _ _ _ _ _ _ 1984 (34, [some (.ref 1)], [.ref 6, .ref 1], (([.inr (9, [some none, some none, some none, some none, some none, some none, some none, some none, some none]), .inr (0, [some (some 2), some (some 4), some none, some none, some none, none]), .inr (7, [some (some 3)]), .inl 6, .inr (7, [some (some 5)]), .inl 6, .inr (7, [some none])] : List xS), x_z (x_z (x_z (x_z (x_z (w2) 2) 3) 4) 5) 6), 5, 15)
    refine And.intro trivial ?_
    change x_wp _ _ _ _ _ _ 1981 (40, [some (.ref 1)], [.ref 6, .ref 1], (([.inr (9, [some none, some none, some none, some none, some none, some none, some none, some none, some none]), .inr (0, [some (some 2), some (some 4), some none, some none, some none, none]), .inr (7, [some (some 3)]), .inl 6, .inr (7, [some (some 5)]), .inl 6, .inr (7, [some (some 7)]), .inl 6] : List xS), x_z (x_z (x_z (x_z (x_z (x_z (w2) 2) 3) 4) 5) 6) 7), 6, 21)
    refine And.intro ⟨Nat.le_of_ble_eq_true rfl, Nat.le_of_ble_eq_true rfl, Nat.le_of_ble_eq_true rfl⟩ ?_
    change x_wp _ _ _ _ _ _ 1978 (47, [some (.ref 1)], [.ref 8, .ref 1], (([.inr (9, [some none, some none, some none, some none, some none, some none, some none, some none, some none]), .inr (0, [some (some 2), some (some 4), some (some 6), some none, some none, none]), .inr (7, [some (some 3)]), .inl 6, .inr (7, [some (some 5)]), .inl 6, .inr (7, [some (some 7)]), .inl 6, .inr (7, [some none])] : List xS), x_z (x_z (x_z (x_z (x_z (x_z (x_z (w2) 2) 3) 4) 5) 6) 7) 8), 7, 22)
    refine And.intro trivial ?_
    change x_wp _ _ _ _ _ _ 1975 (53, [some (.ref 1)], [.ref 8, .ref 1], (([.inr (9, [some none, some none, some none, some none, some none, some none, some none, some none, some none]), .inr (0, [some (some 2), some (some 4), some (some 6), some none, some none, none]), .inr (7, [some (some 3)]), .inl 6, .inr (7, [some (some 5)]), .inl 6, .inr (7, [some (some 7)]), .inl 6, .inr (7, [some (some 9)]), .inl 6] : List xS), x_z (x_z (x_z (x_z (x_z (x_z (x_z (x_z (w2) 2) 3) 4) 5) 6) 7) 8) 9), 8, 28)
    refine And.intro ⟨Nat.le_of_ble_eq_true rfl, Nat.le_of_ble_eq_true rfl, Nat.le_of_ble_eq_true rfl⟩ ?_
    change x_wp _ _ _ _ _ _ 1972 (60, [some (.ref 1)], [.ref 10, .ref 1], (([.inr (9, [some none, some none, some none, some none, some none, some none, some none, some none, some none]), .inr (0, [some (some 2), some (some 4), some (some 6), some (some 8), some none, none]), .inr (7, [some (some 3)]), .inl 6, .inr (7, [some (some 5)]), .inl 6, .inr (7, [some (some 7)]), .inl 6, .inr (7, [some (some 9)]), .inl 6, .inr (7, [some none])] : List xS), x_z (x_z (x_z (x_z (x_z (x_z (x_z (x_z (x_z (w2) 2) 3) 4) 5) 6) 7) 8) 9) 10), 9, 29)
    refine And.intro trivial ?_
    change x_wp _ _ _ _ _ _ 1969 (66, [some (.ref 1)], [.ref 10, .ref 1], (([.inr (9, [some none, some none, some none, some none, some none, some none, some none, some none, some none]), .inr (0, [some (some 2), some (some 4), some (some 6), some (some 8), some none, none]), .inr (7, [some (some 3)]), .inl 6, .inr (7, [some (some 5)]), .inl 6, .inr (7, [some (some 7)]), .inl 6, .inr (7, [some (some 9)]), .inl 6, .inr (7, [some (some 11)]), .inl 32] : List xS), x_z (x_z (x_z (x_z (x_z (x_z (x_z (x_z (x_z (x_z (w2) 2) 3) 4) 5) 6) 7) 8) 9) 10) 11), 10, 61)
    exact ⟨Nat.le_of_ble_eq_true rfl, Nat.le_of_ble_eq_true rfl, rfl, rfl⟩
  · cases hr
def sms_1 : List (Nat × xSm) := (0, sm_X0_init) :: sms_0
theorem vss_1 : ∀ q ∈ sms_1, x_VS q := List.forall_mem_cons.mpr ⟨vs_X0_init, vss_0⟩
def sb_X3_init_0 : List xS := [.inr (9, [some (some 1), some none, some none, some none, some none, some none, some none, some none, some none]), .inr (0, [some (some 2), some (some 4), some (some 6), some (some 8), some (some 10), none]), .inr (7, [some (some 3)]), .inl 6, .inr (7, [some (some 5)]), .inl 6, .inr (7, [some (some 7)]), .inl 6, .inr (7, [some (some 9)]), .inl 6, .inr (7, [some (some 11)]), .inl 32, .inr (3, [some none, some none, some none, some none, some none, some none, none])]
def sa_X3_init_0 : List xS := [.inr (9, [some (some 1), some none, some none, some none, some none, some none, some none, some none, some none]), .inr (0, [some (some 2), some (some 4), some (some 6), some (some 8), some (some 10), none]), .inr (7, [some (some 3)]), .inl 6, .inr (7, [some (some 5)]), .inl 6, .inr (7, [some (some 7)]), .inl 6, .inr (7, [some (some 9)]), .inl 6, .inr (7, [some (some 11)]), .inl 32, .inr (3, [some (some 1), some (some 13), some (some 15), some (some 17), some (some 19), some (some 21), none]), .inr (7, [some (some 14)]), .inl 16, .inr (7, [some (some 16)]), .inl 16, .inr (7, [some (some 18)]), .inl 16, .inr (7, [some (some 20)]), .inl 16, .inr (7, [some (some 22)]), .inl 16]
def sg_X3_init_0 (σ : Nat → Nat → Int32) : Nat → Nat → Int32 := x_z (x_z (x_z (x_z (x_z (x_z (x_z (x_z (x_z (x_z (σ) 13) 14) 15) 16) 17) 18) 19) 20) 21) 22
def sm_X3_init : xSm := fun args w =>
  match decide (args = [.ref 12, .ref 1] ∧ w.1 = sb_X3_init_0) with
  | true => some (none, (sa_X3_init_0, sg_X3_init_0 w.2), True)
  | false =>
  none
set_option maxRecDepth 100000 in
set_option maxHeartbeats 4000000 in
theorem vs_X3_init : x_VS (25, sm_X3_init) := by
  intro args w r hr hP
  unfold sm_X3_init at hr
  dsimp only at hr
  split at hr
  · next hd =>
    cases hr
    obtain ⟨hd1, hd2⟩ := of_decide_eq_true hd
    obtain ⟨w1, w2⟩ := w
    subst hd1
    dsimp only at hd2
    subst hd2
    refine x_con (M := M_X3_init) (args := [.ref 12, .ref 1]) rfl (Nat.le_of_ble_eq_true rfl) (by simp [Value.category]) (x_wp_sound (sums := sms_1) (cuts := []) vss_1 ok_X3_init 2000 _ ?_)
    refine And.intro ⟨Nat.le_of_ble_eq_true rfl, Nat.le_of_ble_eq_true rfl, Nat.le_of_ble_eq_true rfl⟩ ?_
    change x_wp _ _ _ _ _ _ 1996 (8, [some (.ref 12), some (.ref 1)], [.ref 13, .ref 12], (([.inr (9, [some (some 1), some none, some none, some none, some none, some none, some none, some none, some none]), .inr (0, [some (some 2), some (some 4), some (some 6), some (some 8), some (some 10), none]), .inr (7, [some (some 3)]), .inl 6, .inr (7, [some (some 5)]), .inl 6, .inr (7, [some (some 7)]), .inl 6, .inr (7, [some (some 9)]), .inl 6, .inr (7, [some (some 11)]), .inl 32, .inr (3, [some none, some none, some none, some none, some none, some none, none]), .inr (7, [some none])] : List xS), x_z (w2) 13), 1, 1)
    refine And.intro trivial ?_
    change x_wp _ _ _ _ _ _ 1993 (14, [some (.ref 12), some (.ref 1)], [.ref 13, .ref 12], (([.inr (9, [some (some 1), some none, some none, some none, some none, some none, some none, some none, some none]), .inr (0, [some (some 2), some (some 4), some (some 6), some (some 8), some (some 10), none]), .inr (7, [some (some 3)]), .inl 6, .inr (7, [some (some 5)]), .inl 6, .inr (7, [some (some 7)]), .inl 6, .inr (7, [some (some 9)]), .inl 6, .inr (7, [some (some 11)]), .inl 32, .inr (3, [some none, some none, some none, some none, some none, some none, none]), .inr (7, [some (some 14)]), .inl 16] : List xS), x_z (x_z (w2) 13) 14), 2, 17)
    refine And.intro ⟨Nat.le_of_ble_eq_true rfl, Nat.le_of_ble_eq_true rfl, Nat.le_of_ble_eq_true rfl⟩ ?_
    change x_wp _ _ _ _ _ _ 1990 (21, [some (.ref 12), some (.ref 1)], [.ref 15, .ref 12], (([.inr (9, [some (some 1), some none, some none, some none, some none, some none, some none, some none, some none]), .inr (0, [some (some 2), some (some 4), some (some 6), some (some 8), some (some 10), none]), .inr (7, [some (some 3)]), .inl 6, .inr (7, [some (some 5)]), .inl 6, .inr (7, [some (some 7)]), .inl 6, .inr (7, [some (some 9)]), .inl 6, .inr (7, [some (some 11)]), .inl 32, .inr (3, [some none, some (some 13), some none, some none, some none, some none, none]), .inr (7, [some (some 14)]), .inl 16, .inr (7, [some none])] : List xS), x_z (x_z (x_z (w2) 13) 14) 15), 3, 18)
    refine And.intro trivial ?_
    change x_wp _ _ _ _ _ _ 1987 (27, [some (.ref 12), some (.ref 1)], [.ref 15, .ref 12], (([.inr (9, [some (some 1), some none, some none, some none, some none, some none, some none, some none, some none]), .inr (0, [some (some 2), some (some 4), some (some 6), some (some 8), some (some 10), none]), .inr (7, [some (some 3)]), .inl 6, .inr (7, [some (some 5)]), .inl 6, .inr (7, [some (some 7)]), .inl 6, .inr (7, [some (some 9)]), .inl 6, .inr (7, [some (some 11)]), .inl 32, .inr (3, [some none, some (some 13), some none, some none, some none, some none, none]), .inr (7, [some (some 14)]), .inl 16, .inr (7, [some (some 16)]), .inl 16] : List xS), x_z (x_z (x_z (x_z (w2) 13) 14) 15) 16), 4, 34)
    refine And.intro ⟨Nat.le_of_ble_eq_true rfl, Nat.le_of_ble_eq_true rfl, Nat.le_of_ble_eq_true rfl⟩ ?_
    change x_wp _ _ _ _ _ _ 1984 (34, [some (.ref 12), some (.ref 1)], [.ref 17, .ref 12], (([.inr (9, [some (some 1), some none, some none, some none, some none, some none, some none, some none, some none]), .inr (0, [some (some 2), some (some 4), some (some 6), some (some 8), some (some 10), none]), .inr (7, [some (some 3)]), .inl 6, .inr (7, [some (some 5)]), .inl 6, .inr (7, [some (some 7)]), .inl 6, .inr (7, [some (some 9)]), .inl 6, .inr (7, [some (some 11)]), .inl 32, .inr (3, [some none, some (some 13), some (some 15), some none, some none, some none, none]), .inr (7, [some (some 14)]), .inl 16, .inr (7, [some (some 16)]), .inl 16, .inr (7, [some none])] : List xS), x_z (x_z (x_z (x_z (x_z (w2) 13) 14) 15) 16) 17), 5, 35)
    refine And.intro trivial ?_
    change x_wp _ _ _ _ _ _ 1981 (40, [some (.ref 12), some (.ref 1)], [.ref 17, .ref 12], (([.inr (9, [some (some 1), some none, some none, some none, some none, some none, some none, some none, some none]), .inr (0, [some (some 2), some (some 4), some (some 6), some (some 8), some (some 10), none]), .inr (7, [some (some 3)]), .inl 6, .inr (7, [some (some 5)]), .inl 6, .inr (7, [some (some 7)]), .inl 6, .inr (7, [some (some 9)]), .inl 6, .inr (7, [some (some 11)]), .inl 32, .inr (3, [some none, some (some 13), some (some 15), some none, some none, some none, none]), .inr (7, [some (some 14)]), .inl 16, .inr (7, [some (some 16)]), .inl 16, .inr (7, [some (some 18)]), .inl 16] : List xS), x_z (x_z (x_z (x_z (x_z (x_z (w2) 13) 14) 15) 16) 17) 18), 6, 51)
    refine And.intro ⟨Nat.le_of_ble_eq_true rfl, Nat.le_of_ble_eq_true rfl, Nat.le_of_ble_eq_true rfl⟩ ?_
    change x_wp _ _ _ _ _ _ 1978 (47, [some (.ref 12), some (.ref 1)], [.ref 19, .ref 12], (([.inr (9, [some (some 1), some none, some none, some none, some none, some none, some none, some none, some none]), .inr (0, [some (some 2), some (some 4), some (some 6), some (some 8), some (some 10), none]), .inr (7, [some (some 3)]), .inl 6, .inr (7, [some (some 5)]), .inl 6, .inr (7, [some (some 7)]), .inl 6, .inr (7, [some (some 9)]), .inl 6, .inr (7, [some (some 11)]), .inl 32, .inr (3, [some none, some (some 13), some (some 15), some (some 17), some none, some none, none]), .inr (7, [some (some 14)]), .inl 16, .inr (7, [some (some 16)]), .inl 16, .inr (7, [some (some 18)]), .inl 16, .inr (7, [some none])] : List xS), x_z (x_z (x_z (x_z (x_z (x_z (x_z (w2) 13) 14) 15) 16) 17) 18) 19), 7, 52)
    refine And.intro trivial ?_
    change x_wp _ _ _ _ _ _ 1975 (53, [some (.ref 12), some (.ref 1)], [.ref 19, .ref 12], (([.inr (9, [some (some 1), some none, some none, some none, some none, some none, some none, some none, some none]), .inr (0, [some (some 2), some (some 4), some (some 6), some (some 8), some (some 10), none]), .inr (7, [some (some 3)]), .inl 6, .inr (7, [some (some 5)]), .inl 6, .inr (7, [some (some 7)]), .inl 6, .inr (7, [some (some 9)]), .inl 6, .inr (7, [some (some 11)]), .inl 32, .inr (3, [some none, some (some 13), some (some 15), some (some 17), some none, some none, none]), .inr (7, [some (some 14)]), .inl 16, .inr (7, [some (some 16)]), .inl 16, .inr (7, [some (some 18)]), .inl 16, .inr (7, [some (some 20)]), .inl 16] : List xS), x_z (x_z (x_z (x_z (x_z (x_z (x_z (x_z (w2) 13) 14) 15) 16) 17) 18) 19) 20), 8, 68)
    refine And.intro ⟨Nat.le_of_ble_eq_true rfl, Nat.le_of_ble_eq_true rfl, Nat.le_of_ble_eq_true rfl⟩ ?_
    change x_wp _ _ _ _ _ _ 1972 (60, [some (.ref 12), some (.ref 1)], [.ref 21, .ref 12], (([.inr (9, [some (some 1), some none, some none, some none, some none, some none, some none, some none, some none]), .inr (0, [some (some 2), some (some 4), some (some 6), some (some 8), some (some 10), none]), .inr (7, [some (some 3)]), .inl 6, .inr (7, [some (some 5)]), .inl 6, .inr (7, [some (some 7)]), .inl 6, .inr (7, [some (some 9)]), .inl 6, .inr (7, [some (some 11)]), .inl 32, .inr (3, [some none, some (some 13), some (some 15), some (some 17), some (some 19), some none, none]), .inr (7, [some (some 14)]), .inl 16, .inr (7, [some (some 16)]), .inl 16, .inr (7, [some (some 18)]), .inl 16, .inr (7, [some (some 20)]), .inl 16, .inr (7, [some none])] : List xS), x_z (x_z (x_z (x_z (x_z (x_z (x_z (x_z (x_z (w2) 13) 14) 15) 16) 17) 18) 19) 20) 21), 9, 69)
    refine And.intro trivial ?_
    change x_wp _ _ _ _ _ _ 1969 (66, [some (.ref 12), some (.ref 1)], [.ref 21, .ref 12], (([.inr (9, [some (some 1), some none, some none, some none, some none, some none, some none, some none, some none]), .inr (0, [some (some 2), some (some 4), some (some 6), some (some 8), some (some 10), none]), .inr (7, [some (some 3)]), .inl 6, .inr (7, [some (some 5)]), .inl 6, .inr (7, [some (some 7)]), .inl 6, .inr (7, [some (some 9)]), .inl 6, .inr (7, [some (some 11)]), .inl 32, .inr (3, [some none, some (some 13), some (some 15), some (some 17), some (some 19), some none, none]), .inr (7, [some (some 14)]), .inl 16, .inr (7, [some (some 16)]), .inl 16, .inr (7, [some (some 18)]), .inl 16, .inr (7, [some (some 20)]), .inl 16, .inr (7, [some (some 22)]), .inl 16] : List xS), x_z (x_z (x_z (x_z (x_z (x_z (x_z (x_z (x_z (x_z (w2) 13) 14) 15) 16) 17) 18) 19) 20) 21) 22), 10, 85)
    exact ⟨Nat.le_of_ble_eq_true rfl, Nat.le_of_ble_eq_true rfl, rfl, rfl⟩
  · cases hr
def sms_2 : List (Nat × xSm) := (25, sm_X3_init) :: sms_1
theorem vss_2 : ∀ q ∈ sms_2, x_VS q := List.forall_mem_cons.mpr ⟨vs_X3_init, vss_1⟩
def sb_X2_init_0 : List xS := [.inr (9, [some (some 1), some (some 12), some none, some none, some none, some none, some none, some none, some none]), .inr (0, [some (some 2), some (some 4), some (some 6), some (some 8), some (some 10), none]), .inr (7, [some (some 3)]), .inl 6, .inr (7, [some (some 5)]), .inl 6, .inr (7, [some (some 7)]), .inl 6, .inr (7, [some (some 9)]), .inl 6, .inr (7, [some (some 11)]), .inl 32, .inr (3, [some (some 1), some (some 13), some (some 15), some (some 17), some (some 19), some (some 21), none]), .inr (7, [some (some 14)]), .inl 16, .inr (7, [some (some 16)]), .inl 16, .inr (7, [some (some 18)]), .inl 16, .inr (7, [some (some 20)]), .inl 16, .inr (7, [some (some 22)]), .inl 16, .inr (2, [some none, some none, some none, none])]
def sa_X2_init_0 : List xS := [.inr (9, [some (some 1), some (some 12), some none, some none, some none, some none, some none, some none, some none]), .inr (0, [some (some 2), some (some 4), some (some 6), some (some 8), some (some 10), none]), .inr (7, [some (some 3)]), .inl 6, .inr (7, [some (some 5)]), .inl 6, .inr (7, [some (some 7)]), .inl 6, .inr (7, [some (some 9)]), .inl 6, .inr (7, [some (some 11)]), .inl 32, .inr (3, [some (some 1), some (some 13), some (some 15), some (some 17), some (some 19), some (some 21), none]), .inr (7, [some (some 14)]), .inl 16, .inr (7, [some (some 16)]), .inl 16, .inr (7, [some (some 18)]), .inl 16, .inr (7, [some (some 20)]), .inl 16, .inr (7, [some (some 22)]), .inl 16, .inr (2, [some (some 24), some (some 26), some (some 28), none]), .inr (7, [some (some 25)]), .inl 8, .inr (7, [some (some 27)]), .inl 8, .inr (7, [some (some 29)]), .inl 8]
def sg_X2_init_0 (σ : Nat → Nat → Int32) : Nat → Nat → Int32 := x_z (x_z (x_z (x_z (x_z (x_z (σ) 24) 25) 26) 27) 28) 29
def sm_X2_init : xSm := fun args w =>
  match decide (args = [.ref 23] ∧ w.1 = sb_X2_init_0) with
  | true => some (none, (sa_X2_init_0, sg_X2_init_0 w.2), True)
  | false =>
  none
set_option maxRecDepth 100000 in
set_option maxHeartbeats 4000000 in
theorem vs_X2_init : x_VS (19, sm_X2_init) := by
  intro args w r hr hP
  unfold sm_X2_init at hr
  dsimp only at hr
  split at hr
  · next hd =>
    cases hr
    obtain ⟨hd1, hd2⟩ := of_decide_eq_true hd
    obtain ⟨w1, w2⟩ := w
    subst hd1
    dsimp only at hd2
    subst hd2
    refine x_con (M := M_X2_init) (args := [.ref 23]) rfl (Nat.le_of_ble_eq_true rfl) (by simp [Value.category]) (x_wp_sound (sums := sms_2) (cuts := []) vss_2 ok_X2_init 2000 _ ?_)
    refine And.intro ⟨Nat.le_of_ble_eq_true rfl, Nat.le_of_ble_eq_true rfl, Nat.le_of_ble_eq_true rfl⟩ ?_
    change x_wp _ _ _ _ _ _ 1996 (8, [some (.ref 23)], [.ref 24, .ref 23], (([.inr (9, [some (some 1), some (some 12), some none, some none, some none, some none, some none, some none, some none]), .inr (0, [some (some 2), some (some 4), some (some 6), some (some 8), some (some 10), none]), .inr (7, [some (some 3)]), .inl 6, .inr (7, [some (some 5)]), .inl 6, .inr (7, [some (some 7)]), .inl 6, .inr (7, [some (some 9)]), .inl 6, .inr (7, [some (some 11)]), .inl 32, .inr (3, [some (some 1), some (some 13), some (some 15), some (some 17), some (some 19), some (some 21), none]), .inr (7, [some (some 14)]), .inl 16, .inr (7, [some (some 16)]), .inl 16, .inr (7, [some (some 18)]), .inl 16, .inr (7, [some (some 20)]), .inl 16, .inr (7, [some (some 22)]), .inl 16, .inr (2, [some none, some none, some none, none]), .inr (7, [some none])] : List xS), x_z (w2) 24), 1, 1)
    refine And.intro trivial ?_
    change x_wp _ _ _ _ _ _ 1993 (14, [some (.ref 23)], [.ref 24, .ref 23], (([.inr (9, [some (some 1), some (some 12), some none, some none, some none, some none, some none, some none, some none]), .inr (0, [some (some 2), some (some 4), some (some 6), some (some 8), some (some 10), none]), .inr (7, [some (some 3)]), .inl 6, .inr (7, [some (some 5)]), .inl 6, .inr (7, [some (some 7)]), .inl 6, .inr (7, [some (some 9)]), .inl 6, .inr (7, [some (some 11)]), .inl 32, .inr (3, [some (some 1), some (some 13), some (some 15), some (some 17), some (some 19), some (some 21), none]), .inr (7, [some (some 14)]), .inl 16, .inr (7, [some (some 16)]), .inl 16, .inr (7, [some (some 18)]), .inl 16, .inr (7, [some (some 20)]), .inl 16, .inr (7, [some (some 22)]), .inl 16, .inr (2, [some none, some none, some none, none]), .inr (7, [some (some 25)]), .inl 8] : List xS), x_z (x_z (w2) 24) 25), 2, 9)
    refine And.intro ⟨Nat.le_of_ble_eq_true rfl, Nat.le_of_ble_eq_true rfl, Nat.le_of_ble_eq_true rfl⟩ ?_
    change x_wp _ _ _ _ _ _ 1990 (21, [some (.ref 23)], [.ref 26, .ref 23], (([.inr (9, [some (some 1), some (some 12), some none, some none, some none, some none, some none, some none, some none]), .inr (0, [some (some 2), some (some 4), some (some 6), some (some 8), some (some 10), none]), .inr (7, [some (some 3)]), .inl 6, .inr (7, [some (some 5)]), .inl 6, .inr (7, [some (some 7)]), .inl 6, .inr (7, [some (some 9)]), .inl 6, .inr (7, [some (some 11)]), .inl 32, .inr (3, [some (some 1), some (some 13), some (some 15), some (some 17), some (some 19), some (some 21), none]), .inr (7, [some (some 14)]), .inl 16, .inr (7, [some (some 16)]), .inl 16, .inr (7, [some (some 18)]), .inl 16, .inr (7, [some (some 20)]), .inl 16, .inr (7, [some (some 22)]), .inl 16, .inr (2, [some (some 24), some none, some none, none]), .inr (7, [some (some 25)]), .inl 8, .inr (7, [some none])] : List xS), x_z (x_z (x_z (w2) 24) 25) 26), 3, 10)
    refine And.intro trivial ?_
    change x_wp _ _ _ _ _ _ 1987 (27, [some (.ref 23)], [.ref 26, .ref 23], (([.inr (9, [some (some 1), some (some 12), some none, some none, some none, some none, some none, some none, some none]), .inr (0, [some (some 2), some (some 4), some (some 6), some (some 8), some (some 10), none]), .inr (7, [some (some 3)]), .inl 6, .inr (7, [some (some 5)]), .inl 6, .inr (7, [some (some 7)]), .inl 6, .inr (7, [some (some 9)]), .inl 6, .inr (7, [some (some 11)]), .inl 32, .inr (3, [some (some 1), some (some 13), some (some 15), some (some 17), some (some 19), some (some 21), none]), .inr (7, [some (some 14)]), .inl 16, .inr (7, [some (some 16)]), .inl 16, .inr (7, [some (some 18)]), .inl 16, .inr (7, [some (some 20)]), .inl 16, .inr (7, [some (some 22)]), .inl 16, .inr (2, [some (some 24), some none, some none, none]), .inr (7, [some (some 25)]), .inl 8, .inr (7, [some (some 27)]), .inl 8] : List xS), x_z (x_z (x_z (x_z (w2) 24) 25) 26) 27), 4, 18)
    refine And.intro ⟨Nat.le_of_ble_eq_true rfl, Nat.le_of_ble_eq_true rfl, Nat.le_of_ble_eq_true rfl⟩ ?_
    change x_wp _ _ _ _ _ _ 1984 (34, [some (.ref 23)], [.ref 28, .ref 23], (([.inr (9, [some (some 1), some (some 12), some none, some none, some none, some none, some none, some none, some none]), .inr (0, [some (some 2), some (some 4), some (some 6), some (some 8), some (some 10), none]), .inr (7, [some (some 3)]), .inl 6, .inr (7, [some (some 5)]), .inl 6, .inr (7, [some (some 7)]), .inl 6, .inr (7, [some (some 9)]), .inl 6, .inr (7, [some (some 11)]), .inl 32, .inr (3, [some (some 1), some (some 13), some (some 15), some (some 17), some (some 19), some (some 21), none]), .inr (7, [some (some 14)]), .inl 16, .inr (7, [some (some 16)]), .inl 16, .inr (7, [some (some 18)]), .inl 16, .inr (7, [some (some 20)]), .inl 16, .inr (7, [some (some 22)]), .inl 16, .inr (2, [some (some 24), some (some 26), some none, none]), .inr (7, [some (some 25)]), .inl 8, .inr (7, [some (some 27)]), .inl 8, .inr (7, [some none])] : List xS), x_z (x_z (x_z (x_z (x_z (w2) 24) 25) 26) 27) 28), 5, 19)
    refine And.intro trivial ?_
    change x_wp _ _ _ _ _ _ 1981 (40, [some (.ref 23)], [.ref 28, .ref 23], (([.inr (9, [some (some 1), some (some 12), some none, some none, some none, some none, some none, some none, some none]), .inr (0, [some (some 2), some (some 4), some (some 6), some (some 8), some (some 10), none]), .inr (7, [some (some 3)]), .inl 6, .inr (7, [some (some 5)]), .inl 6, .inr (7, [some (some 7)]), .inl 6, .inr (7, [some (some 9)]), .inl 6, .inr (7, [some (some 11)]), .inl 32, .inr (3, [some (some 1), some (some 13), some (some 15), some (some 17), some (some 19), some (some 21), none]), .inr (7, [some (some 14)]), .inl 16, .inr (7, [some (some 16)]), .inl 16, .inr (7, [some (some 18)]), .inl 16, .inr (7, [some (some 20)]), .inl 16, .inr (7, [some (some 22)]), .inl 16, .inr (2, [some (some 24), some (some 26), some none, none]), .inr (7, [some (some 25)]), .inl 8, .inr (7, [some (some 27)]), .inl 8, .inr (7, [some (some 29)]), .inl 8] : List xS), x_z (x_z (x_z (x_z (x_z (x_z (w2) 24) 25) 26) 27) 28) 29), 6, 27)
    exact ⟨Nat.le_of_ble_eq_true rfl, Nat.le_of_ble_eq_true rfl, rfl, rfl⟩
  · cases hr
def sms_3 : List (Nat × xSm) := (19, sm_X2_init) :: sms_2
theorem vss_3 : ∀ q ∈ sms_3, x_VS q := List.forall_mem_cons.mpr ⟨vs_X2_init, vss_2⟩
def sb_X8_init_0 : List xS := [.inr (9, [some (some 1), some (some 12), some (some 23), some none, some none, some none, some none, some none, some none]), .inr (0, [some (some 2), some (some 4), some (some 6), some (some 8), some (some 10), none]), .inr (7, [some (some 3)]), .inl 6, .inr (7, [some (some 5)]), .inl 6, .inr (7, [some (some 7)]), .inl 6, .inr (7, [some (some 9)]), .inl 6, .inr (7, [some (some 11)]), .inl 32, .inr (3, [some (some 1), some (some 13), some (some 15), some (some 17), some (some 19), some (some 21), none]), .inr (7, [some (some 14)]), .inl 16, .inr (7, [some (some 16)]), .inl 16, .inr (7, [some (some 18)]), .inl 16, .inr (7, [some (some 20)]), .inl 16, .inr (7, [some (some 22)]), .inl 16, .inr (2, [some (some 24), some (some 26), some (some 28), none]), .inr (7, [some (some 25)]), .inl 8, .inr (7, [some (some 27)]), .inl 8, .inr (7, [some (some 29)]), .inl 8, .inr (8, [some none, some none, some none, none])]
def sa_X8_init_0 : List xS := [.inr (9, [some (some 1), some (some 12), some (some 23), some none, some none, some none, some none, some none, some none]), .inr (0, [some (some 2), some (some 4), some (some 6), some (some 8), some (some 10), none]), .inr (7, [some (some 3)]), .inl 6, .inr (7, [some (some 5)]), .inl 6, .inr (7, [some (some 7)]), .inl 6, .inr (7, [some (some 9)]), .inl 6, .inr (7, [some (some 11)]), .inl 32, .inr (3, [some (some 1), some (some 13), some (some 15), some (some 17), some (some 19), some (some 21), none]), .inr (7, [some (some 14)]), .inl 16, .inr (7, [some (some 16)]), .inl 16, .inr (7, [some (some 18)]), .inl 16, .inr (7, [some (some 20)]), .inl 16, .inr (7, [some (some 22)]), .inl 16, .inr (2, [some (some 24), some (some 26), some (some 28), none]), .inr (7, [some (some 25)]), .inl 8, .inr (7, [some (some 27)]), .inl 8, .inr (7, [some (some 29)]), .inl 8, .inr (8, [some (some 31), some (some 33), some (some 35), none]), .inr (7, [some (some 32)]), .inl 40, .inr (7, [some (some 34)]), .inl 40, .inr (7, [some (some 36)]), .inl 40]
def sg_X8_init_0 (σ : Nat → Nat → Int32) : Nat → Nat → Int32 := x_z (x_z (x_z (x_z (x_z (x_z (σ) 31) 32) 33) 34) 35) 36
def sb_X8_init_1 : List xS := [.inr (9, [some (some 1), some (some 12), some (some 23), some (some 30), some (some 37), some none, some none, some none, some none]), .inr (0, [some (some 2), some (some 4), some (some 6), some (some 8), some (some 10), none]), .inr (7, [some (some 3)]), .inl 6, .inr (7, [some (some 5)]), .inl 6, .inr (7, [some (some 7)]), .inl 6, .inr (7, [some (some 9)]), .inl 6, .inr (7, [some (some 11)]), .inl 32, .inr (3, [some (some 1), some (some 13), some (some 15), some (some 17), some (some 19), some (some 21), none]), .inr (7, [some (some 14)]), .inl 16, .inr (7, [some (some 16)]), .inl 16, .inr (7, [some (some 18)]), .inl 16, .inr (7, [some (some 20)]), .inl 16, .inr (7, [some (some 22)]), .inl 16, .inr (2, [some (some 24), some (some 26), some (some 28), none]), .inr (7, [some (some 25)]), .inl 8, .inr (7, [some (some 27)]), .inl 8, .inr (7, [some (some 29)]), .inl 8, .inr (8, [some (some 31), some (some 33), some (some 35), none]), .inr (7, [some (some 32)]), .inl 40, .inr (7, [some (some 34)]), .inl 40, .inr (7, [some (some 36)]), .inl 40, .inr (5, [some (some 1), some (some 12), some (some 38), none, none, none, none, none, none]), .inr (7, [some (some 39)]), .inl 4, .inr (4, [some none, some none, some none, some none, none]), .inr (8, [some none, some none, some none, none])]
def sa_X8_init_1 : List xS := [.inr (9, [some (some 1), some (some 12), some (some 23), some (some 30), some (some 37), some none, some none, some none, some none]), .inr (0, [some (some 2), some (some 4), some (some 6), some (some 8), some (some 10), none]), .inr (7, [some (some 3)]), .inl 6, .inr (7, [some (some 5)]), .inl 6, .inr (7, [some (some 7)]), .inl 6, .inr (7, [some (some 9)]), .inl 6, .inr (7, [some (some 11)]), .inl 32, .inr (3, [some (some 1), some (some 13), some (some 15), some (some 17), some (some 19), some (some 21), none]), .inr (7, [some (some 14)]), .inl 16, .inr (7, [some (some 16)]), .inl 16, .inr (7, [some (some 18)]), .inl 16, .inr (7, [some (some 20)]), .inl 16, .inr (7, [some (some 22)]), .inl 16, .inr (2, [some (some 24), some (some 26), some (some 28), none]), .inr (7, [some (some 25)]), .inl 8, .inr (7, [some (some 27)]), .inl 8, .inr (7, [some (some 29)]), .inl 8, .inr (8, [some (some 31), some (some 33), some (some 35), none]), .inr (7, [some (some 32)]), .inl 40, .inr (7, [some (some 34)]), .inl 40, .inr (7, [some (some 36)]), .inl 40, .inr (5, [some (some 1), some (some 12), some (some 38), none, none, none, none, none, none]), .inr (7, [some (some 39)]), .inl 4, .inr (4, [some none, some none, some none, some none, none]), .inr (8, [some (some 42), some (some 44), some (some 46), none]), .inr (7, [some (some 43)]), .inl 40, .inr (7, [some (some 45)]), .inl 40, .inr (7, [some (some 47)]), .inl 40]
def sg_X8_init_1 (σ : Nat → Nat → Int32) : Nat → Nat → Int32 := x_z (x_z (x_z (x_z (x_z (x_z (σ) 42) 43) 44) 45) 46) 47
def sm_X8_init : xSm := fun args w =>
  match decide (args = [.ref 30] ∧ w.1 = sb_X8_init_0) with
  | true => some (none, (sa_X8_init_0, sg_X8_init_0 w.2), True)
  | false =>
  match decide (args = [.ref 41] ∧ w.1 = sb_X8_init_1) with
  | true => some (none, (sa_X8_init_1, sg_X8_init_1 w.2), True)
  | false =>
  none
set_option maxRecDepth 100000 in
set_option maxHeartbeats 4000000 in
theorem vs_X8_init : x_VS (75, sm_X8_init) := by
  intro args w r hr hP
  unfold sm_X8_init at hr
  dsimp only at hr
  split at hr
  · next hd =>
    cases hr
    obtain ⟨hd1, hd2⟩ := of_decide_eq_true hd
    obtain ⟨w1, w2⟩ := w
    subst hd1
    dsimp only at hd2
    subst hd2
    refine x_con (M := M_X8_init) (args := [.ref 30]) rfl (Nat.le_of_ble_eq_true rfl) (by simp [Value.category]) (x_wp_sound (sums := sms_3) (cuts := []) vss_3 ok_X8_init 2000 _ ?_)
    refine And.intro ⟨Nat.le_of_ble_eq_true rfl, Nat.le_of_ble_eq_true rfl, Nat.le_of_ble_eq_true rfl⟩ ?_
    change x_wp _ _ _ _ _ _ 1996 (8, [some (.ref 30)], [.ref 31, .ref 30], (([.inr (9, [some (some 1), some (some 12), some (some 23), some none, some none, some none, some none, some none, some none]), .inr (0, [some (some 2), some (some 4), some (some 6), some (some 8), some (some 10), none]), .inr (7, [some (some 3)]), .inl 6, .inr (7, [some (some 5)]), .inl 6, .inr (7, [some (some 7)]), .inl 6, .inr (7, [some (some 9)]), .inl 6, .inr (7, [some (some 11)]), .inl 32, .inr (3, [some (some 1), some (some 13), some (some 15), some (some 17), some (some 19), some (some 21), none]), .inr (7, [some (some 14)]), .inl 16, .inr (7, [some (some 16)]), .inl 16, .inr (7, [some (some 18)]), .inl 16, .inr (7, [some (some 20)]), .inl 16, .inr (7, [some (some 22)]), .inl 16, .inr (2, [some (some 24), some (some 26), some (some 28), none]), .inr (7, [some (some 25)]), .inl 8, .inr (7, [some (some 27)]), .inl 8, .inr (7, [some (some 29)]), .inl 8, .inr (8, [some none, some none, some none, none]), .inr (7, [some none])] : List xS), x_z (w2) 31), 1, 1)
    refine And.intro trivial ?_
    change x_wp _ _ _ _ _ _ 1993 (14, [some (.ref 30)], [.ref 31, .ref 30], (([.inr (9, [some (some 1), some (some 12), some (some 23), some none, some none, some none, some none, some none, some none]), .inr (0, [some (some 2), some (some 4), some (some 6), some (some 8), some (some 10), none]), .inr (7, [some (some 3)]), .inl 6, .inr (7, [some (some 5)]), .inl 6, .inr (7, [some (some 7)]), .inl 6, .inr (7, [some (some 9)]), .inl 6, .inr (7, [some (some 11)]), .inl 32, .inr (3, [some (some 1), some (some 13), some (some 15), some (some 17), some (some 19), some (some 21), none]), .inr (7, [some (some 14)]), .inl 16, .inr (7, [some (some 16)]), .inl 16, .inr (7, [some (some 18)]), .inl 16, .inr (7, [some (some 20)]), .inl 16, .inr (7, [some (some 22)]), .inl 16, .inr (2, [some (some 24), some (some 26), some (some 28), none]), .inr (7, [some (some 25)]), .inl 8, .inr (7, [some (some 27)]), .inl 8, .inr (7, [some (some 29)]), .inl 8, .inr (8, [some none, some none, some none, none]), .inr (7, [some (some 32)]), .inl 40] : List xS), x_z (x_z (w2) 31) 32), 2, 41)
    refine And.intro ⟨Nat.le_of_ble_eq_true rfl, Nat.le_of_ble_eq_true rfl, Nat.le_of_ble_eq_true rfl⟩ ?_
    change x_wp _ _ _ _ _ _ 1990 (21, [some (.ref 30)], [.ref 33, .ref 30], (([.inr (9, [some (some 1), some (some 12), some (some 23), some none, some none, some none, some none, some none, some none]), .inr (0, [some (some 2), some (some 4), some (some 6), some (some 8), some (some 10), none]), .inr (7, [some (some 3)]), .inl 6, .inr (7, [some (some 5)]), .inl 6, .inr (7, [some (some 7)]), .inl 6, .inr (7, [some (some 9)]), .inl 6, .inr (7, [some (some 11)]), .inl 32, .inr (3, [some (some 1), some (some 13), some (some 15), some (some 17), some (some 19), some (some 21), none]), .inr (7, [some (some 14)]), .inl 16, .inr (7, [some (some 16)]), .inl 16, .inr (7, [some (some 18)]), .inl 16, .inr (7, [some (some 20)]), .inl 16, .inr (7, [some (some 22)]), .inl 16, .inr (2, [some (some 24), some (some 26), some (some 28), none]), .inr (7, [some (some 25)]), .inl 8, .inr (7, [some (some 27)]), .inl 8, .inr (7, [some (some 29)]), .inl 8, .inr (8, [some (some 31), some none, some none, none]), .inr (7, [some (some 32)]), .inl 40, .inr (7, [some none])] : List xS), x_z (x_z (x_z (w2) 31) 32) 33), 3, 42)
    refine And.intro trivial ?_
    change x_wp _ _ _ _ _ _ 1987 (27, [some (.ref 30)], [.ref 33, .ref 30], (([.inr (9, [some (some 1), some (some 12), some (some 23), some none, some none, some none, some none, some none, some none]), .inr (0, [some (some 2), some (some 4), some (some 6), some (some 8), some (some 10), none]), .inr (7, [some (some 3)]), .inl 6, .inr (7, [some (some 5)]), .inl 6, .inr (7, [some (some 7)]), .inl 6, .inr (7, [some (some 9)]), .inl 6, .inr (7, [some (some 11)]), .inl 32, .inr (3, [some (some 1), some (some 13), some (some 15), some (some 17), some (some 19), some (some 21), none]), .inr (7, [some (some 14)]), .inl 16, .inr (7, [some (some 16)]), .inl 16, .inr (7, [some (some 18)]), .inl 16, .inr (7, [some (some 20)]), .inl 16, .inr (7, [some (some 22)]), .inl 16, .inr (2, [some (some 24), some (some 26), some (some 28), none]), .inr (7, [some (some 25)]), .inl 8, .inr (7, [some (some 27)]), .inl 8, .inr (7, [some (some 29)]), .inl 8, .inr (8, [some (some 31), some none, some none, none]), .inr (7, [some (some 32)]), .inl 40, .inr (7, [some (some 34)]), .inl 40] : List xS), x_z (x_z (x_z (x_z (w2) 31) 32) 33) 34), 4, 82)
    refine And.intro ⟨Nat.le_of_ble_eq_true rfl, Nat.le_of_ble_eq_true rfl, Nat.le_of_ble_eq_true rfl⟩ ?_
    change x_wp _ _ _ _ _ _ 1984 (34, [some (.ref 30)], [.ref 35, .ref 30], (([.inr (9, [some (some 1), some (some 12), some (some 23), some none, some none, some none, some none, some none, some none]), .inr (0, [some (some 2), some (some 4), some (some 6), some (some 8), some (some 10), none]), .inr (7, [some (some 3)]), .inl 6, .inr (7, [some (some 5)]), .inl 6, .inr (7, [some (some 7)]), .inl 6, .inr (7, [some (some 9)]), .inl 6, .inr (7, [some (some 11)]), .inl 32, .inr (3, [some (some 1), some (some 13), some (some 15), some (some 17), some (some 19), some (some 21), none]), .inr (7, [some (some 14)]), .inl 16, .inr (7, [some (some 16)]), .inl 16, .inr (7, [some (some 18)]), .inl 16, .inr (7, [some (some 20)]), .inl 16, .inr (7, [some (some 22)]), .inl 16, .inr (2, [some (some 24), some (some 26), some (some 28), none]), .inr (7, [some (some 25)]), .inl 8, .inr (7, [some (some 27)]), .inl 8, .inr (7, [some (some 29)]), .inl 8, .inr (8, [some (some 31), some (some 33), some none, none]), .inr (7, [some (some 32)]), .inl 40, .inr (7, [some (some 34)]), .inl 40, .inr (7, [some none])] : List xS), x_z (x_z (x_z (x_z (x_z (w2) 31) 32) 33) 34) 35), 5, 83)
    refine And.intro trivial ?_
    change x_wp _ _ _ _ _ _ 1981 (40, [some (.ref 30)], [.ref 35, .ref 30], (([.inr (9, [some (some 1), some (some 12), some (some 23), some none, some none, some none, some none, some none, some none]), .inr (0, [some (some 2), some (some 4), some (some 6), some (some 8), some (some 10), none]), .inr (7, [some (some 3)]), .inl 6, .inr (7, [some (some 5)]), .inl 6, .inr (7, [some (some 7)]), .inl 6, .inr (7, [some (some 9)]), .inl 6, .inr (7, [some (some 11)]), .inl 32, .inr (3, [some (some 1), some (some 13), some (some 15), some (some 17), some (some 19), some (some 21), none]), .inr (7, [some (some 14)]), .inl 16, .inr (7, [some (some 16)]), .inl 16, .inr (7, [some (some 18)]), .inl 16, .inr (7, [some (some 20)]), .inl 16, .inr (7, [some (some 22)]), .inl 16, .inr (2, [some (some 24), some (some 26), some (some 28), none]), .inr (7, [some (some 25)]), .inl 8, .inr (7, [some (some 27)]), .inl 8, .inr (7, [some (some 29)]), .inl 8, .inr (8, [some (some 31), some (some 33), some none, none]), .inr (7, [some (some 32)]), .inl 40, .inr (7, [some (some 34)]), .inl 40, .inr (7, [some (some 36)]), .inl 40] : List xS), x_z (x_z (x_z (x_z (x_z (x_z (w2) 31) 32) 33) 34) 35) 36), 6, 123)
    exact ⟨Nat.le_of_ble_eq_true rfl, Nat.le_of_ble_eq_true rfl, rfl, rfl⟩
  split at hr
  · next hd =>
    cases hr
    obtain ⟨hd1, hd2⟩ := of_decide_eq_true hd
    obtain ⟨w1, w2⟩ := w
    subst hd1
    dsimp only at hd2
    subst hd2
    refine x_con (M := M_X8_init) (args := [.ref 41]) rfl (Nat.le_of_ble_eq_true rfl) (by simp [Value.category]) (x_wp_sound (sums := sms_3) (cuts := []) vss_3 ok_X8_init 2000 _ ?_)
    refine And.intro ⟨Nat.le_of_ble_eq_true rfl, Nat.le_of_ble_eq_true rfl, Nat.le_of_ble_eq_true rfl⟩ ?_
    change x_wp _ _ _ _ _ _ 1996 (8, [some (.ref 41)], [.ref 42, .ref 41], (([.inr (9, [some (some 1), some (some 12), some (some 23), some (some 30), some (some 37), some none, some none, some none, some none]), .inr (0, [some (some 2), some (some 4), some (some 6), some (some 8), some (some 10), none]), .inr (7, [some (some 3)]), .inl 6, .inr (7, [some (some 5)]), .inl 6, .inr (7, [some (some 7)]), .inl 6, .inr (7, [some (some 9)]), .inl 6, .inr (7, [some (some 11)]), .inl 32, .inr (3, [some (some 1), some (some 13), some (some 15), some (some 17), some (some 19), some (some 21), none]), .inr (7, [some (some 14)]), .inl 16, .inr (7, [some (some 16)]), .inl 16, .inr (7, [some (some 18)]), .inl 16, .inr (7, [some (some 20)]), .inl 16, .inr (7, [some (some 22)]), .inl 16, .inr (2, [some (some 24), some (some 26), some (some 28), none]), .inr (7, [some (some 25)]), .inl 8, .inr (7, [some (some 27)]), .inl 8, .inr (7, [some (some 29)]), .inl 8, .inr (8, [some (some 31), some (some 33), some (some 35), none]), .inr (7, [some (some 32)]), .inl 40, .inr (7, [some (some 34)]), .inl 40, .inr (7, [some (some 36)]), .inl 40, .inr (5, [some (some 1), some (some 12), some (some 38), none, none, none, none, none, none]), .inr (7, [some (some 39)]), .inl 4, .inr (4, [some none, some none, some none, some none, none]), .inr (8, [some none, some none, some none, none]), .inr (7, [some none])] : List xS), x_z (w2) 42), 1, 1)
    refine And.intro trivial ?_
    change x_wp _ _ _ _ _ _ 1993 (14, [some (.ref 41)], [.ref 42, .ref 41], (([.inr (9, [some (some 1), some (some 12), some (some 23), some (some 30), some (some 37), some none, some none, some none, some none]), .inr (0, [some (some 2), some (some 4), some (some 6), some (some 8), some (some 10), none]), .inr (7, [some (some 3)]), .inl 6, .inr (7, [some (some 5)]), .inl 6, .inr (7, [some (some 7)]), .inl 6, .inr (7, [some (some 9)]), .inl 6, .inr (7, [some (some 11)]), .inl 32, .inr (3, [some (some 1), some (some 13), some (some 15), some (some 17), some (some 19), some (some 21), none]), .inr (7, [some (some 14)]), .inl 16, .inr (7, [some (some 16)]), .inl 16, .inr (7, [some (some 18)]), .inl 16, .inr (7, [some (some 20)]), .inl 16, .inr (7, [some (some 22)]), .inl 16, .inr (2, [some (some 24), some (some 26), some (some 28), none]), .inr (7, [some (some 25)]), .inl 8, .inr (7, [some (some 27)]), .inl 8, .inr (7, [some (some 29)]), .inl 8, .inr (8, [some (some 31), some (some 33), some (some 35), none]), .inr (7, [some (some 32)]), .inl 40, .inr (7, [some (some 34)]), .inl 40, .inr (7, [some (some 36)]), .inl 40, .inr (5, [some (some 1), some (some 12), some (some 38), none, none, none, none, none, none]), .inr (7, [some (some 39)]), .inl 4, .inr (4, [some none, some none, some none, some none, none]), .inr (8, [some none, some none, some none, none]), .inr (7, [some (some 43)]), .inl 40] : List xS), x_z (x_z (w2) 42) 43), 2, 41)
    refine And.intro ⟨Nat.le_of_ble_eq_true rfl, Nat.le_of_ble_eq_true rfl, Nat.le_of_ble_eq_true rfl⟩ ?_
    change x_wp _ _ _ _ _ _ 1990 (21, [some (.ref 41)], [.ref 44, .ref 41], (([.inr (9, [some (some 1), some (some 12), some (some 23), some (some 30), some (some 37), some none, some none, some none, some none]), .inr (0, [some (some 2), some (some 4), some (some 6), some (some 8), some (some 10), none]), .inr (7, [some (some 3)]), .inl 6, .inr (7, [some (some 5)]), .inl 6, .inr (7, [some (some 7)]), .inl 6, .inr (7, [some (some 9)]), .inl 6, .inr (7, [some (some 11)]), .inl 32, .inr (3, [some (some 1), some (some 13), some (some 15), some (some 17), some (some 19), some (some 21), none]), .inr (7, [some (some 14)]), .inl 16, .inr (7, [some (some 16)]), .inl 16, .inr (7, [some (some 18)]), .inl 16, .inr (7, [some (some 20)]), .inl 16, .inr (7, [some (some 22)]), .inl 16, .inr (2, [some (some 24), some (some 26), some (some 28), none]), .inr (7, [some (some 25)]), .inl 8, .inr (7, [some (some 27)]), .inl 8, .inr (7, [some (some 29)]), .inl 8, .inr (8, [some (some 31), some (some 33), some (some 35), none]), .inr (7, [some (some 32)]), .inl 40, .inr (7, [some (some 34)]), .inl 40, .inr (7, [some (some 36)]), .inl 40, .inr (5, [some (some 1), some (some 12), some (some 38), none, none, none, none, none, none]), .inr (7, [some (some 39)]), .inl 4, .inr (4, [some none, some none, some none, some none, none]), .inr (8, [some (some 42), some none, some none, none]), .inr (7, [some (some 43)]), .inl 40, .inr (7, [some none])] : List xS), x_z (x_z (x_z (w2) 42) 43) 44), 3, 42)
    refine And.intro trivial ?_
    change x_wp _ _ _ _ _ _ 1987 (27, [some (.ref 41)], [.ref 44, .ref 41], (([.inr (9, [some (some 1), some (some 12), some (some 23), some (some 30), some (some 37), some none, some none, some none, some none]), .inr (0, [some (some 2), some (some 4), some (some 6), some (some 8), some (some 10), none]), .inr (7, [some (some 3)]), .inl 6, .inr (7, [some (some 5)]), .inl 6, .inr (7, [some (some 7)]), .inl 6, .inr (7, [some (some 9)]), .inl 6, .inr (7, [some (some 11)]), .inl 32, .inr (3, [some (some 1), some (some 13), some (some 15), some (some 17), some (some 19), some (some 21), none]), .inr (7, [some (some 14)]), .inl 16, .inr (7, [some (some 16)]), .inl 16, .inr (7, [some (some 18)]), .inl 16, .inr (7, [some (some 20)]), .inl 16, .inr (7, [some (some 22)]), .inl 16, .inr (2, [some (some 24), some (some 26), some (some 28), none]), .inr (7, [some (some 25)]), .inl 8, .inr (7, [some (some 27)]), .inl 8, .inr (7, [some (some 29)]), .inl 8, .inr (8, [some (some 31), some (some 33), some (some 35), none]), .inr (7, [some (some 32)]), .inl 40, .inr (7, [some (some 34)]), .inl 40, .inr (7, [some (some 36)]), .inl 40, .inr (5, [some (some 1), some (some 12), some (some 38), none, none, none, none, none, none]), .inr (7, [some (some 39)]), .inl 4, .inr (4, [some none, some none, some none, some none, none]), .inr (8, [some (some 42), some none, some none, none]), .inr (7, [some (some 43)]), .inl 40, .inr (7, [some (some 45)]), .inl 40] : List xS), x_z (x_z (x_z (x_z (w2) 42) 43) 44) 45), 4, 82)
    refine And.intro ⟨Nat.le_of_ble_eq_true rfl, Nat.le_of_ble_eq_true rfl, Nat.le_of_ble_eq_true rfl⟩ ?_
    change x_wp _ _ _ _ _ _ 1984 (34, [some (.ref 41)], [.ref 46, .ref 41], (([.inr (9, [some (some 1), some (some 12), some (some 23), some (some 30), some (some 37), some none, some none, some none, some none]), .inr (0, [some (some 2), some (some 4), some (some 6), some (some 8), some (some 10), none]), .inr (7, [some (some 3)]), .inl 6, .inr (7, [some (some 5)]), .inl 6, .inr (7, [some (some 7)]), .inl 6, .inr (7, [some (some 9)]), .inl 6, .inr (7, [some (some 11)]), .inl 32, .inr (3, [some (some 1), some (some 13), some (some 15), some (some 17), some (some 19), some (some 21), none]), .inr (7, [some (some 14)]), .inl 16, .inr (7, [some (some 16)]), .inl 16, .inr (7, [some (some 18)]), .inl 16, .inr (7, [some (some 20)]), .inl 16, .inr (7, [some (some 22)]), .inl 16, .inr (2, [some (some 24), some (some 26), some (some 28), none]), .inr (7, [some (some 25)]), .inl 8, .inr (7, [some (some 27)]), .inl 8, .inr (7, [some (some 29)]), .inl 8, .inr (8, [some (some 31), some (some 33), some (some 35), none]), .inr (7, [some (some 32)]), .inl 40, .inr (7, [some (some 34)]), .inl 40, .inr (7, [some (some 36)]), .inl 40, .inr (5, [some (some 1), some (some 12), some (some 38), none, none, none, none, none, none]), .inr (7, [some (some 39)]), .inl 4, .inr (4, [some none, some none, some none, some none, none]), .inr (8, [some (some 42), some (some 44), some none, none]), .inr (7, [some (some 43)]), .inl 40, .inr (7, [some (some 45)]), .inl 40, .inr (7, [some none])] : List xS), x_z (x_z (x_z (x_z (x_z (w2) 42) 43) 44) 45) 46), 5, 83)
    refine And.intro trivial ?_
    change x_wp _ _ _ _ _ _ 1981 (40, [some (.ref 41)], [.ref 46, .ref 41], (([.inr (9, [some (some 1), some (some 12), some (some 23), some (some 30), some (some 37), some none, some none, some none, some none]), .inr (0, [some (some 2), some (some 4), some (some 6), some (some 8), some (some 10), none]), .inr (7, [some (some 3)]), .inl 6, .inr (7, [some (some 5)]), .inl 6, .inr (7, [some (some 7)]), .inl 6, .inr (7, [some (some 9)]), .inl 6, .inr (7, [some (some 11)]), .inl 32, .inr (3, [some (some 1), some (some 13), some (some 15), some (some 17), some (some 19), some (some 21), none]), .inr (7, [some (some 14)]), .inl 16, .inr (7, [some (some 16)]), .inl 16, .inr (7, [some (some 18)]), .inl 16, .inr (7, [some (some 20)]), .inl 16, .inr (7, [some (some 22)]), .inl 16, .inr (2, [some (some 24), some (some 26), some (some 28), none]), .inr (7, [some (some 25)]), .inl 8, .inr (7, [some (some 27)]), .inl 8, .inr (7, [some (some 29)]), .inl 8, .inr (8, [some (some 31), some (some 33), some (some 35), none]), .inr (7, [some (some 32)]), .inl 40, .inr (7, [some (some 34)]), .inl 40, .inr (7, [some (some 36)]), .inl 40, .inr (5, [some (some 1), some (some 12), some (some 38), none, none, none, none, none, none]), .inr (7, [some (some 39)]), .inl 4, .inr (4, [some none, some none, some none, some none, none]), .inr (8, [some (some 42), some (some 44), some none, none]), .inr (7, [some (some 43)]), .inl 40, .inr (7, [some (some 45)]), .inl 40, .inr (7, [some (some 47)]), .inl 40] : List xS), x_z (x_z (x_z (x_z (x_z (x_z (w2) 42) 43) 44) 45) 46) 47), 6, 123)
    exact ⟨Nat.le_of_ble_eq_true rfl, Nat.le_of_ble_eq_true rfl, rfl, rfl⟩
  · cases hr
def sms_4 : List (Nat × xSm) := (75, sm_X8_init) :: sms_3
theorem vss_4 : ∀ q ∈ sms_4, x_VS q := List.forall_mem_cons.mpr ⟨vs_X8_init, vss_3⟩
def sb_X5_init_0 : List xS := [.inr (9, [some (some 1), some (some 12), some (some 23), some (some 30), some none, some none, some none, some none, some none]), .inr (0, [some (some 2), some (some 4), some (some 6), some (some 8), some (some 10), none]), .inr (7, [some (some 3)]), .inl 6, .inr (7, [some (some 5)]), .inl 6, .inr (7, [some (some 7)]), .inl 6, .inr (7, [some (some 9)]), .inl 6, .inr (7, [some (some 11)]), .inl 32, .inr (3, [some (some 1), some (some 13), some (some 15), some (some 17), some (some 19), some (some 21), none]), .inr (7, [some (some 14)]), .inl 16, .inr (7, [some (some 16)]), .inl 16, .inr (7, [some (some 18)]), .inl 16, .inr (7, [some (some 20)]), .inl 16, .inr (7, [some (some 22)]), .inl 16, .inr (2, [some (some 24), some (some 26), some (some 28), none]), .inr (7, [some (some 25)]), .inl 8, .inr (7, [some (some 27)]), .inl 8, .inr (7, [some (some 29)]), .inl 8, .inr (8, [some (some 31), some (some 33), some (some 35), none]), .inr (7, [some (some 32)]), .inl 40, .inr (7, [some (some 34)]), .inl 40, .inr (7, [some (some 36)]), .inl 40, .inr (5, [some none, some none, some none, none, none, none, none, none, none])]
def sa_X5_init_0 : List xS := [.inr (9, [some (some 1), some (some 12), some (some 23), some (some 30), some none, some none, some none, some none, some none]), .inr (0, [some (some 2), some (some 4), some (some 6), some (some 8), some (some 10), none]), .inr (7, [some (some 3)]), .inl 6, .inr (7, [some (some 5)]), .inl 6, .inr (7, [some (some 7)]), .inl 6, .inr (7, [some (some 9)]), .inl 6, .inr (7, [some (some 11)]), .inl 32, .inr (3, [some (some 1), some (some 13), some (some 15), some (some 17), some (some 19), some (some 21), none]), .inr (7, [some (some 14)]), .inl 16, .inr (7, [some (some 16)]), .inl 16, .inr (7, [some (some 18)]), .inl 16, .inr (7, [some (some 20)]), .inl 16, .inr (7, [some (some 22)]), .inl 16, .inr (2, [some (some 24), some (some 26), some (some 28), none]), .inr (7, [some (some 25)]), .inl 8, .inr (7, [some (some 27)]), .inl 8, .inr (7, [some (some 29)]), .inl 8, .inr (8, [some (some 31), some (some 33), some (some 35), none]), .inr (7, [some (some 32)]), .inl 40, .inr (7, [some (some 34)]), .inl 40, .inr (7, [some (some 36)]), .inl 40, .inr (5, [some (some 1), some (some 12), some (some 38), none, none, none, none, none, none]), .inr (7, [some (some 39)]), .inl 4]
def sg_X5_init_0 (σ : Nat → Nat → Int32) : Nat → Nat → Int32 := x_z (x_z (σ) 38) 39
def sm_X5_init : xSm := fun args w =>
  match decide (args = [.ref 37, .ref 1, .ref 12] ∧ w.1 = sb_X5_init_0) with
  | true => some (none, (sa_X5_init_0, sg_X5_init_0 w.2), True)
  | false =>
  none
set_option maxRecDepth 100000 in
set_option maxHeartbeats 4000000 in
theorem vs_X5_init : x_VS (45, sm_X5_init) := by
  intro args w r hr hP
  unfold sm_X5_init at hr
  dsimp only at hr
  split at hr
  · next hd =>
    cases hr
    obtain ⟨hd1, hd2⟩ := of_decide_eq_true hd
    obtain ⟨w1, w2⟩ := w
    subst hd1
    dsimp only at hd2
    subst hd2
    refine x_con (M := M_X5_init) (args := [.ref 37, .ref 1, .ref 12]) rfl (Nat.le_of_ble_eq_true rfl) (by simp [Value.category]) (x_wp_sound (sums := sms_4) (cuts := []) vss_4 ok_X5_init 2000 _ ?_)
    refine And.intro ⟨Nat.le_of_ble_eq_true rfl, Nat.le_of_ble_eq_true rfl, Nat.le_of_ble_eq_true rfl⟩ ?_
    change x_wp _ _ _ _ _ _ 1996 (8, [some (.ref 37), some (.ref 1), some (.ref 12)], [.ref 38, .ref 37], (([.inr (9, [some (some 1), some (some 12), some (some 23), some (some 30), some none, some none, some none, some none, some none]), .inr (0, [some (some 2), some (some 4), some (some 6), some (some 8), some (some 10), none]), .inr (7, [some (some 3)]), .inl 6, .inr (7, [some (some 5)]), .inl 6, .inr (7, [some (some 7)]), .inl 6, .inr (7, [some (some 9)]), .inl 6, .inr (7, [some (some 11)]), .inl 32, .inr (3, [some (some 1), some (some 13), some (some 15), some (some 17), some (some 19), some (some 21), none]), .inr (7, [some (some 14)]), .inl 16, .inr (7, [some (some 16)]), .inl 16, .inr (7, [some (some 18)]), .inl 16, .inr (7, [some (some 20)]), .inl 16, .inr (7, [some (some 22)]), .inl 16, .inr (2, [some (some 24), some (some 26), some (some 28), none]), .inr (7, [some (some 25)]), .inl 8, .inr (7, [some (some 27)]), .inl 8, .inr (7, [some (some 29)]), .inl 8, .inr (8, [some (some 31), some (some 33), some (some 35), none]), .inr (7, [some (some 32)]), .inl 40, .inr (7, [some (some 34)]), .inl 40, .inr (7, [some (some 36)]), .inl 40, .inr (5, [some none, some none, some none, none, none, none, none, none, none]), .inr (7, [some none])] : List xS), x_z (w2) 38), 1, 1)
    refine And.intro trivial ?_
    change x_wp _ _ _ _ _ _ 1993 (13, [some (.ref 37), some (.ref 1), some (.ref 12)], [.ref 38, .ref 37], (([.inr (9, [some (some 1), some (some 12), some (some 23), some (some 30), some none, some none, some none, some none, some none]), .inr (0, [some (some 2), some (some 4), some (some 6), some (some 8), some (some 10), none]), .inr (7, [some (some 3)]), .inl 6, .inr (7, [some (some 5)]), .inl 6, .inr (7, [some (some 7)]), .inl 6, .inr (7, [some (some 9)]), .inl 6, .inr (7, [some (some 11)]), .inl 32, .inr (3, [some (some 1), some (some 13), some (some 15), some (some 17), some (some 19), some (some 21), none]), .inr (7, [some (some 14)]), .inl 16, .inr (7, [some (some 16)]), .inl 16, .inr (7, [some (some 18)]), .inl 16, .inr (7, [some (some 20)]), .inl 16, .inr (7, [some (some 22)]), .inl 16, .inr (2, [some (some 24), some (some 26), some (some 28), none]), .inr (7, [some (some 25)]), .inl 8, .inr (7, [some (some 27)]), .inl 8, .inr (7, [some (some 29)]), .inl 8, .inr (8, [some (some 31), some (some 33), some (some 35), none]), .inr (7, [some (some 32)]), .inl 40, .inr (7, [some (some 34)]), .inl 40, .inr (7, [some (some 36)]), .inl 40, .inr (5, [some none, some none, some none, none, none, none, none, none, none]), .inr (7, [some (some 39)]), .inl 4] : List xS), x_z (x_z (w2) 38) 39), 2, 5)
    exact ⟨Nat.le_of_ble_eq_true rfl, Nat.le_of_ble_eq_true rfl, rfl, rfl⟩
  · cases hr
def sms_5 : List (Nat × xSm) := (45, sm_X5_init) :: sms_4
theorem vss_5 : ∀ q ∈ sms_5, x_VS q := List.forall_mem_cons.mpr ⟨vs_X5_init, vss_4⟩
def sb_X4_init_0 : List xS := [.inr (9, [some (some 1), some (some 12), some (some 23), some (some 30), some (some 37), some none, some none, some none, some none]), .inr (0, [some (some 2), some (some 4), some (some 6), some (some 8), some (some 10), none]), .inr (7, [some (some 3)]), .inl 6, .inr (7, [some (some 5)]), .inl 6, .inr (7, [some (some 7)]), .inl 6, .inr (7, [some (some 9)]), .inl 6, .inr (7, [some (some 11)]), .inl 32, .inr (3, [some (some 1), some (some 13), some (some 15), some (some 17), some (some 19), some (some 21), none]), .inr (7, [some (some 14)]), .inl 16, .inr (7, [some (some 16)]), .inl 16, .inr (7, [some (some 18)]), .inl 16, .inr (7, [some (some 20)]), .inl 16, .inr (7, [some (some 22)]), .inl 16, .inr (2, [some (some 24), some (some 26), some (some 28), none]), .inr (7, [some (some 25)]), .inl 8, .inr (7, [some (some 27)]), .inl 8, .inr (7, [some (some 29)]), .inl 8, .inr (8, [some (some 31), some (some 33), some (some 35), none]), .inr (7, [some (some 32)]), .inl 40, .inr (7, [some (some 34)]), .inl 40, .inr (7, [some (some 36)]), .inl 40, .inr (5, [some (some 1), some (some 12), some (some 38), none, none, none, none, none, none]), .inr (7, [some (some 39)]), .inl 4, .inr (4, [some none, some none, some none, some none, none])]
def sa_X4_init_0 : List xS := [.inr (9, [some (some 1), some (some 12), some (some 23), some (some 30), some (some 37), some none, some none, some none, some none]), .inr (0, [some (some 2), some (some 4), some (some 6), some (some 8), some (some 10), none]), .inr (7, [some (some 3)]), .inl 6, .inr (7, [some (some 5)]), .inl 6, .inr (7, [some (some 7)]), .inl 6, .inr (7, [some (some 9)]), .inl 6, .inr (7, [some (some 11)]), .inl 32, .inr (3, [some (some 1), some (some 13), some (some 15), some (some 17), some (some 19), some (some 21), none]), .inr (7, [some (some 14)]), .inl 16, .inr (7, [some (some 16)]), .inl 16, .inr (7, [some (some 18)]), .inl 16, .inr (7, [some (some 20)]), .inl 16, .inr (7, [some (some 22)]), .inl 16, .inr (2, [some (some 24), some (some 26), some (some 28), none]), .inr (7, [some (some 25)]), .inl 8, .inr (7, [some (some 27)]), .inl 8, .inr (7, [some (some 29)]), .inl 8, .inr (8, [some (some 31), some (some 33), some (some 35), none]), .inr (7, [some (some 32)]), .inl 40, .inr (7, [some (some 34)]), .inl 40, .inr (7, [some (some 36)]), .inl 40, .inr (5, [some (some 1), some (some 12), some (some 38), none, none, none, none, none, none]), .inr (7, [some (some 39)]), .inl 4, .inr (4, [some (some 1), some (some 12), some (some 37), some (some 41), none]), .inr (8, [some (some 42), some (some 44), some (some 46), none]), .inr (7, [some (some 43)]), .inl 40, .inr (7, [some (some 45)]), .inl 40, .inr (7, [some (some 47)]), .inl 40]
def sg_X4_init_0 (σ : Nat → Nat → Int32) : Nat → Nat → Int32 := x_z (x_z (x_z (x_z (x_z (x_z (x_z (σ) 41) 42) 43) 44) 45) 46) 47
def sm_X4_init : xSm := fun args w =>
  match decide (args = [.ref 40, .ref 1, .ref 12, .ref 37] ∧ w.1 = sb_X4_init_0) with
  | true => some (none, (sa_X4_init_0, sg_X4_init_0 w.2), True)
  | false =>
  none
set_option maxRecDepth 100000 in
set_option maxHeartbeats 4000000 in
theorem vs_X4_init : x_VS (38, sm_X4_init) := by
  intro args w r hr hP
  unfold sm_X4_init at hr
  dsimp only at hr
  split at hr
  · next hd =>
    cases hr
    obtain ⟨hd1, hd2⟩ := of_decide_eq_true hd
    obtain ⟨w1, w2⟩ := w
    subst hd1
    dsimp only at hd2
    subst hd2
    refine x_con (M := M_X4_init) (args := [.ref 40, .ref 1, .ref 12, .ref 37]) rfl (Nat.le_of_ble_eq_true rfl) (by simp [Value.category]) (x_wp_sound (sums := sms_5) (cuts := []) vss_5 ok_X4_init 2000 _ ?_)
    refine And.intro ⟨Nat.le_of_ble_eq_true rfl, Nat.le_of_ble_eq_true rfl, Nat.le_of_ble_eq_true rfl⟩ ?_
    change x_wp _ _ _ _ _ _ 1996 (8, [some (.ref 40), some (.ref 1), some (.ref 12), some (.ref 37)], [.ref 41, .ref 40], (([.inr (9, [some (some 1), some (some 12), some (some 23), some (some 30), some (some 37), some none, some none, some none, some none]), .inr (0, [some (some 2), some (some 4), some (some 6), some (some 8), some (some 10), none]), .inr (7, [some (some 3)]), .inl 6, .inr (7, [some (some 5)]), .inl 6, .inr (7, [some (some 7)]), .inl 6, .inr (7, [some (some 9)]), .inl 6, .inr (7, [some (some 11)]), .inl 32, .inr (3, [some (some 1), some (some 13), some (some 15), some (some 17), some (some 19), some (some 21), none]), .inr (7, [some (some 14)]), .inl 16, .inr (7, [some (some 16)]), .inl 16, .inr (7, [some (some 18)]), .inl 16, .inr (7, [some (some 20)]), .inl 16, .inr (7, [some (some 22)]), .inl 16, .inr (2, [some (some 24), some (some 26), some (some 28), none]), .inr (7, [some (some 25)]), .inl 8, .inr (7, [some (some 27)]), .inl 8, .inr (7, [some (some 29)]), .inl 8, .inr (8, [some (some 31), some (some 33), some (some 35), none]), .inr (7, [some (some 32)]), .inl 40, .inr (7, [some (some 34)]), .inl 40, .inr (7, [some (some 36)]), .inl 40, .inr (5, [some (some 1), some (some 12), some (some 38), none, none, none, none, none, none]), .inr (7, [some (some 39)]), .inl 4, .inr (4, [some none, some none, some none, some none, none]), .inr (8, [some none, some none, some none, none])] : List xS), x_z (w2) 41), 1, 4)
    refine And.intro trivial ?_
    change x_wp _ _ _ _ _ _ 1994 (12, [some (.ref 40), some (.ref 1), some (.ref 12), some (.ref 37)], [.ref 41, .ref 40], (([.inr (9, [some (some 1), some (some 12), some (some 23), some (some 30), some (some 37), some none, some none, some none, some none]), .inr (0, [some (some 2), some (some 4), some (some 6), some (some 8), some (some 10), none]), .inr (7, [some (some 3)]), .inl 6, .inr (7, [some (some 5)]), .inl 6, .inr (7, [some (some 7)]), .inl 6, .inr (7, [some (some 9)]), .inl 6, .inr (7, [some (some 11)]), .inl 32, .inr (3, [some (some 1), some (some 13), some (some 15), some (some 17), some (some 19), some (some 21), none]), .inr (7, [some (some 14)]), .inl 16, .inr (7, [some (some 16)]), .inl 16, .inr (7, [some (some 18)]), .inl 16, .inr (7, [some (some 20)]), .inl 16, .inr (7, [some (some 22)]), .inl 16, .inr (2, [some (some 24), some (some 26), some (some 28), none]), .inr (7, [some (some 25)]), .inl 8, .inr (7, [some (some 27)]), .inl 8, .inr (7, [some (some 29)]), .inl 8, .inr (8, [some (some 31), some (some 33), some (some 35), none]), .inr (7, [some (some 32)]), .inl 40, .inr (7, [some (some 34)]), .inl 40, .inr (7, [some (some 36)]), .inl 40, .inr (5, [some (some 1), some (some 12), some (some 38), none, none, none, none, none, none]), .inr (7, [some (some 39)]), .inl 4, .inr (4, [some none, some none, some none, some none, none]), .inr (8, [some (some 42), some (some 44), some (some 46), none]), .inr (7, [some (some 43)]), .inl 40, .inr (7, [some (some 45)]), .inl 40, .inr (7, [some (some 47)]), .inl 40] : List xS), x_z (x_z (x_z (x_z (x_z (x_z (x_z (w2) 41) 42) 43) 44) 45) 46) 47), 7, 127)
    exact ⟨Nat.le_of_ble_eq_true rfl, Nat.le_of_ble_eq_true rfl, rfl, rfl⟩
  · cases hr
def sms_6 : List (Nat × xSm) := (38, sm_X4_init) :: sms_5
theorem vss_6 : ∀ q ∈ sms_6, x_VS q := List.forall_mem_cons.mpr ⟨vs_X4_init, vss_5⟩
def sb_X1_init_24_0 : List xS := [.inr (9, [some (some 1), some (some 12), some (some 23), some (some 30), some (some 37), some (some 40), some none, some none, some none]), .inr (0, [some (some 2), some (some 4), some (some 6), some (some 8), some (some 10), none]), .inr (7, [some (some 3)]), .inl 6, .inr (7, [some (some 5)]), .inl 6, .inr (7, [some (some 7)]), .inl 6, .inr (7, [some (some 9)]), .inl 6, .inr (7, [some (some 11)]), .inl 32, .inr (3, [some (some 1), some (some 13), some (some 15), some (some 17), some (some 19), some (some 21), none]), .inr (7, [some (some 14)]), .inl 16, .inr (7, [some (some 16)]), .inl 16, .inr (7, [some (some 18)]), .inl 16, .inr (7, [some (some 20)]), .inl 16, .inr (7, [some (some 22)]), .inl 16, .inr (2, [some (some 24), some (some 26), some (some 28), none]), .inr (7, [some (some 25)]), .inl 8, .inr (7, [some (some 27)]), .inl 8, .inr (7, [some (some 29)]), .inl 8, .inr (8, [some (some 31), some (some 33), some (some 35), none]), .inr (7, [some (some 32)]), .inl 40, .inr (7, [some (some 34)]), .inl 40, .inr (7, [some (some 36)]), .inl 40, .inr (5, [some (some 1), some (some 12), some (some 38), none, none, none, none, none, none]), .inr (7, [some (some 39)]), .inl 4, .inr (4, [some (some 1), some (some 12), some (some 37), some (some 41), none]), .inr (8, [some (some 42), some (some 44), some (some 46), none]), .inr (7, [some (some 43)]), .inl 40, .inr (7, [some (some 45)]), .inl 40, .inr (7, [some (some 47)]), .inl 40, .inr (1, [some none, none, none])]
def sa_X1_init_24_0 : List xS := [.inr (9, [some (some 1), some (some 12), some (some 23), some (some 30), some (some 37), some (some 40), some none, some none, some none]), .inr (0, [some (some 2), some (some 4), some (some 6), some (some 8), some (some 10), none]), .inr (7, [some (some 3)]), .inl 6, .inr (7, [some (some 5)]), .inl 6, .inr (7, [some (some 7)]), .inl 6, .inr (7, [some (some 9)]), .inl 6, .inr (7, [some (some 11)]), .inl 32, .inr (3, [some (some 1), some (some 13), some (some 15), some (some 17), some (some 19), some (some 21), none]), .inr (7, [some (some 14)]), .inl 16, .inr (7, [some (some 16)]), .inl 16, .inr (7, [some (some 18)]), .inl 16, .inr (7, [some (some 20)]), .inl 16, .inr (7, [some (some 22)]), .inl 16, .inr (2, [some (some 24), some (some 26), some (some 28), none]), .inr (7, [some (some 25)]), .inl 8, .inr (7, [some (some 27)]), .inl 8, .inr (7, [some (some 29)]), .inl 8, .inr (8, [some (some 31), some (some 33), some (some 35), none]), .inr (7, [some (some 32)]), .inl 40, .inr (7, [some (some 34)]), .inl 40, .inr (7, [some (some 36)]), .inl 40, .inr (5, [some (some 1), some (some 12), some (some 38), none, none, none, none, none, none]), .inr (7, [some (some 39)]), .inl 4, .inr (4, [some (some 1), some (some 12), some (some 37), some (some 41), none]), .inr (8, [some (some 42), some (some 44), some (some 46), none]), .inr (7, [some (some 43)]), .inl 40, .inr (7, [some (some 45)]), .inl 40, .inr (7, [some (some 47)]), .inl 40, .inr (1, [some (some 49), none, none]), .inr (7, [some (some 50)]), .inl 24]
def sg_X1_init_24_0 (σ : Nat → Nat → Int32) : Nat → Nat → Int32 := x_z (x_z (x_u (σ) 48 1 24) 49) 50
def sm_X1_init_24 : xSm := fun args w =>
  match decide (args = [.ref 48, .int 24] ∧ w.1 = sb_X1_init_24_0) with
  | true => some (none, (sa_X1_init_24_0, sg_X1_init_24_0 w.2), True)
  | false =>
  none
set_option maxRecDepth 100000 in
set_option maxHeartbeats 4000000 in
theorem vs_X1_init_24 : x_VS (13, sm_X1_init_24) := by
  intro args w r hr hP
  unfold sm_X1_init_24 at hr
  dsimp only at hr
  split at hr
  · next hd =>
    cases hr
    obtain ⟨hd1, hd2⟩ := of_decide_eq_true hd
    obtain ⟨w1, w2⟩ := w
    subst hd1
    dsimp only at hd2
    subst hd2
    refine x_con (M := M_X1_init_24) (args := [.ref 48, .int 24]) rfl (Nat.le_of_ble_eq_true rfl) (by simp [Value.category]) (x_wp_sound (sums := sms_6) (cuts := []) vss_6 ok_X1_init_24 2000 _ ?_)
    refine And.intro ⟨Nat.le_of_ble_eq_true rfl, Nat.le_of_ble_eq_true rfl, Nat.le_of_ble_eq_true rfl⟩ ?_
    change x_wp _ _ _ _ _ _ 1993 (13, [some (.ref 48), some (.int 24)], [.ref 49, .ref 48], (([.inr (9, [some (some 1), some (some 12), some (some 23), some (some 30), some (some 37), some (some 40), some none, some none, some none]), .inr (0, [some (some 2), some (some 4), some (some 6), some (some 8), some (some 10), none]), .inr (7, [some (some 3)]), .inl 6, .inr (7, [some (some 5)]), .inl 6, .inr (7, [some (some 7)]), .inl 6, .inr (7, [some (some 9)]), .inl 6, .inr (7, [some (some 11)]), .inl 32, .inr (3, [some (some 1), some (some 13), some (some 15), some (some 17), some (some 19), some (some 21), none]), .inr (7, [some (some 14)]), .inl 16, .inr (7, [some (some 16)]), .inl 16, .inr (7, [some (some 18)]), .inl 16, .inr (7, [some (some 20)]), .inl 16, .inr (7, [some (some 22)]), .inl 16, .inr (2, [some (some 24), some (some 26), some (some 28), none]), .inr (7, [some (some 25)]), .inl 8, .inr (7, [some (some 27)]), .inl 8, .inr (7, [some (some 29)]), .inl 8, .inr (8, [some (some 31), some (some 33), some (some 35), none]), .inr (7, [some (some 32)]), .inl 40, .inr (7, [some (some 34)]), .inl 40, .inr (7, [some (some 36)]), .inl 40, .inr (5, [some (some 1), some (some 12), some (some 38), none, none, none, none, none, none]), .inr (7, [some (some 39)]), .inl 4, .inr (4, [some (some 1), some (some 12), some (some 37), some (some 41), none]), .inr (8, [some (some 42), some (some 44), some (some 46), none]), .inr (7, [some (some 43)]), .inl 40, .inr (7, [some (some 45)]), .inl 40, .inr (7, [some (some 47)]), .inl 40, .inr (1, [some none, none, none]), .inr (7, [some none])] : List xS), x_z (x_u (w2) 48 1 24) 49), 1, 1)
    refine And.intro trivial ?_
    change x_wp _ _ _ _ _ _ 1990 (18, [some (.ref 48), some (.int 24)], [.ref 49, .ref 48], (([.inr (9, [some (some 1), some (some 12), some (some 23), some (some 30), some (some 37), some (some 40), some none, some none, some none]), .inr (0, [some (some 2), some (some 4), some (some 6), some (some 8), some (some 10), none]), .inr (7, [some (some 3)]), .inl 6, .inr (7, [some (some 5)]), .inl 6, .inr (7, [some (some 7)]), .inl 6, .inr (7, [some (some 9)]), .inl 6, .inr (7, [some (some 11)]), .inl 32, .inr (3, [some (some 1), some (some 13), some (some 15), some (some 17), some (some 19), some (some 21), none]), .inr (7, [some (some 14)]), .inl 16, .inr (7, [some (some 16)]), .inl 16, .inr (7, [some (some 18)]), .inl 16, .inr (7, [some (some 20)]), .inl 16, .inr (7, [some (some 22)]), .inl 16, .inr (2, [some (some 24), some (some 26), some (some 28), none]), .inr (7, [some (some 25)]), .inl 8, .inr (7, [some (some 27)]), .inl 8, .inr (7, [some (some 29)]), .inl 8, .inr (8, [some (some 31), some (some 33), some (some 35), none]), .inr (7, [some (some 32)]), .inl 40, .inr (7, [some (some 34)]), .inl 40, .inr (7, [some (some 36)]), .inl 40, .inr (5, [some (some 1), some (some 12), some (some 38), none, none, none, none, none, none]), .inr (7, [some (some 39)]), .inl 4, .inr (4, [some (some 1), some (some 12), some (some 37), some (some 41), none]), .inr (8, [some (some 42), some (some 44), some (some 46), none]), .inr (7, [some (some 43)]), .inl 40, .inr (7, [some (some 45)]), .inl 40, .inr (7, [some (some 47)]), .inl 40, .inr (1, [some none, none, none]), .inr (7, [some (some 50)]), .inl 24] : List xS), x_z (x_z (x_u (w2) 48 1 24) 49) 50), 2, 25)
    exact ⟨Nat.le_of_ble_eq_true rfl, Nat.le_of_ble_eq_true rfl, rfl, rfl⟩
  · cases hr
def sms_7 : List (Nat × xSm) := (13, sm_X1_init_24) :: sms_6
theorem vss_7 : ∀ q ∈ sms_7, x_VS q := List.forall_mem_cons.mpr ⟨vs_X1_init_24, vss_6⟩
def sb_X6_init_0 : List xS := [.inr (9, [some (some 1), some (some 12), some (some 23), some (some 30), some (some 37), some (some 40), some (some 48), some none, some none]), .inr (0, [some (some 2), some (some 4), some (some 6), some (some 8), some (some 10), none]), .inr (7, [some (some 3)]), .inl 6, .inr (7, [some (some 5)]), .inl 6, .inr (7, [some (some 7)]), .inl 6, .inr (7, [some (some 9)]), .inl 6, .inr (7, [some (some 11)]), .inl 32, .inr (3, [some (some 1), some (some 13), some (some 15), some (some 17), some (some 19), some (some 21), none]), .inr (7, [some (some 14)]), .inl 16, .inr (7, [some (some 16)]), .inl 16, .inr (7, [some (some 18)]), .inl 16, .inr (7, [some (some 20)]), .inl 16, .inr (7, [some (some 22)]), .inl 16, .inr (2, [some (some 24), some (some 26), some (some 28), none]), .inr (7, [some (some 25)]), .inl 8, .inr (7, [some (some 27)]), .inl 8, .inr (7, [some (some 29)]), .inl 8, .inr (8, [some (some 31), some (some 33), some (some 35), none]), .inr (7, [some (some 32)]), .inl 40, .inr (7, [some (some 34)]), .inl 40, .inr (7, [some (some 36)]), .inl 40, .inr (5, [some (some 1), some (some 12), some (some 38), none, none, none, none, none, none]), .inr (7, [some (some 39)]), .inl 4, .inr (4, [some (some 1), some (some 12), some (some 37), some (some 41), none]), .inr (8, [some (some 42), some (some 44), some (some 46), none]), .inr (7, [some (some 43)]), .inl 40, .inr (7, [some (some 45)]), .inl 40, .inr (7, [some (some 47)]), .inl 40, .inr (1, [some (some 49), none, none]), .inr (7, [some (some 50)]), .inl 24, .inr (6, [some none, none, none, none])]
def sa_X6_init_0 : List xS := [.inr (9, [some (some 1), some (some 12), some (some 23), some (some 30), some (some 37), some (some 40), some (some 48), some none, some none]), .inr (0, [some (some 2), some (some 4), some (some 6), some (some 8), some (some 10), none]), .inr (7, [some (some 3)]), .inl 6, .inr (7, [some (some 5)]), .inl 6, .inr (7, [some (some 7)]), .inl 6, .inr (7, [some (some 9)]), .inl 6, .inr (7, [some (some 11)]), .inl 32, .inr (3, [some (some 1), some (some 13), some (some 15), some (some 17), some (some 19), some (some 21), none]), .inr (7, [some (some 14)]), .inl 16, .inr (7, [some (some 16)]), .inl 16, .inr (7, [some (some 18)]), .inl 16, .inr (7, [some (some 20)]), .inl 16, .inr (7, [some (some 22)]), .inl 16, .inr (2, [some (some 24), some (some 26), some (some 28), none]), .inr (7, [some (some 25)]), .inl 8, .inr (7, [some (some 27)]), .inl 8, .inr (7, [some (some 29)]), .inl 8, .inr (8, [some (some 31), some (some 33), some (some 35), none]), .inr (7, [some (some 32)]), .inl 40, .inr (7, [some (some 34)]), .inl 40, .inr (7, [some (some 36)]), .inl 40, .inr (5, [some (some 1), some (some 12), some (some 38), none, none, none, none, none, none]), .inr (7, [some (some 39)]), .inl 4, .inr (4, [some (some 1), some (some 12), some (some 37), some (some 41), none]), .inr (8, [some (some 42), some (some 44), some (some 46), none]), .inr (7, [some (some 43)]), .inl 40, .inr (7, [some (some 45)]), .inl 40, .inr (7, [some (some 47)]), .inl 40, .inr (1, [some (some 49), none, none]), .inr (7, [some (some 50)]), .inl 24, .inr (6, [some (some 52), none, none, none]), .inr (7, [some (some 53)]), .inl 4]
def sg_X6_init_0 (σ : Nat → Nat → Int32) : Nat → Nat → Int32 := x_z (x_z (σ) 52) 53
def sm_X6_init : xSm := fun args w =>
  match decide (args = [.ref 51] ∧ w.1 = sb_X6_init_0) with
  | true => some (none, (sa_X6_init_0, sg_X6_init_0 w.2), True)
  | false =>
  none
set_option maxRecDepth 100000 in
set_option maxHeartbeats 4000000 in
theorem vs_X6_init : x_VS (57, sm_X6_init) := by
  intro args w r hr hP
  unfold sm_X6_init at hr
  dsimp only at hr
  split at hr
  · next hd =>
    cases hr
    obtain ⟨hd1, hd2⟩ := of_decide_eq_true hd
    obtain ⟨w1, w2⟩ := w
    subst hd1
    dsimp only at hd2
    subst hd2
    refine x_con (M := M_X6_init) (args := [.ref 51]) rfl (Nat.le_of_ble_eq_true rfl) (by simp [Value.category]) (x_wp_sound (sums := sms_7) (cuts := []) vss_7 ok_X6_init 2000 _ ?_)
    refine And.intro ⟨Nat.le_of_ble_eq_true rfl, Nat.le_of_ble_eq_true rfl, Nat.le_of_ble_eq_true rfl⟩ ?_
    change x_wp _ _ _ _ _ _ 1996 (8, [some (.ref 51)], [.ref 52, .ref 51], (([.inr (9, [some (some 1), some (some 12), some (some 23), some (some 30), some (some 37), some (some 40), some (some 48), some none, some none]), .inr (0, [some (some 2), some (some 4), some (some 6), some (some 8), some (some 10), none]), .inr (7, [some (some 3)]), .inl 6, .inr (7, [some (some 5)]), .inl 6, .inr (7, [some (some 7)]), .inl 6, .inr (7, [some (some 9)]), .inl 6, .inr (7, [some (some 11)]), .inl 32, .inr (3, [some (some 1), some (some 13), some (some 15), some (some 17), some (some 19), some (some 21), none]), .inr (7, [some (some 14)]), .inl 16, .inr (7, [some (some 16)]), .inl 16, .inr (7, [some (some 18)]), .inl 16, .inr (7, [some (some 20)]), .inl 16, .inr (7, [some (some 22)]), .inl 16, .inr (2, [some (some 24), some (some 26), some (some 28), none]), .inr (7, [some (some 25)]), .inl 8, .inr (7, [some (some 27)]), .inl 8, .inr (7, [some (some 29)]), .inl 8, .inr (8, [some (some 31), some (some 33), some (some 35), none]), .inr (7, [some (some 32)]), .inl 40, .inr (7, [some (some 34)]), .inl 40, .inr (7, [some (some 36)]), .inl 40, .inr (5, [some (some 1), some (some 12), some (some 38), none, none, none, none, none, none]), .inr (7, [some (some 39)]), .inl 4, .inr (4, [some (some 1), some (some 12), some (some 37), some (some 41), none]), .inr (8, [some (some 42), some (some 44), some (some 46), none]), .inr (7, [some (some 43)]), .inl 40, .inr (7, [some (some 45)]), .inl 40, .inr (7, [some (some 47)]), .inl 40, .inr (1, [some (some 49), none, none]), .inr (7, [some (some 50)]), .inl 24, .inr (6, [some none, none, none, none]), .inr (7, [some none])] : List xS), x_z (w2) 52), 1, 1)
    refine And.intro trivial ?_
    change x_wp _ _ _ _ _ _ 1993 (13, [some (.ref 51)], [.ref 52, .ref 51], (([.inr (9, [some (some 1), some (some 12), some (some 23), some (some 30), some (some 37), some (some 40), some (some 48), some none, some none]), .inr (0, [some (some 2), some (some 4), some (some 6), some (some 8), some (some 10), none]), .inr (7, [some (some 3)]), .inl 6, .inr (7, [some (some 5)]), .inl 6, .inr (7, [some (some 7)]), .inl 6, .inr (7, [some (some 9)]), .inl 6, .inr (7, [some (some 11)]), .inl 32, .inr (3, [some (some 1), some (some 13), some (some 15), some (some 17), some (some 19), some (some 21), none]), .inr (7, [some (some 14)]), .inl 16, .inr (7, [some (some 16)]), .inl 16, .inr (7, [some (some 18)]), .inl 16, .inr (7, [some (some 20)]), .inl 16, .inr (7, [some (some 22)]), .inl 16, .inr (2, [some (some 24), some (some 26), some (some 28), none]), .inr (7, [some (some 25)]), .inl 8, .inr (7, [some (some 27)]), .inl 8, .inr (7, [some (some 29)]), .inl 8, .inr (8, [some (some 31), some (some 33), some (some 35), none]), .inr (7, [some (some 32)]), .inl 40, .inr (7, [some (some 34)]), .inl 40, .inr (7, [some (some 36)]), .inl 40, .inr (5, [some (some 1), some (some 12), some (some 38), none, none, none, none, none, none]), .inr (7, [some (some 39)]), .inl 4, .inr (4, [some (some 1), some (some 12), some (some 37), some (some 41), none]), .inr (8, [some (some 42), some (some 44), some (some 46), none]), .inr (7, [some (some 43)]), .inl 40, .inr (7, [some (some 45)]), .inl 40, .inr (7, [some (some 47)]), .inl 40, .inr (1, [some (some 49), none, none]), .inr (7, [some (some 50)]), .inl 24, .inr (6, [some none, none, none, none]), .inr (7, [some (some 53)]), .inl 4] : List xS), x_z (x_z (w2) 52) 53), 2, 5)
    exact ⟨Nat.le_of_ble_eq_true rfl, Nat.le_of_ble_eq_true rfl, rfl, rfl⟩
  · cases hr
def sms_8 : List (Nat × xSm) := (57, sm_X6_init) :: sms_7
theorem vss_8 : ∀ q ∈ sms_8, x_VS q := List.forall_mem_cons.mpr ⟨vs_X6_init, vss_7⟩
def sb_X1_init_40_0 : List xS := [.inr (9, [some (some 1), some (some 12), some (some 23), some (some 30), some (some 37), some (some 40), some (some 48), some (some 51), some none]), .inr (0, [some (some 2), some (some 4), some (some 6), some (some 8), some (some 10), none]), .inr (7, [some (some 3)]), .inl 6, .inr (7, [some (some 5)]), .inl 6, .inr (7, [some (some 7)]), .inl 6, .inr (7, [some (some 9)]), .inl 6, .inr (7, [some (some 11)]), .inl 32, .inr (3, [some (some 1), some (some 13), some (some 15), some (some 17), some (some 19), some (some 21), none]), .inr (7, [some (some 14)]), .inl 16, .inr (7, [some (some 16)]), .inl 16, .inr (7, [some (some 18)]), .inl 16, .inr (7, [some (some 20)]), .inl 16, .inr (7, [some (some 22)]), .inl 16, .inr (2, [some (some 24), some (some 26), some (some 28), none]), .inr (7, [some (some 25)]), .inl 8, .inr (7, [some (some 27)]), .inl 8, .inr (7, [some (some 29)]), .inl 8, .inr (8, [some (some 31), some (some 33), some (some 35), none]), .inr (7, [some (some 32)]), .inl 40, .inr (7, [some (some 34)]), .inl 40, .inr (7, [some (some 36)]), .inl 40, .inr (5, [some (some 1), some (some 12), some (some 38), none, none, none, none, none, none]), .inr (7, [some (some 39)]), .inl 4, .inr (4, [some (some 1), some (some 12), some (some 37), some (some 41), none]), .inr (8, [some (some 42), some (some 44), some (some 46), none]), .inr (7, [some (some 43)]), .inl 40, .inr (7, [some (some 45)]), .inl 40, .inr (7, [some (some 47)]), .inl 40, .inr (1, [some (some 49), none, none]), .inr (7, [some (some 50)]), .inl 24, .inr (6, [some (some 52), none, none, none]), .inr (7, [some (some 53)]), .inl 4, .inr (1, [some none, none, none])]
def sa_X1_init_40_0 : List xS := [.inr (9, [some (some 1), some (some 12), some (some 23), some (some 30), some (some 37), some (some 40), some (some 48), some (some 51), some none]), .inr (0, [some (some 2), some (some 4), some (some 6), some (some 8), some (some 10), none]), .inr (7, [some (some 3)]), .inl 6, .inr (7, [some (some 5)]), .inl 6, .inr (7, [some (some 7)]), .inl 6, .inr (7, [some (some 9)]), .inl 6, .inr (7, [some (some 11)]), .inl 32, .inr (3, [some (some 1), some (some 13), some (some 15), some (some 17), some (some 19), some (some 21), none]), .inr (7, [some (some 14)]), .inl 16, .inr (7, [some (some 16)]), .inl 16, .inr (7, [some (some 18)]), .inl 16, .inr (7, [some (some 20)]), .inl 16, .inr (7, [some (some 22)]), .inl 16, .inr (2, [some (some 24), some (some 26), some (some 28), none]), .inr (7, [some (some 25)]), .inl 8, .inr (7, [some (some 27)]), .inl 8, .inr (7, [some (some 29)]), .inl 8, .inr (8, [some (some 31), some (some 33), some (some 35), none]), .inr (7, [some (some 32)]), .inl 40, .inr (7, [some (some 34)]), .inl 40, .inr (7, [some (some 36)]), .inl 40, .inr (5, [some (some 1), some (some 12), some (some 38), none, none, none, none, none, none]), .inr (7, [some (some 39)]), .inl 4, .inr (4, [some (some 1), some (some 12), some (some 37), some (some 41), none]), .inr (8, [some (some 42), some (some 44), some (some 46), none]), .inr (7, [some (some 43)]), .inl 40, .inr (7, [some (some 45)]), .inl 40, .inr (7, [some (some 47)]), .inl 40, .inr (1, [some (some 49), none, none]), .inr (7, [some (some 50)]), .inl 24, .inr (6, [some (some 52), none, none, none]), .inr (7, [some (some 53)]), .inl 4, .inr (1, [some (some 55), none, none]), .inr (7, [some (some 56)]), .inl 40]
def sg_X1_init_40_0 (σ : Nat → Nat → Int32) : Nat → Nat → Int32 := x_z (x_z (x_u (σ) 54 1 40) 55) 56
def sm_X1_init_40 : xSm := fun args w =>
  match decide (args = [.ref 54, .int 40] ∧ w.1 = sb_X1_init_40_0) with
  | true => some (none, (sa_X1_init_40_0, sg_X1_init_40_0 w.2), True)
  | false =>
  none
set_option maxRecDepth 100000 in
set_option maxHeartbeats 4000000 in
theorem vs_X1_init_40 : x_VS (14, sm_X1_init_40) := by
  intro args w r hr hP
  unfold sm_X1_init_40 at hr
  dsimp only at hr
  split at hr
  · next hd =>
    cases hr
    obtain ⟨hd1, hd2⟩ := of_decide_eq_true hd
    obtain ⟨w1, w2⟩ := w
    subst hd1
    dsimp only at hd2
    subst hd2
    refine x_con (M := M_X1_init_40) (args := [.ref 54, .int 40]) rfl (Nat.le_of_ble_eq_true rfl) (by simp [Value.category]) (x_wp_sound (sums := sms_8) (cuts := []) vss_8 ok_X1_init_40 2000 _ ?_)
    refine And.intro ⟨Nat.le_of_ble_eq_true rfl, Nat.le_of_ble_eq_true rfl, Nat.le_of_ble_eq_true rfl⟩ ?_
    change x_wp _ _ _ _ _ _ 1993 (13, [some (.ref 54), some (.int 40)], [.ref 55, .ref 54], (([.inr (9, [some (some 1), some (some 12), some (some 23), some (some 30), some (some 37), some (some 40), some (some 48), some (some 51), some none]), .inr (0, [some (some 2), some (some 4), some (some 6), some (some 8), some (some 10), none]), .inr (7, [some (some 3)]), .inl 6, .inr (7, [some (some 5)]), .inl 6, .inr (7, [some (some 7)]), .inl 6, .inr (7, [some (some 9)]), .inl 6, .inr (7, [some (some 11)]), .inl 32, .inr (3, [some (some 1), some (some 13), some (some 15), some (some 17), some (some 19), some (some 21), none]), .inr (7, [some (some 14)]), .inl 16, .inr (7, [some (some 16)]), .inl 16, .inr (7, [some (some 18)]), .inl 16, .inr (7, [some (some 20)]), .inl 16, .inr (7, [some (some 22)]), .inl 16, .inr (2, [some (some 24), some (some 26), some (some 28), none]), .inr (7, [some (some 25)]), .inl 8, .inr (7, [some (some 27)]), .inl 8, .inr (7, [some (some 29)]), .inl 8, .inr (8, [some (some 31), some (some 33), some (some 35), none]), .inr (7, [some (some 32)]), .inl 40, .inr (7, [some (some 34)]), .inl 40, .inr (7, [some (some 36)]), .inl 40, .inr (5, [some (some 1), some (some 12), some (some 38), none, none, none, none, none, none]), .inr (7, [some (some 39)]), .inl 4, .inr (4, [some (some 1), some (some 12), some (some 37), some (some 41), none]), .inr (8, [some (some 42), some (some 44), some (some 46), none]), .inr (7, [some (some 43)]), .inl 40, .inr (7, [some (some 45)]), .inl 40, .inr (7, [some (some 47)]), .inl 40, .inr (1, [some (some 49), none, none]), .inr (7, [some (some 50)]), .inl 24, .inr (6, [some (some 52), none, none, none]), .inr (7, [some (some 53)]), .inl 4, .inr (1, [some none, none, none]), .inr (7, [some none])] : List xS), x_z (x_u (w2) 54 1 40) 55), 1, 1)
    refine And.intro trivial ?_
    change x_wp _ _ _ _ _ _ 1990 (18, [some (.ref 54), some (.int 40)], [.ref 55, .ref 54], (([.inr (9, [some (some 1), some (some 12), some (some 23), some (some 30), some (some 37), some (some 40), some (some 48), some (some 51), some none]), .inr (0, [some (some 2), some (some 4), some (some 6), some (some 8), some (some 10), none]), .inr (7, [some (some 3)]), .inl 6, .inr (7, [some (some 5)]), .inl 6, .inr (7, [some (some 7)]), .inl 6, .inr (7, [some (some 9)]), .inl 6, .inr (7, [some (some 11)]), .inl 32, .inr (3, [some (some 1), some (some 13), some (some 15), some (some 17), some (some 19), some (some 21), none]), .inr (7, [some (some 14)]), .inl 16, .inr (7, [some (some 16)]), .inl 16, .inr (7, [some (some 18)]), .inl 16, .inr (7, [some (some 20)]), .inl 16, .inr (7, [some (some 22)]), .inl 16, .inr (2, [some (some 24), some (some 26), some (some 28), none]), .inr (7, [some (some 25)]), .inl 8, .inr (7, [some (some 27)]), .inl 8, .inr (7, [some (some 29)]), .inl 8, .inr (8, [some (some 31), some (some 33), some (some 35), none]), .inr (7, [some (some 32)]), .inl 40, .inr (7, [some (some 34)]), .inl 40, .inr (7, [some (some 36)]), .inl 40, .inr (5, [some (some 1), some (some 12), some (some 38), none, none, none, none, none, none]), .inr (7, [some (some 39)]), .inl 4, .inr (4, [some (some 1), some (some 12), some (some 37), some (some 41), none]), .inr (8, [some (some 42), some (some 44), some (some 46), none]), .inr (7, [some (some 43)]), .inl 40, .inr (7, [some (some 45)]), .inl 40, .inr (7, [some (some 47)]), .inl 40, .inr (1, [some (some 49), none, none]), .inr (7, [some (some 50)]), .inl 24, .inr (6, [some (some 52), none, none, none]), .inr (7, [some (some 53)]), .inl 4, .inr (1, [some none, none, none]), .inr (7, [some (some 56)]), .inl 40] : List xS), x_z (x_z (x_u (w2) 54 1 40) 55) 56), 2, 41)
    exact ⟨Nat.le_of_ble_eq_true rfl, Nat.le_of_ble_eq_true rfl, rfl, rfl⟩
  · cases hr
def sms_9 : List (Nat × xSm) := (14, sm_X1_init_40) :: sms_8
theorem vss_9 : ∀ q ∈ sms_9, x_VS q := List.forall_mem_cons.mpr ⟨vs_X1_init_40, vss_8⟩
def sb_X9_init_0 : List xS := [.inr (9, [some none, some none, some none, some none, some none, some none, some none, some none, some none])]
def sa_X9_init_0 : List xS := [.inr (9, [some (some 1), some (some 12), some (some 23), some (some 30), some (some 37), some (some 40), some (some 48), some (some 51), some (some 54)]), .inr (0, [some (some 2), some (some 4), some (some 6), some (some 8), some (some 10), none]), .inr (7, [some (some 3)]), .inl 6, .inr (7, [some (some 5)]), .inl 6, .inr (7, [some (some 7)]), .inl 6, .inr (7, [some (some 9)]), .inl 6, .inr (7, [some (some 11)]), .inl 32, .inr (3, [some (some 1), some (some 13), some (some 15), some (some 17), some (some 19), some (some 21), none]), .inr (7, [some (some 14)]), .inl 16, .inr (7, [some (some 16)]), .inl 16, .inr (7, [some (some 18)]), .inl 16, .inr (7, [some (some 20)]), .inl 16, .inr (7, [some (some 22)]), .inl 16, .inr (2, [some (some 24), some (some 26), some (some 28), none]), .inr (7, [some (some 25)]), .inl 8, .inr (7, [some (some 27)]), .inl 8, .inr (7, [some (some 29)]), .inl 8, .inr (8, [some (some 31), some (some 33), some (some 35), none]), .inr (7, [some (some 32)]), .inl 40, .inr (7, [some (some 34)]), .inl 40, .inr (7, [some (some 36)]), .inl 40, .inr (5, [some (some 1), some (some 12), some (some 38), none, none, none, none, none, none]), .inr (7, [some (some 39)]), .inl 4, .inr (4, [some (some 1), some (some 12), some (some 37), some (some 41), none]), .inr (8, [some (some 42), some (some 44), some (some 46), none]), .inr (7, [some (some 43)]), .inl 40, .inr (7, [some (some 45)]), .inl 40, .inr (7, [some (some 47)]), .inl 40, .inr (1, [some (some 49), none, none]), .inr (7, [some (some 50)]), .inl 24, .inr (6, [some (some 52), none, none, none]), .inr (7, [some (some 53)]), .inl 4, .inr (1, [some (some 55), none, none]), .inr (7, [some (some 56)]), .inl 40]
def sg_X9_init_0 (σ : Nat → Nat → Int32) : Nat → Nat → Int32 := x_z (x_z (x_u (x_z (x_z (x_z (x_z (x_z (x_z (x_u (x_z (x_z (x_z (x_z (x_z (x_z (x_z (x_z (x_z (x_z (x_z (x_z (x_z (x_z (x_z (x_z (x_z (x_z (x_z (x_z (x_z (x_z (x_z (x_z (x_z (x_z (x_z (x_z (x_z (x_z (x_z (x_z (x_z (x_z (x_z (x_z (x_z (x_z (x_z (x_z (x_z (x_z (x_z (x_z (x_z (x_z (x_z (x_z (σ) 1) 2) 3) 4) 5) 6) 7) 8) 9) 10) 11) 12) 13) 14) 15) 16) 17) 18) 19) 20) 21) 22) 23) 24) 25) 26) 27) 28) 29) 30) 31) 32) 33) 34) 35) 36) 37) 38) 39) 40) 41) 42) 43) 44) 45) 46) 47) 48) 48 1 24) 49) 50) 51) 52) 53) 54) 54 1 40) 55) 56
def sm_X9_init : xSm := fun args w =>
  match decide (args = [.ref 0] ∧ w.1 = sb_X9_init_0) with
  | true => some (none, (sa_X9_init_0, sg_X9_init_0 w.2), True)
  | false =>
  none
set_option maxRecDepth 100000 in
set_option maxHeartbeats 4000000 in
theorem vs_X9_init : x_VS (79, sm_X9_init) := by
  intro args w r hr hP
  unfold sm_X9_init at hr
  dsimp only at hr
  split at hr
  · next hd =>
    cases hr
    obtain ⟨hd1, hd2⟩ := of_decide_eq_true hd
    obtain ⟨w1, w2⟩ := w
    subst hd1
    dsimp only at hd2
    subst hd2
    refine x_con (M := M_X9_init) (args := [.ref 0]) rfl (Nat.le_of_ble_eq_true rfl) (by simp [Value.category]) (x_wp_sound (sums := sms_9) (cuts := []) vss_9 ok_X9_init 2000 _ ?_)
    refine And.intro ⟨Nat.le_of_ble_eq_true rfl, Nat.le_of_ble_eq_true rfl, Nat.le_of_ble_eq_true rfl⟩ ?_
    change x_wp _ _ _ _ _ _ 1996 (8, [some (.ref 0)], [.ref 1, .ref 0], (([.inr (9, [some none, some none, some none, some none, some none, some none, some none, some none, some none]), .inr (0, [some none, some none, some none, some none, some none, none])] : List xS), x_z (w2) 1), 1, 6)
    refine And.intro trivial ?_
    change x_wp _ _ _ _ _ _ 1994 (12, [some (.ref 0)], [.ref 1, .ref 0], (([.inr (9, [some none, some none, some none, some none, some none, some none, some none, some none, some none]), .inr (0, [some (some 2), some (some 4), some (some 6), some (some 8), some (some 10), none]), .inr (7, [some (some 3)]), .inl 6, .inr (7, [some (some 5)]), .inl 6, .inr (7, [some (some 7)]), .inl 6, .inr (7, [some (some 9)]), .inl 6, .inr (7, [some (some 11)]), .inl 32] : List xS), x_z (x_z (x_z (x_z (x_z (x_z (x_z (x_z (x_z (x_z (x_z (w2) 1) 2) 3) 4) 5) 6) 7) 8) 9) 10) 11), 11, 67)
    refine And.intro ⟨Nat.le_of_ble_eq_true rfl, Nat.le_of_ble_eq_true rfl, Nat.le_of_ble_eq_true rfl⟩ ?_
    change x_wp _ _ _ _ _ _ 1991 (19, [some (.ref 0)], [.ref 12, .ref 0], (([.inr (9, [some (some 1), some none, some none, some none, some none, some none, some none, some none, some none]), .inr (0, [some (some 2), some (some 4), some (some 6), some (some 8), some (some 10), none]), .inr (7, [some (some 3)]), .inl 6, .inr (7, [some (some 5)]), .inl 6, .inr (7, [some (some 7)]), .inl 6, .inr (7, [some (some 9)]), .inl 6, .inr (7, [some (some 11)]), .inl 32, .inr (3, [some none, some none, some none, some none, some none, some none, none])] : List xS), x_z (x_z (x_z (x_z (x_z (x_z (x_z (x_z (x_z (x_z (x_z (x_z (w2) 1) 2) 3) 4) 5) 6) 7) 8) 9) 10) 11) 12), 12, 74)
    refine And.intro trivial ?_
    change x_wp _ _ _ _ _ _ 1987 (27, [some (.ref 0)], [.ref 12, .ref 0], (([.inr (9, [some (some 1), some none, some none, some none, some none, some none, some none, some none, some none]), .inr (0, [some (some 2), some (some 4), some (some 6), some (some 8), some (some 10), none]), .inr (7, [some (some 3)]), .inl 6, .inr (7, [some (some 5)]), .inl 6, .inr (7, [some (some 7)]), .inl 6, .inr (7, [some (some 9)]), .inl 6, .inr (7, [some (some 11)]), .inl 32, .inr (3, [some (some 1), some (some 13), some (some 15), some (some 17), some (some 19), some (some 21), none]), .inr (7, [some (some 14)]), .inl 16, .inr (7, [some (some 16)]), .inl 16, .inr (7, [some (some 18)]), .inl 16, .inr (7, [some (some 20)]), .inl 16, .inr (7, [some (some 22)]), .inl 16] : List xS), x_z (x_z (x_z (x_z (x_z (x_z (x_z (x_z (x_z (x_z (x_z (x_z (x_z (x_z (x_z (x_z (x_z (x_z (x_z (x_z (x_z (x_z (w2) 1) 2) 3) 4) 5) 6) 7) 8) 9) 10) 11) 12) 13) 14) 15) 16) 17) 18) 19) 20) 21) 22), 22, 159)
    refine And.intro ⟨Nat.le_of_ble_eq_true rfl, Nat.le_of_ble_eq_true rfl, Nat.le_of_ble_eq_true rfl⟩ ?_
    change x_wp _ _ _ _ _ _ 1984 (34, [some (.ref 0)], [.ref 23, .ref 0], (([.inr (9, [some (some 1), some (some 12), some none, some none, some none, some none, some none, some none, some none]), .inr (0, [some (some 2), some (some 4), some (some 6), some (some 8), some (some 10), none]), .inr (7, [some (some 3)]), .inl 6, .inr (7, [some (some 5)]), .inl 6, .inr (7, [some (some 7)]), .inl 6, .inr (7, [some (some 9)]), .inl 6, .inr (7, [some (some 11)]), .inl 32, .inr (3, [some (some 1), some (some 13), some (some 15), some (some 17), some (some 19), some (some 21), none]), .inr (7, [some (some 14)]), .inl 16, .inr (7, [some (some 16)]), .inl 16, .inr (7, [some (some 18)]), .inl 16, .inr (7, [some (some 20)]), .inl 16, .inr (7, [some (some 22)]), .inl 16, .inr (2, [some none, some none, some none, none])] : List xS), x_z (x_z (x_z (x_z (x_z (x_z (x_z (x_z (x_z (x_z (x_z (x_z (x_z (x_z (x_z (x_z (x_z (x_z (x_z (x_z (x_z (x_z (x_z (w2) 1) 2) 3) 4) 5) 6) 7) 8) 9) 10) 11) 12) 13) 14) 15) 16) 17) 18) 19) 20) 21) 22) 23), 23, 163)
    refine And.intro trivial ?_
    change x_wp _ _ _ _ _ _ 1982 (38, [some (.ref 0)], [.ref 23, .ref 0], (([.inr (9, [some (some 1), some (some 12), some none, some none, some none, some none, some none, some none, some none]), .inr (0, [some (some 2), some (some 4), some (some 6), some (some 8), some (some 10), none]), .inr (7, [some (some 3)]), .inl 6, .inr (7, [some (some 5)]), .inl 6, .inr (7, [some (some 7)]), .inl 6, .inr (7, [some (some 9)]), .inl 6, .inr (7, [some (some 11)]), .inl 32, .inr (3, [some (some 1), some (some 13), some (some 15), some (some 17), some (some 19), some (some 21), none]), .inr (7, [some (some 14)]), .inl 16, .inr (7, [some (some 16)]), .inl 16, .inr (7, [some (some 18)]), .inl 16, .inr (7, [some (some 20)]), .inl 16, .inr (7, [some (some 22)]), .inl 16, .inr (2, [some (some 24), some (some 26), some (some 28), none]), .inr (7, [some (some 25)]), .inl 8, .inr (7, [some (some 27)]), .inl 8, .inr (7, [some (some 29)]), .inl 8] : List xS), x_z (x_z (x_z (x_z (x_z (x_z (x_z (x_z (x_z (x_z (x_z (x_z (x_z (x_z (x_z (x_z (x_z (x_z (x_z (x_z (x_z (x_z (x_z (x_z (x_z (x_z (x_z (x_z (x_z (w2) 1) 2) 3) 4) 5) 6) 7) 8) 9) 10) 11) 12) 13) 14) 15) 16) 17) 18) 19) 20) 21) 22) 23) 24) 25) 26) 27) 28) 29), 29, 190)
    refine And.intro ⟨Nat.le_of_ble_eq_true rfl, Nat.le_of_ble_eq_true rfl, Nat.le_of_ble_eq_true rfl⟩ ?_
    change x_wp _ _ _ _ _ _ 1979 (45, [some (.ref 0)], [.ref 30, .ref 0], (([.inr (9, [some (some 1), some (some 12), some (some 23), some none, some none, some none, some none, some none, some none]), .inr (0, [some (some 2), some (some 4), some (some 6), some (some 8), some (some 10), none]), .inr (7, [some (some 3)]), .inl 6, .inr (7, [some (some 5)]), .inl 6, .inr (7, [some (some 7)]), .inl 6, .inr (7, [some (some 9)]), .inl 6, .inr (7, [some (some 11)]), .inl 32, .inr (3, [some (some 1), some (some 13), some (some 15), some (some 17), some (some 19), some (some 21), none]), .inr (7, [some (some 14)]), .inl 16, .inr (7, [some (some 16)]), .inl 16, .inr (7, [some (some 18)]), .inl 16, .inr (7, [some (some 20)]), .inl 16, .inr (7, [some (some 22)]), .inl 16, .inr (2, [some (some 24), some (some 26), some (some 28), none]), .inr (7, [some (some 25)]), .inl 8, .inr (7, [some (some 27)]), .inl 8, .inr (7, [some (some 29)]), .inl 8, .inr (8, [some none, some none, some none, none])] : List xS), x_z (x_z (x_z (x_z (x_z (x_z (x_z (x_z (x_z (x_z (x_z (x_z (x_z (x_z (x_z (x_z (x_z (x_z (x_z (x_z (x_z (x_z (x_z (x_z (x_z (x_z (x_z (x_z (x_z (x_z (w2) 1) 2) 3) 4) 5) 6) 7) 8) 9) 10) 11) 12) 13) 14) 15) 16) 17) 18) 19) 20) 21) 22) 23) 24) 25) 26) 27) 28) 29) 30), 30, 194)
    refine And.intro trivial ?_
    change x_wp _ _ _ _ _ _ 1977 (49, [some (.ref 0)], [.ref 30, .ref 0], (([.inr (9, [some (some 1), some (some 12), some (some 23), some none, some none, some none, some none, some none, some none]), .inr (0, [some (some 2), some (some 4), some (some 6), some (some 8), some (some 10), none]), .inr (7, [some (some 3)]), .inl 6, .inr (7, [some (some 5)]), .inl 6, .inr (7, [some (some 7)]), .inl 6, .inr (7, [some (some 9)]), .inl 6, .inr (7, [some (some 11)]), .inl 32, .inr (3, [some (some 1), some (some 13), some (some 15), some (some 17), some (some 19), some (some 21), none]), .inr (7, [some (some 14)]), .inl 16, .inr (7, [some (some 16)]), .inl 16, .inr (7, [some (some 18)]), .inl 16, .inr (7, [some (some 20)]), .inl 16, .inr (7, [some (some 22)]), .inl 16, .inr (2, [some (some 24), some (some 26), some (some 28), none]), .inr (7, [some (some 25)]), .inl 8, .inr (7, [some (some 27)]), .inl 8, .inr (7, [some (some 29)]), .inl 8, .inr (8, [some (some 31), some (some 33), some (some 35), none]), .inr (7, [some (some 32)]), .inl 40, .inr (7, [some (some 34)]), .inl 40, .inr (7, [some (some 36)]), .inl 40] : List xS), x_z (x_z (x_z (x_z (x_z (x_z (x_z (x_z (x_z (x_z (x_z (x_z (x_z (x_z (x_z (x_z (x_z (x_z (x_z (x_z (x_z (x_z (x_z (x_z (x_z (x_z (x_z (x_z (x_z (x_z (x_z (x_z (x_z (x_z (x_z (x_z (w2) 1) 2) 3) 4) 5) 6) 7) 8) 9) 10) 11) 12) 13) 14) 15) 16) 17) 18) 19) 20) 21) 22) 23) 24) 25) 26) 27) 28) 29) 30) 31) 32) 33) 34) 35) 36), 36, 317)
    refine And.intro ⟨Nat.le_of_ble_eq_true rfl, Nat.le_of_ble_eq_true rfl, Nat.le_of_ble_eq_true rfl⟩ ?_
    change x_wp _ _ _ _ _ _ 1974 (56, [some (.ref 0)], [.ref 37, .ref 0], (([.inr (9, [some (some 1), some (some 12), some (some 23), some (some 30), some none, some none, some none, some none, some none]), .inr (0, [some (some 2), some (some 4), some (some 6), some (some 8), some (some 10), none]), .inr (7, [some (some 3)]), .inl 6, .inr (7, [some (some 5)]), .inl 6, .inr (7, [some (some 7)]), .inl 6, .inr (7, [some (some 9)]), .inl 6, .inr (7, [some (some 11)]), .inl 32, .inr (3, [some (some 1), some (some 13), some (some 15), some (some 17), some (some 19), some (some 21), none]), .inr (7, [some (some 14)]), .inl 16, .inr (7, [some (some 16)]), .inl 16, .inr (7, [some (some 18)]), .inl 16, .inr (7, [some (some 20)]), .inl 16, .inr (7, [some (some 22)]), .inl 16, .inr (2, [some (some 24), some (some 26), some (some 28), none]), .inr (7, [some (some 25)]), .inl 8, .inr (7, [some (some 27)]), .inl 8, .inr (7, [some (some 29)]), .inl 8, .inr (8, [some (some 31), some (some 33), some (some 35), none]), .inr (7, [some (some 32)]), .inl 40, .inr (7, [some (some 34)]), .inl 40, .inr (7, [some (some 36)]), .inl 40, .inr (5, [some none, some none, some none, none, none, none, none, none, none])] : List xS), x_z (x_z (x_z (x_z (x_z (x_z (x_z (x_z (x_z (x_z (x_z (x_z (x_z (x_z (x_z (x_z (x_z (x_z (x_z (x_z (x_z (x_z (x_z (x_z (x_z (x_z (x_z (x_z (x_z (x_z (x_z (x_z (x_z (x_z (x_z (x_z (x_z (w2) 1) 2) 3) 4) 5) 6) 7) 8) 9) 10) 11) 12) 13) 14) 15) 16) 17) 18) 19) 20) 21) 22) 23) 24) 25) 26) 27) 28) 29) 30) 31) 32) 33) 34) 35) 36) 37), 37, 326)
    refine And.intro trivial ?_
    change x_wp _ _ _ _ _ _ 1968 (68, [some (.ref 0)], [.ref 37, .ref 0], (([.inr (9, [some (some 1), some (some 12), some (some 23), some (some 30), some none, some none, some none, some none, some none]), .inr (0, [some (some 2), some (some 4), some (some 6), some (some 8), some (some 10), none]), .inr (7, [some (some 3)]), .inl 6, .inr (7, [some (some 5)]), .inl 6, .inr (7, [some (some 7)]), .inl 6, .inr (7, [some (some 9)]), .inl 6, .inr (7, [some (some 11)]), .inl 32, .inr (3, [some (some 1), some (some 13), some (some 15), some (some 17), some (some 19), some (some 21), none]), .inr (7, [some (some 14)]), .inl 16, .inr (7, [some (some 16)]), .inl 16, .inr (7, [some (some 18)]), .inl 16, .inr (7, [some (some 20)]), .inl 16, .inr (7, [some (some 22)]), .inl 16, .inr (2, [some (some 24), some (some 26), some (some 28), none]), .inr (7, [some (some 25)]), .inl 8, .inr (7, [some (some 27)]), .inl 8, .inr (7, [some (some 29)]), .inl 8, .inr (8, [some (some 31), some (some 33), some (some 35), none]), .inr (7, [some (some 32)]), .inl 40, .inr (7, [some (some 34)]), .inl 40, .inr (7, [some (some 36)]), .inl 40, .inr (5, [some (some 1), some (some 12), some (some 38), none, none, none, none, none, none]), .inr (7, [some (some 39)]), .inl 4] : List xS), x_z (x_z (x_z (x_z (x_z (x_z (x_z (x_z (x_z (x_z (x_z (x_z (x_z (x_z (x_z (x_z (x_z (x_z (x_z (x_z (x_z (x_z (x_z (x_z (x_z (x_z (x_z (x_z (x_z (x_z (x_z (x_z (x_z (x_z (x_z (x_z (x_z (x_z (x_z (w2) 1) 2) 3) 4) 5) 6) 7) 8) 9) 10) 11) 12) 13) 14) 15) 16) 17) 18) 19) 20) 21) 22) 23) 24) 25) 26) 27) 28) 29) 30) 31) 32) 33) 34) 35) 36) 37) 38) 39), 39, 331)
    refine And.intro ⟨Nat.le_of_ble_eq_true rfl, Nat.le_of_ble_eq_true rfl, Nat.le_of_ble_eq_true rfl⟩ ?_
    change x_wp _ _ _ _ _ _ 1965 (75, [some (.ref 0)], [.ref 40, .ref 0], (([.inr (9, [some (some 1), some (some 12), some (some 23), some (some 30), some (some 37), some none, some none, some none, some none]), .inr (0, [some (some 2), some (some 4), some (some 6), some (some 8), some (some 10), none]), .inr (7, [some (some 3)]), .inl 6, .inr (7, [some (some 5)]), .inl 6, .inr (7, [some (some 7)]), .inl 6, .inr (7, [some (some 9)]), .inl 6, .inr (7, [some (some 11)]), .inl 32, .inr (3, [some (some 1), some (some 13), some (some 15), some (some 17), some (some 19), some (some 21), none]), .inr (7, [some (some 14)]), .inl 16, .inr (7, [some (some 16)]), .inl 16, .inr (7, [some (some 18)]), .inl 16, .inr (7, [some (some 20)]), .inl 16, .inr (7, [some (some 22)]), .inl 16, .inr (2, [some (some 24), some (some 26), some (some 28), none]), .inr (7, [some (some 25)]), .inl 8, .inr (7, [some (some 27)]), .inl 8, .inr (7, [some (some 29)]), .inl 8, .inr (8, [some (some 31), some (some 33), some (some 35), none]), .inr (7, [some (some 32)]), .inl 40, .inr (7, [some (some 34)]), .inl 40, .inr (7, [some (some 36)]), .inl 40, .inr (5, [some (some 1), some (some 12), some (some 38), none, none, none, none, none, none]), .inr (7, [some (some 39)]), .inl 4, .inr (4, [some none, some none, some none, some none, none])] : List xS), x_z (x_z (x_z (x_z (x_z (x_z (x_z (x_z (x_z (x_z (x_z (x_z (x_z (x_z (x_z (x_z (x_z (x_z (x_z (x_z (x_z (x_z (x_z (x_z (x_z (x_z (x_z (x_z (x_z (x_z (x_z (x_z (x_z (x_z (x_z (x_z (x_z (x_z (x_z (x_z (w2) 1) 2) 3) 4) 5) 6) 7) 8) 9) 10) 11) 12) 13) 14) 15) 16) 17) 18) 19) 20) 21) 22) 23) 24) 25) 26) 27) 28) 29) 30) 31) 32) 33) 34) 35) 36) 37) 38) 39) 40), 40, 336)
    refine And.intro trivial ?_
    change x_wp _ _ _ _ _ _ 1957 (91, [some (.ref 0)], [.ref 40, .ref 0], (([.inr (9, [some (some 1), some (some 12), some (some 23), some (some 30), some (some 37), some none, some none, some none, some none]), .inr (0, [some (some 2), some (some 4), some (some 6), some (some 8), some (some 10), none]), .inr (7, [some (some 3)]), .inl 6, .inr (7, [some (some 5)]), .inl 6, .inr (7, [some (some 7)]), .inl 6, .inr (7, [some (some 9)]), .inl 6, .inr (7, [some (some 11)]), .inl 32, .inr (3, [some (some 1), some (some 13), some (some 15), some (some 17), some (some 19), some (some 21), none]), .inr (7, [some (some 14)]), .inl 16, .inr (7, [some (some 16)]), .inl 16, .inr (7, [some (some 18)]), .inl 16, .inr (7, [some (some 20)]), .inl 16, .inr (7, [some (some 22)]), .inl 16, .inr (2, [some (some 24), some (some 26), some (some 28), none]), .inr (7, [some (some 25)]), .inl 8, .inr (7, [some (some 27)]), .inl 8, .inr (7, [some (some 29)]), .inl 8, .inr (8, [some (some 31), some (some 33), some (some 35), none]), .inr (7, [some (some 32)]), .inl 40, .inr (7, [some (some 34)]), .inl 40, .inr (7, [some (some 36)]), .inl 40, .inr (5, [some (some 1), some (some 12), some (some 38), none, none, none, none, none, none]), .inr (7, [some (some 39)]), .inl 4, .inr (4, [some (some 1), some (some 12), some (some 37), some (some 41), none]), .inr (8, [some (some 42), some (some 44), some (some 46), none]), .inr (7, [some (some 43)]), .inl 40, .inr (7, [some (some 45)]), .inl 40, .inr (7, [some (some 47)]), .inl 40] : List xS), x_z (x_z (x_z (x_z (x_z (x_z (x_z (x_z (x_z (x_z (x_z (x_z (x_z (x_z (x_z (x_z (x_z (x_z (x_z (x_z (x_z (x_z (x_z (x_z (x_z (x_z (x_z (x_z (x_z (x_z (x_z (x_z (x_z (x_z (x_z (x_z (x_z (x_z (x_z (x_z (x_z (x_z (x_z (x_z (x_z (x_z (x_z (w2) 1) 2) 3) 4) 5) 6) 7) 8) 9) 10) 11) 12) 13) 14) 15) 16) 17) 18) 19) 20) 21) 22) 23) 24) 25) 26) 27) 28) 29) 30) 31) 32) 33) 34) 35) 36) 37) 38) 39) 40) 41) 42) 43) 44) 45) 46) 47), 47, 463)
    refine And.intro ⟨Nat.le_of_ble_eq_true rfl, Nat.le_of_ble_eq_true rfl, Nat.le_of_ble_eq_true rfl⟩ ?_
    change x_wp _ _ _ _ _ _ 1954 (98, [some (.ref 0)], [.ref 48, .ref 0], (([.inr (9, [some (some 1), some (some 12), some (some 23), some (some 30), some (some 37), some (some 40), some none, some none, some none]), .inr (0, [some (some 2), some (some 4), some (some 6), some (some 8), some (some 10), none]), .inr (7, [some (some 3)]), .inl 6, .inr (7, [some (some 5)]), .inl 6, .inr (7, [some (some 7)]), .inl 6, .inr (7, [some (some 9)]), .inl 6, .inr (7, [some (some 11)]), .inl 32, .inr (3, [some (some 1), some (some 13), some (some 15), some (some 17), some (some 19), some (some 21), none]), .inr (7, [some (some 14)]), .inl 16, .inr (7, [some (some 16)]), .inl 16, .inr (7, [some (some 18)]), .inl 16, .inr (7, [some (some 20)]), .inl 16, .inr (7, [some (some 22)]), .inl 16, .inr (2, [some (some 24), some (some 26), some (some 28), none]), .inr (7, [some (some 25)]), .inl 8, .inr (7, [some (some 27)]), .inl 8, .inr (7, [some (some 29)]), .inl 8, .inr (8, [some (some 31), some (some 33), some (some 35), none]), .inr (7, [some (some 32)]), .inl 40, .inr (7, [some (some 34)]), .inl 40, .inr (7, [some (some 36)]), .inl 40, .inr (5, [some (some 1), some (some 12), some (some 38), none, none, none, none, none, none]), .inr (7, [some (some 39)]), .inl 4, .inr (4, [some (some 1), some (some 12), some (some 37), some (some 41), none]), .inr (8, [some (some 42), some (some 44), some (some 46), none]), .inr (7, [some (some 43)]), .inl 40, .inr (7, [some (some 45)]), .inl 40, .inr (7, [some (some 47)]), .inl 40, .inr (1, [some none, none, none])] : List xS), x_z (x_z (x_z (x_z (x_z (x_z (x_z (x_z (x_z (x_z (x_z (x_z (x_z (x_z (x_z (x_z (x_z (x_z (x_z (x_z (x_z (x_z (x_z (x_z (x_z (x_z (x_z (x_z (x_z (x_z (x_z (x_z (x_z (x_z (x_z (x_z (x_z (x_z (x_z (x_z (x_z (x_z (x_z (x_z (x_z (x_z (x_z (x_z (w2) 1) 2) 3) 4) 5) 6) 7) 8) 9) 10) 11) 12) 13) 14) 15) 16) 17) 18) 19) 20) 21) 22) 23) 24) 25) 26) 27) 28) 29) 30) 31) 32) 33) 34) 35) 36) 37) 38) 39) 40) 41) 42) 43) 44) 45) 46) 47) 48), 48, 466)
    refine And.intro trivial ?_
    change x_wp _ _ _ _ _ _ 1951 (104, [some (.ref 0)], [.ref 48, .ref 0], (([.inr (9, [some (some 1), some (some 12), some (some 23), some (some 30), some (some 37), some (some 40), some none, some none, some none]), .inr (0, [some (some 2), some (some 4), some (some 6), some (some 8), some (some 10), none]), .inr (7, [some (some 3)]), .inl 6, .inr (7, [some (some 5)]), .inl 6, .inr (7, [some (some 7)]), .inl 6, .inr (7, [some (some 9)]), .inl 6, .inr (7, [some (some 11)]), .inl 32, .inr (3, [some (some 1), some (some 13), some (some 15), some (some 17), some (some 19), some (some 21), none]), .inr (7, [some (some 14)]), .inl 16, .inr (7, [some (some 16)]), .inl 16, .inr (7, [some (some 18)]), .inl 16, .inr (7, [some (some 20)]), .inl 16, .inr (7, [some (some 22)]), .inl 16, .inr (2, [some (some 24), some (some 26), some (some 28), none]), .inr (7, [some (some 25)]), .inl 8, .inr (7, [some (some 27)]), .inl 8, .inr (7, [some (some 29)]), .inl 8, .inr (8, [some (some 31), some (some 33), some (some 35), none]), .inr (7, [some (some 32)]), .inl 40, .inr (7, [some (some 34)]), .inl 40, .inr (7, [some (some 36)]), .inl 40, .inr (5, [some (some 1), some (some 12), some (some 38), none, none, none, none, none, none]), .inr (7, [some (some 39)]), .inl 4, .inr (4, [some (some 1), some (some 12), some (some 37), some (some 41), none]), .inr (8, [some (some 42), some (some 44), some (some 46), none]), .inr (7, [some (some 43)]), .inl 40, .inr (7, [some (some 45)]), .inl 40, .inr (7, [some (some 47)]), .inl 40, .inr (1, [some (some 49), none, none]), .inr (7, [some (some 50)]), .inl 24] : List xS), x_z (x_z (x_u (x_z (x_z (x_z (x_z (x_z (x_z (x_z (x_z (x_z (x_z (x_z (x_z (x_z (x_z (x_z (x_z (x_z (x_z (x_z (x_z (x_z (x_z (x_z (x_z (x_z (x_z (x_z (x_z (x_z (x_z (x_z (x_z (x_z (x_z (x_z (x_z (x_z (x_z (x_z (x_z (x_z (x_z (x_z (x_z (x_z (x_z (x_z (x_z (w2) 1) 2) 3) 4) 5) 6) 7) 8) 9) 10) 11) 12) 13) 14) 15) 16) 17) 18) 19) 20) 21) 22) 23) 24) 25) 26) 27) 28) 29) 30) 31) 32) 33) 34) 35) 36) 37) 38) 39) 40) 41) 42) 43) 44) 45) 46) 47) 48) 48 1 24) 49) 50), 50, 491)
    refine And.intro ⟨Nat.le_of_ble_eq_true rfl, Nat.le_of_ble_eq_true rfl, Nat.le_of_ble_eq_true rfl⟩ ?_
    change x_wp _ _ _ _ _ _ 1948 (111, [some (.ref 0)], [.ref 51, .ref 0], (([.inr (9, [some (some 1), some (some 12), some (some 23), some (some 30), some (some 37), some (some 40), some (some 48), some none, some none]), .inr (0, [some (some 2), some (some 4), some (some 6), some (some 8), some (some 10), none]), .inr (7, [some (some 3)]), .inl 6, .inr (7, [some (some 5)]), .inl 6, .inr (7, [some (some 7)]), .inl 6, .inr (7, [some (some 9)]), .inl 6, .inr (7, [some (some 11)]), .inl 32, .inr (3, [some (some 1), some (some 13), some (some 15), some (some 17), some (some 19), some (some 21), none]), .inr (7, [some (some 14)]), .inl 16, .inr (7, [some (some 16)]), .inl 16, .inr (7, [some (some 18)]), .inl 16, .inr (7, [some (some 20)]), .inl 16, .inr (7, [some (some 22)]), .inl 16, .inr (2, [some (some 24), some (some 26), some (some 28), none]), .inr (7, [some (some 25)]), .inl 8, .inr (7, [some (some 27)]), .inl 8, .inr (7, [some (some 29)]), .inl 8, .inr (8, [some (some 31), some (some 33), some (some 35), none]), .inr (7, [some (some 32)]), .inl 40, .inr (7, [some (some 34)]), .inl 40, .inr (7, [some (some 36)]), .inl 40, .inr (5, [some (some 1), some (some 12), some (some 38), none, none, none, none, none, none]), .inr (7, [some (some 39)]), .inl 4, .inr (4, [some (some 1), some (some 12), some (some 37), some (some 41), none]), .inr (8, [some (some 42), some (some 44), some (some 46), none]), .inr (7, [some (some 43)]), .inl 40, .inr (7, [some (some 45)]), .inl 40, .inr (7, [some (some 47)]), .inl 40, .inr (1, [some (some 49), none, none]), .inr (7, [some (some 50)]), .inl 24, .inr (6, [some none, none, none, none])] : List xS), x_z (x_z (x_z (x_u (x_z (x_z (x_z (x_z (x_z (x_z (x_z (x_z (x_z (x_z (x_z (x_z (x_z (x_z (x_z (x_z (x_z (x_z (x_z (x_z (x_z (x_z (x_z (x_z (x_z (x_z (x_z (x_z (x_z (x_z (x_z (x_z (x_z (x_z (x_z (x_z (x_z (x_z (x_z (x_z (x_z (x_z (x_z (x_z (x_z (x_z (x_z (x_z (w2) 1) 2) 3) 4) 5) 6) 7) 8) 9) 10) 11) 12) 13) 14) 15) 16) 17) 18) 19) 20) 21) 22) 23) 24) 25) 26) 27) 28) 29) 30) 31) 32) 33) 34) 35) 36) 37) 38) 39) 40) 41) 42) 43) 44) 45) 46) 47) 48) 48 1 24) 49) 50) 51), 51, 495)
    refine And.intro trivial ?_
    change x_wp _ _ _ _ _ _ 1946 (115, [some (.ref 0)], [.ref 51, .ref 0], (([.inr (9, [some (some 1), some (some 12), some (some 23), some (some 30), some (some 37), some (some 40), some (some 48), some none, some none]), .inr (0, [some (some 2), some (some 4), some (some 6), some (some 8), some (some 10), none]), .inr (7, [some (some 3)]), .inl 6, .inr (7, [some (some 5)]), .inl 6, .inr (7, [some (some 7)]), .inl 6, .inr (7, [some (some 9)]), .inl 6, .inr (7, [some (some 11)]), .inl 32, .inr (3, [some (some 1), some (some 13), some (some 15), some (some 17), some (some 19), some (some 21), none]), .inr (7, [some (some 14)]), .inl 16, .inr (7, [some (some 16)]), .inl 16, .inr (7, [some (some 18)]), .inl 16, .inr (7, [some (some 20)]), .inl 16, .inr (7, [some (some 22)]), .inl 16, .inr (2, [some (some 24), some (some 26), some (some 28), none]), .inr (7, [some (some 25)]), .inl 8, .inr (7, [some (some 27)]), .inl 8, .inr (7, [some (some 29)]), .inl 8, .inr (8, [some (some 31), some (some 33), some (some 35), none]), .inr (7, [some (some 32)]), .inl 40, .inr (7, [some (some 34)]), .inl 40, .inr (7, [some (some 36)]), .inl 40, .inr (5, [some (some 1), some (some 12), some (some 38), none, none, none, none, none, none]), .inr (7, [some (some 39)]), .inl 4, .inr (4, [some (some 1), some (some 12), some (some 37), some (some 41), none]), .inr (8, [some (some 42), some (some 44), some (some 46), none]), .inr (7, [some (some 43)]), .inl 40, .inr (7, [some (some 45)]), .inl 40, .inr (7, [some (some 47)]), .inl 40, .inr (1, [some (some 49), none, none]), .inr (7, [some (some 50)]), .inl 24, .inr (6, [some (some 52), none, none, none]), .inr (7, [some (some 53)]), .inl 4] : List xS), x_z (x_z (x_z (x_z (x_z (x_u (x_z (x_z (x_z (x_z (x_z (x_z (x_z (x_z (x_z (x_z (x_z (x_z (x_z (x_z (x_z (x_z (x_z (x_z (x_z (x_z (x_z (x_z (x_z (x_z (x_z (x_z (x_z (x_z (x_z (x_z (x_z (x_z (x_z (x_z (x_z (x_z (x_z (x_z (x_z (x_z (x_z (x_z (x_z (x_z (x_z (x_z (x_z (x_z (w2) 1) 2) 3) 4) 5) 6) 7) 8) 9) 10) 11) 12) 13) 14) 15) 16) 17) 18) 19) 20) 21) 22) 23) 24) 25) 26) 27) 28) 29) 30) 31) 32) 33) 34) 35) 36) 37) 38) 39) 40) 41) 42) 43) 44) 45) 46) 47) 48) 48 1 24) 49) 50) 51) 52) 53), 53, 500)
    refine And.intro ⟨Nat.le_of_ble_eq_true rfl, Nat.le_of_ble_eq_true rfl, Nat.le_of_ble_eq_true rfl⟩ ?_
    change x_wp _ _ _ _ _ _ 1943 (122, [some (.ref 0)], [.ref 54, .ref 0], (([.inr (9, [some (some 1), some (some 12), some (some 23), some (some 30), some (some 37), some (some 40), some (some 48), some (some 51), some none]), .inr (0, [some (some 2), some (some 4), some (some 6), some (some 8), some (some 10), none]), .inr (7, [some (some 3)]), .inl 6, .inr (7, [some (some 5)]), .inl 6, .inr (7, [some (some 7)]), .inl 6, .inr (7, [some (some 9)]), .inl 6, .inr (7, [some (some 11)]), .inl 32, .inr (3, [some (some 1), some (some 13), some (some 15), some (some 17), some (some 19), some (some 21), none]), .inr (7, [some (some 14)]), .inl 16, .inr (7, [some (some 16)]), .inl 16, .inr (7, [some (some 18)]), .inl 16, .inr (7, [some (some 20)]), .inl 16, .inr (7, [some (some 22)]), .inl 16, .inr (2, [some (some 24), some (some 26), some (some 28), none]), .inr (7, [some (some 25)]), .inl 8, .inr (7, [some (some 27)]), .inl 8, .inr (7, [some (some 29)]), .inl 8, .inr (8, [some (some 31), some (some 33), some (some 35), none]), .inr (7, [some (some 32)]), .inl 40, .inr (7, [some (some 34)]), .inl 40, .inr (7, [some (some 36)]), .inl 40, .inr (5, [some (some 1), some (some 12), some (some 38), none, none, none, none, none, none]), .inr (7, [some (some 39)]), .inl 4, .inr (4, [some (some 1), some (some 12), some (some 37), some (some 41), none]), .inr (8, [some (some 42), some (some 44), some (some 46), none]), .inr (7, [some (some 43)]), .inl 40, .inr (7, [some (some 45)]), .inl 40, .inr (7, [some (some 47)]), .inl 40, .inr (1, [some (some 49), none, none]), .inr (7, [some (some 50)]), .inl 24, .inr (6, [some (some 52), none, none, none]), .inr (7, [some (some 53)]), .inl 4, .inr (1, [some none, none, none])] : List xS), x_z (x_z (x_z (x_z (x_z (x_z (x_u (x_z (x_z (x_z (x_z (x_z (x_z (x_z (x_z (x_z (x_z (x_z (x_z (x_z (x_z (x_z (x_z (x_z (x_z (x_z (x_z (x_z (x_z (x_z (x_z (x_z (x_z (x_z (x_z (x_z (x_z (x_z (x_z (x_z (x_z (x_z (x_z (x_z (x_z (x_z (x_z (x_z (x_z (x_z (x_z (x_z (x_z (x_z (x_z (w2) 1) 2) 3) 4) 5) 6) 7) 8) 9) 10) 11) 12) 13) 14) 15) 16) 17) 18) 19) 20) 21) 22) 23) 24) 25) 26) 27) 28) 29) 30) 31) 32) 33) 34) 35) 36) 37) 38) 39) 40) 41) 42) 43) 44) 45) 46) 47) 48) 48 1 24) 49) 50) 51) 52) 53) 54), 54, 503)
    refine And.intro trivial ?_
    change x_wp _ _ _ _ _ _ 1940 (128, [some (.ref 0)], [.ref 54, .ref 0], (([.inr (9, [some (some 1), some (some 12), some (some 23), some (some 30), some (some 37), some (some 40), some (some 48), some (some 51), some none]), .inr (0, [some (some 2), some (some 4), some (some 6), some (some 8), some (some 10), none]), .inr (7, [some (some 3)]), .inl 6, .inr (7, [some (some 5)]), .inl 6, .inr (7, [some (some 7)]), .inl 6, .inr (7, [some (some 9)]), .inl 6, .inr (7, [some (some 11)]), .inl 32, .inr (3, [some (some 1), some (some 13), some (some 15), some (some 17), some (some 19), some (some 21), none]), .inr (7, [some (some 14)]), .inl 16, .inr (7, [some (some 16)]), .inl 16, .inr (7, [some (some 18)]), .inl 16, .inr (7, [some (some 20)]), .inl 16, .inr (7, [some (some 22)]), .inl 16, .inr (2, [some (some 24), some (some 26), some (some 28), none]), .inr (7, [some (some 25)]), .inl 8, .inr (7, [some (some 27)]), .inl 8, .inr (7, [some (some 29)]), .inl 8, .inr (8, [some (some 31), some (some 33), some (some 35), none]), .inr (7, [some (some 32)]), .inl 40, .inr (7, [some (some 34)]), .inl 40, .inr (7, [some (some 36)]), .inl 40, .inr (5, [some (some 1), some (some 12), some (some 38), none, none, none, none, none, none]), .inr (7, [some (some 39)]), .inl 4, .inr (4, [some (some 1), some (some 12), some (some 37), some (some 41), none]), .inr (8, [some (some 42), some (some 44), some (some 46), none]), .inr (7, [some (some 43)]), .inl 40, .inr (7, [some (some 45)]), .inl 40, .inr (7, [some (some 47)]), .inl 40, .inr (1, [some (some 49), none, none]), .inr (7, [some (some 50)]), .inl 24, .inr (6, [some (some 52), none, none, none]), .inr (7, [some (some 53)]), .inl 4, .inr (1, [some (some 55), none, none]), .inr (7, [some (some 56)]), .inl 40] : List xS), x_z (x_z (x_u (x_z (x_z (x_z (x_z (x_z (x_z (x_u (x_z (x_z (x_z (x_z (x_z (x_z (x_z (x_z (x_z (x_z (x_z (x_z (x_z (x_z (x_z (x_z (x_z (x_z (x_z (x_z (x_z (x_z (x_z (x_z (x_z (x_z (x_z (x_z (x_z (x_z (x_z (x_z (x_z (x_z (x_z (x_z (x_z (x_z (x_z (x_z (x_z (x_z (x_z (x_z (x_z (x_z (x_z (x_z (w2) 1) 2) 3) 4) 5) 6) 7) 8) 9) 10) 11) 12) 13) 14) 15) 16) 17) 18) 19) 20) 21) 22) 23) 24) 25) 26) 27) 28) 29) 30) 31) 32) 33) 34) 35) 36) 37) 38) 39) 40) 41) 42) 43) 44) 45) 46) 47) 48) 48 1 24) 49) 50) 51) 52) 53) 54) 54 1 40) 55) 56), 56, 544)
    exact ⟨Nat.le_of_ble_eq_true rfl, Nat.le_of_ble_eq_true rfl, rfl, rfl⟩
  · cases hr
def sms_10 : List (Nat × xSm) := (79, sm_X9_init) :: sms_9
theorem vss_10 : ∀ q ∈ sms_10, x_VS q := List.forall_mem_cons.mpr ⟨vs_X9_init, vss_9⟩
def sb_X10_noGuards_0 : List xS := [.inr (9, [some (some 1), some (some 12), some (some 23), some (some 30), some (some 37), some (some 40), some (some 48), some (some 51), some (some 54)]), .inr (0, [some (some 2), some (some 4), some (some 6), some (some 8), some (some 10), none]), .inr (7, [some (some 3)]), .inl 6, .inr (7, [some (some 5)]), .inl 6, .inr (7, [some (some 7)]), .inl 6, .inr (7, [some (some 9)]), .inl 6, .inr (7, [some (some 11)]), .inl 32, .inr (3, [some (some 1), some (some 13), some (some 15), some (some 17), some (some 19), some (some 21), none]), .inr (7, [some (some 14)]), .inl 16, .inr (7, [some (some 16)]), .inl 16, .inr (7, [some (some 18)]), .inl 16, .inr (7, [some (some 20)]), .inl 16, .inr (7, [some (some 22)]), .inl 16, .inr (2, [some (some 24), some (some 26), some (some 28), none]), .inr (7, [some (some 25)]), .inl 8, .inr (7, [some (some 27)]), .inl 8, .inr (7, [some (some 29)]), .inl 8, .inr (8, [some (some 31), some (some 33), some (some 35), none]), .inr (7, [some (some 32)]), .inl 40, .inr (7, [some (some 34)]), .inl 40, .inr (7, [some (some 36)]), .inl 40, .inr (5, [some (some 1), some (some 12), some (some 38), none, none, none, none, none, none]), .inr (7, [some (some 39)]), .inl 4, .inr (4, [some (some 1), some (some 12), some (some 37), some (some 41), none]), .inr (8, [some (some 42), some (some 44), some (some 46), none]), .inr (7, [some (some 43)]), .inl 40, .inr (7, [some (some 45)]), .inl 40, .inr (7, [some (some 47)]), .inl 40, .inr (1, [some (some 49), none, none]), .inr (7, [some (some 50)]), .inl 24, .inr (6, [some (some 52), none, none, none]), .inr (7, [some (some 53)]), .inl 4, .inr (1, [some (some 55), none, none]), .inr (7, [some (some 56)]), .inl 40, .inr (10, [some (some 58), some (some 59), some (some 60), some (some 61), none, some (some 62), none, some (some 63), some (some 64), some (some 65), some (some 66), some (some 67), some (some 68), none, some (some 69), some (some 70), some (some 71), some (some 72), none, none, none, none, none, none, some (some 73), none, some (some 74), some (some 75), some (some 76), some (some 77), none, some (some 78), some (some 79), some (some 80), none, none, some (some 81), some (some 82), none]), .inl 6, .inl 6, .inl 6, .inl 6, .inl 32, .inl 16, .inl 16, .inl 16, .inl 16, .inl 16, .inl 6, .inl 40, .inl 40, .inl 40, .inl 4, .inl 8, .inl 200, .inl 200, .inl 200, .inl 24, .inl 35, .inl 7, .inl 28, .inl 4, .inl 40]
def sa_X10_noGuards_0 : List xS := [.inr (9, [some (some 1), some (some 12), some (some 23), some (some 30), some (some 37), some (some 40), some (some 48), some (some 51), some (some 54)]), .inr (0, [some (some 2), some (some 4), some (some 6), some (some 8), some (some 10), none]), .inr (7, [some (some 3)]), .inl 6, .inr (7, [some (some 5)]), .inl 6, .inr (7, [some (some 7)]), .inl 6, .inr (7, [some (some 9)]), .inl 6, .inr (7, [some (some 11)]), .inl 32, .inr (3, [some (some 1), some (some 13), some (some 15), some (some 17), some (some 19), some (some 21), none]), .inr (7, [some (some 14)]), .inl 16, .inr (7, [some (some 16)]), .inl 16, .inr (7, [some (some 18)]), .inl 16, .inr (7, [some (some 20)]), .inl 16, .inr (7, [some (some 22)]), .inl 16, .inr (2, [some (some 24), some (some 26), some (some 28), none]), .inr (7, [some (some 25)]), .inl 8, .inr (7, [some (some 27)]), .inl 8, .inr (7, [some (some 29)]), .inl 8, .inr (8, [some (some 31), some (some 33), some (some 35), none]), .inr (7, [some (some 32)]), .inl 40, .inr (7, [some (some 34)]), .inl 40, .inr (7, [some (some 36)]), .inl 40, .inr (5, [some (some 1), some (some 12), some (some 38), none, none, none, none, none, none]), .inr (7, [some (some 39)]), .inl 4, .inr (4, [some (some 1), some (some 12), some (some 37), some (some 41), none]), .inr (8, [some (some 42), some (some 44), some (some 46), none]), .inr (7, [some (some 43)]), .inl 40, .inr (7, [some (some 45)]), .inl 40, .inr (7, [some (some 47)]), .inl 40, .inr (1, [some (some 49), none, none]), .inr (7, [some (some 50)]), .inl 24, .inr (6, [some (some 52), none, none, none]), .inr (7, [some (some 53)]), .inl 4, .inr (1, [some (some 55), none, none]), .inr (7, [some (some 56)]), .inl 40, .inr (10, [some (some 58), some (some 59), some (some 60), some (some 61), none, some (some 62), none, some (some 63), some (some 64), some (some 65), some (some 66), some (some 67), some (some 68), none, some (some 69), some (some 70), some (some 71), some (some 72), none, none, none, none, none, none, some (some 73), none, some (some 74), some (some 75), some (some 76), some (some 77), none, some (some 78), some (some 79), some (some 80), none, none, some (some 81), some (some 82), none]), .inl 6, .inl 6, .inl 6, .inl 6, .inl 32, .inl 16, .inl 16, .inl 16, .inl 16, .inl 16, .inl 6, .inl 40, .inl 40, .inl 40, .inl 4, .inl 8, .inl 200, .inl 200, .inl 200, .inl 24, .inl 35, .inl 7, .inl 28, .inl 4, .inl 40]
def sg_X10_noGuards_0 (σ : Nat → Nat → Int32) : Nat → Nat → Int32 := x_u (x_u (x_u (x_u (x_u (x_u (x_u (x_u (x_u (x_u (x_u (x_u (x_u (x_u (x_u (x_u (x_u (x_u (x_u (x_u (x_u (x_u (x_u (x_u (x_u (x_u (x_u (x_u (x_u (x_u (x_u (x_u (σ) 65 0 (-9)) 66 0 (-9)) 65 1 (-9)) 66 1 (-9)) 65 2 (-9)) 66 2 (-9)) 65 3 (-9)) 66 3 (-9)) 65 4 (-9)) 66 4 (-9)) 65 5 (-9)) 66 5 (-9)) 65 6 (-9)) 66 6 (-9)) 65 7 (-9)) 66 7 (-9)) 65 8 (-9)) 66 8 (-9)) 65 9 (-9)) 66 9 (-9)) 65 10 (-9)) 66 10 (-9)) 65 11 (-9)) 66 11 (-9)) 65 12 (-9)) 66 12 (-9)) 65 13 (-9)) 66 13 (-9)) 65 14 (-9)) 66 14 (-9)) 65 15 (-9)) 66 15 (-9)
def sm_X10_noGuards : xSm := fun args w =>
  match decide (args = [.ref 57] ∧ w.1 = sb_X10_noGuards_0) with
  | true => some (none, (sa_X10_noGuards_0, sg_X10_noGuards_0 w.2), True)
  | false =>
  none
set_option maxRecDepth 100000 in
set_option maxHeartbeats 4000000 in
theorem vs_X10_noGuards : x_VS (124, sm_X10_noGuards) := by
  intro args w r hr hP
  unfold sm_X10_noGuards at hr
  dsimp only at hr
  split at hr
  · next hd =>
    cases hr
    obtain ⟨hd1, hd2⟩ := of_decide_eq_true hd
    obtain ⟨w1, w2⟩ := w
    subst hd1
    dsimp only at hd2
    subst hd2
    refine x_con (M := M_X10_noGuards) (args := [.ref 57]) rfl (Nat.le_of_ble_eq_true rfl) (by simp [Value.category]) (x_wp_sound (sums := sms_10) (cuts := []) vss_10 ok_X10_noGuards 2000 _ ?_)
    refine And.intro (fun h => absurd h (by decide)) (fun _ => ?_)
    change x_wp _ _ _ _ _ _ 1995 (8, [some (.ref 57), some (.int 0)], [], (([.inr (9, [some (some 1), some (some 12), some (some 23), some (some 30), some (some 37), some (some 40), some (some 48), some (some 51), some (some 54)]), .inr (0, [some (some 2), some (some 4), some (some 6), some (some 8), some (some 10), none]), .inr (7, [some (some 3)]), .inl 6, .inr (7, [some (some 5)]), .inl 6, .inr (7, [some (some 7)]), .inl 6, .inr (7, [some (some 9)]), .inl 6, .inr (7, [some (some 11)]), .inl 32, .inr (3, [some (some 1), some (some 13), some (some 15), some (some 17), some (some 19), some (some 21), none]), .inr (7, [some (some 14)]), .inl 16, .inr (7, [some (some 16)]), .inl 16, .inr (7, [some (some 18)]), .inl 16, .inr (7, [some (some 20)]), .inl 16, .inr (7, [some (some 22)]), .inl 16, .inr (2, [some (some 24), some (some 26), some (some 28), none]), .inr (7, [some (some 25)]), .inl 8, .inr (7, [some (some 27)]), .inl 8, .inr (7, [some (some 29)]), .inl 8, .inr (8, [some (some 31), some (some 33), some (some 35), none]), .inr (7, [some (some 32)]), .inl 40, .inr (7, [some (some 34)]), .inl 40, .inr (7, [some (some 36)]), .inl 40, .inr (5, [some (some 1), some (some 12), some (some 38), none, none, none, none, none, none]), .inr (7, [some (some 39)]), .inl 4, .inr (4, [some (some 1), some (some 12), some (some 37), some (some 41), none]), .inr (8, [some (some 42), some (some 44), some (some 46), none]), .inr (7, [some (some 43)]), .inl 40, .inr (7, [some (some 45)]), .inl 40, .inr (7, [some (some 47)]), .inl 40, .inr (1, [some (some 49), none, none]), .inr (7, [some (some 50)]), .inl 24, .inr (6, [some (some 52), none, none, none]), .inr (7, [some (some 53)]), .inl 4, .inr (1, [some (some 55), none, none]), .inr (7, [some (some 56)]), .inl 40, .inr (10, [some (some 58), some (some 59), some (some 60), some (some 61), none, some (some 62), none, some (some 63), some (some 64), some (some 65), some (some 66), some (some 67), some (some 68), none, some (some 69), some (some 70), some (some 71), some (some 72), none, none, none, none, none, none, some (some 73), none, some (some 74), some (some 75), some (some 76), some (some 77), none, some (some 78), some (some 79), some (some 80), none, none, some (some 81), some (some 82), none]), .inl 6, .inl 6, .inl 6, .inl 6, .inl 32, .inl 16, .inl 16, .inl 16, .inl 16, .inl 16, .inl 6, .inl 40, .inl 40, .inl 40, .inl 4, .inl 8, .inl 200, .inl 200, .inl 200, .inl 24, .inl 35, .inl 7, .inl 28, .inl 4, .inl 40] : List xS), w2), 0, 0)
    refine And.intro (show ¬ (_ ∨ _) by decide) ?_
    change x_wp _ _ _ _ _ _ 1990 (16, [some (.ref 57), some (.int 0)], [], (([.inr (9, [some (some 1), some (some 12), some (some 23), some (some 30), some (some 37), some (some 40), some (some 48), some (some 51), some (some 54)]), .inr (0, [some (some 2), some (some 4), some (some 6), some (some 8), some (some 10), none]), .inr (7, [some (some 3)]), .inl 6, .inr (7, [some (some 5)]), .inl 6, .inr (7, [some (some 7)]), .inl 6, .inr (7, [some (some 9)]), .inl 6, .inr (7, [some (some 11)]), .inl 32, .inr (3, [some (some 1), some (some 13), some (some 15), some (some 17), some (some 19), some (some 21), none]), .inr (7, [some (some 14)]), .inl 16, .inr (7, [some (some 16)]), .inl 16, .inr (7, [some (some 18)]), .inl 16, .inr (7, [some (some 20)]), .inl 16, .inr (7, [some (some 22)]), .inl 16, .inr (2, [some (some 24), some (some 26), some (some 28), none]), .inr (7, [some (some 25)]), .inl 8, .inr (7, [some (some 27)]), .inl 8, .inr (7, [some (some 29)]), .inl 8, .inr (8, [some (some 31), some (some 33), some (some 35), none]), .inr (7, [some (some 32)]), .inl 40, .inr (7, [some (some 34)]), .inl 40, .inr (7, [some (some 36)]), .inl 40, .inr (5, [some (some 1), some (some 12), some (some 38), none, none, none, none, none, none]), .inr (7, [some (some 39)]), .inl 4, .inr (4, [some (some 1), some (some 12), some (some 37), some (some 41), none]), .inr (8, [some (some 42), some (some 44), some (some 46), none]), .inr (7, [some (some 43)]), .inl 40, .inr (7, [some (some 45)]), .inl 40, .inr (7, [some (some 47)]), .inl 40, .inr (1, [some (some 49), none, none]), .inr (7, [some (some 50)]), .inl 24, .inr (6, [some (some 52), none, none, none]), .inr (7, [some (some 53)]), .inl 4, .inr (1, [some (some 55), none, none]), .inr (7, [some (some 56)]), .inl 40, .inr (10, [some (some 58), some (some 59), some (some 60), some (some 61), none, some (some 62), none, some (some 63), some (some 64), some (some 65), some (some 66), some (some 67), some (some 68), none, some (some 69), some (some 70), some (some 71), some (some 72), none, none, none, none, none, none, some (some 73), none, some (some 74), some (some 75), some (some 76), some (some 77), none, some (some 78), some (some 79), some (some 80), none, none, some (some 81), some (some 82), none]), .inl 6, .inl 6, .inl 6, .inl 6, .inl 32, .inl 16, .inl 16, .inl 16, .inl 16, .inl 16, .inl 6, .inl 40, .inl 40, .inl 40, .inl 4, .inl 8, .inl 200, .inl 200, .inl 200, .inl 24, .inl 35, .inl 7, .inl 28, .inl 4, .inl 40] : List xS), x_u (w2) 65 0 (-9)), 0, 0)
    refine And.intro (show ¬ (_ ∨ _) by decide) ?_
    change x_wp _ _ _ _ _ _ 1985 (24, [some (.ref 57), some (.int 0)], [], (([.inr (9, [some (some 1), some (some 12), some (some 23), some (some 30), some (some 37), some (some 40), some (some 48), some (some 51), some (some 54)]), .inr (0, [some (some 2), some (some 4), some (some 6), some (some 8), some (some 10), none]), .inr (7, [some (some 3)]), .inl 6, .inr (7, [some (some 5)]), .inl 6, .inr (7, [some (some 7)]), .inl 6, .inr (7, [some (some 9)]), .inl 6, .inr (7, [some (some 11)]), .inl 32, .inr (3, [some (some 1), some (some 13), some (some 15), some (some 17), some (some 19), some (some 21), none]), .inr (7, [some (some 14)]), .inl 16, .inr (7, [some (some 16)]), .inl 16, .inr (7, [some (some 18)]), .inl 16, .inr (7, [some (some 20)]), .inl 16, .inr (7, [some (some 22)]), .inl 16, .inr (2, [some (some 24), some (some 26), some (some 28), none]), .inr (7, [some (some 25)]), .inl 8, .inr (7, [some (some 27)]), .inl 8, .inr (7, [some (some 29)]), .inl 8, .inr (8, [some (some 31), some (some 33), some (some 35), none]), .inr (7, [some (some 32)]), .inl 40, .inr (7, [some (some 34)]), .inl 40, .inr (7, [some (some 36)]), .inl 40, .inr (5, [some (some 1), some (some 12), some (some 38), none, none, none, none, none, none]), .inr (7, [some (some 39)]), .inl 4, .inr (4, [some (some 1), some (some 12), some (some 37), some (some 41), none]), .inr (8, [some (some 42), some (some 44), some (some 46), none]), .inr (7, [some (some 43)]), .inl 40, .inr (7, [some (some 45)]), .inl 40, .inr (7, [some (some 47)]), .inl 40, .inr (1, [some (some 49), none, none]), .inr (7, [some (some 50)]), .inl 24, .inr (6, [some (some 52), none, none, none]), .inr (7, [some (some 53)]), .inl 4, .inr (1, [some (some 55), none, none]), .inr (7, [some (some 56)]), .inl 40, .inr (10, [some (some 58), some (some 59), some (some 60), some (some 61), none, some (some 62), none, some (some 63), some (some 64), some (some 65), some (some 66), some (some 67), some (some 68), none, some (some 69), some (some 70), some (some 71), some (some 72), none, none, none, none, none, none, some (some 73), none, some (some 74), some (some 75), some (some 76), some (some 77), none, some (some 78), some (some 79), some (some 80), none, none, some (some 81), some (some 82), none]), .inl 6, .inl 6, .inl 6, .inl 6, .inl 32, .inl 16, .inl 16, .inl 16, .inl 16, .inl 16, .inl 6, .inl 40, .inl 40, .inl 40, .inl 4, .inl 8, .inl 200, .inl 200, .inl 200, .inl 24, .inl 35, .inl 7, .inl 28, .inl 4, .inl 40] : List xS), x_u (x_u (w2) 65 0 (-9)) 66 0 (-9)), 0, 0)
    refine And.intro (fun h => absurd h (by decide)) (fun _ => ?_)
    change x_wp _ _ _ _ _ _ 1980 (8, [some (.ref 57), some (.int 1)], [], (([.inr (9, [some (some 1), some (some 12), some (some 23), some (some 30), some (some 37), some (some 40), some (some 48), some (some 51), some (some 54)]), .inr (0, [some (some 2), some (some 4), some (some 6), some (some 8), some (some 10), none]), .inr (7, [some (some 3)]), .inl 6, .inr (7, [some (some 5)]), .inl 6, .inr (7, [some (some 7)]), .inl 6, .inr (7, [some (some 9)]), .inl 6, .inr (7, [some (some 11)]), .inl 32, .inr (3, [some (some 1), some (some 13), some (some 15), some (some 17), some (some 19), some (some 21), none]), .inr (7, [some (some 14)]), .inl 16, .inr (7, [some (some 16)]), .inl 16, .inr (7, [some (some 18)]), .inl 16, .inr (7, [some (some 20)]), .inl 16, .inr (7, [some (some 22)]), .inl 16, .inr (2, [some (some 24), some (some 26), some (some 28), none]), .inr (7, [some (some 25)]), .inl 8, .inr (7, [some (some 27)]), .inl 8, .inr (7, [some (some 29)]), .inl 8, .inr (8, [some (some 31), some (some 33), some (some 35), none]), .inr (7, [some (some 32)]), .inl 40, .inr (7, [some (some 34)]), .inl 40, .inr (7, [some (some 36)]), .inl 40, .inr (5, [some (some 1), some (some 12), some (some 38), none, none, none, none, none, none]), .inr (7, [some (some 39)]), .inl 4, .inr (4, [some (some 1), some (some 12), some (some 37), some (some 41), none]), .inr (8, [some (some 42), some (some 44), some (some 46), none]), .inr (7, [some (some 43)]), .inl 40, .inr (7, [some (some 45)]), .inl 40, .inr (7, [some (some 47)]), .inl 40, .inr (1, [some (some 49), none, none]), .inr (7, [some (some 50)]), .inl 24, .inr (6, [some (some 52), none, none, none]), .inr (7, [some (some 53)]), .inl 4, .inr (1, [some (some 55), none, none]), .inr (7, [some (some 56)]), .inl 40, .inr (10, [some (some 58), some (some 59), some (some 60), some (some 61), none, some (some 62), none, some (some 63), some (some 64), some (some 65), some (some 66), some (some 67), some (some 68), none, some (some 69), some (some 70), some (some 71), some (some 72), none, none, none, none, none, none, some (some 73), none, some (some 74), some (some 75), some (some 76), some (some 77), none, some (some 78), some (some 79), some (some 80), none, none, some (some 81), some (some 82), none]), .inl 6, .inl 6, .inl 6, .inl 6, .inl 32, .inl 16, .inl 16, .inl 16, .inl 16, .inl 16, .inl 6, .inl 40, .inl 40, .inl 40, .inl 4, .inl 8, .inl 200, .inl 200, .inl 200, .inl 24, .inl 35, .inl 7, .inl 28, .inl 4, .inl 40] : List xS), x_u (x_u (w2) 65 0 (-9)) 66 0 (-9)), 0, 0)
    refine And.intro (show ¬ (_ ∨ _) by decide) ?_
    change x_wp _ _ _ _ _ _ 1975 (16, [some (.ref 57), some (.int 1)], [], (([.inr (9, [some (some 1), some (some 12), some (some 23), some (some 30), some (some 37), some (some 40), some (some 48), some (some 51), some (some 54)]), .inr (0, [some (some 2), some (some 4), some (some 6), some (some 8), some (some 10), none]), .inr (7, [some (some 3)]), .inl 6, .inr (7, [some (some 5)]), .inl 6, .inr (7, [some (some 7)]), .inl 6, .inr (7, [some (some 9)]), .inl 6, .inr (7, [some (some 11)]), .inl 32, .inr (3, [some (some 1), some (some 13), some (some 15), some (some 17), some (some 19), some (some 21), none]), .inr (7, [some (some 14)]), .inl 16, .inr (7, [some (some 16)]), .inl 16, .inr (7, [some (some 18)]), .inl 16, .inr (7, [some (some 20)]), .inl 16, .inr (7, [some (some 22)]), .inl 16, .inr (2, [some (some 24), some (some 26), some (some 28), none]), .inr (7, [some (some 25)]), .inl 8, .inr (7, [some (some 27)]), .inl 8, .inr (7, [some (some 29)]), .inl 8, .inr (8, [some (some 31), some (some 33), some (some 35), none]), .inr (7, [some (some 32)]), .inl 40, .inr (7, [some (some 34)]), .inl 40, .inr (7, [some (some 36)]), .inl 40, .inr (5, [some (some 1), some (some 12), some (some 38), none, none, none, none, none, none]), .inr (7, [some (some 39)]), .inl 4, .inr (4, [some (some 1), some (some 12), some (some 37), some (some 41), none]), .inr (8, [some (some 42), some (some 44), some (some 46), none]), .inr (7, [some (some 43)]), .inl 40, .inr (7, [some (some 45)]), .inl 40, .inr (7, [some (some 47)]), .inl 40, .inr (1, [some (some 49), none, none]), .inr (7, [some (some 50)]), .inl 24, .inr (6, [some (some 52), none, none, none]), .inr (7, [some (some 53)]), .inl 4, .inr (1, [some (some 55), none, none]), .inr (7, [some (some 56)]), .inl 40, .inr (10, [some (some 58), some (some 59), some (some 60), some (some 61), none, some (some 62), none, some (some 63), some (some 64), some (some 65), some (some 66), some (some 67), some (some 68), none, some (some 69), some (some 70), some (some 71), some (some 72), none, none, none, none, none, none, some (some 73), none, some (some 74), some (some 75), some (some 76), some (some 77), none, some (some 78), some (some 79), some (some 80), none, none, some (some 81), some (some 82), none]), .inl 6, .inl 6, .inl 6, .inl 6, .inl 32, .inl 16, .inl 16, .inl 16, .inl 16, .inl 16, .inl 6, .inl 40, .inl 40, .inl 40, .inl 4, .inl 8, .inl 200, .inl 200, .inl 200, .inl 24, .inl 35, .inl 7, .inl 28, .inl 4, .inl 40] : List xS), x_u (x_u (x_u (w2) 65 0 (-9)) 66 0 (-9)) 65 1 (-9)), 0, 0)
    refine And.intro (show ¬ (_ ∨ _) by decide) ?_
    change x_wp _ _ _ _ _ _ 1970 (24, [some (.ref 57), some (.int 1)], [], (([.inr (9, [some (some 1), some (some 12), some (some 23), some (some 30), some (some 37), some (some 40), some (some 48), some (some 51), some (some 54)]), .inr (0, [some (some 2), some (some 4), some (some 6), some (some 8), some (some 10), none]), .inr (7, [some (some 3)]), .inl 6, .inr (7, [some (some 5)]), .inl 6, .inr (7, [some (some 7)]), .inl 6, .inr (7, [some (some 9)]), .inl 6, .inr (7, [some (some 11)]), .inl 32, .inr (3, [some (some 1), some (some 13), some (some 15), some (some 17), some (some 19), some (some 21), none]), .inr (7, [some (some 14)]), .inl 16, .inr (7, [some (some 16)]), .inl 16, .inr (7, [some (some 18)]), .inl 16, .inr (7, [some (some 20)]), .inl 16, .inr (7, [some (some 22)]), .inl 16, .inr (2, [some (some 24), some (some 26), some (some 28), none]), .inr (7, [some (some 25)]), .inl 8, .inr (7, [some (some 27)]), .inl 8, .inr (7, [some (some 29)]), .inl 8, .inr (8, [some (some 31), some (some 33), some (some 35), none]), .inr (7, [some (some 32)]), .inl 40, .inr (7, [some (some 34)]), .inl 40, .inr (7, [some (some 36)]), .inl 40, .inr (5, [some (some 1), some (some 12), some (some 38), none, none, none, none, none, none]), .inr (7, [some (some 39)]), .inl 4, .inr (4, [some (some 1), some (some 12), some (some 37), some (some 41), none]), .inr (8, [some (some 42), some (some 44), some (some 46), none]), .inr (7, [some (some 43)]), .inl 40, .inr (7, [some (some 45)]), .inl 40, .inr (7, [some (some 47)]), .inl 40, .inr (1, [some (some 49), none, none]), .inr (7, [some (some 50)]), .inl 24, .inr (6, [some (some 52), none, none, none]), .inr (7, [some (some 53)]), .inl 4, .inr (1, [some (some 55), none, none]), .inr (7, [some (some 56)]), .inl 40, .inr (10, [some (some 58), some (some 59), some (some 60), some (some 61), none, some (some 62), none, some (some 63), some (some 64), some (some 65), some (some 66), some (some 67), some (some 68), none, some (some 69), some (some 70), some (some 71), some (some 72), none, none, none, none, none, none, some (some 73), none, some (some 74), some (some 75), some (some 76), some (some 77), none, some (some 78), some (some 79), some (some 80), none, none, some (some 81), some (some 82), none]), .inl 6, .inl 6, .inl 6, .inl 6, .inl 32, .inl 16, .inl 16, .inl 16, .inl 16, .inl 16, .inl 6, .inl 40, .inl 40, .inl 40, .inl 4, .inl 8, .inl 200, .inl 200, .inl 200, .inl 24, .inl 35, .inl 7, .inl 28, .inl 4, .inl 40] : List xS), x_u (x_u (x_u (x_u (w2) 65 0 (-9)) 66 0 (-9)) 65 1 (-9)) 66 1 (-9)), 0, 0)
    refine And.intro (fun h => absurd h (by decide)) (fun _ => ?_)
    change x_wp _ _ _ _ _ _ 1965 (8, [some (.ref 57), some (.int 2)], [], (([.inr (9, [some (some 1), some (some 12), some (some 23), some (some 30), some (some 37), some (some 40), some (some 48), some (some 51), some (some 54)]), .inr (0, [some (some 2), some (some 4), some (some 6), some (some 8), some (some 10), none]), .inr (7, [some (some 3)]), .inl 6, .inr (7, [some (some 5)]), .inl 6, .inr (7, [some (some 7)]), .inl 6, .inr (7, [some (some 9)]), .inl 6, .inr (7, [some (some 11)]), .inl 32, .inr (3, [some (some 1), some (some 13), some (some 15), some (some 17), some (some 19), some (some 21), none]), .inr (7, [some (some 14)]), .inl 16, .inr (7, [some (some 16)]), .inl 16, .inr (7, [some (some 18)]), .inl 16, .inr (7, [some (some 20)]), .inl 16, .inr (7, [some (some 22)]), .inl 16, .inr (2, [some (some 24), some (some 26), some (some 28), none]), .inr (7, [some (some 25)]), .inl 8, .inr (7, [some (some 27)]), .inl 8, .inr (7, [some (some 29)]), .inl 8, .inr (8, [some (some 31), some (some 33), some (some 35), none]), .inr (7, [some (some 32)]), .inl 40, .inr (7, [some (some 34)]), .inl 40, .inr (7, [some (some 36)]), .inl 40, .inr (5, [some (some 1), some (some 12), some (some 38), none, none, none, none, none, none]), .inr (7, [some (some 39)]), .inl 4, .inr (4, [some (some 1), some (some 12), some (some 37), some (some 41), none]), .inr (8, [some (some 42), some (some 44), some (some 46), none]), .inr (7, [some (some 43)]), .inl 40, .inr (7, [some (some 45)]), .inl 40, .inr (7, [some (some 47)]), .inl 40, .inr (1, [some (some 49), none, none]), .inr (7, [some (some 50)]), .inl 24, .inr (6, [some (some 52), none, none, none]), .inr (7, [some (some 53)]), .inl 4, .inr (1, [some (some 55), none, none]), .inr (7, [some (some 56)]), .inl 40, .inr (10, [some (some 58), some (some 59), some (some 60), some (some 61), none, some (some 62), none, some (some 63), some (some 64), some (some 65), some (some 66), some (some 67), some (some 68), none, some (some 69), some (some 70), some (some 71), some (some 72), none, none, none, none, none, none, some (some 73), none, some (some 74), some (some 75), some (some 76), some (some 77), none, some (some 78), some (some 79), some (some 80), none, none, some (some 81), some (some 82), none]), .inl 6, .inl 6, .inl 6, .inl 6, .inl 32, .inl 16, .inl 16, .inl 16, .inl 16, .inl 16, .inl 6, .inl 40, .inl 40, .inl 40, .inl 4, .inl 8, .inl 200, .inl 200, .inl 200, .inl 24, .inl 35, .inl 7, .inl 28, .inl 4, .inl 40] : List xS), x_u (x_u (x_u (x_u (w2) 65 0 (-9)) 66 0 (-9)) 65 1 (-9)) 66 1 (-9)), 0, 0)
    refine And.intro (show ¬ (_ ∨ _) by decide) ?_
    change x_wp _ _ _ _ _ _ 1960 (16, [some (.ref 57), some (.int 2)], [], (([.inr (9, [some (some 1), some (some 12), some (some 23), some (some 30), some (some 37), some (some 40), some (some 48), some (some 51), some (some 54)]), .inr (0, [some (some 2), some (some 4), some (some 6), some (some 8), some (some 10), none]), .inr (7, [some (some 3)]), .inl 6, .inr (7, [some (some 5)]), .inl 6, .inr (7, [some (some 7)]), .inl 6, .inr (7, [some (some 9)]), .inl 6, .inr (7, [some (some 11)]), .inl 32, .inr (3, [some (some 1), some (some 13), some (some 15), some (some 17), some (some 19), some (some 21), none]), .inr (7, [some (some 14)]), .inl 16, .inr (7, [some (some 16)]), .inl 16, .inr (7, [some (some 18)]), .inl 16, .inr (7, [some (some 20)]), .inl 16, .inr (7, [some (some 22)]), .inl 16, .inr (2, [some (some 24), some (some 26), some (some 28), none]), .inr (7, [some (some 25)]), .inl 8, .inr (7, [some (some 27)]), .inl 8, .inr (7, [some (some 29)]), .inl 8, .inr (8, [some (some 31), some (some 33), some (some 35), none]), .inr (7, [some (some 32)]), .inl 40, .inr (7, [some (some 34)]), .inl 40, .inr (7, [some (some 36)]), .inl 40, .inr (5, [some (some 1), some (some 12), some (some 38), none, none, none, none, none, none]), .inr (7, [some (some 39)]), .inl 4, .inr (4, [some (some 1), some (some 12), some (some 37), some (some 41), none]), .inr (8, [some (some 42), some (some 44), some (some 46), none]), .inr (7, [some (some 43)]), .inl 40, .inr (7, [some (some 45)]), .inl 40, .inr (7, [some (some 47)]), .inl 40, .inr (1, [some (some 49), none, none]), .inr (7, [some (some 50)]), .inl 24, .inr (6, [some (some 52), none, none, none]), .inr (7, [some (some 53)]), .inl 4, .inr (1, [some (some 55), none, none]), .inr (7, [some (some 56)]), .inl 40, .inr (10, [some (some 58), some (some 59), some (some 60), some (some 61), none, some (some 62), none, some (some 63), some (some 64), some (some 65), some (some 66), some (some 67), some (some 68), none, some (some 69), some (some 70), some (some 71), some (some 72), none, none, none, none, none, none, some (some 73), none, some (some 74), some (some 75), some (some 76), some (some 77), none, some (some 78), some (some 79), some (some 80), none, none, some (some 81), some (some 82), none]), .inl 6, .inl 6, .inl 6, .inl 6, .inl 32, .inl 16, .inl 16, .inl 16, .inl 16, .inl 16, .inl 6, .inl 40, .inl 40, .inl 40, .inl 4, .inl 8, .inl 200, .inl 200, .inl 200, .inl 24, .inl 35, .inl 7, .inl 28, .inl 4, .inl 40] : List xS), x_u (x_u (x_u (x_u (x_u (w2) 65 0 (-9)) 66 0 (-9)) 65 1 (-9)) 66 1 (-9)) 65 2 (-9)), 0, 0)
    refine And.intro (show ¬ (_ ∨ _) by decide) ?_
    change x_wp _ _ _ _ _ _ 1955 (24, [some (.ref 57), some (.int 2)], [], (([.inr (9, [some (some 1), some (some 12), some (some 23), some (some 30), some (some 37), some (some 40), some (some 48), some (some 51), some (some 54)]), .inr (0, [some (some 2), some (some 4), some (some 6), some (some 8), some (some 10), none]), .inr (7, [some (some 3)]), .inl 6, .inr (7, [some (some 5)]), .inl 6, .inr (7, [some (some 7)]), .inl 6, .inr (7, [some (some 9)]), .inl 6, .inr (7, [some (some 11)]), .inl 32, .inr (3, [some (some 1), some (some 13), some (some 15), some (some 17), some (some 19), some (some 21), none]), .inr (7, [some (some 14)]), .inl 16, .inr (7, [some (some 16)]), .inl 16, .inr (7, [some (some 18)]), .inl 16, .inr (7, [some (some 20)]), .inl 16, .inr (7, [some (some 22)]), .inl 16, .inr (2, [some (some 24), some (some 26), some (some 28), none]), .inr (7, [some (some 25)]), .inl 8, .inr (7, [some (some 27)]), .inl 8, .inr (7, [some (some 29)]), .inl 8, .inr (8, [some (some 31), some (some 33), some (some 35), none]), .inr (7, [some (some 32)]), .inl 40, .inr (7, [some (some 34)]), .inl 40, .inr (7, [some (some 36)]), .inl 40, .inr (5, [some (some 1), some (some 12), some (some 38), none, none, none, none, none, none]), .inr (7, [some (some 39)]), .inl 4, .inr (4, [some (some 1), some (some 12), some (some 37), some (some 41), none]), .inr (8, [some (some 42), some (some 44), some (some 46), none]), .inr (7, [some (some 43)]), .inl 40, .inr (7, [some (some 45)]), .inl 40, .inr (7, [some (some 47)]), .inl 40, .inr (1, [some (some 49), none, none]), .inr (7, [some (some 50)]), .inl 24, .inr (6, [some (some 52), none, none, none]), .inr (7, [some (some 53)]), .inl 4, .inr (1, [some (some 55), none, none]), .inr (7, [some (some 56)]), .inl 40, .inr (10, [some (some 58), some (some 59), some (some 60), some (some 61), none, some (some 62), none, some (some 63), some (some 64), some (some 65), some (some 66), some (some 67), some (some 68), none, some (some 69), some (some 70), some (some 71), some (some 72), none, none, none, none, none, none, some (some 73), none, some (some 74), some (some 75), some (some 76), some (some 77), none, some (some 78), some (some 79), some (some 80), none, none, some (some 81), some (some 82), none]), .inl 6, .inl 6, .inl 6, .inl 6, .inl 32, .inl 16, .inl 16, .inl 16, .inl 16, .inl 16, .inl 6, .inl 40, .inl 40, .inl 40, .inl 4, .inl 8, .inl 200, .inl 200, .inl 200, .inl 24, .inl 35, .inl 7, .inl 28, .inl 4, .inl 40] : List xS), x_u (x_u (x_u (x_u (x_u (x_u (w2) 65 0 (-9)) 66 0 (-9)) 65 1 (-9)) 66 1 (-9)) 65 2 (-9)) 66 2 (-9)), 0, 0)
    refine And.intro (fun h => absurd h (by decide)) (fun _ => ?_)
    change x_wp _ _ _ _ _ _ 1950 (8, [some (.ref 57), some (.int 3)], [], (([.inr (9, [some (some 1), some (some 12), some (some 23), some (some 30), some (some 37), some (some 40), some (some 48), some (some 51), some (some 54)]), .inr (0, [some (some 2), some (some 4), some (some 6), some (some 8), some (some 10), none]), .inr (7, [some (some 3)]), .inl 6, .inr (7, [some (some 5)]), .inl 6, .inr (7, [some (some 7)]), .inl 6, .inr (7, [some (some 9)]), .inl 6, .inr (7, [some (some 11)]), .inl 32, .inr (3, [some (some 1), some (some 13), some (some 15), some (some 17), some (some 19), some (some 21), none]), .inr (7, [some (some 14)]), .inl 16, .inr (7, [some (some 16)]), .inl 16, .inr (7, [some (some 18)]), .inl 16, .inr (7, [some (some 20)]), .inl 16, .inr (7, [some (some 22)]), .inl 16, .inr (2, [some (some 24), some (some 26), some (some 28), none]), .inr (7, [some (some 25)]), .inl 8, .inr (7, [some (some 27)]), .inl 8, .inr (7, [some (some 29)]), .inl 8, .inr (8, [some (some 31), some (some 33), some (some 35), none]), .inr (7, [some (some 32)]), .inl 40, .inr (7, [some (some 34)]), .inl 40, .inr (7, [some (some 36)]), .inl 40, .inr (5, [some (some 1), some (some 12), some (some 38), none, none, none, none, none, none]), .inr (7, [some (some 39)]), .inl 4, .inr (4, [some (some 1), some (some 12), some (some 37), some (some 41), none]), .inr (8, [some (some 42), some (some 44), some (some 46), none]), .inr (7, [some (some 43)]), .inl 40, .inr (7, [some (some 45)]), .inl 40, .inr (7, [some (some 47)]), .inl 40, .inr (1, [some (some 49), none, none]), .inr (7, [some (some 50)]), .inl 24, .inr (6, [some (some 52), none, none, none]), .inr (7, [some (some 53)]), .inl 4, .inr (1, [some (some 55), none, none]), .inr (7, [some (some 56)]), .inl 40, .inr (10, [some (some 58), some (some 59), some (some 60), some (some 61), none, some (some 62), none, some (some 63), some (some 64), some (some 65), some (some 66), some (some 67), some (some 68), none, some (some 69), some (some 70), some (some 71), some (some 72), none, none, none, none, none, none, some (some 73), none, some (some 74), some (some 75), some (some 76), some (some 77), none, some (some 78), some (some 79), some (some 80), none, none, some (some 81), some (some 82), none]), .inl 6, .inl 6, .inl 6, .inl 6, .inl 32, .inl 16, .inl 16, .inl 16, .inl 16, .inl 16, .inl 6, .inl 40, .inl 40, .inl 40, .inl 4, .inl 8, .inl 200, .inl 200, .inl 200, .inl 24, .inl 35, .inl 7, .inl 28, .inl 4, .inl 40] : List xS), x_u (x_u (x_u (x_u (x_u (x_u (w2) 65 0 (-9)) 66 0 (-9)) 65 1 (-9)) 66 1 (-9)) 65 2 (-9)) 66 2 (-9)), 0, 0)
    refine And.intro (show ¬ (_ ∨ _) by decide) ?_
    change x_wp _ _ _ _ _ _ 1945 (16, [some (.ref 57), some (.int 3)], [], (([.inr (9, [some (some 1), some (some 12), some (some 23), some (some 30), some (some 37), some (some 40), some (some 48), some (some 51), some (some 54)]), .inr (0, [some (some 2), some (some 4), some (some 6), some (some 8), some (some 10), none]), .inr (7, [some (some 3)]), .inl 6, .inr (7, [some (some 5)]), .inl 6, .inr (7, [some (some 7)]), .inl 6, .inr (7, [some (some 9)]), .inl 6, .inr (7, [some (some 11)]), .inl 32, .inr (3, [some (some 1), some (some 13), some (some 15), some (some 17), some (some 19), some (some 21), none]), .inr (7, [some (some 14)]), .inl 16, .inr (7, [some (some 16)]), .inl 16, .inr (7, [some (some 18)]), .inl 16, .inr (7, [some (some 20)]), .inl 16, .inr (7, [some (some 22)]), .inl 16, .inr (2, [some (some 24), some (some 26), some (some 28), none]), .inr (7, [some (some 25)]), .inl 8, .inr (7, [some (some 27)]), .inl 8, .inr (7, [some (some 29)]), .inl 8, .inr (8, [some (some 31), some (some 33), some (some 35), none]), .inr (7, [some (some 32)]), .inl 40, .inr (7, [some (some 34)]), .inl 40, .inr (7, [some (some 36)]), .inl 40, .inr (5, [some (some 1), some (some 12), some (some 38), none, none, none, none, none, none]), .inr (7, [some (some 39)]), .inl 4, .inr (4, [some (some 1), some (some 12), some (some 37), some (some 41), none]), .inr (8, [some (some 42), some (some 44), some (some 46), none]), .inr (7, [some (some 43)]), .inl 40, .inr (7, [some (some 45)]), .inl 40, .inr (7, [some (some 47)]), .inl 40, .inr (1, [some (some 49), none, none]), .inr (7, [some (some 50)]), .inl 24, .inr (6, [some (some 52), none, none, none]), .inr (7, [some (some 53)]), .inl 4, .inr (1, [some (some 55), none, none]), .inr (7, [some (some 56)]), .inl 40, .inr (10, [some (some 58), some (some 59), some (some 60), some (some 61), none, some (some 62), none, some (some 63), some (some 64), some (some 65), some (some 66), some (some 67), some (some 68), none, some (some 69), some (some 70), some (some 71), some (some 72), none, none, none, none, none, none, some (some 73), none, some (some 74), some (some 75), some (some 76), some (some 77), none, some (some 78), some (some 79), some (some 80), none, none, some (some 81), some (some 82), none]), .inl 6, .inl 6, .inl 6, .inl 6, .inl 32, .inl 16, .inl 16, .inl 16, .inl 16, .inl 16, .inl 6, .inl 40, .inl 40, .inl 40, .inl 4, .inl 8, .inl 200, .inl 200, .inl 200, .inl 24, .inl 35, .inl 7, .inl 28, .inl 4, .inl 40] : List xS), x_u (x_u (x_u (x_u (x_u (x_u (x_u (w2) 65 0 (-9)) 66 0 (-9)) 65 1 (-9)) 66 1 (-9)) 65 2 (-9)) 66 2 (-9)) 65 3 (-9)), 0, 0)
    refine And.intro (show ¬ (_ ∨ _) by decide) ?_
    change x_wp _ _ _ _ _ _ 1940 (24, [some (.ref 57), some (.int 3)], [], (([.inr (9, [some (some 1), some (some 12), some (some 23), some (some 30), some (some 37), some (some 40), some (some 48), some (some 51), some (some 54)]), .inr (0, [some (some 2), some (some 4), some (some 6), some (some 8), some (some 10), none]), .inr (7, [some (some 3)]), .inl 6, .inr (7, [some (some 5)]), .inl 6, .inr (7, [some (some 7)]), .inl 6, .inr (7, [some (some 9)]), .inl 6, .inr (7, [some (some 11)]), .inl 32, .inr (3, [some (some 1), some (some 13), some (some 15), some (some 17), some (some 19), some (some 21), none]), .inr (7, [some (some 14)]), .inl 16, .inr (7, [some (some 16)]), .inl 16, .inr (7, [some (some 18)]), .inl 16, .inr (7, [some (some 20)]), .inl 16, .inr (7, [some (some 22)]), .inl 16, .inr (2, [some (some 24), some (some 26), some (some 28), none]), .inr (7, [some (some 25)]), .inl 8, .inr (7, [some (some 27)]), .inl 8, .inr (7, [some (some 29)]), .inl 8, .inr (8, [some (some 31), some (some 33), some (some 35), none]), .inr (7, [some (some 32)]), .inl 40, .inr (7, [some (some 34)]), .inl 40, .inr (7, [some (some 36)]), .inl 40, .inr (5, [some (some 1), some (some 12), some (some 38), none, none, none, none, none, none]), .inr (7, [some (some 39)]), .inl 4, .inr (4, [some (some 1), some (some 12), some (some 37), some (some 41), none]), .inr (8, [some (some 42), some (some 44), some (some 46), none]), .inr (7, [some (some 43)]), .inl 40, .inr (7, [some (some 45)]), .inl 40, .inr (7, [some (some 47)]), .inl 40, .inr (1, [some (some 49), none, none]), .inr (7, [some (some 50)]), .inl 24, .inr (6, [some (some 52), none, none, none]), .inr (7, [some (some 53)]), .inl 4, .inr (1, [some (some 55), none, none]), .inr (7, [some (some 56)]), .inl 40, .inr (10, [some (some 58), some (some 59), some (some 60), some (some 61), none, some (some 62), none, some (some 63), some (some 64), some (some 65), some (some 66), some (some 67), some (some 68), none, some (some 69), some (some 70), some (some 71), some (some 72), none, none, none, none, none, none, some (some 73), none, some (some 74), some (some 75), some (some 76), some (some 77), none, some (some 78), some (some 79), some (some 80), none, none, some (some 81), some (some 82), none]), .inl 6, .inl 6, .inl 6, .inl 6, .inl 32, .inl 16, .inl 16, .inl 16, .inl 16, .inl 16, .inl 6, .inl 40, .inl 40, .inl 40, .inl 4, .inl 8, .inl 200, .inl 200, .inl 200, .inl 24, .inl 35, .inl 7, .inl 28, .inl 4, .inl 40] : List xS), x_u (x_u (x_u (x_u (x_u (x_u (x_u (x_u (w2) 65 0 (-9)) 66 0 (-9)) 65 1 (-9)) 66 1 (-9)) 65 2 (-9)) 66 2 (-9)) 65 3 (-9)) 66 3 (-9)), 0, 0)
    refine And.intro (fun h => absurd h (by decide)) (fun _ => ?_)
    change x_wp _ _ _ _ _ _ 1935 (8, [some (.ref 57), some (.int 4)], [], (([.inr (9, [some (some 1), some (some 12), some (some 23), some (some 30), some (some 37), some (some 40), some (some 48), some (some 51), some (some 54)]), .inr (0, [some (some 2), some (some 4), some (some 6), some (some 8), some (some 10), none]), .inr (7, [some (some 3)]), .inl 6, .inr (7, [some (some 5)]), .inl 6, .inr (7, [some (some 7)]), .inl 6, .inr (7, [some (some 9)]), .inl 6, .inr (7, [some (some 11)]), .inl 32, .inr (3, [some (some 1), some (some 13), some (some 15), some (some 17), some (some 19), some (some 21), none]), .inr (7, [some (some 14)]), .inl 16, .inr (7, [some (some 16)]), .inl 16, .inr (7, [some (some 18)]), .inl 16, .inr (7, [some (some 20)]), .inl 16, .inr (7, [some (some 22)]), .inl 16, .inr (2, [some (some 24), some (some 26), some (some 28), none]), .inr (7, [some (some 25)]), .inl 8, .inr (7, [some (some 27)]), .inl 8, .inr (7, [some (some 29)]), .inl 8, .inr (8, [some (some 31), some (some 33), some (some 35), none]), .inr (7, [some (some 32)]), .inl 40, .inr (7, [some (some 34)]), .inl 40, .inr (7, [some (some 36)]), .inl 40, .inr (5, [some (some 1), some (some 12), some (some 38), none, none, none, none, none, none]), .inr (7, [some (some 39)]), .inl 4, .inr (4, [some (some 1), some (some 12), some (some 37), some (some 41), none]), .inr (8, [some (some 42), some (some 44), some (some 46), none]), .inr (7, [some (some 43)]), .inl 40, .inr (7, [some (some 45)]), .inl 40, .inr (7, [some (some 47)]), .inl 40, .inr (1, [some (some 49), none, none]), .inr (7, [some (some 50)]), .inl 24, .inr (6, [some (some 52), none, none, none]), .inr (7, [some (some 53)]), .inl 4, .inr (1, [some (some 55), none, none]), .inr (7, [some (some 56)]), .inl 40, .inr (10, [some (some 58), some (some 59), some (some 60), some (some 61), none, some (some 62), none, some (some 63), some (some 64), some (some 65), some (some 66), some (some 67), some (some 68), none, some (some 69), some (some 70), some (some 71), some (some 72), none, none, none, none, none, none, some (some 73), none, some (some 74), some (some 75), some (some 76), some (some 77), none, some (some 78), some (some 79), some (some 80), none, none, some (some 81), some (some 82), none]), .inl 6, .inl 6, .inl 6, .inl 6, .inl 32, .inl 16, .inl 16, .inl 16, .inl 16, .inl 16, .inl 6, .inl 40, .inl 40, .inl 40, .inl 4, .inl 8, .inl 200, .inl 200, .inl 200, .inl 24, .inl 35, .inl 7, .inl 28, .inl 4, .inl 40] : List xS), x_u (x_u (x_u (x_u (x_u (x_u (x_u (x_u (w2) 65 0 (-9)) 66 0 (-9)) 65 1 (-9)) 66 1 (-9)) 65 2 (-9)) 66 2 (-9)) 65 3 (-9)) 66 3 (-9)), 0, 0)
    refine And.intro (show ¬ (_ ∨ _) by decide) ?_
    change x_wp _ _ _ _ _ _ 1930 (16, [some (.ref 57), some (.int 4)], [], (([.inr (9, [some (some 1), some (some 12), some (some 23), some (some 30), some (some 37), some (some 40), some (some 48), some (some 51), some (some 54)]), .inr (0, [some (some 2), some (some 4), some (some 6), some (some 8), some (some 10), none]), .inr (7, [some (some 3)]), .inl 6, .inr (7, [some (some 5)]), .inl 6, .inr (7, [some (some 7)]), .inl 6, .inr (7, [some (some 9)]), .inl 6, .inr (7, [some (some 11)]), .inl 32, .inr (3, [some (some 1), some (some 13), some (some 15), some (some 17), some (some 19), some (some 21), none]), .inr (7, [some (some 14)]), .inl 16, .inr (7, [some (some 16)]), .inl 16, .inr (7, [some (some 18)]), .inl 16, .inr (7, [some (some 20)]), .inl 16, .inr (7, [some (some 22)]), .inl 16, .inr (2, [some (some 24), some (some 26), some (some 28), none]), .inr (7, [some (some 25)]), .inl 8, .inr (7, [some (some 27)]), .inl 8, .inr (7, [some (some 29)]), .inl 8, .inr (8, [some (some 31), some (some 33), some (some 35), none]), .inr (7, [some (some 32)]), .inl 40, .inr (7, [some (some 34)]), .inl 40, .inr (7, [some (some 36)]), .inl 40, .inr (5, [some (some 1), some (some 12), some (some 38), none, none, none, none, none, none]), .inr (7, [some (some 39)]), .inl 4, .inr (4, [some (some 1), some (some 12), some (some 37), some (some 41), none]), .inr (8, [some (some 42), some (some 44), some (some 46), none]), .inr (7, [some (some 43)]), .inl 40, .inr (7, [some (some 45)]), .inl 40, .inr (7, [some (some 47)]), .inl 40, .inr (1, [some (some 49), none, none]), .inr (7, [some (some 50)]), .inl 24, .inr (6, [some (some 52), none, none, none]), .inr (7, [some (some 53)]), .inl 4, .inr (1, [some (some 55), none, none]), .inr (7, [some (some 56)]), .inl 40, .inr (10, [some (some 58), some (some 59), some (some 60), some (some 61), none, some (some 62), none, some (some 63), some (some 64), some (some 65), some (some 66), some (some 67), some (some 68), none, some (some 69), some (some 70), some (some 71), some (some 72), none, none, none, none, none, none, some (some 73), none, some (some 74), some (some 75), some (some 76), some (some 77), none, some (some 78), some (some 79), some (some 80), none, none, some (some 81), some (some 82), none]), .inl 6, .inl 6, .inl 6, .inl 6, .inl 32, .inl 16, .inl 16, .inl 16, .inl 16, .inl 16, .inl 6, .inl 40, .inl 40, .inl 40, .inl 4, .inl 8, .inl 200, .inl 200, .inl 200, .inl 24, .inl 35, .inl 7, .inl 28, .inl 4, .inl 40] : List xS), x_u (x_u (x_u (x_u (x_u (x_u (x_u (x_u (x_u (w2) 65 0 (-9)) 66 0 (-9)) 65 1 (-9)) 66 1 (-9)) 65 2 (-9)) 66 2 (-9)) 65 3 (-9)) 66 3 (-9)) 65 4 (-9)), 0, 0)
    refine And.intro (show ¬ (_ ∨ _) by decide) ?_
    change x_wp _ _ _ _ _ _ 1925 (24, [some (.ref 57), some (.int 4)], [], (([.inr (9, [some (some 1), some (some 12), some (some 23), some (some 30), some (some 37), some (some 40), some (some 48), some (some 51), some (some 54)]), .inr (0, [some (some 2), some (some 4), some (some 6), some (some 8), some (some 10), none]), .inr (7, [some (some 3)]), .inl 6, .inr (7, [some (some 5)]), .inl 6, .inr (7, [some (some 7)]), .inl 6, .inr (7, [some (some 9)]), .inl 6, .inr (7, [some (some 11)]), .inl 32, .inr (3, [some (some 1), some (some 13), some (some 15), some (some 17), some (some 19), some (some 21), none]), .inr (7, [some (some 14)]), .inl 16, .inr (7, [some (some 16)]), .inl 16, .inr (7, [some (some 18)]), .inl 16, .inr (7, [some (some 20)]), .inl 16, .inr (7, [some (some 22)]), .inl 16, .inr (2, [some (some 24), some (some 26), some (some 28), none]), .inr (7, [some (some 25)]), .inl 8, .inr (7, [some (some 27)]), .inl 8, .inr (7, [some (some 29)]), .inl 8, .inr (8, [some (some 31), some (some 33), some (some 35), none]), .inr (7, [some (some 32)]), .inl 40, .inr (7, [some (some 34)]), .inl 40, .inr (7, [some (some 36)]), .inl 40, .inr (5, [some (some 1), some (some 12), some (some 38), none, none, none, none, none, none]), .inr (7, [some (some 39)]), .inl 4, .inr (4, [some (some 1), some (some 12), some (some 37), some (some 41), none]), .inr (8, [some (some 42), some (some 44), some (some 46), none]), .inr (7, [some (some 43)]), .inl 40, .inr (7, [some (some 45)]), .inl 40, .inr (7, [some (some 47)]), .inl 40, .inr (1, [some (some 49), none, none]), .inr (7, [some (some 50)]), .inl 24, .inr (6, [some (some 52), none, none, none]), .inr (7, [some (some 53)]), .inl 4, .inr (1, [some (some 55), none, none]), .inr (7, [some (some 56)]), .inl 40, .inr (10, [some (some 58), some (some 59), some (some 60), some (some 61), none, some (some 62), none, some (some 63), some (some 64), some (some 65), some (some 66), some (some 67), some (some 68), none, some (some 69), some (some 70), some (some 71), some (some 72), none, none, none, none, none, none, some (some 73), none, some (some 74), some (some 75), some (some 76), some (some 77), none, some (some 78), some (some 79), some (some 80), none, none, some (some 81), some (some 82), none]), .inl 6, .inl 6, .inl 6, .inl 6, .inl 32, .inl 16, .inl 16, .inl 16, .inl 16, .inl 16, .inl 6, .inl 40, .inl 40, .inl 40, .inl 4, .inl 8, .inl 200, .inl 200, .inl 200, .inl 24, .inl 35, .inl 7, .inl 28, .inl 4, .inl 40] : List xS), x_u (x_u (x_u (x_u (x_u (x_u (x_u (x_u (x_u (x_u (w2) 65 0 (-9)) 66 0 (-9)) 65 1 (-9)) 66 1 (-9)) 65 2 (-9)) 66 2 (-9)) 65 3 (-9)) 66 3 (-9)) 65 4 (-9)) 66 4 (-9)), 0, 0)
    refine And.intro (fun h => absurd h (by decide)) (fun _ => ?_)
    change x_wp _ _ _ _ _ _ 1920 (8, [some (.ref 57), some (.int 5)], [], (([.inr (9, [some (some 1), some (some 12), some (some 23), some (some 30), some (some 37), some (some 40), some (some 48), some (some 51), some (some 54)]), .inr (0, [some (some 2), some (some 4), some (some 6), some (some 8), some (some 10), none]), .inr (7, [some (some 3)]), .inl 6, .inr (7, [some (some 5)]), .inl 6, .inr (7, [some (some 7)]), .inl 6, .inr (7, [some (some 9)]), .inl 6, .inr (7, [some (some 11)]), .inl 32, .inr (3, [some (some 1), some (some 13), some (some 15), some (some 17), some (some 19), some (some 21), none]), .inr (7, [some (some 14)]), .inl 16, .inr (7, [some (some 16)]), .inl 16, .inr (7, [some (some 18)]), .inl 16, .inr (7, [some (some 20)]), .inl 16, .inr (7, [some (some 22)]), .inl 16, .inr (2, [some (some 24), some (some 26), some (some 28), none]), .inr (7, [some (some 25)]), .inl 8, .inr (7, [some (some 27)]), .inl 8, .inr (7, [some (some 29)]), .inl 8, .inr (8, [some (some 31), some (some 33), some (some 35), none]), .inr (7, [some (some 32)]), .inl 40, .inr (7, [some (some 34)]), .inl 40, .inr (7, [some (some 36)]), .inl 40, .inr (5, [some (some 1), some (some 12), some (some 38), none, none, none, none, none, none]), .inr (7, [some (some 39)]), .inl 4, .inr (4, [some (some 1), some (some 12), some (some 37), some (some 41), none]), .inr (8, [some (some 42), some (some 44), some (some 46), none]), .inr (7, [some (some 43)]), .inl 40, .inr (7, [some (some 45)]), .inl 40, .inr (7, [some (some 47)]), .inl 40, .inr (1, [some (some 49), none, none]), .inr (7, [some (some 50)]), .inl 24, .inr (6, [some (some 52), none, none, none]), .inr (7, [some (some 53)]), .inl 4, .inr (1, [some (some 55), none, none]), .inr (7, [some (some 56)]), .inl 40, .inr (10, [some (some 58), some (some 59), some (some 60), some (some 61), none, some (some 62), none, some (some 63), some (some 64), some (some 65), some (some 66), some (some 67), some (some 68), none, some (some 69), some (some 70), some (some 71), some (some 72), none, none, none, none, none, none, some (some 73), none, some (some 74), some (some 75), some (some 76), some (some 77), none, some (some 78), some (some 79), some (some 80), none, none, some (some 81), some (some 82), none]), .inl 6, .inl 6, .inl 6, .inl 6, .inl 32, .inl 16, .inl 16, .inl 16, .inl 16, .inl 16, .inl 6, .inl 40, .inl 40, .inl 40, .inl 4, .inl 8, .inl 200, .inl 200, .inl 200, .inl 24, .inl 35, .inl 7, .inl 28, .inl 4, .inl 40] : List xS), x_u (x_u (x_u (x_u (x_u (x_u (x_u (x_u (x_u (x_u (w2) 65 0 (-9)) 66 0 (-9)) 65 1 (-9)) 66 1 (-9)) 65 2 (-9)) 66 2 (-9)) 65 3 (-9)) 66 3 (-9)) 65 4 (-9)) 66 4 (-9)), 0, 0)
    refine And.intro (show ¬ (_ ∨ _) by decide) ?_
    change x_wp _ _ _ _ _ _ 1915 (16, [some (.ref 57), some (.int 5)], [], (([.inr (9, [some (some 1), some (some 12), some (some 23), some (some 30), some (some 37), some (some 40), some (some 48), some (some 51), some (some 54)]), .inr (0, [some (some 2), some (some 4), some (some 6), some (some 8), some (some 10), none]), .inr (7, [some (some 3)]), .inl 6, .inr (7, [some (some 5)]), .inl 6, .inr (7, [some (some 7)]), .inl 6, .inr (7, [some (some 9)]), .inl 6, .inr (7, [some (some 11)]), .inl 32, .inr (3, [some (some 1), some (some 13), some (some 15), some (some 17), some (some 19), some (some 21), none]), .inr (7, [some (some 14)]), .inl 16, .inr (7, [some (some 16)]), .inl 16, .inr (7, [some (some 18)]), .inl 16, .inr (7, [some (some 20)]), .inl 16, .inr (7, [some (some 22)]), .inl 16, .inr (2, [some (some 24), some (some 26), some (some 28), none]), .inr (7, [some (some 25)]), .inl 8, .inr (7, [some (some 27)]), .inl 8, .inr (7, [some (some 29)]), .inl 8, .inr (8, [some (some 31), some (some 33), some (some 35), none]), .inr (7, [some (some 32)]), .inl 40, .inr (7, [some (some 34)]), .inl 40, .inr (7, [some (some 36)]), .inl 40, .inr (5, [some (some 1), some (some 12), some (some 38), none, none, none, none, none, none]), .inr (7, [some (some 39)]), .inl 4, .inr (4, [some (some 1), some (some 12), some (some 37), some (some 41), none]), .inr (8, [some (some 42), some (some 44), some (some 46), none]), .inr (7, [some (some 43)]), .inl 40, .inr (7, [some (some 45)]), .inl 40, .inr (7, [some (some 47)]), .inl 40, .inr (1, [some (some 49), none, none]), .inr (7, [some (some 50)]), .inl 24, .inr (6, [some (some 52), none, none, none]), .inr (7, [some (some 53)]), .inl 4, .inr (1, [some (some 55), none, none]), .inr (7, [some (some 56)]), .inl 40, .inr (10, [some (some 58), some (some 59), some (some 60), some (some 61), none, some (some 62), none, some (some 63), some (some 64), some (some 65), some (some 66), some (some 67), some (some 68), none, some (some 69), some (some 70), some (some 71), some (some 72), none, none, none, none, none, none, some (some 73), none, some (some 74), some (some 75), some (some 76), some (some 77), none, some (some 78), some (some 79), some (some 80), none, none, some (some 81), some (some 82), none]), .inl 6, .inl 6, .inl 6, .inl 6, .inl 32, .inl 16, .inl 16, .inl 16, .inl 16, .inl 16, .inl 6, .inl 40, .inl 40, .inl 40, .inl 4, .inl 8, .inl 200, .inl 200, .inl 200, .inl 24, .inl 35, .inl 7, .inl 28, .inl 4, .inl 40] : List xS), x_u (x_u (x_u (x_u (x_u (x_u (x_u (x_u (x_u (x_u (x_u (w2) 65 0 (-9)) 66 0 (-9)) 65 1 (-9)) 66 1 (-9)) 65 2 (-9)) 66 2 (-9)) 65 3 (-9)) 66 3 (-9)) 65 4 (-9)) 66 4 (-9)) 65 5 (-9)), 0, 0)
    refine And.intro (show ¬ (_ ∨ _) by decide) ?_
    change x_wp _ _ _ _ _ _ 1910 (24, [some (.ref 57), some (.int 5)], [], (([.inr (9, [some (some 1), some (some 12), some (some 23), some (some 30), some (some 37), some (some 40), some (some 48), some (some 51), some (some 54)]), .inr (0, [some (some 2), some (some 4), some (some 6), some (some 8), some (some 10), none]), .inr (7, [some (some 3)]), .inl 6, .inr (7, [some (some 5)]), .inl 6, .inr (7, [some (some 7)]), .inl 6, .inr (7, [some (some 9)]), .inl 6, .inr (7, [some (some 11)]), .inl 32, .inr (3, [some (some 1), some (some 13), some (some 15), some (some 17), some (some 19), some (some 21), none]), .inr (7, [some (some 14)]), .inl 16, .inr (7, [some (some 16)]), .inl 16, .inr (7, [some (some 18)]), .inl 16, .inr (7, [some (some 20)]), .inl 16, .inr (7, [some (some 22)]), .inl 16, .inr (2, [some (some 24), some (some 26), some (some 28), none]), .inr (7, [some (some 25)]), .inl 8, .inr (7, [some (some 27)]), .inl 8, .inr (7, [some (some 29)]), .inl 8, .inr (8, [some (some 31), some (some 33), some (some 35), none]), .inr (7, [some (some 32)]), .inl 40, .inr (7, [some (some 34)]), .inl 40, .inr (7, [some (some 36)]), .inl 40, .inr (5, [some (some 1), some (some 12), some (some 38), none, none, none, none, none, none]), .inr (7, [some (some 39)]), .inl 4, .inr (4, [some (some 1), some (some 12), some (some 37), some (some 41), none]), .inr (8, [some (some 42), some (some 44), some (some 46), none]), .inr (7, [some (some 43)]), .inl 40, .inr (7, [some (some 45)]), .inl 40, .inr (7, [some (some 47)]), .inl 40, .inr (1, [some (some 49), none, none]), .inr (7, [some (some 50)]), .inl 24, .inr (6, [some (some 52), none, none, none]), .inr (7, [some (some 53)]), .inl 4, .inr (1, [some (some 55), none, none]), .inr (7, [some (some 56)]), .inl 40, .inr (10, [some (some 58), some (some 59), some (some 60), some (some 61), none, some (some 62), none, some (some 63), some (some 64), some (some 65), some (some 66), some (some 67), some (some 68), none, some (some 69), some (some 70), some (some 71), some (some 72), none, none, none, none, none, none, some (some 73), none, some (some 74), some (some 75), some (some 76), some (some 77), none, some (some 78), some (some 79), some (some 80), none, none, some (some 81), some (some 82), none]), .inl 6, .inl 6, .inl 6, .inl 6, .inl 32, .inl 16, .inl 16, .inl 16, .inl 16, .inl 16, .inl 6, .inl 40, .inl 40, .inl 40, .inl 4, .inl 8, .inl 200, .inl 200, .inl 200, .inl 24, .inl 35, .inl 7, .inl 28, .inl 4, .inl 40] : List xS), x_u (x_u (x_u (x_u (x_u (x_u (x_u (x_u (x_u (x_u (x_u (x_u (w2) 65 0 (-9)) 66 0 (-9)) 65 1 (-9)) 66 1 (-9)) 65 2 (-9)) 66 2 (-9)) 65 3 (-9)) 66 3 (-9)) 65 4 (-9)) 66 4 (-9)) 65 5 (-9)) 66 5 (-9)), 0, 0)
    refine And.intro (fun h => absurd h (by decide)) (fun _ => ?_)
    change x_wp _ _ _ _ _ _ 1905 (8, [some (.ref 57), some (.int 6)], [], (([.inr (9, [some (some 1), some (some 12), some (some 23), some (some 30), some (some 37), some (some 40), some (some 48), some (some 51), some (some 54)]), .inr (0, [some (some 2), some (some 4), some (some 6), some (some 8), some (some 10), none]), .inr (7, [some (some 3)]), .inl 6, .inr (7, [some (some 5)]), .inl 6, .inr (7, [some (some 7)]), .inl 6, .inr (7, [some (some 9)]), .inl 6, .inr (7, [some (some 11)]), .inl 32, .inr (3, [some (some 1), some (some 13), some (some 15), some (some 17), some (some 19), some (some 21), none]), .inr (7, [some (some 14)]), .inl 16, .inr (7, [some (some 16)]), .inl 16, .inr (7, [some (some 18)]), .inl 16, .inr (7, [some (some 20)]), .inl 16, .inr (7, [some (some 22)]), .inl 16, .inr (2, [some (some 24), some (some 26), some (some 28), none]), .inr (7, [some (some 25)]), .inl 8, .inr (7, [some (some 27)]), .inl 8, .inr (7, [some (some 29)]), .inl 8, .inr (8, [some (some 31), some (some 33), some (some 35), none]), .inr (7, [some (some 32)]), .inl 40, .inr (7, [some (some 34)]), .inl 40, .inr (7, [some (some 36)]), .inl 40, .inr (5, [some (some 1), some (some 12), some (some 38), none, none, none, none, none, none]), .inr (7, [some (some 39)]), .inl 4, .inr (4, [some (some 1), some (some 12), some (some 37), some (some 41), none]), .inr (8, [some (some 42), some (some 44), some (some 46), none]), .inr (7, [some (some 43)]), .inl 40, .inr (7, [some (some 45)]), .inl 40, .inr (7, [some (some 47)]), .inl 40, .inr (1, [some (some 49), none, none]), .inr (7, [some (some 50)]), .inl 24, .inr (6, [some (some 52), none, none, none]), .inr (7, [some (some 53)]), .inl 4, .inr (1, [some (some 55), none, none]), .inr (7, [some (some 56)]), .inl 40, .inr (10, [some (some 58), some (some 59), some (some 60), some (some 61), none, some (some 62), none, some (some 63), some (some 64), some (some 65), some (some 66), some (some 67), some (some 68), none, some (some 69), some (some 70), some (some 71), some (some 72), none, none, none, none, none, none, some (some 73), none, some (some 74), some (some 75), some (some 76), some (some 77), none, some (some 78), some (some 79), some (some 80), none, none, some (some 81), some (some 82), none]), .inl 6, .inl 6, .inl 6, .inl 6, .inl 32, .inl 16, .inl 16, .inl 16, .inl 16, .inl 16, .inl 6, .inl 40, .inl 40, .inl 40, .inl 4, .inl 8, .inl 200, .inl 200, .inl 200, .inl 24, .inl 35, .inl 7, .inl 28, .inl 4, .inl 40] : List xS), x_u (x_u (x_u (x_u (x_u (x_u (x_u (x_u (x_u (x_u (x_u (x_u (w2) 65 0 (-9)) 66 0 (-9)) 65 1 (-9)) 66 1 (-9)) 65 2 (-9)) 66 2 (-9)) 65 3 (-9)) 66 3 (-9)) 65 4 (-9)) 66 4 (-9)) 65 5 (-9)) 66 5 (-9)), 0, 0)
    refine And.intro (show ¬ (_ ∨ _) by decide) ?_
    change x_wp _ _ _ _ _ _ 1900 (16, [some (.ref 57), some (.int 6)], [], (([.inr (9, [some (some 1), some (some 12), some (some 23), some (some 30), some (some 37), some (some 40), some (some 48), some (some 51), some (some 54)]), .inr (0, [some (some 2), some (some 4), some (some 6), some (some 8), some (some 10), none]), .inr (7, [some (some 3)]), .inl 6, .inr (7, [some (some 5)]), .inl 6, .inr (7, [some (some 7)]), .inl 6, .inr (7, [some (some 9)]), .inl 6, .inr (7, [some (some 11)]), .inl 32, .inr (3, [some (some 1), some (some 13), some (some 15), some (some 17), some (some 19), some (some 21), none]), .inr (7, [some (some 14)]), .inl 16, .inr (7, [some (some 16)]), .inl 16, .inr (7, [some (some 18)]), .inl 16, .inr (7, [some (some 20)]), .inl 16, .inr (7, [some (some 22)]), .inl 16, .inr (2, [some (some 24), some (some 26), some (some 28), none]), .inr (7, [some (some 25)]), .inl 8, .inr (7, [some (some 27)]), .inl 8, .inr (7, [some (some 29)]), .inl 8, .inr (8, [some (some 31), some (some 33), some (some 35), none]), .inr (7, [some (some 32)]), .inl 40, .inr (7, [some (some 34)]), .inl 40, .inr (7, [some (some 36)]), .inl 40, .inr (5, [some (some 1), some (some 12), some (some 38), none, none, none, none, none, none]), .inr (7, [some (some 39)]), .inl 4, .inr (4, [some (some 1), some (some 12), some (some 37), some (some 41), none]), .inr (8, [some (some 42), some (some 44), some (some 46), none]), .inr (7, [some (some 43)]), .inl 40, .inr (7, [some (some 45)]), .inl 40, .inr (7, [some (some 47)]), .inl 40, .inr (1, [some (some 49), none, none]), .inr (7, [some (some 50)]), .inl 24, .inr (6, [some (some 52), none, none, none]), .inr (7, [some (some 53)]), .inl 4, .inr (1, [some (some 55), none, none]), .inr (7, [some (some 56)]), .inl 40, .inr (10, [some (some 58), some (some 59), some (some 60), some (some 61), none, some (some 62), none, some (some 63), some (some 64), some (some 65), some (some 66), some (some 67), some (some 68), none, some (some 69), some (some 70), some (some 71), some (some 72), none, none, none, none, none, none, some (some 73), none, some (some 74), some (some 75), some (some 76), some (some 77), none, some (some 78), some (some 79), some (some 80), none, none, some (some 81), some (some 82), none]), .inl 6, .inl 6, .inl 6, .inl 6, .inl 32, .inl 16, .inl 16, .inl 16, .inl 16, .inl 16, .inl 6, .inl 40, .inl 40, .inl 40, .inl 4, .inl 8, .inl 200, .inl 200, .inl 200, .inl 24, .inl 35, .inl 7, .inl 28, .inl 4, .inl 40] : List xS), x_u (x_u (x_u (x_u (x_u (x_u (x_u (x_u (x_u (x_u (x_u (x_u (x_u (w2) 65 0 (-9)) 66 0 (-9)) 65 1 (-9)) 66 1 (-9)) 65 2 (-9)) 66 2 (-9)) 65 3 (-9)) 66 3 (-9)) 65 4 (-9)) 66 4 (-9)) 65 5 (-9)) 66 5 (-9)) 65 6 (-9)), 0, 0)
    refine And.intro (show ¬ (_ ∨ _) by decide) ?_
    change x_wp _ _ _ _ _ _ 1895 (24, [some (.ref 57), some (.int 6)], [], (([.inr (9, [some (some 1), some (some 12), some (some 23), some (some 30), some (some 37), some (some 40), some (some 48), some (some 51), some (some 54)]), .inr (0, [some (some 2), some (some 4), some (some 6), some (some 8), some (some 10), none]), .inr (7, [some (some 3)]), .inl 6, .inr (7, [some (some 5)]), .inl 6, .inr (7, [some (some 7)]), .inl 6, .inr (7, [some (some 9)]), .inl 6, .inr (7, [some (some 11)]), .inl 32, .inr (3, [some (some 1), some (some 13), some (some 15), some (some 17), some (some 19), some (some 21), none]), .inr (7, [some (some 14)]), .inl 16, .inr (7, [some (some 16)]), .inl 16, .inr (7, [some (some 18)]), .inl 16, .inr (7, [some (some 20)]), .inl 16, .inr (7, [some (some 22)]), .inl 16, .inr (2, [some (some 24), some (some 26), some (some 28), none]), .inr (7, [some (some 25)]), .inl 8, .inr (7, [some (some 27)]), .inl 8, .inr (7, [some (some 29)]), .inl 8, .inr (8, [some (some 31), some (some 33), some (some 35), none]), .inr (7, [some (some 32)]), .inl 40, .inr (7, [some (some 34)]), .inl 40, .inr (7, [some (some 36)]), .inl 40, .inr (5, [some (some 1), some (some 12), some (some 38), none, none, none, none, none, none]), .inr (7, [some (some 39)]), .inl 4, .inr (4, [some (some 1), some (some 12), some (some 37), some (some 41), none]), .inr (8, [some (some 42), some (some 44), some (some 46), none]), .inr (7, [some (some 43)]), .inl 40, .inr (7, [some (some 45)]), .inl 40, .inr (7, [some (some 47)]), .inl 40, .inr (1, [some (some 49), none, none]), .inr (7, [some (some 50)]), .inl 24, .inr (6, [some (some 52), none, none, none]), .inr (7, [some (some 53)]), .inl 4, .inr (1, [some (some 55), none, none]), .inr (7, [some (some 56)]), .inl 40, .inr (10, [some (some 58), some (some 59), some (some 60), some (some 61), none, some (some 62), none, some (some 63), some (some 64), some (some 65), some (some 66), some (some 67), some (some 68), none, some (some 69), some (some 70), some (some 71), some (some 72), none, none, none, none, none, none, some (some 73), none, some (some 74), some (some 75), some (some 76), some (some 77), none, some (some 78), some (some 79), some (some 80), none, none, some (some 81), some (some 82), none]), .inl 6, .inl 6, .inl 6, .inl 6, .inl 32, .inl 16, .inl 16, .inl 16, .inl 16, .inl 16, .inl 6, .inl 40, .inl 40, .inl 40, .inl 4, .inl 8, .inl 200, .inl 200, .inl 200, .inl 24, .inl 35, .inl 7, .inl 28, .inl 4, .inl 40] : List xS), x_u (x_u (x_u (x_u (x_u (x_u (x_u (x_u (x_u (x_u (x_u (x_u (x_u (x_u (w2) 65 0 (-9)) 66 0 (-9)) 65 1 (-9)) 66 1 (-9)) 65 2 (-9)) 66 2 (-9)) 65 3 (-9)) 66 3 (-9)) 65 4 (-9)) 66 4 (-9)) 65 5 (-9)) 66 5 (-9)) 65 6 (-9)) 66 6 (-9)), 0, 0)
    refine And.intro (fun h => absurd h (by decide)) (fun _ => ?_)
    change x_wp _ _ _ _ _ _ 1890 (8, [some (.ref 57), some (.int 7)], [], (([.inr (9, [some (some 1), some (some 12), some (some 23), some (some 30), some (some 37), some (some 40), some (some 48), some (some 51), some (some 54)]), .inr (0, [some (some 2), some (some 4), some (some 6), some (some 8), some (some 10), none]), .inr (7, [some (some 3)]), .inl 6, .inr (7, [some (some 5)]), .inl 6, .inr (7, [some (some 7)]), .inl 6, .inr (7, [some (some 9)]), .inl 6, .inr (7, [some (some 11)]), .inl 32, .inr (3, [some (some 1), some (some 13), some (some 15), some (some 17), some (some 19), some (some 21), none]), .inr (7, [some (some 14)]), .inl 16, .inr (7, [some (some 16)]), .inl 16, .inr (7, [some (some 18)]), .inl 16, .inr (7, [some (some 20)]), .inl 16, .inr (7, [some (some 22)]), .inl 16, .inr (2, [some (some 24), some (some 26), some (some 28), none]), .inr (7, [some (some 25)]), .inl 8, .inr (7, [some (some 27)]), .inl 8, .inr (7, [some (some 29)]), .inl 8, .inr (8, [some (some 31), some (some 33), some (some 35), none]), .inr (7, [some (some 32)]), .inl 40, .inr (7, [some (some 34)]), .inl 40, .inr (7, [some (some 36)]), .inl 40, .inr (5, [some (some 1), some (some 12), some (some 38), none, none, none, none, none, none]), .inr (7, [some (some 39)]), .inl 4, .inr (4, [some (some 1), some (some 12), some (some 37), some (some 41), none]), .inr (8, [some (some 42), some (some 44), some (some 46), none]), .inr (7, [some (some 43)]), .inl 40, .inr (7, [some (some 45)]), .inl 40, .inr (7, [some (some 47)]), .inl 40, .inr (1, [some (some 49), none, none]), .inr (7, [some (some 50)]), .inl 24, .inr (6, [some (some 52), none, none, none]), .inr (7, [some (some 53)]), .inl 4, .inr (1, [some (some 55), none, none]), .inr (7, [some (some 56)]), .inl 40, .inr (10, [some (some 58), some (some 59), some (some 60), some (some 61), none, some (some 62), none, some (some 63), some (some 64), some (some 65), some (some 66), some (some 67), some (some 68), none, some (some 69), some (some 70), some (some 71), some (some 72), none, none, none, none, none, none, some (some 73), none, some (some 74), some (some 75), some (some 76), some (some 77), none, some (some 78), some (some 79), some (some 80), none, none, some (some 81), some (some 82), none]), .inl 6, .inl 6, .inl 6, .inl 6, .inl 32, .inl 16, .inl 16, .inl 16, .inl 16, .inl 16, .inl 6, .inl 40, .inl 40, .inl 40, .inl 4, .inl 8, .inl 200, .inl 200, .inl 200, .inl 24, .inl 35, .inl 7, .inl 28, .inl 4, .inl 40] : List xS), x_u (x_u (x_u (x_u (x_u (x_u (x_u (x_u (x_u (x_u (x_u (x_u (x_u (x_u (w2) 65 0 (-9)) 66 0 (-9)) 65 1 (-9)) 66 1 (-9)) 65 2 (-9)) 66 2 (-9)) 65 3 (-9)) 66 3 (-9)) 65 4 (-9)) 66 4 (-9)) 65 5 (-9)) 66 5 (-9)) 65 6 (-9)) 66 6 (-9)), 0, 0)
    refine And.intro (show ¬ (_ ∨ _) by decide) ?_
    change x_wp _ _ _ _ _ _ 1885 (16, [some (.ref 57), some (.int 7)], [], (([.inr (9, [some (some 1), some (some 12), some (some 23), some (some 30), some (some 37), some (some 40), some (some 48), some (some 51), some (some 54)]), .inr (0, [some (some 2), some (some 4), some (some 6), some (some 8), some (some 10), none]), .inr (7, [some (some 3)]), .inl 6, .inr (7, [some (some 5)]), .inl 6, .inr (7, [some (some 7)]), .inl 6, .inr (7, [some (some 9)]), .inl 6, .inr (7, [some (some 11)]), .inl 32, .inr (3, [some (some 1), some (some 13), some (some 15), some (some 17), some (some 19), some (some 21), none]), .inr (7, [some (some 14)]), .inl 16, .inr (7, [some (some 16)]), .inl 16, .inr (7, [some (some 18)]), .inl 16, .inr (7, [some (some 20)]), .inl 16, .inr (7, [some (some 22)]), .inl 16, .inr (2, [some (some 24), some (some 26), some (some 28), none]), .inr (7, [some (some 25)]), .inl 8, .inr (7, [some (some 27)]), .inl 8, .inr (7, [some (some 29)]), .inl 8, .inr (8, [some (some 31), some (some 33), some (some 35), none]), .inr (7, [some (some 32)]), .inl 40, .inr (7, [some (some 34)]), .inl 40, .inr (7, [some (some 36)]), .inl 40, .inr (5, [some (some 1), some (some 12), some (some 38), none, none, none, none, none, none]), .inr (7, [some (some 39)]), .inl 4, .inr (4, [some (some 1), some (some 12), some (some 37), some (some 41), none]), .inr (8, [some (some 42), some (some 44), some (some 46), none]), .inr (7, [some (some 43)]), .inl 40, .inr (7, [some (some 45)]), .inl 40, .inr (7, [some (some 47)]), .inl 40, .inr (1, [some (some 49), none, none]), .inr (7, [some (some 50)]), .inl 24, .inr (6, [some (some 52), none, none, none]), .inr (7, [some (some 53)]), .inl 4, .inr (1, [some (some 55), none, none]), .inr (7, [some (some 56)]), .inl 40, .inr (10, [some (some 58), some (some 59), some (some 60), some (some 61), none, some (some 62), none, some (some 63), some (some 64), some (some 65), some (some 66), some (some 67), some (some 68), none, some (some 69), some (some 70), some (some 71), some (some 72), none, none, none, none, none, none, some (some 73), none, some (some 74), some (some 75), some (some 76), some (some 77), none, some (some 78), some (some 79), some (some 80), none, none, some (some 81), some (some 82), none]), .inl 6, .inl 6, .inl 6, .inl 6, .inl 32, .inl 16, .inl 16, .inl 16, .inl 16, .inl 16, .inl 6, .inl 40, .inl 40, .inl 40, .inl 4, .inl 8, .inl 200, .inl 200, .inl 200, .inl 24, .inl 35, .inl 7, .inl 28, .inl 4, .inl 40] : List xS), x_u (x_u (x_u (x_u (x_u (x_u (x_u (x_u (x_u (x_u (x_u (x_u (x_u (x_u (x_u (w2) 65 0 (-9)) 66 0 (-9)) 65 1 (-9)) 66 1 (-9)) 65 2 (-9)) 66 2 (-9)) 65 3 (-9)) 66 3 (-9)) 65 4 (-9)) 66 4 (-9)) 65 5 (-9)) 66 5 (-9)) 65 6 (-9)) 66 6 (-9)) 65 7 (-9)), 0, 0)
    refine And.intro (show ¬ (_ ∨ _) by decide) ?_
    change x_wp _ _ _ _ _ _ 1880 (24, [some (.ref 57), some (.int 7)], [], (([.inr (9, [some (some 1), some (some 12), some (some 23), some (some 30), some (some 37), some (some 40), some (some 48), some (some 51), some (some 54)]), .inr (0, [some (some 2), some (some 4), some (some 6), some (some 8), some (some 10), none]), .inr (7, [some (some 3)]), .inl 6, .inr (7, [some (some 5)]), .inl 6, .inr (7, [some (some 7)]), .inl 6, .inr (7, [some (some 9)]), .inl 6, .inr (7, [some (some 11)]), .inl 32, .inr (3, [some (some 1), some (some 13), some (some 15), some (some 17), some (some 19), some (some 21), none]), .inr (7, [some (some 14)]), .inl 16, .inr (7, [some (some 16)]), .inl 16, .inr (7, [some (some 18)]), .inl 16, .inr (7, [some (some 20)]), .inl 16, .inr (7, [some (some 22)]), .inl 16, .inr (2, [some (some 24), some (some 26), some (some 28), none]), .inr (7, [some (some 25)]), .inl 8, .inr (7, [some (some 27)]), .inl 8, .inr (7, [some (some 29)]), .inl 8, .inr (8, [some (some 31), some (some 33), some (some 35), none]), .inr (7, [some (some 32)]), .inl 40, .inr (7, [some (some 34)]), .inl 40, .inr (7, [some (some 36)]), .inl 40, .inr (5, [some (some 1), some (some 12), some (some 38), none, none, none, none, none, none]), .inr (7, [some (some 39)]), .inl 4, .inr (4, [some (some 1), some (some 12), some (some 37), some (some 41), none]), .inr (8, [some (some 42), some (some 44), some (some 46), none]), .inr (7, [some (some 43)]), .inl 40, .inr (7, [some (some 45)]), .inl 40, .inr (7, [some (some 47)]), .inl 40, .inr (1, [some (some 49), none, none]), .inr (7, [some (some 50)]), .inl 24, .inr (6, [some (some 52), none, none, none]), .inr (7, [some (some 53)]), .inl 4, .inr (1, [some (some 55), none, none]), .inr (7, [some (some 56)]), .inl 40, .inr (10, [some (some 58), some (some 59), some (some 60), some (some 61), none, some (some 62), none, some (some 63), some (some 64), some (some 65), some (some 66), some (some 67), some (some 68), none, some (some 69), some (some 70), some (some 71), some (some 72), none, none, none, none, none, none, some (some 73), none, some (some 74), some (some 75), some (some 76), some (some 77), none, some (some 78), some (some 79), some (some 80), none, none, some (some 81), some (some 82), none]), .inl 6, .inl 6, .inl 6, .inl 6, .inl 32, .inl 16, .inl 16, .inl 16, .inl 16, .inl 16, .inl 6, .inl 40, .inl 40, .inl 40, .inl 4, .inl 8, .inl 200, .inl 200, .inl 200, .inl 24, .inl 35, .inl 7, .inl 28, .inl 4, .inl 40] : List xS), x_u (x_u (x_u (x_u (x_u (x_u (x_u (x_u (x_u (x_u (x_u (x_u (x_u (x_u (x_u (x_u (w2) 65 0 (-9)) 66 0 (-9)) 65 1 (-9)) 66 1 (-9)) 65 2 (-9)) 66 2 (-9)) 65 3 (-9)) 66 3 (-9)) 65 4 (-9)) 66 4 (-9)) 65 5 (-9)) 66 5 (-9)) 65 6 (-9)) 66 6 (-9)) 65 7 (-9)) 66 7 (-9)), 0, 0)
    refine And.intro (fun h => absurd h (by decide)) (fun _ => ?_)
    change x_wp _ _ _ _ _ _ 1875 (8, [some (.ref 57), some (.int 8)], [], (([.inr (9, [some (some 1), some (some 12), some (some 23), some (some 30), some (some 37), some (some 40), some (some 48), some (some 51), some (some 54)]), .inr (0, [some (some 2), some (some 4), some (some 6), some (some 8), some (some 10), none]), .inr (7, [some (some 3)]), .inl 6, .inr (7, [some (some 5)]), .inl 6, .inr (7, [some (some 7)]), .inl 6, .inr (7, [some (some 9)]), .inl 6, .inr (7, [some (some 11)]), .inl 32, .inr (3, [some (some 1), some (some 13), some (some 15), some (some 17), some (some 19), some (some 21), none]), .inr (7, [some (some 14)]), .inl 16, .inr (7, [some (some 16)]), .inl 16, .inr (7, [some (some 18)]), .inl 16, .inr (7, [some (some 20)]), .inl 16, .inr (7, [some (some 22)]), .inl 16, .inr (2, [some (some 24), some (some 26), some (some 28), none]), .inr (7, [some (some 25)]), .inl 8, .inr (7, [some (some 27)]), .inl 8, .inr (7, [some (some 29)]), .inl 8, .inr (8, [some (some 31), some (some 33), some (some 35), none]), .inr (7, [some (some 32)]), .inl 40, .inr (7, [some (some 34)]), .inl 40, .inr (7, [some (some 36)]), .inl 40, .inr (5, [some (some 1), some (some 12), some (some 38), none, none, none, none, none, none]), .inr (7, [some (some 39)]), .inl 4, .inr (4, [some (some 1), some (some 12), some (some 37), some (some 41), none]), .inr (8, [some (some 42), some (some 44), some (some 46), none]), .inr (7, [some (some 43)]), .inl 40, .inr (7, [some (some 45)]), .inl 40, .inr (7, [some (some 47)]), .inl 40, .inr (1, [some (some 49), none, none]), .inr (7, [some (some 50)]), .inl 24, .inr (6, [some (some 52), none, none, none]), .inr (7, [some (some 53)]), .inl 4, .inr (1, [some (some 55), none, none]), .inr (7, [some (some 56)]), .inl 40, .inr (10, [some (some 58), some (some 59), some (some 60), some (some 61), none, some (some 62), none, some (some 63), some (some 64), some (some 65), some (some 66), some (some 67), some (some 68), none, some (some 69), some (some 70), some (some 71), some (some 72), none, none, none, none, none, none, some (some 73), none, some (some 74), some (some 75), some (some 76), some (some 77), none, some (some 78), some (some 79), some (some 80), none, none, some (some 81), some (some 82), none]), .inl 6, .inl 6, .inl 6, .inl 6, .inl 32, .inl 16, .inl 16, .inl 16, .inl 16, .inl 16, .inl 6, .inl 40, .inl 40, .inl 40, .inl 4, .inl 8, .inl 200, .inl 200, .inl 200, .inl 24, .inl 35, .inl 7, .inl 28, .inl 4, .inl 40] : List xS), x_u (x_u (x_u (x_u (x_u (x_u (x_u (x_u (x_u (x_u (x_u (x_u (x_u (x_u (x_u (x_u (w2) 65 0 (-9)) 66 0 (-9)) 65 1 (-9)) 66 1 (-9)) 65 2 (-9)) 66 2 (-9)) 65 3 (-9)) 66 3 (-9)) 65 4 (-9)) 66 4 (-9)) 65 5 (-9)) 66 5 (-9)) 65 6 (-9)) 66 6 (-9)) 65 7 (-9)) 66 7 (-9)), 0, 0)
    refine And.intro (show ¬ (_ ∨ _) by decide) ?_
    change x_wp _ _ _ _ _ _ 1870 (16, [some (.ref 57), some (.int 8)], [], (([.inr (9, [some (some 1), some (some 12), some (some 23), some (some 30), some (some 37), some (some 40), some (some 48), some (some 51), some (some 54)]), .inr (0, [some (some 2), some (some 4), some (some 6), some (some 8), some (some 10), none]), .inr (7, [some (some 3)]), .inl 6, .inr (7, [some (some 5)]), .inl 6, .inr (7, [some (some 7)]), .inl 6, .inr (7, [some (some 9)]), .inl 6, .inr (7, [some (some 11)]), .inl 32, .inr (3, [some (some 1), some (some 13), some (some 15), some (some 17), some (some 19), some (some 21), none]), .inr (7, [some (some 14)]), .inl 16, .inr (7, [some (some 16)]), .inl 16, .inr (7, [some (some 18)]), .inl 16, .inr (7, [some (some 20)]), .inl 16, .inr (7, [some (some 22)]), .inl 16, .inr (2, [some (some 24), some (some 26), some (some 28), none]), .inr (7, [some (some 25)]), .inl 8, .inr (7, [some (some 27)]), .inl 8, .inr (7, [some (some 29)]), .inl 8, .inr (8, [some (some 31), some (some 33), some (some 35), none]), .inr (7, [some (some 32)]), .inl 40, .inr (7, [some (some 34)]), .inl 40, .inr (7, [some (some 36)]), .inl 40, .inr (5, [some (some 1), some (some 12), some (some 38), none, none, none, none, none, none]), .inr (7, [some (some 39)]), .inl 4, .inr (4, [some (some 1), some (some 12), some (some 37), some (some 41), none]), .inr (8, [some (some 42), some (some 44), some (some 46), none]), .inr (7, [some (some 43)]), .inl 40, .inr (7, [some (some 45)]), .inl 40, .inr (7, [some (some 47)]), .inl 40, .inr (1, [some (some 49), none, none]), .inr (7, [some (some 50)]), .inl 24, .inr (6, [some (some 52), none, none, none]), .inr (7, [some (some 53)]), .inl 4, .inr (1, [some (some 55), none, none]), .inr (7, [some (some 56)]), .inl 40, .inr (10, [some (some 58), some (some 59), some (some 60), some (some 61), none, some (some 62), none, some (some 63), some (some 64), some (some 65), some (some 66), some (some 67), some (some 68), none, some (some 69), some (some 70), some (some 71), some (some 72), none, none, none, none, none, none, some (some 73), none, some (some 74), some (some 75), some (some 76), some (some 77), none, some (some 78), some (some 79), some (some 80), none, none, some (some 81), some (some 82), none]), .inl 6, .inl 6, .inl 6, .inl 6, .inl 32, .inl 16, .inl 16, .inl 16, .inl 16, .inl 16, .inl 6, .inl 40, .inl 40, .inl 40, .inl 4, .inl 8, .inl 200, .inl 200, .inl 200, .inl 24, .inl 35, .inl 7, .inl 28, .inl 4, .inl 40] : List xS), x_u (x_u (x_u (x_u (x_u (x_u (x_u (x_u (x_u (x_u (x_u (x_u (x_u (x_u (x_u (x_u (x_u (w2) 65 0 (-9)) 66 0 (-9)) 65 1 (-9)) 66 1 (-9)) 65 2 (-9)) 66 2 (-9)) 65 3 (-9)) 66 3 (-9)) 65 4 (-9)) 66 4 (-9)) 65 5 (-9)) 66 5 (-9)) 65 6 (-9)) 66 6 (-9)) 65 7 (-9)) 66 7 (-9)) 65 8 (-9)), 0, 0)
    refine And.intro (show ¬ (_ ∨ _) by decide) ?_
    change x_wp _ _ _ _ _ _ 1865 (24, [some (.ref 57), some (.int 8)], [], (([.inr (9, [some (some 1), some (some 12), some (some 23), some (some 30), some (some 37), some (some 40), some (some 48), some (some 51), some (some 54)]), .inr (0, [some (some 2), some (some 4), some (some 6), some (some 8), some (some 10), none]), .inr (7, [some (some 3)]), .inl 6, .inr (7, [some (some 5)]), .inl 6, .inr (7, [some (some 7)]), .inl 6, .inr (7, [some (some 9)]), .inl 6, .inr (7, [some (some 11)]), .inl 32, .inr (3, [some (some 1), some (some 13), some (some 15), some (some 17), some (some 19), some (some 21), none]), .inr (7, [some (some 14)]), .inl 16, .inr (7, [some (some 16)]), .inl 16, .inr (7, [some (some 18)]), .inl 16, .inr (7, [some (some 20)]), .inl 16, .inr (7, [some (some 22)]), .inl 16, .inr (2, [some (some 24), some (some 26), some (some 28), none]), .inr (7, [some (some 25)]), .inl 8, .inr (7, [some (some 27)]), .inl 8, .inr (7, [some (some 29)]), .inl 8, .inr (8, [some (some 31), some (some 33), some (some 35), none]), .inr (7, [some (some 32)]), .inl 40, .inr (7, [some (some 34)]), .inl 40, .inr (7, [some (some 36)]), .inl 40, .inr (5, [some (some 1), some (some 12), some (some 38), none, none, none, none, none, none]), .inr (7, [some (some 39)]), .inl 4, .inr (4, [some (some 1), some (some 12), some (some 37), some (some 41), none]), .inr (8, [some (some 42), some (some 44), some (some 46), none]), .inr (7, [some (some 43)]), .inl 40, .inr (7, [some (some 45)]), .inl 40, .inr (7, [some (some 47)]), .inl 40, .inr (1, [some (some 49), none, none]), .inr (7, [some (some 50)]), .inl 24, .inr (6, [some (some 52), none, none, none]), .inr (7, [some (some 53)]), .inl 4, .inr (1, [some (some 55), none, none]), .inr (7, [some (some 56)]), .inl 40, .inr (10, [some (some 58), some (some 59), some (some 60), some (some 61), none, some (some 62), none, some (some 63), some (some 64), some (some 65), some (some 66), some (some 67), some (some 68), none, some (some 69), some (some 70), some (some 71), some (some 72), none, none, none, none, none, none, some (some 73), none, some (some 74), some (some 75), some (some 76), some (some 77), none, some (some 78), some (some 79), some (some 80), none, none, some (some 81), some (some 82), none]), .inl 6, .inl 6, .inl 6, .inl 6, .inl 32, .inl 16, .inl 16, .inl 16, .inl 16, .inl 16, .inl 6, .inl 40, .inl 40, .inl 40, .inl 4, .inl 8, .inl 200, .inl 200, .inl 200, .inl 24, .inl 35, .inl 7, .inl 28, .inl 4, .inl 40] : List xS), x_u (x_u (x_u (x_u (x_u (x_u (x_u (x_u (x_u (x_u (x_u (x_u (x_u (x_u (x_u (x_u (x_u (x_u (w2) 65 0 (-9)) 66 0 (-9)) 65 1 (-9)) 66 1 (-9)) 65 2 (-9)) 66 2 (-9)) 65 3 (-9)) 66 3 (-9)) 65 4 (-9)) 66 4 (-9)) 65 5 (-9)) 66 5 (-9)) 65 6 (-9)) 66 6 (-9)) 65 7 (-9)) 66 7 (-9)) 65 8 (-9)) 66 8 (-9)), 0, 0)
    refine And.intro (fun h => absurd h (by decide)) (fun _ => ?_)
    change x_wp _ _ _ _ _ _ 1860 (8, [some (.ref 57), some (.int 9)], [], (([.inr (9, [some (some 1), some (some 12), some (some 23), some (some 30), some (some 37), some (some 40), some (some 48), some (some 51), some (some 54)]), .inr (0, [some (some 2), some (some 4), some (some 6), some (some 8), some (some 10), none]), .inr (7, [some (some 3)]), .inl 6, .inr (7, [some (some 5)]), .inl 6, .inr (7, [some (some 7)]), .inl 6, .inr (7, [some (some 9)]), .inl 6, .inr (7, [some (some 11)]), .inl 32, .inr (3, [some (some 1), some (some 13), some (some 15), some (some 17), some (some 19), some (some 21), none]), .inr (7, [some (some 14)]), .inl 16, .inr (7, [some (some 16)]), .inl 16, .inr (7, [some (some 18)]), .inl 16, .inr (7, [some (some 20)]), .inl 16, .inr (7, [some (some 22)]), .inl 16, .inr (2, [some (some 24), some (some 26), some (some 28), none]), .inr (7, [some (some 25)]), .inl 8, .inr (7, [some (some 27)]), .inl 8, .inr (7, [some (some 29)]), .inl 8, .inr (8, [some (some 31), some (some 33), some (some 35), none]), .inr (7, [some (some 32)]), .inl 40, .inr (7, [some (some 34)]), .inl 40, .inr (7, [some (some 36)]), .inl 40, .inr (5, [some (some 1), some (some 12), some (some 38), none, none, none, none, none, none]), .inr (7, [some (some 39)]), .inl 4, .inr (4, [some (some 1), some (some 12), some (some 37), some (some 41), none]), .inr (8, [some (some 42), some (some 44), some (some 46), none]), .inr (7, [some (some 43)]), .inl 40, .inr (7, [some (some 45)]), .inl 40, .inr (7, [some (some 47)]), .inl 40, .inr (1, [some (some 49), none, none]), .inr (7, [some (some 50)]), .inl 24, .inr (6, [some (some 52), none, none, none]), .inr (7, [some (some 53)]), .inl 4, .inr (1, [some (some 55), none, none]), .inr (7, [some (some 56)]), .inl 40, .inr (10, [some (some 58), some (some 59), some (some 60), some (some 61), none, some (some 62), none, some (some 63), some (some 64), some (some 65), some (some 66), some (some 67), some (some 68), none, some (some 69), some (some 70), some (some 71), some (some 72), none, none, none, none, none, none, some (some 73), none, some (some 74), some (some 75), some (some 76), some (some 77), none, some (some 78), some (some 79), some (some 80), none, none, some (some 81), some (some 82), none]), .inl 6, .inl 6, .inl 6, .inl 6, .inl 32, .inl 16, .inl 16, .inl 16, .inl 16, .inl 16, .inl 6, .inl 40, .inl 40, .inl 40, .inl 4, .inl 8, .inl 200, .inl 200, .inl 200, .inl 24, .inl 35, .inl 7, .inl 28, .inl 4, .inl 40] : List xS), x_u (x_u (x_u (x_u (x_u (x_u (x_u (x_u (x_u (x_u (x_u (x_u (x_u (x_u (x_u (x_u (x_u (x_u (w2) 65 0 (-9)) 66 0 (-9)) 65 1 (-9)) 66 1 (-9)) 65 2 (-9)) 66 2 (-9)) 65 3 (-9)) 66 3 (-9)) 65 4 (-9)) 66 4 (-9)) 65 5 (-9)) 66 5 (-9)) 65 6 (-9)) 66 6 (-9)) 65 7 (-9)) 66 7 (-9)) 65 8 (-9)) 66 8 (-9)), 0, 0)
    refine And.intro (show ¬ (_ ∨ _) by decide) ?_
    change x_wp _ _ _ _ _ _ 1855 (16, [some (.ref 57), some (.int 9)], [], (([.inr (9, [some (some 1), some (some 12), some (some 23), some (some 30), some (some 37), some (some 40), some (some 48), some (some 51), some (some 54)]), .inr (0, [some (some 2), some (some 4), some (some 6), some (some 8), some (some 10), none]), .inr (7, [some (some 3)]), .inl 6, .inr (7, [some (some 5)]), .inl 6, .inr (7, [some (some 7)]), .inl 6, .inr (7, [some (some 9)]), .inl 6, .inr (7, [some (some 11)]), .inl 32, .inr (3, [some (some 1), some (some 13), some (some 15), some (some 17), some (some 19), some (some 21), none]), .inr (7, [some (some 14)]), .inl 16, .inr (7, [some (some 16)]), .inl 16, .inr (7, [some (some 18)]), .inl 16, .inr (7, [some (some 20)]), .inl 16, .inr (7, [some (some 22)]), .inl 16, .inr (2, [some (some 24), some (some 26), some (some 28), none]), .inr (7, [some (some 25)]), .inl 8, .inr (7, [some (some 27)]), .inl 8, .inr (7, [some (some 29)]), .inl 8, .inr (8, [some (some 31), some (some 33), some (some 35), none]), .inr (7, [some (some 32)]), .inl 40, .inr (7, [some (some 34)]), .inl 40, .inr (7, [some (some 36)]), .inl 40, .inr (5, [some (some 1), some (some 12), some (some 38), none, none, none, none, none, none]), .inr (7, [some (some 39)]), .inl 4, .inr (4, [some (some 1), some (some 12), some (some 37), some (some 41), none]), .inr (8, [some (some 42), some (some 44), some (some 46), none]), .inr (7, [some (some 43)]), .inl 40, .inr (7, [some (some 45)]), .inl 40, .inr (7, [some (some 47)]), .inl 40, .inr (1, [some (some 49), none, none]), .inr (7, [some (some 50)]), .inl 24, .inr (6, [some (some 52), none, none, none]), .inr (7, [some (some 53)]), .inl 4, .inr (1, [some (some 55), none, none]), .inr (7, [some (some 56)]), .inl 40, .inr (10, [some (some 58), some (some 59), some (some 60), some (some 61), none, some (some 62), none, some (some 63), some (some 64), some (some 65), some (some 66), some (some 67), some (some 68), none, some (some 69), some (some 70), some (some 71), some (some 72), none, none, none, none, none, none, some (some 73), none, some (some 74), some (some 75), some (some 76), some (some 77), none, some (some 78), some (some 79), some (some 80), none, none, some (some 81), some (some 82), none]), .inl 6, .inl 6, .inl 6, .inl 6, .inl 32, .inl 16, .inl 16, .inl 16, .inl 16, .inl 16, .inl 6, .inl 40, .inl 40, .inl 40, .inl 4, .inl 8, .inl 200, .inl 200, .inl 200, .inl 24, .inl 35, .inl 7, .inl 28, .inl 4, .inl 40] : List xS), x_u (x_u (x_u (x_u (x_u (x_u (x_u (x_u (x_u (x_u (x_u (x_u (x_u (x_u (x_u (x_u (x_u (x_u (x_u (w2) 65 0 (-9)) 66 0 (-9)) 65 1 (-9)) 66 1 (-9)) 65 2 (-9)) 66 2 (-9)) 65 3 (-9)) 66 3 (-9)) 65 4 (-9)) 66 4 (-9)) 65 5 (-9)) 66 5 (-9)) 65 6 (-9)) 66 6 (-9)) 65 7 (-9)) 66 7 (-9)) 65 8 (-9)) 66 8 (-9)) 65 9 (-9)), 0, 0)
    refine And.intro (show ¬ (_ ∨ _) by decide) ?_
    change x_wp _ _ _ _ _ _ 1850 (24, [some (.ref 57), some (.int 9)], [], (([.inr (9, [some (some 1), some (some 12), some (some 23), some (some 30), some (some 37), some (some 40), some (some 48), some (some 51), some (some 54)]), .inr (0, [some (some 2), some (some 4), some (some 6), some (some 8), some (some 10), none]), .inr (7, [some (some 3)]), .inl 6, .inr (7, [some (some 5)]), .inl 6, .inr (7, [some (some 7)]), .inl 6, .inr (7, [some (some 9)]), .inl 6, .inr (7, [some (some 11)]), .inl 32, .inr (3, [some (some 1), some (some 13), some (some 15), some (some 17), some (some 19), some (some 21), none]), .inr (7, [some (some 14)]), .inl 16, .inr (7, [some (some 16)]), .inl 16, .inr (7, [some (some 18)]), .inl 16, .inr (7, [some (some 20)]), .inl 16, .inr (7, [some (some 22)]), .inl 16, .inr (2, [some (some 24), some (some 26), some (some 28), none]), .inr (7, [some (some 25)]), .inl 8, .inr (7, [some (some 27)]), .inl 8, .inr (7, [some (some 29)]), .inl 8, .inr (8, [some (some 31), some (some 33), some (some 35), none]), .inr (7, [some (some 32)]), .inl 40, .inr (7, [some (some 34)]), .inl 40, .inr (7, [some (some 36)]), .inl 40, .inr (5, [some (some 1), some (some 12), some (some 38), none, none, none, none, none, none]), .inr (7, [some (some 39)]), .inl 4, .inr (4, [some (some 1), some (some 12), some (some 37), some (some 41), none]), .inr (8, [some (some 42), some (some 44), some (some 46), none]), .inr (7, [some (some 43)]), .inl 40, .inr (7, [some (some 45)]), .inl 40, .inr (7, [some (some 47)]), .inl 40, .inr (1, [some (some 49), none, none]), .inr (7, [some (some 50)]), .inl 24, .inr (6, [some (some 52), none, none, none]), .inr (7, [some (some 53)]), .inl 4, .inr (1, [some (some 55), none, none]), .inr (7, [some (some 56)]), .inl 40, .inr (10, [some (some 58), some (some 59), some (some 60), some (some 61), none, some (some 62), none, some (some 63), some (some 64), some (some 65), some (some 66), some (some 67), some (some 68), none, some (some 69), some (some 70), some (some 71), some (some 72), none, none, none, none, none, none, some (some 73), none, some (some 74), some (some 75), some (some 76), some (some 77), none, some (some 78), some (some 79), some (some 80), none, none, some (some 81), some (some 82), none]), .inl 6, .inl 6, .inl 6, .inl 6, .inl 32, .inl 16, .inl 16, .inl 16, .inl 16, .inl 16, .inl 6, .inl 40, .inl 40, .inl 40, .inl 4, .inl 8, .inl 200, .inl 200, .inl 200, .inl 24, .inl 35, .inl 7, .inl 28, .inl 4, .inl 40] : List xS), x_u (x_u (x_u (x_u (x_u (x_u (x_u (x_u (x_u (x_u (x_u (x_u (x_u (x_u (x_u (x_u (x_u (x_u (x_u (x_u (w2) 65 0 (-9)) 66 0 (-9)) 65 1 (-9)) 66 1 (-9)) 65 2 (-9)) 66 2 (-9)) 65 3 (-9)) 66 3 (-9)) 65 4 (-9)) 66 4 (-9)) 65 5 (-9)) 66 5 (-9)) 65 6 (-9)) 66 6 (-9)) 65 7 (-9)) 66 7 (-9)) 65 8 (-9)) 66 8 (-9)) 65 9 (-9)) 66 9 (-9)), 0, 0)
    refine And.intro (fun h => absurd h (by decide)) (fun _ => ?_)
    change x_wp _ _ _ _ _ _ 1845 (8, [some (.ref 57), some (.int 10)], [], (([.inr (9, [some (some 1), some (some 12), some (some 23), some (some 30), some (some 37), some (some 40), some (some 48), some (some 51), some (some 54)]), .inr (0, [some (some 2), some (some 4), some (some 6), some (some 8), some (some 10), none]), .inr (7, [some (some 3)]), .inl 6, .inr (7, [some (some 5)]), .inl 6, .inr (7, [some (some 7)]), .inl 6, .inr (7, [some (some 9)]), .inl 6, .inr (7, [some (some 11)]), .inl 32, .inr (3, [some (some 1), some (some 13), some (some 15), some (some 17), some (some 19), some (some 21), none]), .inr (7, [some (some 14)]), .inl 16, .inr (7, [some (some 16)]), .inl 16, .inr (7, [some (some 18)]), .inl 16, .inr (7, [some (some 20)]), .inl 16, .inr (7, [some (some 22)]), .inl 16, .inr (2, [some (some 24), some (some 26), some (some 28), none]), .inr (7, [some (some 25)]), .inl 8, .inr (7, [some (some 27)]), .inl 8, .inr (7, [some (some 29)]), .inl 8, .inr (8, [some (some 31), some (some 33), some (some 35), none]), .inr (7, [some (some 32)]), .inl 40, .inr (7, [some (some 34)]), .inl 40, .inr (7, [some (some 36)]), .inl 40, .inr (5, [some (some 1), some (some 12), some (some 38), none, none, none, none, none, none]), .inr (7, [some (some 39)]), .inl 4, .inr (4, [some (some 1), some (some 12), some (some 37), some (some 41), none]), .inr (8, [some (some 42), some (some 44), some (some 46), none]), .inr (7, [some (some 43)]), .inl 40, .inr (7, [some (some 45)]), .inl 40, .inr (7, [some (some 47)]), .inl 40, .inr (1, [some (some 49), none, none]), .inr (7, [some (some 50)]), .inl 24, .inr (6, [some (some 52), none, none, none]), .inr (7, [some (some 53)]), .inl 4, .inr (1, [some (some 55), none, none]), .inr (7, [some (some 56)]), .inl 40, .inr (10, [some (some 58), some (some 59), some (some 60), some (some 61), none, some (some 62), none, some (some 63), some (some 64), some (some 65), some (some 66), some (some 67), some (some 68), none, some (some 69), some (some 70), some (some 71), some (some 72), none, none, none, none, none, none, some (some 73), none, some (some 74), some (some 75), some (some 76), some (some 77), none, some (some 78), some (some 79), some (some 80), none, none, some (some 81), some (some 82), none]), .inl 6, .inl 6, .inl 6, .inl 6, .inl 32, .inl 16, .inl 16, .inl 16, .inl 16, .inl 16, .inl 6, .inl 40, .inl 40, .inl 40, .inl 4, .inl 8, .inl 200, .inl 200, .inl 200, .inl 24, .inl 35, .inl 7, .inl 28, .inl 4, .inl 40] : List xS), x_u (x_u (x_u (x_u (x_u (x_u (x_u (x_u (x_u (x_u (x_u (x_u (x_u (x_u (x_u (x_u (x_u (x_u (x_u (x_u (w2) 65 0 (-9)) 66 0 (-9)) 65 1 (-9)) 66 1 (-9)) 65 2 (-9)) 66 2 (-9)) 65 3 (-9)) 66 3 (-9)) 65 4 (-9)) 66 4 (-9)) 65 5 (-9)) 66 5 (-9)) 65 6 (-9)) 66 6 (-9)) 65 7 (-9)) 66 7 (-9)) 65 8 (-9)) 66 8 (-9)) 65 9 (-9)) 66 9 (-9)), 0, 0)
    refine And.intro (show ¬ (_ ∨ _) by decide) ?_
    change x_wp _ _ _ _ _ _ 1840 (16, [some (.ref 57), some (.int 10)], [], (([.inr (9, [some (some 1), some (some 12), some (some 23), some (some 30), some (some 37), some (some 40), some (some 48), some (some 51), some (some 54)]), .inr (0, [some (some 2), some (some 4), some (some 6), some (some 8), some (some 10), none]), .inr (7, [some (some 3)]), .inl 6, .inr (7, [some (some 5)]), .inl 6, .inr (7, [some (some 7)]), .inl 6, .inr (7, [some (some 9)]), .inl 6, .inr (7, [some (some 11)]), .inl 32, .inr (3, [some (some 1), some (some 13), some (some 15), some (some 17), some (some 19), some (some 21), none]), .inr (7, [some (some 14)]), .inl 16, .inr (7, [some (some 16)]), .inl 16, .inr (7, [some (some 18)]), .inl 16, .inr (7, [some (some 20)]), .inl 16, .inr (7, [some (some 22)]), .inl 16, .inr (2, [some (some 24), some (some 26), some (some 28), none]), .inr (7, [some (some 25)]), .inl 8, .inr (7, [some (some 27)]), .inl 8, .inr (7, [some (some 29)]), .inl 8, .inr (8, [some (some 31), some (some 33), some (some 35), none]), .inr (7, [some (some 32)]), .inl 40, .inr (7, [some (some 34)]), .inl 40, .inr (7, [some (some 36)]), .inl 40, .inr (5, [some (some 1), some (some 12), some (some 38), none, none, none, none, none, none]), .inr (7, [some (some 39)]), .inl 4, .inr (4, [some (some 1), some (some 12), some (some 37), some (some 41), none]), .inr (8, [some (some 42), some (some 44), some (some 46), none]), .inr (7, [some (some 43)]), .inl 40, .inr (7, [some (some 45)]), .inl 40, .inr (7, [some (some 47)]), .inl 40, .inr (1, [some (some 49), none, none]), .inr (7, [some (some 50)]), .inl 24, .inr (6, [some (some 52), none, none, none]), .inr (7, [some (some 53)]), .inl 4, .inr (1, [some (some 55), none, none]), .inr (7, [some (some 56)]), .inl 40, .inr (10, [some (some 58), some (some 59), some (some 60), some (some 61), none, some (some 62), none, some (some 63), some (some 64), some (some 65), some (some 66), some (some 67), some (some 68), none, some (some 69), some (some 70), some (some 71), some (some 72), none, none, none, none, none, none, some (some 73), none, some (some 74), some (some 75), some (some 76), some (some 77), none, some (some 78), some (some 79), some (some 80), none, none, some (some 81), some (some 82), none]), .inl 6, .inl 6, .inl 6, .inl 6, .inl 32, .inl 16, .inl 16, .inl 16, .inl 16, .inl 16, .inl 6, .inl 40, .inl 40, .inl 40, .inl 4, .inl 8, .inl 200, .inl 200, .inl 200, .inl 24, .inl 35, .inl 7, .inl 28, .inl 4, .inl 40] : List xS), x_u (x_u (x_u (x_u (x_u (x_u (x_u (x_u (x_u (x_u (x_u (x_u (x_u (x_u (x_u (x_u (x_u (x_u (x_u (x_u (x_u (w2) 65 0 (-9)) 66 0 (-9)) 65 1 (-9)) 66 1 (-9)) 65 2 (-9)) 66 2 (-9)) 65 3 (-9)) 66 3 (-9)) 65 4 (-9)) 66 4 (-9)) 65 5 (-9)) 66 5 (-9)) 65 6 (-9)) 66 6 (-9)) 65 7 (-9)) 66 7 (-9)) 65 8 (-9)) 66 8 (-9)) 65 9 (-9)) 66 9 (-9)) 65 10 (-9)), 0, 0)
    refine And.intro (show ¬ (_ ∨ _) by decide) ?_
    change x_wp _ _ _ _ _ _ 1835 (24, [some (.ref 57), some (.int 10)], [], (([.inr (9, [some (some 1), some (some 12), some (some 23), some (some 30), some (some 37), some (some 40), some (some 48), some (some 51), some (some 54)]), .inr (0, [some (some 2), some (some 4), some (some 6), some (some 8), some (some 10), none]), .inr (7, [some (some 3)]), .inl 6, .inr (7, [some (some 5)]), .inl 6, .inr (7, [some (some 7)]), .inl 6, .inr (7, [some (some 9)]), .inl 6, .inr (7, [some (some 11)]), .inl 32, .inr (3, [some (some 1), some (some 13), some (some 15), some (some 17), some (some 19), some (some 21), none]), .inr (7, [some (some 14)]), .inl 16, .inr (7, [some (some 16)]), .inl 16, .inr (7, [some (some 18)]), .inl 16, .inr (7, [some (some 20)]), .inl 16, .inr (7, [some (some 22)]), .inl 16, .inr (2, [some (some 24), some (some 26), some (some 28), none]), .inr (7, [some (some 25)]), .inl 8, .inr (7, [some (some 27)]), .inl 8, .inr (7, [some (some 29)]), .inl 8, .inr (8, [some (some 31), some (some 33), some (some 35), none]), .inr (7, [some (some 32)]), .inl 40, .inr (7, [some (some 34)]), .inl 40, .inr (7, [some (some 36)]), .inl 40, .inr (5, [some (some 1), some (some 12), some (some 38), none, none, none, none, none, none]), .inr (7, [some (some 39)]), .inl 4, .inr (4, [some (some 1), some (some 12), some (some 37), some (some 41), none]), .inr (8, [some (some 42), some (some 44), some (some 46), none]), .inr (7, [some (some 43)]), .inl 40, .inr (7, [some (some 45)]), .inl 40, .inr (7, [some (some 47)]), .inl 40, .inr (1, [some (some 49), none, none]), .inr (7, [some (some 50)]), .inl 24, .inr (6, [some (some 52), none, none, none]), .inr (7, [some (some 53)]), .inl 4, .inr (1, [some (some 55), none, none]), .inr (7, [some (some 56)]), .inl 40, .inr (10, [some (some 58), some (some 59), some (some 60), some (some 61), none, some (some 62), none, some (some 63), some (some 64), some (some 65), some (some 66), some (some 67), some (some 68), none, some (some 69), some (some 70), some (some 71), some (some 72), none, none, none, none, none, none, some (some 73), none, some (some 74), some (some 75), some (some 76), some (some 77), none, some (some 78), some (some 79), some (some 80), none, none, some (some 81), some (some 82), none]), .inl 6, .inl 6, .inl 6, .inl 6, .inl 32, .inl 16, .inl 16, .inl 16, .inl 16, .inl 16, .inl 6, .inl 40, .inl 40, .inl 40, .inl 4, .inl 8, .inl 200, .inl 200, .inl 200, .inl 24, .inl 35, .inl 7, .inl 28, .inl 4, .inl 40] : List xS), x_u (x_u (x_u (x_u (x_u (x_u (x_u (x_u (x_u (x_u (x_u (x_u (x_u (x_u (x_u (x_u (x_u (x_u (x_u (x_u (x_u (x_u (w2) 65 0 (-9)) 66 0 (-9)) 65 1 (-9)) 66 1 (-9)) 65 2 (-9)) 66 2 (-9)) 65 3 (-9)) 66 3 (-9)) 65 4 (-9)) 66 4 (-9)) 65 5 (-9)) 66 5 (-9)) 65 6 (-9)) 66 6 (-9)) 65 7 (-9)) 66 7 (-9)) 65 8 (-9)) 66 8 (-9)) 65 9 (-9)) 66 9 (-9)) 65 10 (-9)) 66 10 (-9)), 0, 0)
    refine And.intro (fun h => absurd h (by decide)) (fun _ => ?_)
    change x_wp _ _ _ _ _ _ 1830 (8, [some (.ref 57), some (.int 11)], [], (([.inr (9, [some (some 1), some (some 12), some (some 23), some (some 30), some (some 37), some (some 40), some (some 48), some (some 51), some (some 54)]), .inr (0, [some (some 2), some (some 4), some (some 6), some (some 8), some (some 10), none]), .inr (7, [some (some 3)]), .inl 6, .inr (7, [some (some 5)]), .inl 6, .inr (7, [some (some 7)]), .inl 6, .inr (7, [some (some 9)]), .inl 6, .inr (7, [some (some 11)]), .inl 32, .inr (3, [some (some 1), some (some 13), some (some 15), some (some 17), some (some 19), some (some 21), none]), .inr (7, [some (some 14)]), .inl 16, .inr (7, [some (some 16)]), .inl 16, .inr (7, [some (some 18)]), .inl 16, .inr (7, [some (some 20)]), .inl 16, .inr (7, [some (some 22)]), .inl 16, .inr (2, [some (some 24), some (some 26), some (some 28), none]), .inr (7, [some (some 25)]), .inl 8, .inr (7, [some (some 27)]), .inl 8, .inr (7, [some (some 29)]), .inl 8, .inr (8, [some (some 31), some (some 33), some (some 35), none]), .inr (7, [some (some 32)]), .inl 40, .inr (7, [some (some 34)]), .inl 40, .inr (7, [some (some 36)]), .inl 40, .inr (5, [some (some 1), some (some 12), some (some 38), none, none, none, none, none, none]), .inr (7, [some (some 39)]), .inl 4, .inr (4, [some (some 1), some (some 12), some (some 37), some (some 41), none]), .inr (8, [some (some 42), some (some 44), some (some 46), none]), .inr (7, [some (some 43)]), .inl 40, .inr (7, [some (some 45)]), .inl 40, .inr (7, [some (some 47)]), .inl 40, .inr (1, [some (some 49), none, none]), .inr (7, [some (some 50)]), .inl 24, .inr (6, [some (some 52), none, none, none]), .inr (7, [some (some 53)]), .inl 4, .inr (1, [some (some 55), none, none]), .inr (7, [some (some 56)]), .inl 40, .inr (10, [some (some 58), some (some 59), some (some 60), some (some 61), none, some (some 62), none, some (some 63), some (some 64), some (some 65), some (some 66), some (some 67), some (some 68), none, some (some 69), some (some 70), some (some 71), some (some 72), none, none, none, none, none, none, some (some 73), none, some (some 74), some (some 75), some (some 76), some (some 77), none, some (some 78), some (some 79), some (some 80), none, none, some (some 81), some (some 82), none]), .inl 6, .inl 6, .inl 6, .inl 6, .inl 32, .inl 16, .inl 16, .inl 16, .inl 16, .inl 16, .inl 6, .inl 40, .inl 40, .inl 40, .inl 4, .inl 8, .inl 200, .inl 200, .inl 200, .inl 24, .inl 35, .inl 7, .inl 28, .inl 4, .inl 40] : List xS), x_u (x_u (x_u (x_u (x_u (x_u (x_u (x_u (x_u (x_u (x_u (x_u (x_u (x_u (x_u (x_u (x_u (x_u (x_u (x_u (x_u (x_u (w2) 65 0 (-9)) 66 0 (-9)) 65 1 (-9)) 66 1 (-9)) 65 2 (-9)) 66 2 (-9)) 65 3 (-9)) 66 3 (-9)) 65 4 (-9)) 66 4 (-9)) 65 5 (-9)) 66 5 (-9)) 65 6 (-9)) 66 6 (-9)) 65 7 (-9)) 66 7 (-9)) 65 8 (-9)) 66 8 (-9)) 65 9 (-9)) 66 9 (-9)) 65 10 (-9)) 66 10 (-9)), 0, 0)
    refine And.intro (show ¬ (_ ∨ _) by decide) ?_
    change x_wp _ _ _ _ _ _ 1825 (16, [some (.ref 57), some (.int 11)], [], (([.inr (9, [some (some 1), some (some 12), some (some 23), some (some 30), some (some 37), some (some 40), some (some 48), some (some 51), some (some 54)]), .inr (0, [some (some 2), some (some 4), some (some 6), some (some 8), some (some 10), none]), .inr (7, [some (some 3)]), .inl 6, .inr (7, [some (some 5)]), .inl 6, .inr (7, [some (some 7)]), .inl 6, .inr (7, [some (some 9)]), .inl 6, .inr (7, [some (some 11)]), .inl 32, .inr (3, [some (some 1), some (some 13), some (some 15), some (some 17), some (some 19), some (some 21), none]), .inr (7, [some (some 14)]), .inl 16, .inr (7, [some (some 16)]), .inl 16, .inr (7, [some (some 18)]), .inl 16, .inr (7, [some (some 20)]), .inl 16, .inr (7, [some (some 22)]), .inl 16, .inr (2, [some (some 24), some (some 26), some (some 28), none]), .inr (7, [some (some 25)]), .inl 8, .inr (7, [some (some 27)]), .inl 8, .inr (7, [some (some 29)]), .inl 8, .inr (8, [some (some 31), some (some 33), some (some 35), none]), .inr (7, [some (some 32)]), .inl 40, .inr (7, [some (some 34)]), .inl 40, .inr (7, [some (some 36)]), .inl 40, .inr (5, [some (some 1), some (some 12), some (some 38), none, none, none, none, none, none]), .inr (7, [some (some 39)]), .inl 4, .inr (4, [some (some 1), some (some 12), some (some 37), some (some 41), none]), .inr (8, [some (some 42), some (some 44), some (some 46), none]), .inr (7, [some (some 43)]), .inl 40, .inr (7, [some (some 45)]), .inl 40, .inr (7, [some (some 47)]), .inl 40, .inr (1, [some (some 49), none, none]), .inr (7, [some (some 50)]), .inl 24, .inr (6, [some (some 52), none, none, none]), .inr (7, [some (some 53)]), .inl 4, .inr (1, [some (some 55), none, none]), .inr (7, [some (some 56)]), .inl 40, .inr (10, [some (some 58), some (some 59), some (some 60), some (some 61), none, some (some 62), none, some (some 63), some (some 64), some (some 65), some (some 66), some (some 67), some (some 68), none, some (some 69), some (some 70), some (some 71), some (some 72), none, none, none, none, none, none, some (some 73), none, some (some 74), some (some 75), some (some 76), some (some 77), none, some (some 78), some (some 79), some (some 80), none, none, some (some 81), some (some 82), none]), .inl 6, .inl 6, .inl 6, .inl 6, .inl 32, .inl 16, .inl 16, .inl 16, .inl 16, .inl 16, .inl 6, .inl 40, .inl 40, .inl 40, .inl 4, .inl 8, .inl 200, .inl 200, .inl 200, .inl 24, .inl 35, .inl 7, .inl 28, .inl 4, .inl 40] : List xS), x_u (x_u (x_u (x_u (x_u (x_u (x_u (x_u (x_u (x_u (x_u (x_u (x_u (x_u (x_u (x_u (x_u (x_u (x_u (x_u (x_u (x_u (x_u (w2) 65 0 (-9)) 66 0 (-9)) 65 1 (-9)) 66 1 (-9)) 65 2 (-9)) 66 2 (-9)) 65 3 (-9)) 66 3 (-9)) 65 4 (-9)) 66 4 (-9)) 65 5 (-9)) 66 5 (-9)) 65 6 (-9)) 66 6 (-9)) 65 7 (-9)) 66 7 (-9)) 65 8 (-9)) 66 8 (-9)) 65 9 (-9)) 66 9 (-9)) 65 10 (-9)) 66 10 (-9)) 65 11 (-9)), 0, 0)
    refine And.intro (show ¬ (_ ∨ _) by decide) ?_
    change x_wp _ _ _ _ _ _ 1820 (24, [some (.ref 57), some (.int 11)], [], (([.inr (9, [some (some 1), some (some 12), some (some 23), some (some 30), some (some 37), some (some 40), some (some 48), some (some 51), some (some 54)]), .inr (0, [some (some 2), some (some 4), some (some 6), some (some 8), some (some 10), none]), .inr (7, [some (some 3)]), .inl 6, .inr (7, [some (some 5)]), .inl 6, .inr (7, [some (some 7)]), .inl 6, .inr (7, [some (some 9)]), .inl 6, .inr (7, [some (some 11)]), .inl 32, .inr (3, [some (some 1), some (some 13), some (some 15), some (some 17), some (some 19), some (some 21), none]), .inr (7, [some (some 14)]), .inl 16, .inr (7, [some (some 16)]), .inl 16, .inr (7, [some (some 18)]), .inl 16, .inr (7, [some (some 20)]), .inl 16, .inr (7, [some (some 22)]), .inl 16, .inr (2, [some (some 24), some (some 26), some (some 28), none]), .inr (7, [some (some 25)]), .inl 8, .inr (7, [some (some 27)]), .inl 8, .inr (7, [some (some 29)]), .inl 8, .inr (8, [some (some 31), some (some 33), some (some 35), none]), .inr (7, [some (some 32)]), .inl 40, .inr (7, [some (some 34)]), .inl 40, .inr (7, [some (some 36)]), .inl 40, .inr (5, [some (some 1), some (some 12), some (some 38), none, none, none, none, none, none]), .inr (7, [some (some 39)]), .inl 4, .inr (4, [some (some 1), some (some 12), some (some 37), some (some 41), none]), .inr (8, [some (some 42), some (some 44), some (some 46), none]), .inr (7, [some (some 43)]), .inl 40, .inr (7, [some (some 45)]), .inl 40, .inr (7, [some (some 47)]), .inl 40, .inr (1, [some (some 49), none, none]), .inr (7, [some (some 50)]), .inl 24, .inr (6, [some (some 52), none, none, none]), .inr (7, [some (some 53)]), .inl 4, .inr (1, [some (some 55), none, none]), .inr (7, [some (some 56)]), .inl 40, .inr (10, [some (some 58), some (some 59), some (some 60), some (some 61), none, some (some 62), none, some (some 63), some (some 64), some (some 65), some (some 66), some (some 67), some (some 68), none, some (some 69), some (some 70), some (some 71), some (some 72), none, none, none, none, none, none, some (some 73), none, some (some 74), some (some 75), some (some 76), some (some 77), none, some (some 78), some (some 79), some (some 80), none, none, some (some 81), some (some 82), none]), .inl 6, .inl 6, .inl 6, .inl 6, .inl 32, .inl 16, .inl 16, .inl 16, .inl 16, .inl 16, .inl 6, .inl 40, .inl 40, .inl 40, .inl 4, .inl 8, .inl 200, .inl 200, .inl 200, .inl 24, .inl 35, .inl 7, .inl 28, .inl 4, .inl 40] : List xS), x_u (x_u (x_u (x_u (x_u (x_u (x_u (x_u (x_u (x_u (x_u (x_u (x_u (x_u (x_u (x_u (x_u (x_u (x_u (x_u (x_u (x_u (x_u (x_u (w2) 65 0 (-9)) 66 0 (-9)) 65 1 (-9)) 66 1 (-9)) 65 2 (-9)) 66 2 (-9)) 65 3 (-9)) 66 3 (-9)) 65 4 (-9)) 66 4 (-9)) 65 5 (-9)) 66 5 (-9)) 65 6 (-9)) 66 6 (-9)) 65 7 (-9)) 66 7 (-9)) 65 8 (-9)) 66 8 (-9)) 65 9 (-9)) 66 9 (-9)) 65 10 (-9)) 66 10 (-9)) 65 11 (-9)) 66 11 (-9)), 0, 0)
    refine And.intro (fun h => absurd h (by decide)) (fun _ => ?_)
    change x_wp _ _ _ _ _ _ 1815 (8, [some (.ref 57), some (.int 12)], [], (([.inr (9, [some (some 1), some (some 12), some (some 23), some (some 30), some (some 37), some (some 40), some (some 48), some (some 51), some (some 54)]), .inr (0, [some (some 2), some (some 4), some (some 6), some (some 8), some (some 10), none]), .inr (7, [some (some 3)]), .inl 6, .inr (7, [some (some 5)]), .inl 6, .inr (7, [some (some 7)]), .inl 6, .inr (7, [some (some 9)]), .inl 6, .inr (7, [some (some 11)]), .inl 32, .inr (3, [some (some 1), some (some 13), some (some 15), some (some 17), some (some 19), some (some 21), none]), .inr (7, [some (some 14)]), .inl 16, .inr (7, [some (some 16)]), .inl 16, .inr (7, [some (some 18)]), .inl 16, .inr (7, [some (some 20)]), .inl 16, .inr (7, [some (some 22)]), .inl 16, .inr (2, [some (some 24), some (some 26), some (some 28), none]), .inr (7, [some (some 25)]), .inl 8, .inr (7, [some (some 27)]), .inl 8, .inr (7, [some (some 29)]), .inl 8, .inr (8, [some (some 31), some (some 33), some (some 35), none]), .inr (7, [some (some 32)]), .inl 40, .inr (7, [some (some 34)]), .inl 40, .inr (7, [some (some 36)]), .inl 40, .inr (5, [some (some 1), some (some 12), some (some 38), none, none, none, none, none, none]), .inr (7, [some (some 39)]), .inl 4, .inr (4, [some (some 1), some (some 12), some (some 37), some (some 41), none]), .inr (8, [some (some 42), some (some 44), some (some 46), none]), .inr (7, [some (some 43)]), .inl 40, .inr (7, [some (some 45)]), .inl 40, .inr (7, [some (some 47)]), .inl 40, .inr (1, [some (some 49), none, none]), .inr (7, [some (some 50)]), .inl 24, .inr (6, [some (some 52), none, none, none]), .inr (7, [some (some 53)]), .inl 4, .inr (1, [some (some 55), none, none]), .inr (7, [some (some 56)]), .inl 40, .inr (10, [some (some 58), some (some 59), some (some 60), some (some 61), none, some (some 62), none, some (some 63), some (some 64), some (some 65), some (some 66), some (some 67), some (some 68), none, some (some 69), some (some 70), some (some 71), some (some 72), none, none, none, none, none, none, some (some 73), none, some (some 74), some (some 75), some (some 76), some (some 77), none, some (some 78), some (some 79), some (some 80), none, none, some (some 81), some (some 82), none]), .inl 6, .inl 6, .inl 6, .inl 6, .inl 32, .inl 16, .inl 16, .inl 16, .inl 16, .inl 16, .inl 6, .inl 40, .inl 40, .inl 40, .inl 4, .inl 8, .inl 200, .inl 200, .inl 200, .inl 24, .inl 35, .inl 7, .inl 28, .inl 4, .inl 40] : List xS), x_u (x_u (x_u (x_u (x_u (x_u (x_u (x_u (x_u (x_u (x_u (x_u (x_u (x_u (x_u (x_u (x_u (x_u (x_u (x_u (x_u (x_u (x_u (x_u (w2) 65 0 (-9)) 66 0 (-9)) 65 1 (-9)) 66 1 (-9)) 65 2 (-9)) 66 2 (-9)) 65 3 (-9)) 66 3 (-9)) 65 4 (-9)) 66 4 (-9)) 65 5 (-9)) 66 5 (-9)) 65 6 (-9)) 66 6 (-9)) 65 7 (-9)) 66 7 (-9)) 65 8 (-9)) 66 8 (-9)) 65 9 (-9)) 66 9 (-9)) 65 10 (-9)) 66 10 (-9)) 65 11 (-9)) 66 11 (-9)), 0, 0)
    refine And.intro (show ¬ (_ ∨ _) by decide) ?_
    change x_wp _ _ _ _ _ _ 1810 (16, [some (.ref 57), some (.int 12)], [], (([.inr (9, [some (some 1), some (some 12), some (some 23), some (some 30), some (some 37), some (some 40), some (some 48), some (some 51), some (some 54)]), .inr (0, [some (some 2), some (some 4), some (some 6), some (some 8), some (some 10), none]), .inr (7, [some (some 3)]), .inl 6, .inr (7, [some (some 5)]), .inl 6, .inr (7, [some (some 7)]), .inl 6, .inr (7, [some (some 9)]), .inl 6, .inr (7, [some (some 11)]), .inl 32, .inr (3, [some (some 1), some (some 13), some (some 15), some (some 17), some (some 19), some (some 21), none]), .inr (7, [some (some 14)]), .inl 16, .inr (7, [some (some 16)]), .inl 16, .inr (7, [some (some 18)]), .inl 16, .inr (7, [some (some 20)]), .inl 16, .inr (7, [some (some 22)]), .inl 16, .inr (2, [some (some 24), some (some 26), some (some 28), none]), .inr (7, [some (some 25)]), .inl 8, .inr (7, [some (some 27)]), .inl 8, .inr (7, [some (some 29)]), .inl 8, .inr (8, [some (some 31), some (some 33), some (some 35), none]), .inr (7, [some (some 32)]), .inl 40, .inr (7, [some (some 34)]), .inl 40, .inr (7, [some (some 36)]), .inl 40, .inr (5, [some (some 1), some (some 12), some (some 38), none, none, none, none, none, none]), .inr (7, [some (some 39)]), .inl 4, .inr (4, [some (some 1), some (some 12), some (some 37), some (some 41), none]), .inr (8, [some (some 42), some (some 44), some (some 46), none]), .inr (7, [some (some 43)]), .inl 40, .inr (7, [some (some 45)]), .inl 40, .inr (7, [some (some 47)]), .inl 40, .inr (1, [some (some 49), none, none]), .inr (7, [some (some 50)]), .inl 24, .inr (6, [some (some 52), none, none, none]), .inr (7, [some (some 53)]), .inl 4, .inr (1, [some (some 55), none, none]), .inr (7, [some (some 56)]), .inl 40, .inr (10, [some (some 58), some (some 59), some (some 60), some (some 61), none, some (some 62), none, some (some 63), some (some 64), some (some 65), some (some 66), some (some 67), some (some 68), none, some (some 69), some (some 70), some (some 71), some (some 72), none, none, none, none, none, none, some (some 73), none, some (some 74), some (some 75), some (some 76), some (some 77), none, some (some 78), some (some 79), some (some 80), none, none, some (some 81), some (some 82), none]), .inl 6, .inl 6, .inl 6, .inl 6, .inl 32, .inl 16, .inl 16, .inl 16, .inl 16, .inl 16, .inl 6, .inl 40, .inl 40, .inl 40, .inl 4, .inl 8, .inl 200, .inl 200, .inl 200, .inl 24, .inl 35, .inl 7, .inl 28, .inl 4, .inl 40] : List xS), x_u (x_u (x_u (x_u (x_u (x_u (x_u (x_u (x_u (x_u (x_u (x_u (x_u (x_u (x_u (x_u (x_u (x_u (x_u (x_u (x_u (x_u (x_u (x_u (x_u (w2) 65 0 (-9)) 66 0 (-9)) 65 1 (-9)) 66 1 (-9)) 65 2 (-9)) 66 2 (-9)) 65 3 (-9)) 66 3 (-9)) 65 4 (-9)) 66 4 (-9)) 65 5 (-9)) 66 5 (-9)) 65 6 (-9)) 66 6 (-9)) 65 7 (-9)) 66 7 (-9)) 65 8 (-9)) 66 8 (-9)) 65 9 (-9)) 66 9 (-9)) 65 10 (-9)) 66 10 (-9)) 65 11 (-9)) 66 11 (-9)) 65 12 (-9)), 0, 0)
    refine And.intro (show ¬ (_ ∨ _) by decide) ?_
    change x_wp _ _ _ _ _ _ 1805 (24, [some (.ref 57), some (.int 12)], [], (([.inr (9, [some (some 1), some (some 12), some (some 23), some (some 30), some (some 37), some (some 40), some (some 48), some (some 51), some (some 54)]), .inr (0, [some (some 2), some (some 4), some (some 6), some (some 8), some (some 10), none]), .inr (7, [some (some 3)]), .inl 6, .inr (7, [some (some 5)]), .inl 6, .inr (7, [some (some 7)]), .inl 6, .inr (7, [some (some 9)]), .inl 6, .inr (7, [some (some 11)]), .inl 32, .inr (3, [some (some 1), some (some 13), some (some 15), some (some 17), some (some 19), some (some 21), none]), .inr (7, [some (some 14)]), .inl 16, .inr (7, [some (some 16)]), .inl 16, .inr (7, [some (some 18)]), .inl 16, .inr (7, [some (some 20)]), .inl 16, .inr (7, [some (some 22)]), .inl 16, .inr (2, [some (some 24), some (some 26), some (some 28), none]), .inr (7, [some (some 25)]), .inl 8, .inr (7, [some (some 27)]), .inl 8, .inr (7, [some (some 29)]), .inl 8, .inr (8, [some (some 31), some (some 33), some (some 35), none]), .inr (7, [some (some 32)]), .inl 40, .inr (7, [some (some 34)]), .inl 40, .inr (7, [some (some 36)]), .inl 40, .inr (5, [some (some 1), some (some 12), some (some 38), none, none, none, none, none, none]), .inr (7, [some (some 39)]), .inl 4, .inr (4, [some (some 1), some (some 12), some (some 37), some (some 41), none]), .inr (8, [some (some 42), some (some 44), some (some 46), none]), .inr (7, [some (some 43)]), .inl 40, .inr (7, [some (some 45)]), .inl 40, .inr (7, [some (some 47)]), .inl 40, .inr (1, [some (some 49), none, none]), .inr (7, [some (some 50)]), .inl 24, .inr (6, [some (some 52), none, none, none]), .inr (7, [some (some 53)]), .inl 4, .inr (1, [some (some 55), none, none]), .inr (7, [some (some 56)]), .inl 40, .inr (10, [some (some 58), some (some 59), some (some 60), some (some 61), none, some (some 62), none, some (some 63), some (some 64), some (some 65), some (some 66), some (some 67), some (some 68), none, some (some 69), some (some 70), some (some 71), some (some 72), none, none, none, none, none, none, some (some 73), none, some (some 74), some (some 75), some (some 76), some (some 77), none, some (some 78), some (some 79), some (some 80), none, none, some (some 81), some (some 82), none]), .inl 6, .inl 6, .inl 6, .inl 6, .inl 32, .inl 16, .inl 16, .inl 16, .inl 16, .inl 16, .inl 6, .inl 40, .inl 40, .inl 40, .inl 4, .inl 8, .inl 200, .inl 200, .inl 200, .inl 24, .inl 35, .inl 7, .inl 28, .inl 4, .inl 40] : List xS), x_u (x_u (x_u (x_u (x_u (x_u (x_u (x_u (x_u (x_u (x_u (x_u (x_u (x_u (x_u (x_u (x_u (x_u (x_u (x_u (x_u (x_u (x_u (x_u (x_u (x_u (w2) 65 0 (-9)) 66 0 (-9)) 65 1 (-9)) 66 1 (-9)) 65 2 (-9)) 66 2 (-9)) 65 3 (-9)) 66 3 (-9)) 65 4 (-9)) 66 4 (-9)) 65 5 (-9)) 66 5 (-9)) 65 6 (-9)) 66 6 (-9)) 65 7 (-9)) 66 7 (-9)) 65 8 (-9)) 66 8 (-9)) 65 9 (-9)) 66 9 (-9)) 65 10 (-9)) 66 10 (-9)) 65 11 (-9)) 66 11 (-9)) 65 12 (-9)) 66 12 (-9)), 0, 0)
    refine And.intro (fun h => absurd h (by decide)) (fun _ => ?_)
    change x_wp _ _ _ _ _ _ 1800 (8, [some (.ref 57), some (.int 13)], [], (([.inr (9, [some (some 1), some (some 12), some (some 23), some (some 30), some (some 37), some (some 40), some (some 48), some (some 51), some (some 54)]), .inr (0, [some (some 2), some (some 4), some (some 6), some (some 8), some (some 10), none]), .inr (7, [some (some 3)]), .inl 6, .inr (7, [some (some 5)]), .inl 6, .inr (7, [some (some 7)]), .inl 6, .inr (7, [some (some 9)]), .inl 6, .inr (7, [some (some 11)]), .inl 32, .inr (3, [some (some 1), some (some 13), some (some 15), some (some 17), some (some 19), some (some 21), none]), .inr (7, [some (some 14)]), .inl 16, .inr (7, [some (some 16)]), .inl 16, .inr (7, [some (some 18)]), .inl 16, .inr (7, [some (some 20)]), .inl 16, .inr (7, [some (some 22)]), .inl 16, .inr (2, [some (some 24), some (some 26), some (some 28), none]), .inr (7, [some (some 25)]), .inl 8, .inr (7, [some (some 27)]), .inl 8, .inr (7, [some (some 29)]), .inl 8, .inr (8, [some (some 31), some (some 33), some (some 35), none]), .inr (7, [some (some 32)]), .inl 40, .inr (7, [some (some 34)]), .inl 40, .inr (7, [some (some 36)]), .inl 40, .inr (5, [some (some 1), some (some 12), some (some 38), none, none, none, none, none, none]), .inr (7, [some (some 39)]), .inl 4, .inr (4, [some (some 1), some (some 12), some (some 37), some (some 41), none]), .inr (8, [some (some 42), some (some 44), some (some 46), none]), .inr (7, [some (some 43)]), .inl 40, .inr (7, [some (some 45)]), .inl 40, .inr (7, [some (some 47)]), .inl 40, .inr (1, [some (some 49), none, none]), .inr (7, [some (some 50)]), .inl 24, .inr (6, [some (some 52), none, none, none]), .inr (7, [some (some 53)]), .inl 4, .inr (1, [some (some 55), none, none]), .inr (7, [some (some 56)]), .inl 40, .inr (10, [some (some 58), some (some 59), some (some 60), some (some 61), none, some (some 62), none, some (some 63), some (some 64), some (some 65), some (some 66), some (some 67), some (some 68), none, some (some 69), some (some 70), some (some 71), some (some 72), none, none, none, none, none, none, some (some 73), none, some (some 74), some (some 75), some (some 76), some (some 77), none, some (some 78), some (some 79), some (some 80), none, none, some (some 81), some (some 82), none]), .inl 6, .inl 6, .inl 6, .inl 6, .inl 32, .inl 16, .inl 16, .inl 16, .inl 16, .inl 16, .inl 6, .inl 40, .inl 40, .inl 40, .inl 4, .inl 8, .inl 200, .inl 200, .inl 200, .inl 24, .inl 35, .inl 7, .inl 28, .inl 4, .inl 40] : List xS), x_u (x_u (x_u (x_u (x_u (x_u (x_u (x_u (x_u (x_u (x_u (x_u (x_u (x_u (x_u (x_u (x_u (x_u (x_u (x_u (x_u (x_u (x_u (x_u (x_u (x_u (w2) 65 0 (-9)) 66 0 (-9)) 65 1 (-9)) 66 1 (-9)) 65 2 (-9)) 66 2 (-9)) 65 3 (-9)) 66 3 (-9)) 65 4 (-9)) 66 4 (-9)) 65 5 (-9)) 66 5 (-9)) 65 6 (-9)) 66 6 (-9)) 65 7 (-9)) 66 7 (-9)) 65 8 (-9)) 66 8 (-9)) 65 9 (-9)) 66 9 (-9)) 65 10 (-9)) 66 10 (-9)) 65 11 (-9)) 66 11 (-9)) 65 12 (-9)) 66 12 (-9)), 0, 0)
    refine And.intro (show ¬ (_ ∨ _) by decide) ?_
    change x_wp _ _ _ _ _ _ 1795 (16, [some (.ref 57), some (.int 13)], [], (([.inr (9, [some (some 1), some (some 12), some (some 23), some (some 30), some (some 37), some (some 40), some (some 48), some (some 51), some (some 54)]), .inr (0, [some (some 2), some (some 4), some (some 6), some (some 8), some (some 10), none]), .inr (7, [some (some 3)]), .inl 6, .inr (7, [some (some 5)]), .inl 6, .inr (7, [some (some 7)]), .inl 6, .inr (7, [some (some 9)]), .inl 6, .inr (7, [some (some 11)]), .inl 32, .inr (3, [some (some 1), some (some 13), some (some 15), some (some 17), some (some 19), some (some 21), none]), .inr (7, [some (some 14)]), .inl 16, .inr (7, [some (some 16)]), .inl 16, .inr (7, [some (some 18)]), .inl 16, .inr (7, [some (some 20)]), .inl 16, .inr (7, [some (some 22)]), .inl 16, .inr (2, [some (some 24), some (some 26), some (some 28), none]), .inr (7, [some (some 25)]), .inl 8, .inr (7, [some (some 27)]), .inl 8, .inr (7, [some (some 29)]), .inl 8, .inr (8, [some (some 31), some (some 33), some (some 35), none]), .inr (7, [some (some 32)]), .inl 40, .inr (7, [some (some 34)]), .inl 40, .inr (7, [some (some 36)]), .inl 40, .inr (5, [some (some 1), some (some 12), some (some 38), none, none, none, none, none, none]), .inr (7, [some (some 39)]), .inl 4, .inr (4, [some (some 1), some (some 12), some (some 37), some (some 41), none]), .inr (8, [some (some 42), some (some 44), some (some 46), none]), .inr (7, [some (some 43)]), .inl 40, .inr (7, [some (some 45)]), .inl 40, .inr (7, [some (some 47)]), .inl 40, .inr (1, [some (some 49), none, none]), .inr (7, [some (some 50)]), .inl 24, .inr (6, [some (some 52), none, none, none]), .inr (7, [some (some 53)]), .inl 4, .inr (1, [some (some 55), none, none]), .inr (7, [some (some 56)]), .inl 40, .inr (10, [some (some 58), some (some 59), some (some 60), some (some 61), none, some (some 62), none, some (some 63), some (some 64), some (some 65), some (some 66), some (some 67), some (some 68), none, some (some 69), some (some 70), some (some 71), some (some 72), none, none, none, none, none, none, some (some 73), none, some (some 74), some (some 75), some (some 76), some (some 77), none, some (some 78), some (some 79), some (some 80), none, none, some (some 81), some (some 82), none]), .inl 6, .inl 6, .inl 6, .inl 6, .inl 32, .inl 16, .inl 16, .inl 16, .inl 16, .inl 16, .inl 6, .inl 40, .inl 40, .inl 40, .inl 4, .inl 8, .inl 200, .inl 200, .inl 200, .inl 24, .inl 35, .inl 7, .inl 28, .inl 4, .inl 40] : List xS), x_u (x_u (x_u (x_u (x_u (x_u (x_u (x_u (x_u (x_u (x_u (x_u (x_u (x_u (x_u (x_u (x_u (x_u (x_u (x_u (x_u (x_u (x_u (x_u (x_u (x_u (x_u (w2) 65 0 (-9)) 66 0 (-9)) 65 1 (-9)) 66 1 (-9)) 65 2 (-9)) 66 2 (-9)) 65 3 (-9)) 66 3 (-9)) 65 4 (-9)) 66 4 (-9)) 65 5 (-9)) 66 5 (-9)) 65 6 (-9)) 66 6 (-9)) 65 7 (-9)) 66 7 (-9)) 65 8 (-9)) 66 8 (-9)) 65 9 (-9)) 66 9 (-9)) 65 10 (-9)) 66 10 (-9)) 65 11 (-9)) 66 11 (-9)) 65 12 (-9)) 66 12 (-9)) 65 13 (-9)), 0, 0)
    refine And.intro (show ¬ (_ ∨ _) by decide) ?_
    change x_wp _ _ _ _ _ _ 1790 (24, [some (.ref 57), some (.int 13)], [], (([.inr (9, [some (some 1), some (some 12), some (some 23), some (some 30), some (some 37), some (some 40), some (some 48), some (some 51), some (some 54)]), .inr (0, [some (some 2), some (some 4), some (some 6), some (some 8), some (some 10), none]), .inr (7, [some (some 3)]), .inl 6, .inr (7, [some (some 5)]), .inl 6, .inr (7, [some (some 7)]), .inl 6, .inr (7, [some (some 9)]), .inl 6, .inr (7, [some (some 11)]), .inl 32, .inr (3, [some (some 1), some (some 13), some (some 15), some (some 17), some (some 19), some (some 21), none]), .inr (7, [some (some 14)]), .inl 16, .inr (7, [some (some 16)]), .inl 16, .inr (7, [some (some 18)]), .inl 16, .inr (7, [some (some 20)]), .inl 16, .inr (7, [some (some 22)]), .inl 16, .inr (2, [some (some 24), some (some 26), some (some 28), none]), .inr (7, [some (some 25)]), .inl 8, .inr (7, [some (some 27)]), .inl 8, .inr (7, [some (some 29)]), .inl 8, .inr (8, [some (some 31), some (some 33), some (some 35), none]), .inr (7, [some (some 32)]), .inl 40, .inr (7, [some (some 34)]), .inl 40, .inr (7, [some (some 36)]), .inl 40, .inr (5, [some (some 1), some (some 12), some (some 38), none, none, none, none, none, none]), .inr (7, [some (some 39)]), .inl 4, .inr (4, [some (some 1), some (some 12), some (some 37), some (some 41), none]), .inr (8, [some (some 42), some (some 44), some (some 46), none]), .inr (7, [some (some 43)]), .inl 40, .inr (7, [some (some 45)]), .inl 40, .inr (7, [some (some 47)]), .inl 40, .inr (1, [some (some 49), none, none]), .inr (7, [some (some 50)]), .inl 24, .inr (6, [some (some 52), none, none, none]), .inr (7, [some (some 53)]), .inl 4, .inr (1, [some (some 55), none, none]), .inr (7, [some (some 56)]), .inl 40, .inr (10, [some (some 58), some (some 59), some (some 60), some (some 61), none, some (some 62), none, some (some 63), some (some 64), some (some 65), some (some 66), some (some 67), some (some 68), none, some (some 69), some (some 70), some (some 71), some (some 72), none, none, none, none, none, none, some (some 73), none, some (some 74), some (some 75), some (some 76), some (some 77), none, some (some 78), some (some 79), some (some 80), none, none, some (some 81), some (some 82), none]), .inl 6, .inl 6, .inl 6, .inl 6, .inl 32, .inl 16, .inl 16, .inl 16, .inl 16, .inl 16, .inl 6, .inl 40, .inl 40, .inl 40, .inl 4, .inl 8, .inl 200, .inl 200, .inl 200, .inl 24, .inl 35, .inl 7, .inl 28, .inl 4, .inl 40] : List xS), x_u (x_u (x_u (x_u (x_u (x_u (x_u (x_u (x_u (x_u (x_u (x_u (x_u (x_u (x_u (x_u (x_u (x_u (x_u (x_u (x_u (x_u (x_u (x_u (x_u (x_u (x_u (x_u (w2) 65 0 (-9)) 66 0 (-9)) 65 1 (-9)) 66 1 (-9)) 65 2 (-9)) 66 2 (-9)) 65 3 (-9)) 66 3 (-9)) 65 4 (-9)) 66 4 (-9)) 65 5 (-9)) 66 5 (-9)) 65 6 (-9)) 66 6 (-9)) 65 7 (-9)) 66 7 (-9)) 65 8 (-9)) 66 8 (-9)) 65 9 (-9)) 66 9 (-9)) 65 10 (-9)) 66 10 (-9)) 65 11 (-9)) 66 11 (-9)) 65 12 (-9)) 66 12 (-9)) 65 13 (-9)) 66 13 (-9)), 0, 0)
    refine And.intro (fun h => absurd h (by decide)) (fun _ => ?_)
    change x_wp _ _ _ _ _ _ 1785 (8, [some (.ref 57), some (.int 14)], [], (([.inr (9, [some (some 1), some (some 12), some (some 23), some (some 30), some (some 37), some (some 40), some (some 48), some (some 51), some (some 54)]), .inr (0, [some (some 2), some (some 4), some (some 6), some (some 8), some (some 10), none]), .inr (7, [some (some 3)]), .inl 6, .inr (7, [some (some 5)]), .inl 6, .inr (7, [some (some 7)]), .inl 6, .inr (7, [some (some 9)]), .inl 6, .inr (7, [some (some 11)]), .inl 32, .inr (3, [some (some 1), some (some 13), some (some 15), some (some 17), some (some 19), some (some 21), none]), .inr (7, [some (some 14)]), .inl 16, .inr (7, [some (some 16)]), .inl 16, .inr (7, [some (some 18)]), .inl 16, .inr (7, [some (some 20)]), .inl 16, .inr (7, [some (some 22)]), .inl 16, .inr (2, [some (some 24), some (some 26), some (some 28), none]), .inr (7, [some (some 25)]), .inl 8, .inr (7, [some (some 27)]), .inl 8, .inr (7, [some (some 29)]), .inl 8, .inr (8, [some (some 31), some (some 33), some (some 35), none]), .inr (7, [some (some 32)]), .inl 40, .inr (7, [some (some 34)]), .inl 40, .inr (7, [some (some 36)]), .inl 40, .inr (5, [some (some 1), some (some 12), some (some 38), none, none, none, none, none, none]), .inr (7, [some (some 39)]), .inl 4, .inr (4, [some (some 1), some (some 12), some (some 37), some (some 41), none]), .inr (8, [some (some 42), some (some 44), some (some 46), none]), .inr (7, [some (some 43)]), .inl 40, .inr (7, [some (some 45)]), .inl 40, .inr (7, [some (some 47)]), .inl 40, .inr (1, [some (some 49), none, none]), .inr (7, [some (some 50)]), .inl 24, .inr (6, [some (some 52), none, none, none]), .inr (7, [some (some 53)]), .inl 4, .inr (1, [some (some 55), none, none]), .inr (7, [some (some 56)]), .inl 40, .inr (10, [some (some 58), some (some 59), some (some 60), some (some 61), none, some (some 62), none, some (some 63), some (some 64), some (some 65), some (some 66), some (some 67), some (some 68), none, some (some 69), some (some 70), some (some 71), some (some 72), none, none, none, none, none, none, some (some 73), none, some (some 74), some (some 75), some (some 76), some (some 77), none, some (some 78), some (some 79), some (some 80), none, none, some (some 81), some (some 82), none]), .inl 6, .inl 6, .inl 6, .inl 6, .inl 32, .inl 16, .inl 16, .inl 16, .inl 16, .inl 16, .inl 6, .inl 40, .inl 40, .inl 40, .inl 4, .inl 8, .inl 200, .inl 200, .inl 200, .inl 24, .inl 35, .inl 7, .inl 28, .inl 4, .inl 40] : List xS), x_u (x_u (x_u (x_u (x_u (x_u (x_u (x_u (x_u (x_u (x_u (x_u (x_u (x_u (x_u (x_u (x_u (x_u (x_u (x_u (x_u (x_u (x_u (x_u (x_u (x_u (x_u (x_u (w2) 65 0 (-9)) 66 0 (-9)) 65 1 (-9)) 66 1 (-9)) 65 2 (-9)) 66 2 (-9)) 65 3 (-9)) 66 3 (-9)) 65 4 (-9)) 66 4 (-9)) 65 5 (-9)) 66 5 (-9)) 65 6 (-9)) 66 6 (-9)) 65 7 (-9)) 66 7 (-9)) 65 8 (-9)) 66 8 (-9)) 65 9 (-9)) 66 9 (-9)) 65 10 (-9)) 66 10 (-9)) 65 11 (-9)) 66 11 (-9)) 65 12 (-9)) 66 12 (-9)) 65 13 (-9)) 66 13 (-9)), 0, 0)
    refine And.intro (show ¬ (_ ∨ _) by decide) ?_
    change x_wp _ _ _ _ _ _ 1780 (16, [some (.ref 57), some (.int 14)], [], (([.inr (9, [some (some 1), some (some 12), some (some 23), some (some 30), some (some 37), some (some 40), some (some 48), some (some 51), some (some 54)]), .inr (0, [some (some 2), some (some 4), some (some 6), some (some 8), some (some 10), none]), .inr (7, [some (some 3)]), .inl 6, .inr (7, [some (some 5)]), .inl 6, .inr (7, [some (some 7)]), .inl 6, .inr (7, [some (some 9)]), .inl 6, .inr (7, [some (some 11)]), .inl 32, .inr (3, [some (some 1), some (some 13), some (some 15), some (some 17), some (some 19), some (some 21), none]), .inr (7, [some (some 14)]), .inl 16, .inr (7, [some (some 16)]), .inl 16, .inr (7, [some (some 18)]), .inl 16, .inr (7, [some (some 20)]), .inl 16, .inr (7, [some (some 22)]), .inl 16, .inr (2, [some (some 24), some (some 26), some (some 28), none]), .inr (7, [some (some 25)]), .inl 8, .inr (7, [some (some 27)]), .inl 8, .inr (7, [some (some 29)]), .inl 8, .inr (8, [some (some 31), some (some 33), some (some 35), none]), .inr (7, [some (some 32)]), .inl 40, .inr (7, [some (some 34)]), .inl 40, .inr (7, [some (some 36)]), .inl 40, .inr (5, [some (some 1), some (some 12), some (some 38), none, none, none, none, none, none]), .inr (7, [some (some 39)]), .inl 4, .inr (4, [some (some 1), some (some 12), some (some 37), some (some 41), none]), .inr (8, [some (some 42), some (some 44), some (some 46), none]), .inr (7, [some (some 43)]), .inl 40, .inr (7, [some (some 45)]), .inl 40, .inr (7, [some (some 47)]), .inl 40, .inr (1, [some (some 49), none, none]), .inr (7, [some (some 50)]), .inl 24, .inr (6, [some (some 52), none, none, none]), .inr (7, [some (some 53)]), .inl 4, .inr (1, [some (some 55), none, none]), .inr (7, [some (some 56)]), .inl 40, .inr (10, [some (some 58), some (some 59), some (some 60), some (some 61), none, some (some 62), none, some (some 63), some (some 64), some (some 65), some (some 66), some (some 67), some (some 68), none, some (some 69), some (some 70), some (some 71), some (some 72), none, none, none, none, none, none, some (some 73), none, some (some 74), some (some 75), some (some 76), some (some 77), none, some (some 78), some (some 79), some (some 80), none, none, some (some 81), some (some 82), none]), .inl 6, .inl 6, .inl 6, .inl 6, .inl 32, .inl 16, .inl 16, .inl 16, .inl 16, .inl 16, .inl 6, .inl 40, .inl 40, .inl 40, .inl 4, .inl 8, .inl 200, .inl 200, .inl 200, .inl 24, .inl 35, .inl 7, .inl 28, .inl 4, .inl 40] : List xS), x_u (x_u (x_u (x_u (x_u (x_u (x_u (x_u (x_u (x_u (x_u (x_u (x_u (x_u (x_u (x_u (x_u (x_u (x_u (x_u (x_u (x_u (x_u (x_u (x_u (x_u (x_u (x_u (x_u (w2) 65 0 (-9)) 66 0 (-9)) 65 1 (-9)) 66 1 (-9)) 65 2 (-9)) 66 2 (-9)) 65 3 (-9)) 66 3 (-9)) 65 4 (-9)) 66 4 (-9)) 65 5 (-9)) 66 5 (-9)) 65 6 (-9)) 66 6 (-9)) 65 7 (-9)) 66 7 (-9)) 65 8 (-9)) 66 8 (-9)) 65 9 (-9)) 66 9 (-9)) 65 10 (-9)) 66 10 (-9)) 65 11 (-9)) 66 11 (-9)) 65 12 (-9)) 66 12 (-9)) 65 13 (-9)) 66 13 (-9)) 65 14 (-9)), 0, 0)
    refine And.intro (show ¬ (_ ∨ _) by decide) ?_
    change x_wp _ _ _ _ _ _ 1775 (24, [some (.ref 57), some (.int 14)], [], (([.inr (9, [some (some 1), some (some 12), some (some 23), some (some 30), some (some 37), some (some 40), some (some 48), some (some 51), some (some 54)]), .inr (0, [some (some 2), some (some 4), some (some 6), some (some 8), some (some 10), none]), .inr (7, [some (some 3)]), .inl 6, .inr (7, [some (some 5)]), .inl 6, .inr (7, [some (some 7)]), .inl 6, .inr (7, [some (some 9)]), .inl 6, .inr (7, [some (some 11)]), .inl 32, .inr (3, [some (some 1), some (some 13), some (some 15), some (some 17), some (some 19), some (some 21), none]), .inr (7, [some (some 14)]), .inl 16, .inr (7, [some (some 16)]), .inl 16, .inr (7, [some (some 18)]), .inl 16, .inr (7, [some (some 20)]), .inl 16, .inr (7, [some (some 22)]), .inl 16, .inr (2, [some (some 24), some (some 26), some (some 28), none]), .inr (7, [some (some 25)]), .inl 8, .inr (7, [some (some 27)]), .inl 8, .inr (7, [some (some 29)]), .inl 8, .inr (8, [some (some 31), some (some 33), some (some 35), none]), .inr (7, [some (some 32)]), .inl 40, .inr (7, [some (some 34)]), .inl 40, .inr (7, [some (some 36)]), .inl 40, .inr (5, [some (some 1), some (some 12), some (some 38), none, none, none, none, none, none]), .inr (7, [some (some 39)]), .inl 4, .inr (4, [some (some 1), some (some 12), some (some 37), some (some 41), none]), .inr (8, [some (some 42), some (some 44), some (some 46), none]), .inr (7, [some (some 43)]), .inl 40, .inr (7, [some (some 45)]), .inl 40, .inr (7, [some (some 47)]), .inl 40, .inr (1, [some (some 49), none, none]), .inr (7, [some (some 50)]), .inl 24, .inr (6, [some (some 52), none, none, none]), .inr (7, [some (some 53)]), .inl 4, .inr (1, [some (some 55), none, none]), .inr (7, [some (some 56)]), .inl 40, .inr (10, [some (some 58), some (some 59), some (some 60), some (some 61), none, some (some 62), none, some (some 63), some (some 64), some (some 65), some (some 66), some (some 67), some (some 68), none, some (some 69), some (some 70), some (some 71), some (some 72), none, none, none, none, none, none, some (some 73), none, some (some 74), some (some 75), some (some 76), some (some 77), none, some (some 78), some (some 79), some (some 80), none, none, some (some 81), some (some 82), none]), .inl 6, .inl 6, .inl 6, .inl 6, .inl 32, .inl 16, .inl 16, .inl 16, .inl 16, .inl 16, .inl 6, .inl 40, .inl 40, .inl 40, .inl 4, .inl 8, .inl 200, .inl 200, .inl 200, .inl 24, .inl 35, .inl 7, .inl 28, .inl 4, .inl 40] : List xS), x_u (x_u (x_u (x_u (x_u (x_u (x_u (x_u (x_u (x_u (x_u (x_u (x_u (x_u (x_u (x_u (x_u (x_u (x_u (x_u (x_u (x_u (x_u (x_u (x_u (x_u (x_u (x_u (x_u (x_u (w2) 65 0 (-9)) 66 0 (-9)) 65 1 (-9)) 66 1 (-9)) 65 2 (-9)) 66 2 (-9)) 65 3 (-9)) 66 3 (-9)) 65 4 (-9)) 66 4 (-9)) 65 5 (-9)) 66 5 (-9)) 65 6 (-9)) 66 6 (-9)) 65 7 (-9)) 66 7 (-9)) 65 8 (-9)) 66 8 (-9)) 65 9 (-9)) 66 9 (-9)) 65 10 (-9)) 66 10 (-9)) 65 11 (-9)) 66 11 (-9)) 65 12 (-9)) 66 12 (-9)) 65 13 (-9)) 66 13 (-9)) 65 14 (-9)) 66 14 (-9)), 0, 0)
    refine And.intro (fun h => absurd h (by decide)) (fun _ => ?_)
    change x_wp _ _ _ _ _ _ 1770 (8, [some (.ref 57), some (.int 15)], [], (([.inr (9, [some (some 1), some (some 12), some (some 23), some (some 30), some (some 37), some (some 40), some (some 48), some (some 51), some (some 54)]), .inr (0, [some (some 2), some (some 4), some (some 6), some (some 8), some (some 10), none]), .inr (7, [some (some 3)]), .inl 6, .inr (7, [some (some 5)]), .inl 6, .inr (7, [some (some 7)]), .inl 6, .inr (7, [some (some 9)]), .inl 6, .inr (7, [some (some 11)]), .inl 32, .inr (3, [some (some 1), some (some 13), some (some 15), some (some 17), some (some 19), some (some 21), none]), .inr (7, [some (some 14)]), .inl 16, .inr (7, [some (some 16)]), .inl 16, .inr (7, [some (some 18)]), .inl 16, .inr (7, [some (some 20)]), .inl 16, .inr (7, [some (some 22)]), .inl 16, .inr (2, [some (some 24), some (some 26), some (some 28), none]), .inr (7, [some (some 25)]), .inl 8, .inr (7, [some (some 27)]), .inl 8, .inr (7, [some (some 29)]), .inl 8, .inr (8, [some (some 31), some (some 33), some (some 35), none]), .inr (7, [some (some 32)]), .inl 40, .inr (7, [some (some 34)]), .inl 40, .inr (7, [some (some 36)]), .inl 40, .inr (5, [some (some 1), some (some 12), some (some 38), none, none, none, none, none, none]), .inr (7, [some (some 39)]), .inl 4, .inr (4, [some (some 1), some (some 12), some (some 37), some (some 41), none]), .inr (8, [some (some 42), some (some 44), some (some 46), none]), .inr (7, [some (some 43)]), .inl 40, .inr (7, [some (some 45)]), .inl 40, .inr (7, [some (some 47)]), .inl 40, .inr (1, [some (some 49), none, none]), .inr (7, [some (some 50)]), .inl 24, .inr (6, [some (some 52), none, none, none]), .inr (7, [some (some 53)]), .inl 4, .inr (1, [some (some 55), none, none]), .inr (7, [some (some 56)]), .inl 40, .inr (10, [some (some 58), some (some 59), some (some 60), some (some 61), none, some (some 62), none, some (some 63), some (some 64), some (some 65), some (some 66), some (some 67), some (some 68), none, some (some 69), some (some 70), some (some 71), some (some 72), none, none, none, none, none, none, some (some 73), none, some (some 74), some (some 75), some (some 76), some (some 77), none, some (some 78), some (some 79), some (some 80), none, none, some (some 81), some (some 82), none]), .inl 6, .inl 6, .inl 6, .inl 6, .inl 32, .inl 16, .inl 16, .inl 16, .inl 16, .inl 16, .inl 6, .inl 40, .inl 40, .inl 40, .inl 4, .inl 8, .inl 200, .inl 200, .inl 200, .inl 24, .inl 35, .inl 7, .inl 28, .inl 4, .inl 40] : List xS), x_u (x_u (x_u (x_u (x_u (x_u (x_u (x_u (x_u (x_u (x_u (x_u (x_u (x_u (x_u (x_u (x_u (x_u (x_u (x_u (x_u (x_u (x_u (x_u (x_u (x_u (x_u (x_u (x_u (x_u (w2) 65 0 (-9)) 66 0 (-9)) 65 1 (-9)) 66 1 (-9)) 65 2 (-9)) 66 2 (-9)) 65 3 (-9)) 66 3 (-9)) 65 4 (-9)) 66 4 (-9)) 65 5 (-9)) 66 5 (-9)) 65 6 (-9)) 66 6 (-9)) 65 7 (-9)) 66 7 (-9)) 65 8 (-9)) 66 8 (-9)) 65 9 (-9)) 66 9 (-9)) 65 10 (-9)) 66 10 (-9)) 65 11 (-9)) 66 11 (-9)) 65 12 (-9)) 66 12 (-9)) 65 13 (-9)) 66 13 (-9)) 65 14 (-9)) 66 14 (-9)), 0, 0)
    refine And.intro (show ¬ (_ ∨ _) by decide) ?_
    change x_wp _ _ _ _ _ _ 1765 (16, [some (.ref 57), some (.int 15)], [], (([.inr (9, [some (some 1), some (some 12), some (some 23), some (some 30), some (some 37), some (some 40), some (some 48), some (some 51), some (some 54)]), .inr (0, [some (some 2), some (some 4), some (some 6), some (some 8), some (some 10), none]), .inr (7, [some (some 3)]), .inl 6, .inr (7, [some (some 5)]), .inl 6, .inr (7, [some (some 7)]), .inl 6, .inr (7, [some (some 9)]), .inl 6, .inr (7, [some (some 11)]), .inl 32, .inr (3, [some (some 1), some (some 13), some (some 15), some (some 17), some (some 19), some (some 21), none]), .inr (7, [some (some 14)]), .inl 16, .inr (7, [some (some 16)]), .inl 16, .inr (7, [some (some 18)]), .inl 16, .inr (7, [some (some 20)]), .inl 16, .inr (7, [some (some 22)]), .inl 16, .inr (2, [some (some 24), some (some 26), some (some 28), none]), .inr (7, [some (some 25)]), .inl 8, .inr (7, [some (some 27)]), .inl 8, .inr (7, [some (some 29)]), .inl 8, .inr (8, [some (some 31), some (some 33), some (some 35), none]), .inr (7, [some (some 32)]), .inl 40, .inr (7, [some (some 34)]), .inl 40, .inr (7, [some (some 36)]), .inl 40, .inr (5, [some (some 1), some (some 12), some (some 38), none, none, none, none, none, none]), .inr (7, [some (some 39)]), .inl 4, .inr (4, [some (some 1), some (some 12), some (some 37), some (some 41), none]), .inr (8, [some (some 42), some (some 44), some (some 46), none]), .inr (7, [some (some 43)]), .inl 40, .inr (7, [some (some 45)]), .inl 40, .inr (7, [some (some 47)]), .inl 40, .inr (1, [some (some 49), none, none]), .inr (7, [some (some 50)]), .inl 24, .inr (6, [some (some 52), none, none, none]), .inr (7, [some (some 53)]), .inl 4, .inr (1, [some (some 55), none, none]), .inr (7, [some (some 56)]), .inl 40, .inr (10, [some (some 58), some (some 59), some (some 60), some (some 61), none, some (some 62), none, some (some 63), some (some 64), some (some 65), some (some 66), some (some 67), some (some 68), none, some (some 69), some (some 70), some (some 71), some (some 72), none, none, none, none, none, none, some (some 73), none, some (some 74), some (some 75), some (some 76), some (some 77), none, some (some 78), some (some 79), some (some 80), none, none, some (some 81), some (some 82), none]), .inl 6, .inl 6, .inl 6, .inl 6, .inl 32, .inl 16, .inl 16, .inl 16, .inl 16, .inl 16, .inl 6, .inl 40, .inl 40, .inl 40, .inl 4, .inl 8, .inl 200, .inl 200, .inl 200, .inl 24, .inl 35, .inl 7, .inl 28, .inl 4, .inl 40] : List xS), x_u (x_u (x_u (x_u (x_u (x_u (x_u (x_u (x_u (x_u (x_u (x_u (x_u (x_u (x_u (x_u (x_u (x_u (x_u (x_u (x_u (x_u (x_u (x_u (x_u (x_u (x_u (x_u (x_u (x_u (x_u (w2) 65 0 (-9)) 66 0 (-9)) 65 1 (-9)) 66 1 (-9)) 65 2 (-9)) 66 2 (-9)) 65 3 (-9)) 66 3 (-9)) 65 4 (-9)) 66 4 (-9)) 65 5 (-9)) 66 5 (-9)) 65 6 (-9)) 66 6 (-9)) 65 7 (-9)) 66 7 (-9)) 65 8 (-9)) 66 8 (-9)) 65 9 (-9)) 66 9 (-9)) 65 10 (-9)) 66 10 (-9)) 65 11 (-9)) 66 11 (-9)) 65 12 (-9)) 66 12 (-9)) 65 13 (-9)) 66 13 (-9)) 65 14 (-9)) 66 14 (-9)) 65 15 (-9)), 0, 0)
    refine And.intro (show ¬ (_ ∨ _) by decide) ?_
    change x_wp _ _ _ _ _ _ 1760 (24, [some (.ref 57), some (.int 15)], [], (([.inr (9, [some (some 1), some (some 12), some (some 23), some (some 30), some (some 37), some (some 40), some (some 48), some (some 51), some (some 54)]), .inr (0, [some (some 2), some (some 4), some (some 6), some (some 8), some (some 10), none]), .inr (7, [some (some 3)]), .inl 6, .inr (7, [some (some 5)]), .inl 6, .inr (7, [some (some 7)]), .inl 6, .inr (7, [some (some 9)]), .inl 6, .inr (7, [some (some 11)]), .inl 32, .inr (3, [some (some 1), some (some 13), some (some 15), some (some 17), some (some 19), some (some 21), none]), .inr (7, [some (some 14)]), .inl 16, .inr (7, [some (some 16)]), .inl 16, .inr (7, [some (some 18)]), .inl 16, .inr (7, [some (some 20)]), .inl 16, .inr (7, [some (some 22)]), .inl 16, .inr (2, [some (some 24), some (some 26), some (some 28), none]), .inr (7, [some (some 25)]), .inl 8, .inr (7, [some (some 27)]), .inl 8, .inr (7, [some (some 29)]), .inl 8, .inr (8, [some (some 31), some (some 33), some (some 35), none]), .inr (7, [some (some 32)]), .inl 40, .inr (7, [some (some 34)]), .inl 40, .inr (7, [some (some 36)]), .inl 40, .inr (5, [some (some 1), some (some 12), some (some 38), none, none, none, none, none, none]), .inr (7, [some (some 39)]), .inl 4, .inr (4, [some (some 1), some (some 12), some (some 37), some (some 41), none]), .inr (8, [some (some 42), some (some 44), some (some 46), none]), .inr (7, [some (some 43)]), .inl 40, .inr (7, [some (some 45)]), .inl 40, .inr (7, [some (some 47)]), .inl 40, .inr (1, [some (some 49), none, none]), .inr (7, [some (some 50)]), .inl 24, .inr (6, [some (some 52), none, none, none]), .inr (7, [some (some 53)]), .inl 4, .inr (1, [some (some 55), none, none]), .inr (7, [some (some 56)]), .inl 40, .inr (10, [some (some 58), some (some 59), some (some 60), some (some 61), none, some (some 62), none, some (some 63), some (some 64), some (some 65), some (some 66), some (some 67), some (some 68), none, some (some 69), some (some 70), some (some 71), some (some 72), none, none, none, none, none, none, some (some 73), none, some (some 74), some (some 75), some (some 76), some (some 77), none, some (some 78), some (some 79), some (some 80), none, none, some (some 81), some (some 82), none]), .inl 6, .inl 6, .inl 6, .inl 6, .inl 32, .inl 16, .inl 16, .inl 16, .inl 16, .inl 16, .inl 6, .inl 40, .inl 40, .inl 40, .inl 4, .inl 8, .inl 200, .inl 200, .inl 200, .inl 24, .inl 35, .inl 7, .inl 28, .inl 4, .inl 40] : List xS), x_u (x_u (x_u (x_u (x_u (x_u (x_u (x_u (x_u (x_u (x_u (x_u (x_u (x_u (x_u (x_u (x_u (x_u (x_u (x_u (x_u (x_u (x_u (x_u (x_u (x_u (x_u (x_u (x_u (x_u (x_u (x_u (w2) 65 0 (-9)) 66 0 (-9)) 65 1 (-9)) 66 1 (-9)) 65 2 (-9)) 66 2 (-9)) 65 3 (-9)) 66 3 (-9)) 65 4 (-9)) 66 4 (-9)) 65 5 (-9)) 66 5 (-9)) 65 6 (-9)) 66 6 (-9)) 65 7 (-9)) 66 7 (-9)) 65 8 (-9)) 66 8 (-9)) 65 9 (-9)) 66 9 (-9)) 65 10 (-9)) 66 10 (-9)) 65 11 (-9)) 66 11 (-9)) 65 12 (-9)) 66 12 (-9)) 65 13 (-9)) 66 13 (-9)) 65 14 (-9)) 66 14 (-9)) 65 15 (-9)) 66 15 (-9)), 0, 0)
    refine And.intro (fun _ => ?_) (fun h => absurd (by decide) h)
    change x_wp _ _ _ _ _ _ 1755 (30, [some (.ref 57), some (.int 16)], [], (([.inr (9, [some (some 1), some (some 12), some (some 23), some (some 30), some (some 37), some (some 40), some (some 48), some (some 51), some (some 54)]), .inr (0, [some (some 2), some (some 4), some (some 6), some (some 8), some (some 10), none]), .inr (7, [some (some 3)]), .inl 6, .inr (7, [some (some 5)]), .inl 6, .inr (7, [some (some 7)]), .inl 6, .inr (7, [some (some 9)]), .inl 6, .inr (7, [some (some 11)]), .inl 32, .inr (3, [some (some 1), some (some 13), some (some 15), some (some 17), some (some 19), some (some 21), none]), .inr (7, [some (some 14)]), .inl 16, .inr (7, [some (some 16)]), .inl 16, .inr (7, [some (some 18)]), .inl 16, .inr (7, [some (some 20)]), .inl 16, .inr (7, [some (some 22)]), .inl 16, .inr (2, [some (some 24), some (some 26), some (some 28), none]), .inr (7, [some (some 25)]), .inl 8, .inr (7, [some (some 27)]), .inl 8, .inr (7, [some (some 29)]), .inl 8, .inr (8, [some (some 31), some (some 33), some (some 35), none]), .inr (7, [some (some 32)]), .inl 40, .inr (7, [some (some 34)]), .inl 40, .inr (7, [some (some 36)]), .inl 40, .inr (5, [some (some 1), some (some 12), some (some 38), none, none, none, none, none, none]), .inr (7, [some (some 39)]), .inl 4, .inr (4, [some (some 1), some (some 12), some (some 37), some (some 41), none]), .inr (8, [some (some 42), some (some 44), some (some 46), none]), .inr (7, [some (some 43)]), .inl 40, .inr (7, [some (some 45)]), .inl 40, .inr (7, [some (some 47)]), .inl 40, .inr (1, [some (some 49), none, none]), .inr (7, [some (some 50)]), .inl 24, .inr (6, [some (some 52), none, none, none]), .inr (7, [some (some 53)]), .inl 4, .inr (1, [some (some 55), none, none]), .inr (7, [some (some 56)]), .inl 40, .inr (10, [some (some 58), some (some 59), some (some 60), some (some 61), none, some (some 62), none, some (some 63), some (some 64), some (some 65), some (some 66), some (some 67), some (some 68), none, some (some 69), some (some 70), some (some 71), some (some 72), none, none, none, none, none, none, some (some 73), none, some (some 74), some (some 75), some (some 76), some (some 77), none, some (some 78), some (some 79), some (some 80), none, none, some (some 81), some (some 82), none]), .inl 6, .inl 6, .inl 6, .inl 6, .inl 32, .inl 16, .inl 16, .inl 16, .inl 16, .inl 16, .inl 6, .inl 40, .inl 40, .inl 40, .inl 4, .inl 8, .inl 200, .inl 200, .inl 200, .inl 24, .inl 35, .inl 7, .inl 28, .inl 4, .inl 40] : List xS), x_u (x_u (x_u (x_u (x_u (x_u (x_u (x_u (x_u (x_u (x_u (x_u (x_u (x_u (x_u (x_u (x_u (x_u (x_u (x_u (x_u (x_u (x_u (x_u (x_u (x_u (x_u (x_u (x_u (x_u (x_u (x_u (w2) 65 0 (-9)) 66 0 (-9)) 65 1 (-9)) 66 1 (-9)) 65 2 (-9)) 66 2 (-9)) 65 3 (-9)) 66 3 (-9)) 65 4 (-9)) 66 4 (-9)) 65 5 (-9)) 66 5 (-9)) 65 6 (-9)) 66 6 (-9)) 65 7 (-9)) 66 7 (-9)) 65 8 (-9)) 66 8 (-9)) 65 9 (-9)) 66 9 (-9)) 65 10 (-9)) 66 10 (-9)) 65 11 (-9)) 66 11 (-9)) 65 12 (-9)) 66 12 (-9)) 65 13 (-9)) 66 13 (-9)) 65 14 (-9)) 66 14 (-9)) 65 15 (-9)) 66 15 (-9)), 0, 0)
    exact ⟨Nat.le_of_ble_eq_true rfl, Nat.le_of_ble_eq_true rfl, rfl, rfl⟩
  · cases hr
def sms_11 : List (Nat × xSm) := (124, sm_X10_noGuards) :: sms_10
theorem vss_11 : ∀ q ∈ sms_11, x_VS q := List.forall_mem_cons.mpr ⟨vs_X10_noGuards, vss_10⟩
def sb_X10_init_0 : List xS := [.inr (9, [some (some 1), some (some 12), some (some 23), some (some 30), some (some 37), some (some 40), some (some 48), some (some 51), some (some 54)]), .inr (0, [some (some 2), some (some 4), some (some 6), some (some 8), some (some 10), none]), .inr (7, [some (some 3)]), .inl 6, .inr (7, [some (some 5)]), .inl 6, .inr (7, [some (some 7)]), .inl 6, .inr (7, [some (some 9)]), .inl 6, .inr (7, [some (some 11)]), .inl 32, .inr (3, [some (some 1), some (some 13), some (some 15), some (some 17), some (some 19), some (some 21), none]), .inr (7, [some (some 14)]), .inl 16, .inr (7, [some (some 16)]), .inl 16, .inr (7, [some (some 18)]), .inl 16, .inr (7, [some (some 20)]), .inl 16, .inr (7, [some (some 22)]), .inl 16, .inr (2, [some (some 24), some (some 26), some (some 28), none]), .inr (7, [some (some 25)]), .inl 8, .inr (7, [some (some 27)]), .inl 8, .inr (7, [some (some 29)]), .inl 8, .inr (8, [some (some 31), some (some 33), some (some 35), none]), .inr (7, [some (some 32)]), .inl 40, .inr (7, [some (some 34)]), .inl 40, .inr (7, [some (some 36)]), .inl 40, .inr (5, [some (some 1), some (some 12), some (some 38), none, none, none, none, none, none]), .inr (7, [some (some 39)]), .inl 4, .inr (4, [some (some 1), some (some 12), some (some 37), some (some 41), none]), .inr (8, [some (some 42), some (some 44), some (some 46), none]), .inr (7, [some (some 43)]), .inl 40, .inr (7, [some (some 45)]), .inl 40, .inr (7, [some (some 47)]), .inl 40, .inr (1, [some (some 49), none, none]), .inr (7, [some (some 50)]), .inl 24, .inr (6, [some (some 52), none, none, none]), .inr (7, [some (some 53)]), .inl 4, .inr (1, [some (some 55), none, none]), .inr (7, [some (some 56)]), .inl 40, .inr (10, [some none, some none, some none, some none, none, some none, none, some none, some none, some none, some none, some none, some none, none, some none, some none, some none, some none, none, none, none, none, none, none, some none, none, some none, some none, some none, some none, none, some none, some none, some none, none, none, some none, some none, none])]
def sa_X10_init_0 : List xS := [.inr (9, [some (some 1), some (some 12), some (some 23), some (some 30), some (some 37), some (some 40), some (some 48), some (some 51), some (some 54)]), .inr (0, [some (some 2), some (some 4), some (some 6), some (some 8), some (some 10), none]), .inr (7, [some (some 3)]), .inl 6, .inr (7, [some (some 5)]), .inl 6, .inr (7, [some (some 7)]), .inl 6, .inr (7, [some (some 9)]), .inl 6, .inr (7, [some (some 11)]), .inl 32, .inr (3, [some (some 1), some (some 13), some (some 15), some (some 17), some (some 19), some (some 21), none]), .inr (7, [some (some 14)]), .inl 16, .inr (7, [some (some 16)]), .inl 16, .inr (7, [some (some 18)]), .inl 16, .inr (7, [some (some 20)]), .inl 16, .inr (7, [some (some 22)]), .inl 16, .inr (2, [some (some 24), some (some 26), some (some 28), none]), .inr (7, [some (some 25)]), .inl 8, .inr (7, [some (some 27)]), .inl 8, .inr (7, [some (some 29)]), .inl 8, .inr (8, [some (some 31), some (some 33), some (some 35), none]), .inr (7, [some (some 32)]), .inl 40, .inr (7, [some (some 34)]), .inl 40, .inr (7, [some (some 36)]), .inl 40, .inr (5, [some (some 1), some (some 12), some (some 38), none, none, none, none, none, none]), .inr (7, [some (some 39)]), .inl 4, .inr (4, [some (some 1), some (some 12), some (some 37), some (some 41), none]), .inr (8, [some (some 42), some (some 44), some (some 46), none]), .inr (7, [some (some 43)]), .inl 40, .inr (7, [some (some 45)]), .inl 40, .inr (7, [some (some 47)]), .inl 40, .inr (1, [some (some 49), none, none]), .inr (7, [some (some 50)]), .inl 24, .inr (6, [some (some 52), none, none, none]), .inr (7, [some (some 53)]), .inl 4, .inr (1, [some (some 55), none, none]), .inr (7, [some (some 56)]), .inl 40, .inr (10, [some (some 58), some (some 59), some (some 60), some (some 61), none, some (some 62), none, some (some 63), some (some 64), some (some 65), some (some 66), some (some 67), some (some 68), none, some (some 69), some (some 70), some (some 71), some (some 72), none, none, none, none, none, none, some (some 73), none, some (some 74), some (some 75), some (some 76), some (some 77), none, some (some 78), some (some 79), some (some 80), none, none, some (some 81), some (some 82), none]), .inl 6, .inl 6, .inl 6, .inl 6, .inl 32, .inl 16, .inl 16, .inl 16, .inl 16, .inl 16, .inl 6, .inl 40, .inl 40, .inl 40, .inl 4, .inl 8, .inl 200, .inl 200, .inl 200, .inl 24, .inl 35, .inl 7, .inl 28, .inl 4, .inl 40]
def sg_X10_init_0 (σ : Nat → Nat → Int32) : Nat → Nat → Int32 := x_u (x_u (x_u (x_u (x_u (x_u (x_u (x_u (x_u (x_u (x_u (x_u (x_u (x_u (x_u (x_u (x_u (x_u (x_u (x_u (x_u (x_u (x_u (x_u (x_u (x_u (x_u (x_u (x_u (x_u (x_u (x_u (x_z (x_z (x_u (x_u (x_u (x_u (x_u (x_u (x_u (x_u (x_u (x_u (x_u (x_u (x_u (x_u (x_u (x_u (x_u (x_u (x_u (x_u (x_u (x_u (x_u (x_u (x_u (x_u (x_u (x_u (x_z (x_u (x_u (x_u (x_u (x_u (x_u (x_u (x_z (x_u (x_u (x_u (x_u (x_u (x_u (x_u (x_u (x_u (x_u (x_u (x_u (x_u (x_u (x_u (x_u (x_u (x_u (x_u (x_u (x_u (x_u (x_u (x_u (x_u (x_u (x_u (x_u (x_u (x_u (x_u (x_u (x_u (x_u (x_u (x_z (x_z (x_z (x_z (x_z (x_z (x_z (x_z (x_z (x_z (x_z (x_z (x_z (x_z (x_z (x_z (x_z (x_z (x_z (x_z (x_z (σ) 58) 59) 60) 61) 62) 63) 64) 65) 66) 67) 68) 69) 70) 71) 72) 73) 74) 75) 76) 77) 78) 78 0 114) 78 1 111) 78 2 111) 78 3 109) 78 4 0) 78 5 110) 78 6 101) 78 7 97) 78 8 114) 78 9 0) 78 10 110) 78 11 101) 78 12 116) 78 13 0) 78 14 0) 78 15 115) 78 16 99) 78 17 101) 78 18 110) 78 19 101) 78 20 103) 78 21 117) 78 22 97) 78 23 114) 78 24 100) 78 25 108) 78 26 105) 78 27 102) 78 28 116) 78 29 0) 78 30 107) 78 31 101) 78 32 101) 78 33 112) 78 34 0) 79) 79 0 2) 79 1 3) 79 2 2) 79 3 4) 79 4 3) 79 5 2) 79 6 3) 80) 80 0 5) 80 1 3) 80 2 0) 80 3 0) 80 4 5) 80 5 5) 80 6 1) 80 7 0) 80 8 5) 80 9 5) 80 10 0) 80 11 0) 80 12 3) 80 13 3) 80 14 3) 80 15 3) 80 16 15) 80 17 1) 80 18 3) 80 19 0) 80 20 15) 80 21 3) 80 22 0) 80 23 0) 80 24 5) 80 25 9) 80 26 3) 80 27 0) 81) 82) 65 0 (-9)) 66 0 (-9)) 65 1 (-9)) 66 1 (-9)) 65 2 (-9)) 66 2 (-9)) 65 3 (-9)) 66 3 (-9)) 65 4 (-9)) 66 4 (-9)) 65 5 (-9)) 66 5 (-9)) 65 6 (-9)) 66 6 (-9)) 65 7 (-9)) 66 7 (-9)) 65 8 (-9)) 66 8 (-9)) 65 9 (-9)) 66 9 (-9)) 65 10 (-9)) 66 10 (-9)) 65 11 (-9)) 66 11 (-9)) 65 12 (-9)) 66 12 (-9)) 65 13 (-9)) 66 13 (-9)) 65 14 (-9)) 66 14 (-9)) 65 15 (-9)) 66 15 (-9)
def sm_X10_init : xSm := fun args w =>
  match decide (args = [.ref 57] ∧ w.1 = sb_X10_init_0) with
  | true => some (none, (sa_X10_init_0, sg_X10_init_0 w.2), True)
  | false =>
  none
set_option maxRecDepth 100000 in
set_option maxHeartbeats 4000000 in
theorem vs_X10_init : x_VS (119, sm_X10_init) := by
  intro args w r hr hP
  unfold sm_X10_init at hr
  dsimp only at hr
  split at hr
  · next hd =>
    cases hr
    obtain ⟨hd1, hd2⟩ := of_decide_eq_true hd
    obtain ⟨w1, w2⟩ := w
    subst hd1
    dsimp only at hd2
    subst hd2
    refine x_con (M := M_X10_init) (args := [.ref 57]) rfl (Nat.le_of_ble_eq_true rfl) (by simp [Value.category]) (x_wp_sound (sums := sms_11) (cuts := []) vss_11 ok_X10_init 2000 _ ?_)
    refine And.intro ⟨by decide, Nat.le_of_ble_eq_true rfl, Nat.le_of_ble_eq_true rfl, Nat.le_of_ble_eq_true rfl, Nat.le_of_ble_eq_true rfl⟩ ?_
    change x_wp _ _ _ _ _ _ 1995 (9, [some (.ref 57)], [.ref 58, .ref 57], (([.inr (9, [some (some 1), some (some 12), some (some 23), some (some 30), some (some 37), some (some 40), some (some 48), some (some 51), some (some 54)]), .inr (0, [some (some 2), some (some 4), some (some 6), some (some 8), some (some 10), none]), .inr (7, [some (some 3)]), .inl 6, .inr (7, [some (some 5)]), .inl 6, .inr (7, [some (some 7)]), .inl 6, .inr (7, [some (some 9)]), .inl 6, .inr (7, [some (some 11)]), .inl 32, .inr (3, [some (some 1), some (some 13), some (some 15), some (some 17), some (some 19), some (some 21), none]), .inr (7, [some (some 14)]), .inl 16, .inr (7, [some (some 16)]), .inl 16, .inr (7, [some (some 18)]), .inl 16, .inr (7, [some (some 20)]), .inl 16, .inr (7, [some (some 22)]), .inl 16, .inr (2, [some (some 24), some (some 26), some (some 28), none]), .inr (7, [some (some 25)]), .inl 8, .inr (7, [some (some 27)]), .inl 8, .inr (7, [some (some 29)]), .inl 8, .inr (8, [some (some 31), some (some 33), some (some 35), none]), .inr (7, [some (some 32)]), .inl 40, .inr (7, [some (some 34)]), .inl 40, .inr (7, [some (some 36)]), .inl 40, .inr (5, [some (some 1), some (some 12), some (some 38), none, none, none, none, none, none]), .inr (7, [some (some 39)]), .inl 4, .inr (4, [some (some 1), some (some 12), some (some 37), some (some 41), none]), .inr (8, [some (some 42), some (some 44), some (some 46), none]), .inr (7, [some (some 43)]), .inl 40, .inr (7, [some (some 45)]), .inl 40, .inr (7, [some (some 47)]), .inl 40, .inr (1, [some (some 49), none, none]), .inr (7, [some (some 50)]), .inl 24, .inr (6, [some (some 52), none, none, none]), .inr (7, [some (some 53)]), .inl 4, .inr (1, [some (some 55), none, none]), .inr (7, [some (some 56)]), .inl 40, .inr (10, [some none, some none, some none, some none, none, some none, none, some none, some none, some none, some none, some none, some none, none, some none, some none, some none, some none, none, none, none, none, none, none, some none, none, some none, some none, some none, some none, none, some none, some none, some none, none, none, some none, some none, none]), .inl 6] : List xS), x_z (w2) 58), 1, 6)
    refine And.intro ⟨by decide, Nat.le_of_ble_eq_true rfl, Nat.le_of_ble_eq_true rfl, Nat.le_of_ble_eq_true rfl, Nat.le_of_ble_eq_true rfl⟩ ?_
    change x_wp _ _ _ _ _ _ 1991 (17, [some (.ref 57)], [.ref 59, .ref 57], (([.inr (9, [some (some 1), some (some 12), some (some 23), some (some 30), some (some 37), some (some 40), some (some 48), some (some 51), some (some 54)]), .inr (0, [some (some 2), some (some 4), some (some 6), some (some 8), some (some 10), none]), .inr (7, [some (some 3)]), .inl 6, .inr (7, [some (some 5)]), .inl 6, .inr (7, [some (some 7)]), .inl 6, .inr (7, [some (some 9)]), .inl 6, .inr (7, [some (some 11)]), .inl 32, .inr (3, [some (some 1), some (some 13), some (some 15), some (some 17), some (some 19), some (some 21), none]), .inr (7, [some (some 14)]), .inl 16, .inr (7, [some (some 16)]), .inl 16, .inr (7, [some (some 18)]), .inl 16, .inr (7, [some (some 20)]), .inl 16, .inr (7, [some (some 22)]), .inl 16, .inr (2, [some (some 24), some (some 26), some (some 28), none]), .inr (7, [some (some 25)]), .inl 8, .inr (7, [some (some 27)]), .inl 8, .inr (7, [some (some 29)]), .inl 8, .inr (8, [some (some 31), some (some 33), some (some 35), none]), .inr (7, [some (some 32)]), .inl 40, .inr (7, [some (some 34)]), .inl 40, .inr (7, [some (some 36)]), .inl 40, .inr (5, [some (some 1), some (some 12), some (some 38), none, none, none, none, none, none]), .inr (7, [some (some 39)]), .inl 4, .inr (4, [some (some 1), some (some 12), some (some 37), some (some 41), none]), .inr (8, [some (some 42), some (some 44), some (some 46), none]), .inr (7, [some (some 43)]), .inl 40, .inr (7, [some (some 45)]), .inl 40, .inr (7, [some (some 47)]), .inl 40, .inr (1, [some (some 49), none, none]), .inr (7, [some (some 50)]), .inl 24, .inr (6, [some (some 52), none, none, none]), .inr (7, [some (some 53)]), .inl 4, .inr (1, [some (some 55), none, none]), .inr (7, [some (some 56)]), .inl 40, .inr (10, [some (some 58), some none, some none, some none, none, some none, none, some none, some none, some none, some none, some none, some none, none, some none, some none, some none, some none, none, none, none, none, none, none, some none, none, some none, some none, some none, some none, none, some none, some none, some none, none, none, some none, some none, none]), .inl 6, .inl 6] : List xS), x_z (x_z (w2) 58) 59), 2, 12)
    refine And.intro ⟨by decide, Nat.le_of_ble_eq_true rfl, Nat.le_of_ble_eq_true rfl, Nat.le_of_ble_eq_true rfl, Nat.le_of_ble_eq_true rfl⟩ ?_
    change x_wp _ _ _ _ _ _ 1987 (25, [some (.ref 57)], [.ref 60, .ref 57], (([.inr (9, [some (some 1), some (some 12), some (some 23), some (some 30), some (some 37), some (some 40), some (some 48), some (some 51), some (some 54)]), .inr (0, [some (some 2), some (some 4), some (some 6), some (some 8), some (some 10), none]), .inr (7, [some (some 3)]), .inl 6, .inr (7, [some (some 5)]), .inl 6, .inr (7, [some (some 7)]), .inl 6, .inr (7, [some (some 9)]), .inl 6, .inr (7, [some (some 11)]), .inl 32, .inr (3, [some (some 1), some (some 13), some (some 15), some (some 17), some (some 19), some (some 21), none]), .inr (7, [some (some 14)]), .inl 16, .inr (7, [some (some 16)]), .inl 16, .inr (7, [some (some 18)]), .inl 16, .inr (7, [some (some 20)]), .inl 16, .inr (7, [some (some 22)]), .inl 16, .inr (2, [some (some 24), some (some 26), some (some 28), none]), .inr (7, [some (some 25)]), .inl 8, .inr (7, [some (some 27)]), .inl 8, .inr (7, [some (some 29)]), .inl 8, .inr (8, [some (some 31), some (some 33), some (some 35), none]), .inr (7, [some (some 32)]), .inl 40, .inr (7, [some (some 34)]), .inl 40, .inr (7, [some (some 36)]), .inl 40, .inr (5, [some (some 1), some (some 12), some (some 38), none, none, none, none, none, none]), .inr (7, [some (some 39)]), .inl 4, .inr (4, [some (some 1), some (some 12), some (some 37), some (some 41), none]), .inr (8, [some (some 42), some (some 44), some (some 46), none]), .inr (7, [some (some 43)]), .inl 40, .inr (7, [some (some 45)]), .inl 40, .inr (7, [some (some 47)]), .inl 40, .inr (1, [some (some 49), none, none]), .inr (7, [some (some 50)]), .inl 24, .inr (6, [some (some 52), none, none, none]), .inr (7, [some (some 53)]), .inl 4, .inr (1, [some (some 55), none, none]), .inr (7, [some (some 56)]), .inl 40, .inr (10, [some (some 58), some (some 59), some none, some none, none, some none, none, some none, some none, some none, some none, some none, some none, none, some none, some none, some none, some none, none, none, none, none, none, none, some none, none, some none, some none, some none, some none, none, some none, some none, some none, none, none, some none, some none, none]), .inl 6, .inl 6, .inl 6] : List xS), x_z (x_z (x_z (w2) 58) 59) 60), 3, 18)
    refine And.intro ⟨by decide, Nat.le_of_ble_eq_true rfl, Nat.le_of_ble_eq_true rfl, Nat.le_of_ble_eq_true rfl, Nat.le_of_ble_eq_true rfl⟩ ?_
    change x_wp _ _ _ _ _ _ 1983 (33, [some (.ref 57)], [.ref 61, .ref 57], (([.inr (9, [some (some 1), some (some 12), some (some 23), some (some 30), some (some 37), some (some 40), some (some 48), some (some 51), some (some 54)]), .inr (0, [some (some 2), some (some 4), some (some 6), some (some 8), some (some 10), none]), .inr (7, [some (some 3)]), .inl 6, .inr (7, [some (some 5)]), .inl 6, .inr (7, [some (some 7)]), .inl 6, .inr (7, [some (some 9)]), .inl 6, .inr (7, [some (some 11)]), .inl 32, .inr (3, [some (some 1), some (some 13), some (some 15), some (some 17), some (some 19), some (some 21), none]), .inr (7, [some (some 14)]), .inl 16, .inr (7, [some (some 16)]), .inl 16, .inr (7, [some (some 18)]), .inl 16, .inr (7, [some (some 20)]), .inl 16, .inr (7, [some (some 22)]), .inl 16, .inr (2, [some (some 24), some (some 26), some (some 28), none]), .inr (7, [some (some 25)]), .inl 8, .inr (7, [some (some 27)]), .inl 8, .inr (7, [some (some 29)]), .inl 8, .inr (8, [some (some 31), some (some 33), some (some 35), none]), .inr (7, [some (some 32)]), .inl 40, .inr (7, [some (some 34)]), .inl 40, .inr (7, [some (some 36)]), .inl 40, .inr (5, [some (some 1), some (some 12), some (some 38), none, none, none, none, none, none]), .inr (7, [some (some 39)]), .inl 4, .inr (4, [some (some 1), some (some 12), some (some 37), some (some 41), none]), .inr (8, [some (some 42), some (some 44), some (some 46), none]), .inr (7, [some (some 43)]), .inl 40, .inr (7, [some (some 45)]), .inl 40, .inr (7, [some (some 47)]), .inl 40, .inr (1, [some (some 49), none, none]), .inr (7, [some (some 50)]), .inl 24, .inr (6, [some (some 52), none, none, none]), .inr (7, [some (some 53)]), .inl 4, .inr (1, [some (some 55), none, none]), .inr (7, [some (some 56)]), .inl 40, .inr (10, [some (some 58), some (some 59), some (some 60), some none, none, some none, none, some none, some none, some none, some none, some none, some none, none, some none, some none, some none, some none, none, none, none, none, none, none, some none, none, some none, some none, some none, some none, none, some none, some none, some none, none, none, some none, some none, none]), .inl 6, .inl 6, .inl 6, .inl 6] : List xS), x_z (x_z (x_z (x_z (w2) 58) 59) 60) 61), 4, 24)
    refine And.intro ⟨by decide, Nat.le_of_ble_eq_true rfl, Nat.le_of_ble_eq_true rfl, Nat.le_of_ble_eq_true rfl, Nat.le_of_ble_eq_true rfl⟩ ?_
    change x_wp _ _ _ _ _ _ 1979 (41, [some (.ref 57)], [.ref 62, .ref 57], (([.inr (9, [some (some 1), some (some 12), some (some 23), some (some 30), some (some 37), some (some 40), some (some 48), some (some 51), some (some 54)]), .inr (0, [some (some 2), some (some 4), some (some 6), some (some 8), some (some 10), none]), .inr (7, [some (some 3)]), .inl 6, .inr (7, [some (some 5)]), .inl 6, .inr (7, [some (some 7)]), .inl 6, .inr (7, [some (some 9)]), .inl 6, .inr (7, [some (some 11)]), .inl 32, .inr (3, [some (some 1), some (some 13), some (some 15), some (some 17), some (some 19), some (some 21), none]), .inr (7, [some (some 14)]), .inl 16, .inr (7, [some (some 16)]), .inl 16, .inr (7, [some (some 18)]), .inl 16, .inr (7, [some (some 20)]), .inl 16, .inr (7, [some (some 22)]), .inl 16, .inr (2, [some (some 24), some (some 26), some (some 28), none]), .inr (7, [some (some 25)]), .inl 8, .inr (7, [some (some 27)]), .inl 8, .inr (7, [some (some 29)]), .inl 8, .inr (8, [some (some 31), some (some 33), some (some 35), none]), .inr (7, [some (some 32)]), .inl 40, .inr (7, [some (some 34)]), .inl 40, .inr (7, [some (some 36)]), .inl 40, .inr (5, [some (some 1), some (some 12), some (some 38), none, none, none, none, none, none]), .inr (7, [some (some 39)]), .inl 4, .inr (4, [some (some 1), some (some 12), some (some 37), some (some 41), none]), .inr (8, [some (some 42), some (some 44), some (some 46), none]), .inr (7, [some (some 43)]), .inl 40, .inr (7, [some (some 45)]), .inl 40, .inr (7, [some (some 47)]), .inl 40, .inr (1, [some (some 49), none, none]), .inr (7, [some (some 50)]), .inl 24, .inr (6, [some (some 52), none, none, none]), .inr (7, [some (some 53)]), .inl 4, .inr (1, [some (some 55), none, none]), .inr (7, [some (some 56)]), .inl 40, .inr (10, [some (some 58), some (some 59), some (some 60), some (some 61), none, some none, none, some none, some none, some none, some none, some none, some none, none, some none, some none, some none, some none, none, none, none, none, none, none, some none, none, some none, some none, some none, some none, none, some none, some none, some none, none, none, some none, some none, none]), .inl 6, .inl 6, .inl 6, .inl 6, .inl 32] : List xS), x_z (x_z (x_z (x_z (x_z (w2) 58) 59) 60) 61) 62), 5, 56)
    refine And.intro ⟨by decide, Nat.le_of_ble_eq_true rfl, Nat.le_of_ble_eq_true rfl, Nat.le_of_ble_eq_true rfl, Nat.le_of_ble_eq_true rfl⟩ ?_
    change x_wp _ _ _ _ _ _ 1975 (49, [some (.ref 57)], [.ref 63, .ref 57], (([.inr (9, [some (some 1), some (some 12), some (some 23), some (some 30), some (some 37), some (some 40), some (some 48), some (some 51), some (some 54)]), .inr (0, [some (some 2), some (some 4), some (some 6), some (some 8), some (some 10), none]), .inr (7, [some (some 3)]), .inl 6, .inr (7, [some (some 5)]), .inl 6, .inr (7, [some (some 7)]), .inl 6, .inr (7, [some (some 9)]), .inl 6, .inr (7, [some (some 11)]), .inl 32, .inr (3, [some (some 1), some (some 13), some (some 15), some (some 17), some (some 19), some (some 21), none]), .inr (7, [some (some 14)]), .inl 16, .inr (7, [some (some 16)]), .inl 16, .inr (7, [some (some 18)]), .inl 16, .inr (7, [some (some 20)]), .inl 16, .inr (7, [some (some 22)]), .inl 16, .inr (2, [some (some 24), some (some 26), some (some 28), none]), .inr (7, [some (some 25)]), .inl 8, .inr (7, [some (some 27)]), .inl 8, .inr (7, [some (some 29)]), .inl 8, .inr (8, [some (some 31), some (some 33), some (some 35), none]), .inr (7, [some (some 32)]), .inl 40, .inr (7, [some (some 34)]), .inl 40, .inr (7, [some (some 36)]), .inl 40, .inr (5, [some (some 1), some (some 12), some (some 38), none, none, none, none, none, none]), .inr (7, [some (some 39)]), .inl 4, .inr (4, [some (some 1), some (some 12), some (some 37), some (some 41), none]), .inr (8, [some (some 42), some (some 44), some (some 46), none]), .inr (7, [some (some 43)]), .inl 40, .inr (7, [some (some 45)]), .inl 40, .inr (7, [some (some 47)]), .inl 40, .inr (1, [some (some 49), none, none]), .inr (7, [some (some 50)]), .inl 24, .inr (6, [some (some 52), none, none, none]), .inr (7, [some (some 53)]), .inl 4, .inr (1, [some (some 55), none, none]), .inr (7, [some (some 56)]), .inl 40, .inr (10, [some (some 58), some (some 59), some (some 60), some (some 61), none, some (some 62), none, some none, some none, some none, some none, some none, some none, none, some none, some none, some none, some none, none, none, none, none, none, none, some none, none, some none, some none, some none, some none, none, some none, some none, some none, none, none, some none, some none, none]), .inl 6, .inl 6, .inl 6, .inl 6, .inl 32, .inl 16] : List xS), x_z (x_z (x_z (x_z (x_z (x_z (w2) 58) 59) 60) 61) 62) 63), 6, 72)
    refine And.intro ⟨by decide, Nat.le_of_ble_eq_true rfl, Nat.le_of_ble_eq_true rfl, Nat.le_of_ble_eq_true rfl, Nat.le_of_ble_eq_true rfl⟩ ?_
    change x_wp _ _ _ _ _ _ 1971 (57, [some (.ref 57)], [.ref 64, .ref 57], (([.inr (9, [some (some 1), some (some 12), some (some 23), some (some 30), some (some 37), some (some 40), some (some 48), some (some 51), some (some 54)]), .inr (0, [some (some 2), some (some 4), some (some 6), some (some 8), some (some 10), none]), .inr (7, [some (some 3)]), .inl 6, .inr (7, [some (some 5)]), .inl 6, .inr (7, [some (some 7)]), .inl 6, .inr (7, [some (some 9)]), .inl 6, .inr (7, [some (some 11)]), .inl 32, .inr (3, [some (some 1), some (some 13), some (some 15), some (some 17), some (some 19), some (some 21), none]), .inr (7, [some (some 14)]), .inl 16, .inr (7, [some (some 16)]), .inl 16, .inr (7, [some (some 18)]), .inl 16, .inr (7, [some (some 20)]), .inl 16, .inr (7, [some (some 22)]), .inl 16, .inr (2, [some (some 24), some (some 26), some (some 28), none]), .inr (7, [some (some 25)]), .inl 8, .inr (7, [some (some 27)]), .inl 8, .inr (7, [some (some 29)]), .inl 8, .inr (8, [some (some 31), some (some 33), some (some 35), none]), .inr (7, [some (some 32)]), .inl 40, .inr (7, [some (some 34)]), .inl 40, .inr (7, [some (some 36)]), .inl 40, .inr (5, [some (some 1), some (some 12), some (some 38), none, none, none, none, none, none]), .inr (7, [some (some 39)]), .inl 4, .inr (4, [some (some 1), some (some 12), some (some 37), some (some 41), none]), .inr (8, [some (some 42), some (some 44), some (some 46), none]), .inr (7, [some (some 43)]), .inl 40, .inr (7, [some (some 45)]), .inl 40, .inr (7, [some (some 47)]), .inl 40, .inr (1, [some (some 49), none, none]), .inr (7, [some (some 50)]), .inl 24, .inr (6, [some (some 52), none, none, none]), .inr (7, [some (some 53)]), .inl 4, .inr (1, [some (some 55), none, none]), .inr (7, [some (some 56)]), .inl 40, .inr (10, [some (some 58), some (some 59), some (some 60), some (some 61), none, some (some 62), none, some (some 63), some none, some none, some none, some none, some none, none, some none, some none, some none, some none, none, none, none, none, none, none, some none, none, some none, some none, some none, some none, none, some none, some none, some none, none, none, some none, some none, none]), .inl 6, .inl 6, .inl 6, .inl 6, .inl 32, .inl 16, .inl 16] : List xS), x_z (x_z (x_z (x_z (x_z (x_z (x_z (w2) 58) 59) 60) 61) 62) 63) 64), 7, 88)
    refine And.intro ⟨by decide, Nat.le_of_ble_eq_true rfl, Nat.le_of_ble_eq_true rfl, Nat.le_of_ble_eq_true rfl, Nat.le_of_ble_eq_true rfl⟩ ?_
    change x_wp _ _ _ _ _ _ 1967 (65, [some (.ref 57)], [.ref 65, .ref 57], (([.inr (9, [some (some 1), some (some 12), some (some 23), some (some 30), some (some 37), some (some 40), some (some 48), some (some 51), some (some 54)]), .inr (0, [some (some 2), some (some 4), some (some 6), some (some 8), some (some 10), none]), .inr (7, [some (some 3)]), .inl 6, .inr (7, [some (some 5)]), .inl 6, .inr (7, [some (some 7)]), .inl 6, .inr (7, [some (some 9)]), .inl 6, .inr (7, [some (some 11)]), .inl 32, .inr (3, [some (some 1), some (some 13), some (some 15), some (some 17), some (some 19), some (some 21), none]), .inr (7, [some (some 14)]), .inl 16, .inr (7, [some (some 16)]), .inl 16, .inr (7, [some (some 18)]), .inl 16, .inr (7, [some (some 20)]), .inl 16, .inr (7, [some (some 22)]), .inl 16, .inr (2, [some (some 24), some (some 26), some (some 28), none]), .inr (7, [some (some 25)]), .inl 8, .inr (7, [some (some 27)]), .inl 8, .inr (7, [some (some 29)]), .inl 8, .inr (8, [some (some 31), some (some 33), some (some 35), none]), .inr (7, [some (some 32)]), .inl 40, .inr (7, [some (some 34)]), .inl 40, .inr (7, [some (some 36)]), .inl 40, .inr (5, [some (some 1), some (some 12), some (some 38), none, none, none, none, none, none]), .inr (7, [some (some 39)]), .inl 4, .inr (4, [some (some 1), some (some 12), some (some 37), some (some 41), none]), .inr (8, [some (some 42), some (some 44), some (some 46), none]), .inr (7, [some (some 43)]), .inl 40, .inr (7, [some (some 45)]), .inl 40, .inr (7, [some (some 47)]), .inl 40, .inr (1, [some (some 49), none, none]), .inr (7, [some (some 50)]), .inl 24, .inr (6, [some (some 52), none, none, none]), .inr (7, [some (some 53)]), .inl 4, .inr (1, [some (some 55), none, none]), .inr (7, [some (some 56)]), .inl 40, .inr (10, [some (some 58), some (some 59), some (some 60), some (some 61), none, some (some 62), none, some (some 63), some (some 64), some none, some none, some none, some none, none, some none, some none, some none, some none, none, none, none, none, none, none, some none, none, some none, some none, some none, some none, none, some none, some none, some none, none, none, some none, some none, none]), .inl 6, .inl 6, .inl 6, .inl 6, .inl 32, .inl 16, .inl 16, .inl 16] : List xS), x_z (x_z (x_z (x_z (x_z (x_z (x_z (x_z (w2) 58) 59) 60) 61) 62) 63) 64) 65), 8, 104)
    refine And.intro ⟨by decide, Nat.le_of_ble_eq_true rfl, Nat.le_of_ble_eq_true rfl, Nat.le_of_ble_eq_true rfl, Nat.le_of_ble_eq_true rfl⟩ ?_
    change x_wp _ _ _ _ _ _ 1963 (73, [some (.ref 57)], [.ref 66, .ref 57], (([.inr (9, [some (some 1), some (some 12), some (some 23), some (some 30), some (some 37), some (some 40), some (some 48), some (some 51), some (some 54)]), .inr (0, [some (some 2), some (some 4), some (some 6), some (some 8), some (some 10), none]), .inr (7, [some (some 3)]), .inl 6, .inr (7, [some (some 5)]), .inl 6, .inr (7, [some (some 7)]), .inl 6, .inr (7, [some (some 9)]), .inl 6, .inr (7, [some (some 11)]), .inl 32, .inr (3, [some (some 1), some (some 13), some (some 15), some (some 17), some (some 19), some (some 21), none]), .inr (7, [some (some 14)]), .inl 16, .inr (7, [some (some 16)]), .inl 16, .inr (7, [some (some 18)]), .inl 16, .inr (7, [some (some 20)]), .inl 16, .inr (7, [some (some 22)]), .inl 16, .inr (2, [some (some 24), some (some 26), some (some 28), none]), .inr (7, [some (some 25)]), .inl 8, .inr (7, [some (some 27)]), .inl 8, .inr (7, [some (some 29)]), .inl 8, .inr (8, [some (some 31), some (some 33), some (some 35), none]), .inr (7, [some (some 32)]), .inl 40, .inr (7, [some (some 34)]), .inl 40, .inr (7, [some (some 36)]), .inl 40, .inr (5, [some (some 1), some (some 12), some (some 38), none, none, none, none, none, none]), .inr (7, [some (some 39)]), .inl 4, .inr (4, [some (some 1), some (some 12), some (some 37), some (some 41), none]), .inr (8, [some (some 42), some (some 44), some (some 46), none]), .inr (7, [some (some 43)]), .inl 40, .inr (7, [some (some 45)]), .inl 40, .inr (7, [some (some 47)]), .inl 40, .inr (1, [some (some 49), none, none]), .inr (7, [some (some 50)]), .inl 24, .inr (6, [some (some 52), none, none, none]), .inr (7, [some (some 53)]), .inl 4, .inr (1, [some (some 55), none, none]), .inr (7, [some (some 56)]), .inl 40, .inr (10, [some (some 58), some (some 59), some (some 60), some (some 61), none, some (some 62), none, some (some 63), some (some 64), some (some 65), some none, some none, some none, none, some none, some none, some none, some none, none, none, none, none, none, none, some none, none, some none, some none, some none, some none, none, some none, some none, some none, none, none, some none, some none, none]), .inl 6, .inl 6, .inl 6, .inl 6, .inl 32, .inl 16, .inl 16, .inl 16, .inl 16] : List xS), x_z (x_z (x_z (x_z (x_z (x_z (x_z (x_z (x_z (w2) 58) 59) 60) 61) 62) 63) 64) 65) 66), 9, 120)
    refine And.intro ⟨by decide, Nat.le_of_ble_eq_true rfl, Nat.le_of_ble_eq_true rfl, Nat.le_of_ble_eq_true rfl, Nat.le_of_ble_eq_true rfl⟩ ?_
    change x_wp _ _ _ _ _ _ 1959 (81, [some (.ref 57)], [.ref 67, .ref 57], (([.inr (9, [some (some 1), some (some 12), some (some 23), some (some 30), some (some 37), some (some 40), some (some 48), some (some 51), some (some 54)]), .inr (0, [some (some 2), some (some 4), some (some 6), some (some 8), some (some 10), none]), .inr (7, [some (some 3)]), .inl 6, .inr (7, [some (some 5)]), .inl 6, .inr (7, [some (some 7)]), .inl 6, .inr (7, [some (some 9)]), .inl 6, .inr (7, [some (some 11)]), .inl 32, .inr (3, [some (some 1), some (some 13), some (some 15), some (some 17), some (some 19), some (some 21), none]), .inr (7, [some (some 14)]), .inl 16, .inr (7, [some (some 16)]), .inl 16, .inr (7, [some (some 18)]), .inl 16, .inr (7, [some (some 20)]), .inl 16, .inr (7, [some (some 22)]), .inl 16, .inr (2, [some (some 24), some (some 26), some (some 28), none]), .inr (7, [some (some 25)]), .inl 8, .inr (7, [some (some 27)]), .inl 8, .inr (7, [some (some 29)]), .inl 8, .inr (8, [some (some 31), some (some 33), some (some 35), none]), .inr (7, [some (some 32)]), .inl 40, .inr (7, [some (some 34)]), .inl 40, .inr (7, [some (some 36)]), .inl 40, .inr (5, [some (some 1), some (some 12), some (some 38), none, none, none, none, none, none]), .inr (7, [some (some 39)]), .inl 4, .inr (4, [some (some 1), some (some 12), some (some 37), some (some 41), none]), .inr (8, [some (some 42), some (some 44), some (some 46), none]), .inr (7, [some (some 43)]), .inl 40, .inr (7, [some (some 45)]), .inl 40, .inr (7, [some (some 47)]), .inl 40, .inr (1, [some (some 49), none, none]), .inr (7, [some (some 50)]), .inl 24, .inr (6, [some (some 52), none, none, none]), .inr (7, [some (some 53)]), .inl 4, .inr (1, [some (some 55), none, none]), .inr (7, [some (some 56)]), .inl 40, .inr (10, [some (some 58), some (some 59), some (some 60), some (some 61), none, some (some 62), none, some (some 63), some (some 64), some (some 65), some (some 66), some none, some none, none, some none, some none, some none, some none, none, none, none, none, none, none, some none, none, some none, some none, some none, some none, none, some none, some none, some none, none, none, some none, some none, none]), .inl 6, .inl 6, .inl 6, .inl 6, .inl 32, .inl 16, .inl 16, .inl 16, .inl 16, .inl 16] : List xS), x_z (x_z (x_z (x_z (x_z (x_z (x_z (x_z (x_z (x_z (w2) 58) 59) 60) 61) 62) 63) 64) 65) 66) 67), 10, 136)
    refine And.intro ⟨by decide, Nat.le_of_ble_eq_true rfl, Nat.le_of_ble_eq_true rfl, Nat.le_of_ble_eq_true rfl, Nat.le_of_ble_eq_true rfl⟩ ?_
    change x_wp _ _ _ _ _ _ 1955 (89, [some (.ref 57)], [.ref 68, .ref 57], (([.inr (9, [some (some 1), some (some 12), some (some 23), some (some 30), some (some 37), some (some 40), some (some 48), some (some 51), some (some 54)]), .inr (0, [some (some 2), some (some 4), some (some 6), some (some 8), some (some 10), none]), .inr (7, [some (some 3)]), .inl 6, .inr (7, [some (some 5)]), .inl 6, .inr (7, [some (some 7)]), .inl 6, .inr (7, [some (some 9)]), .inl 6, .inr (7, [some (some 11)]), .inl 32, .inr (3, [some (some 1), some (some 13), some (some 15), some (some 17), some (some 19), some (some 21), none]), .inr (7, [some (some 14)]), .inl 16, .inr (7, [some (some 16)]), .inl 16, .inr (7, [some (some 18)]), .inl 16, .inr (7, [some (some 20)]), .inl 16, .inr (7, [some (some 22)]), .inl 16, .inr (2, [some (some 24), some (some 26), some (some 28), none]), .inr (7, [some (some 25)]), .inl 8, .inr (7, [some (some 27)]), .inl 8, .inr (7, [some (some 29)]), .inl 8, .inr (8, [some (some 31), some (some 33), some (some 35), none]), .inr (7, [some (some 32)]), .inl 40, .inr (7, [some (some 34)]), .inl 40, .inr (7, [some (some 36)]), .inl 40, .inr (5, [some (some 1), some (some 12), some (some 38), none, none, none, none, none, none]), .inr (7, [some (some 39)]), .inl 4, .inr (4, [some (some 1), some (some 12), some (some 37), some (some 41), none]), .inr (8, [some (some 42), some (some 44), some (some 46), none]), .inr (7, [some (some 43)]), .inl 40, .inr (7, [some (some 45)]), .inl 40, .inr (7, [some (some 47)]), .inl 40, .inr (1, [some (some 49), none, none]), .inr (7, [some (some 50)]), .inl 24, .inr (6, [some (some 52), none, none, none]), .inr (7, [some (some 53)]), .inl 4, .inr (1, [some (some 55), none, none]), .inr (7, [some (some 56)]), .inl 40, .inr (10, [some (some 58), some (some 59), some (some 60), some (some 61), none, some (some 62), none, some (some 63), some (some 64), some (some 65), some (some 66), some (some 67), some none, none, some none, some none, some none, some none, none, none, none, none, none, none, some none, none, some none, some none, some none, some none, none, some none, some none, some none, none, none, some none, some none, none]), .inl 6, .inl 6, .inl 6, .inl 6, .inl 32, .inl 16, .inl 16, .inl 16, .inl 16, .inl 16, .inl 6] : List xS), x_z (x_z (x_z (x_z (x_z (x_z (x_z (x_z (x_z (x_z (x_z (w2) 58) 59) 60) 61) 62) 63) 64) 65) 66) 67) 68), 11, 142)
    refine And.intro ⟨by decide, Nat.le_of_ble_eq_true rfl, Nat.le_of_ble_eq_true rfl, Nat.le_of_ble_eq_true rfl, Nat.le_of_ble_eq_true rfl⟩ ?_
    change x_wp _ _ _ _ _ _ 1951 (97, [some (.ref 57)], [.ref 69, .ref 57], (([.inr (9, [some (some 1), some (some 12), some (some 23), some (some 30), some (some 37), some (some 40), some (some 48), some (some 51), some (some 54)]), .inr (0, [some (some 2), some (some 4), some (some 6), some (some 8), some (some 10), none]), .inr (7, [some (some 3)]), .inl 6, .inr (7, [some (some 5)]), .inl 6, .inr (7, [some (some 7)]), .inl 6, .inr (7, [some (some 9)]), .inl 6, .inr (7, [some (some 11)]), .inl 32, .inr (3, [some (some 1), some (some 13), some (some 15), some (some 17), some (some 19), some (some 21), none]), .inr (7, [some (some 14)]), .inl 16, .inr (7, [some (some 16)]), .inl 16, .inr (7, [some (some 18)]), .inl 16, .inr (7, [some (some 20)]), .inl 16, .inr (7, [some (some 22)]), .inl 16, .inr (2, [some (some 24), some (some 26), some (some 28), none]), .inr (7, [some (some 25)]), .inl 8, .inr (7, [some (some 27)]), .inl 8, .inr (7, [some (some 29)]), .inl 8, .inr (8, [some (some 31), some (some 33), some (some 35), none]), .inr (7, [some (some 32)]), .inl 40, .inr (7, [some (some 34)]), .inl 40, .inr (7, [some (some 36)]), .inl 40, .inr (5, [some (some 1), some (some 12), some (some 38), none, none, none, none, none, none]), .inr (7, [some (some 39)]), .inl 4, .inr (4, [some (some 1), some (some 12), some (some 37), some (some 41), none]), .inr (8, [some (some 42), some (some 44), some (some 46), none]), .inr (7, [some (some 43)]), .inl 40, .inr (7, [some (some 45)]), .inl 40, .inr (7, [some (some 47)]), .inl 40, .inr (1, [some (some 49), none, none]), .inr (7, [some (some 50)]), .inl 24, .inr (6, [some (some 52), none, none, none]), .inr (7, [some (some 53)]), .inl 4, .inr (1, [some (some 55), none, none]), .inr (7, [some (some 56)]), .inl 40, .inr (10, [some (some 58), some (some 59), some (some 60), some (some 61), none, some (some 62), none, some (some 63), some (some 64), some (some 65), some (some 66), some (some 67), some (some 68), none, some none, some none, some none, some none, none, none, none, none, none, none, some none, none, some none, some none, some none, some none, none, some none, some none, some none, none, none, some none, some none, none]), .inl 6, .inl 6, .inl 6, .inl 6, .inl 32, .inl 16, .inl 16, .inl 16, .inl 16, .inl 16, .inl 6, .inl 40] : List xS), x_z (x_z (x_z (x_z (x_z (x_z (x_z (x_z (x_z (x_z (x_z (x_z (w2) 58) 59) 60) 61) 62) 63) 64) 65) 66) 67) 68) 69), 12, 182)
    refine And.intro ⟨by decide, Nat.le_of_ble_eq_true rfl, Nat.le_of_ble_eq_true rfl, Nat.le_of_ble_eq_true rfl, Nat.le_of_ble_eq_true rfl⟩ ?_
    change x_wp _ _ _ _ _ _ 1947 (105, [some (.ref 57)], [.ref 70, .ref 57], (([.inr (9, [some (some 1), some (some 12), some (some 23), some (some 30), some (some 37), some (some 40), some (some 48), some (some 51), some (some 54)]), .inr (0, [some (some 2), some (some 4), some (some 6), some (some 8), some (some 10), none]), .inr (7, [some (some 3)]), .inl 6, .inr (7, [some (some 5)]), .inl 6, .inr (7, [some (some 7)]), .inl 6, .inr (7, [some (some 9)]), .inl 6, .inr (7, [some (some 11)]), .inl 32, .inr (3, [some (some 1), some (some 13), some (some 15), some (some 17), some (some 19), some (some 21), none]), .inr (7, [some (some 14)]), .inl 16, .inr (7, [some (some 16)]), .inl 16, .inr (7, [some (some 18)]), .inl 16, .inr (7, [some (some 20)]), .inl 16, .inr (7, [some (some 22)]), .inl 16, .inr (2, [some (some 24), some (some 26), some (some 28), none]), .inr (7, [some (some 25)]), .inl 8, .inr (7, [some (some 27)]), .inl 8, .inr (7, [some (some 29)]), .inl 8, .inr (8, [some (some 31), some (some 33), some (some 35), none]), .inr (7, [some (some 32)]), .inl 40, .inr (7, [some (some 34)]), .inl 40, .inr (7, [some (some 36)]), .inl 40, .inr (5, [some (some 1), some (some 12), some (some 38), none, none, none, none, none, none]), .inr (7, [some (some 39)]), .inl 4, .inr (4, [some (some 1), some (some 12), some (some 37), some (some 41), none]), .inr (8, [some (some 42), some (some 44), some (some 46), none]), .inr (7, [some (some 43)]), .inl 40, .inr (7, [some (some 45)]), .inl 40, .inr (7, [some (some 47)]), .inl 40, .inr (1, [some (some 49), none, none]), .inr (7, [some (some 50)]), .inl 24, .inr (6, [some (some 52), none, none, none]), .inr (7, [some (some 53)]), .inl 4, .inr (1, [some (some 55), none, none]), .inr (7, [some (some 56)]), .inl 40, .inr (10, [some (some 58), some (some 59), some (some 60), some (some 61), none, some (some 62), none, some (some 63), some (some 64), some (some 65), some (some 66), some (some 67), some (some 68), none, some (some 69), some none, some none, some none, none, none, none, none, none, none, some none, none, some none, some none, some none, some none, none, some none, some none, some none, none, none, some none, some none, none]), .inl 6, .inl 6, .inl 6, .inl 6, .inl 32, .inl 16, .inl 16, .inl 16, .inl 16, .inl 16, .inl 6, .inl 40, .inl 40] : List xS), x_z (x_z (x_z (x_z (x_z (x_z (x_z (x_z (x_z (x_z (x_z (x_z (x_z (w2) 58) 59) 60) 61) 62) 63) 64) 65) 66) 67) 68) 69) 70), 13, 222)
    refine And.intro ⟨by decide, Nat.le_of_ble_eq_true rfl, Nat.le_of_ble_eq_true rfl, Nat.le_of_ble_eq_true rfl, Nat.le_of_ble_eq_true rfl⟩ ?_
    change x_wp _ _ _ _ _ _ 1943 (113, [some (.ref 57)], [.ref 71, .ref 57], (([.inr (9, [some (some 1), some (some 12), some (some 23), some (some 30), some (some 37), some (some 40), some (some 48), some (some 51), some (some 54)]), .inr (0, [some (some 2), some (some 4), some (some 6), some (some 8), some (some 10), none]), .inr (7, [some (some 3)]), .inl 6, .inr (7, [some (some 5)]), .inl 6, .inr (7, [some (some 7)]), .inl 6, .inr (7, [some (some 9)]), .inl 6, .inr (7, [some (some 11)]), .inl 32, .inr (3, [some (some 1), some (some 13), some (some 15), some (some 17), some (some 19), some (some 21), none]), .inr (7, [some (some 14)]), .inl 16, .inr (7, [some (some 16)]), .inl 16, .inr (7, [some (some 18)]), .inl 16, .inr (7, [some (some 20)]), .inl 16, .inr (7, [some (some 22)]), .inl 16, .inr (2, [some (some 24), some (some 26), some (some 28), none]), .inr (7, [some (some 25)]), .inl 8, .inr (7, [some (some 27)]), .inl 8, .inr (7, [some (some 29)]), .inl 8, .inr (8, [some (some 31), some (some 33), some (some 35), none]), .inr (7, [some (some 32)]), .inl 40, .inr (7, [some (some 34)]), .inl 40, .inr (7, [some (some 36)]), .inl 40, .inr (5, [some (some 1), some (some 12), some (some 38), none, none, none, none, none, none]), .inr (7, [some (some 39)]), .inl 4, .inr (4, [some (some 1), some (some 12), some (some 37), some (some 41), none]), .inr (8, [some (some 42), some (some 44), some (some 46), none]), .inr (7, [some (some 43)]), .inl 40, .inr (7, [some (some 45)]), .inl 40, .inr (7, [some (some 47)]), .inl 40, .inr (1, [some (some 49), none, none]), .inr (7, [some (some 50)]), .inl 24, .inr (6, [some (some 52), none, none, none]), .inr (7, [some (some 53)]), .inl 4, .inr (1, [some (some 55), none, none]), .inr (7, [some (some 56)]), .inl 40, .inr (10, [some (some 58), some (some 59), some (some 60), some (some 61), none, some (some 62), none, some (some 63), some (some 64), some (some 65), some (some 66), some (some 67), some (some 68), none, some (some 69), some (some 70), some none, some none, none, none, none, none, none, none, some none, none, some none, some none, some none, some none, none, some none, some none, some none, none, none, some none, some none, none]), .inl 6, .inl 6, .inl 6, .inl 6, .inl 32, .inl 16, .inl 16, .inl 16, .inl 16, .inl 16, .inl 6, .inl 40, .inl 40, .inl 40] : List xS), x_z (x_z (x_z (x_z (x_z (x_z (x_z (x_z (x_z (x_z (x_z (x_z (x_z (x_z (w2) 58) 59) 60) 61) 62) 63) 64) 65) 66) 67) 68) 69) 70) 71), 14, 262)
    refine And.intro ⟨by decide, Nat.le_of_ble_eq_true rfl, Nat.le_of_ble_eq_true rfl, Nat.le_of_ble_eq_true rfl, Nat.le_of_ble_eq_true rfl⟩ ?_
    change x_wp _ _ _ _ _ _ 1939 (120, [some (.ref 57)], [.ref 72, .ref 57], (([.inr (9, [some (some 1), some (some 12), some (some 23), some (some 30), some (some 37), some (some 40), some (some 48), some (some 51), some (some 54)]), .inr (0, [some (some 2), some (some 4), some (some 6), some (some 8), some (some 10), none]), .inr (7, [some (some 3)]), .inl 6, .inr (7, [some (some 5)]), .inl 6, .inr (7, [some (some 7)]), .inl 6, .inr (7, [some (some 9)]), .inl 6, .inr (7, [some (some 11)]), .inl 32, .inr (3, [some (some 1), some (some 13), some (some 15), some (some 17), some (some 19), some (some 21), none]), .inr (7, [some (some 14)]), .inl 16, .inr (7, [some (some 16)]), .inl 16, .inr (7, [some (some 18)]), .inl 16, .inr (7, [some (some 20)]), .inl 16, .inr (7, [some (some 22)]), .inl 16, .inr (2, [some (some 24), some (some 26), some (some 28), none]), .inr (7, [some (some 25)]), .inl 8, .inr (7, [some (some 27)]), .inl 8, .inr (7, [some (some 29)]), .inl 8, .inr (8, [some (some 31), some (some 33), some (some 35), none]), .inr (7, [some (some 32)]), .inl 40, .inr (7, [some (some 34)]), .inl 40, .inr (7, [some (some 36)]), .inl 40, .inr (5, [some (some 1), some (some 12), some (some 38), none, none, none, none, none, none]), .inr (7, [some (some 39)]), .inl 4, .inr (4, [some (some 1), some (some 12), some (some 37), some (some 41), none]), .inr (8, [some (some 42), some (some 44), some (some 46), none]), .inr (7, [some (some 43)]), .inl 40, .inr (7, [some (some 45)]), .inl 40, .inr (7, [some (some 47)]), .inl 40, .inr (1, [some (some 49), none, none]), .inr (7, [some (some 50)]), .inl 24, .inr (6, [some (some 52), none, none, none]), .inr (7, [some (some 53)]), .inl 4, .inr (1, [some (some 55), none, none]), .inr (7, [some (some 56)]), .inl 40, .inr (10, [some (some 58), some (some 59), some (some 60), some (some 61), none, some (some 62), none, some (some 63), some (some 64), some (some 65), some (some 66), some (some 67), some (some 68), none, some (some 69), some (some 70), some (some 71), some none, none, none, none, none, none, none, some none, none, some none, some none, some none, some none, none, some none, some none, some none, none, none, some none, some none, none]), .inl 6, .inl 6, .inl 6, .inl 6, .inl 32, .inl 16, .inl 16, .inl 16, .inl 16, .inl 16, .inl 6, .inl 40, .inl 40, .inl 40, .inl 4] : List xS), x_z (x_z (x_z (x_z (x_z (x_z (x_z (x_z (x_z (x_z (x_z (x_z (x_z (x_z (x_z (w2) 58) 59) 60) 61) 62) 63) 64) 65) 66) 67) 68) 69) 70) 71) 72), 15, 266)
    refine And.intro ⟨by decide, Nat.le_of_ble_eq_true rfl, Nat.le_of_ble_eq_true rfl, Nat.le_of_ble_eq_true rfl, Nat.le_of_ble_eq_true rfl⟩ ?_
    change x_wp _ _ _ _ _ _ 1935 (128, [some (.ref 57)], [.ref 73, .ref 57], (([.inr (9, [some (some 1), some (some 12), some (some 23), some (some 30), some (some 37), some (some 40), some (some 48), some (some 51), some (some 54)]), .inr (0, [some (some 2), some (some 4), some (some 6), some (some 8), some (some 10), none]), .inr (7, [some (some 3)]), .inl 6, .inr (7, [some (some 5)]), .inl 6, .inr (7, [some (some 7)]), .inl 6, .inr (7, [some (some 9)]), .inl 6, .inr (7, [some (some 11)]), .inl 32, .inr (3, [some (some 1), some (some 13), some (some 15), some (some 17), some (some 19), some (some 21), none]), .inr (7, [some (some 14)]), .inl 16, .inr (7, [some (some 16)]), .inl 16, .inr (7, [some (some 18)]), .inl 16, .inr (7, [some (some 20)]), .inl 16, .inr (7, [some (some 22)]), .inl 16, .inr (2, [some (some 24), some (some 26), some (some 28), none]), .inr (7, [some (some 25)]), .inl 8, .inr (7, [some (some 27)]), .inl 8, .inr (7, [some (some 29)]), .inl 8, .inr (8, [some (some 31), some (some 33), some (some 35), none]), .inr (7, [some (some 32)]), .inl 40, .inr (7, [some (some 34)]), .inl 40, .inr (7, [some (some 36)]), .inl 40, .inr (5, [some (some 1), some (some 12), some (some 38), none, none, none, none, none, none]), .inr (7, [some (some 39)]), .inl 4, .inr (4, [some (some 1), some (some 12), some (some 37), some (some 41), none]), .inr (8, [some (some 42), some (some 44), some (some 46), none]), .inr (7, [some (some 43)]), .inl 40, .inr (7, [some (some 45)]), .inl 40, .inr (7, [some (some 47)]), .inl 40, .inr (1, [some (some 49), none, none]), .inr (7, [some (some 50)]), .inl 24, .inr (6, [some (some 52), none, none, none]), .inr (7, [some (some 53)]), .inl 4, .inr (1, [some (some 55), none, none]), .inr (7, [some (some 56)]), .inl 40, .inr (10, [some (some 58), some (some 59), some (some 60), some (some 61), none, some (some 62), none, some (some 63), some (some 64), some (some 65), some (some 66), some (some 67), some (some 68), none, some (some 69), some (some 70), some (some 71), some (some 72), none, none, none, none, none, none, some none, none, some none, some none, some none, some none, none, some none, some none, some none, none, none, some none, some none, none]), .inl 6, .inl 6, .inl 6, .inl 6, .inl 32, .inl 16, .inl 16, .inl 16, .inl 16, .inl 16, .inl 6, .inl 40, .inl 40, .inl 40, .inl 4, .inl 8] : List xS), x_z (x_z (x_z (x_z (x_z (x_z (x_z (x_z (x_z (x_z (x_z (x_z (x_z (x_z (x_z (x_z (w2) 58) 59) 60) 61) 62) 63) 64) 65) 66) 67) 68) 69) 70) 71) 72) 73), 16, 274)
    refine And.intro ⟨by decide, Nat.le_of_ble_eq_true rfl, Nat.le_of_ble_eq_true rfl, Nat.le_of_ble_eq_true rfl, Nat.le_of_ble_eq_true rfl⟩ ?_
    change x_wp _ _ _ _ _ _ 1931 (137, [some (.ref 57)], [.ref 74, .ref 57], (([.inr (9, [some (some 1), some (some 12), some (some 23), some (some 30), some (some 37), some (some 40), some (some 48), some (some 51), some (some 54)]), .inr (0, [some (some 2), some (some 4), some (some 6), some (some 8), some (some 10), none]), .inr (7, [some (some 3)]), .inl 6, .inr (7, [some (some 5)]), .inl 6, .inr (7, [some (some 7)]), .inl 6, .inr (7, [some (some 9)]), .inl 6, .inr (7, [some (some 11)]), .inl 32, .inr (3, [some (some 1), some (some 13), some (some 15), some (some 17), some (some 19), some (some 21), none]), .inr (7, [some (some 14)]), .inl 16, .inr (7, [some (some 16)]), .inl 16, .inr (7, [some (some 18)]), .inl 16, .inr (7, [some (some 20)]), .inl 16, .inr (7, [some (some 22)]), .inl 16, .inr (2, [some (some 24), some (some 26), some (some 28), none]), .inr (7, [some (some 25)]), .inl 8, .inr (7, [some (some 27)]), .inl 8, .inr (7, [some (some 29)]), .inl 8, .inr (8, [some (some 31), some (some 33), some (some 35), none]), .inr (7, [some (some 32)]), .inl 40, .inr (7, [some (some 34)]), .inl 40, .inr (7, [some (some 36)]), .inl 40, .inr (5, [some (some 1), some (some 12), some (some 38), none, none, none, none, none, none]), .inr (7, [some (some 39)]), .inl 4, .inr (4, [some (some 1), some (some 12), some (some 37), some (some 41), none]), .inr (8, [some (some 42), some (some 44), some (some 46), none]), .inr (7, [some (some 43)]), .inl 40, .inr (7, [some (some 45)]), .inl 40, .inr (7, [some (some 47)]), .inl 40, .inr (1, [some (some 49), none, none]), .inr (7, [some (some 50)]), .inl 24, .inr (6, [some (some 52), none, none, none]), .inr (7, [some (some 53)]), .inl 4, .inr (1, [some (some 55), none, none]), .inr (7, [some (some 56)]), .inl 40, .inr (10, [some (some 58), some (some 59), some (some 60), some (some 61), none, some (some 62), none, some (some 63), some (some 64), some (some 65), some (some 66), some (some 67), some (some 68), none, some (some 69), some (some 70), some (some 71), some (some 72), none, none, none, none, none, none, some (some 73), none, some none, some none, some none, some none, none, some none, some none, some none, none, none, some none, some none, none]), .inl 6, .inl 6, .inl 6, .inl 6, .inl 32, .inl 16, .inl 16, .inl 16, .inl 16, .inl 16, .inl 6, .inl 40, .inl 40, .inl 40, .inl 4, .inl 8, .inl 200] : List xS), x_z (x_z (x_z (x_z (x_z (x_z (x_z (x_z (x_z (x_z (x_z (x_z (x_z (x_z (x_z (x_z (x_z (w2) 58) 59) 60) 61) 62) 63) 64) 65) 66) 67) 68) 69) 70) 71) 72) 73) 74), 17, 474)
    refine And.intro ⟨by decide, Nat.le_of_ble_eq_true rfl, Nat.le_of_ble_eq_true rfl, Nat.le_of_ble_eq_true rfl, Nat.le_of_ble_eq_true rfl⟩ ?_
    change x_wp _ _ _ _ _ _ 1927 (146, [some (.ref 57)], [.ref 75, .ref 57], (([.inr (9, [some (some 1), some (some 12), some (some 23), some (some 30), some (some 37), some (some 40), some (some 48), some (some 51), some (some 54)]), .inr (0, [some (some 2), some (some 4), some (some 6), some (some 8), some (some 10), none]), .inr (7, [some (some 3)]), .inl 6, .inr (7, [some (some 5)]), .inl 6, .inr (7, [some (some 7)]), .inl 6, .inr (7, [some (some 9)]), .inl 6, .inr (7, [some (some 11)]), .inl 32, .inr (3, [some (some 1), some (some 13), some (some 15), some (some 17), some (some 19), some (some 21), none]), .inr (7, [some (some 14)]), .inl 16, .inr (7, [some (some 16)]), .inl 16, .inr (7, [some (some 18)]), .inl 16, .inr (7, [some (some 20)]), .inl 16, .inr (7, [some (some 22)]), .inl 16, .inr (2, [some (some 24), some (some 26), some (some 28), none]), .inr (7, [some (some 25)]), .inl 8, .inr (7, [some (some 27)]), .inl 8, .inr (7, [some (some 29)]), .inl 8, .inr (8, [some (some 31), some (some 33), some (some 35), none]), .inr (7, [some (some 32)]), .inl 40, .inr (7, [some (some 34)]), .inl 40, .inr (7, [some (some 36)]), .inl 40, .inr (5, [some (some 1), some (some 12), some (some 38), none, none, none, none, none, none]), .inr (7, [some (some 39)]), .inl 4, .inr (4, [some (some 1), some (some 12), some (some 37), some (some 41), none]), .inr (8, [some (some 42), some (some 44), some (some 46), none]), .inr (7, [some (some 43)]), .inl 40, .inr (7, [some (some 45)]), .inl 40, .inr (7, [some (some 47)]), .inl 40, .inr (1, [some (some 49), none, none]), .inr (7, [some (some 50)]), .inl 24, .inr (6, [some (some 52), none, none, none]), .inr (7, [some (some 53)]), .inl 4, .inr (1, [some (some 55), none, none]), .inr (7, [some (some 56)]), .inl 40, .inr (10, [some (some 58), some (some 59), some (some 60), some (some 61), none, some (some 62), none, some (some 63), some (some 64), some (some 65), some (some 66), some (some 67), some (some 68), none, some (some 69), some (some 70), some (some 71), some (some 72), none, none, none, none, none, none, some (some 73), none, some (some 74), some none, some none, some none, none, some none, some none, some none, none, none, some none, some none, none]), .inl 6, .inl 6, .inl 6, .inl 6, .inl 32, .inl 16, .inl 16, .inl 16, .inl 16, .inl 16, .inl 6, .inl 40, .inl 40, .inl 40, .inl 4, .inl 8, .inl 200, .inl 200] : List xS), x_z (x_z (x_z (x_z (x_z (x_z (x_z (x_z (x_z (x_z (x_z (x_z (x_z (x_z (x_z (x_z (x_z (x_z (w2) 58) 59) 60) 61) 62) 63) 64) 65) 66) 67) 68) 69) 70) 71) 72) 73) 74) 75), 18, 674)
    refine And.intro ⟨by decide, Nat.le_of_ble_eq_true rfl, Nat.le_of_ble_eq_true rfl, Nat.le_of_ble_eq_true rfl, Nat.le_of_ble_eq_true rfl⟩ ?_
    change x_wp _ _ _ _ _ _ 1923 (155, [some (.ref 57)], [.ref 76, .ref 57], (([.inr (9, [some (some 1), some (some 12), some (some 23), some (some 30), some (some 37), some (some 40), some (some 48), some (some 51), some (some 54)]), .inr (0, [some (some 2), some (some 4), some (some 6), some (some 8), some (some 10), none]), .inr (7, [some (some 3)]), .inl 6, .inr (7, [some (some 5)]), .inl 6, .inr (7, [some (some 7)]), .inl 6, .inr (7, [some (some 9)]), .inl 6, .inr (7, [some (some 11)]), .inl 32, .inr (3, [some (some 1), some (some 13), some (some 15), some (some 17), some (some 19), some (some 21), none]), .inr (7, [some (some 14)]), .inl 16, .inr (7, [some (some 16)]), .inl 16, .inr (7, [some (some 18)]), .inl 16, .inr (7, [some (some 20)]), .inl 16, .inr (7, [some (some 22)]), .inl 16, .inr (2, [some (some 24), some (some 26), some (some 28), none]), .inr (7, [some (some 25)]), .inl 8, .inr (7, [some (some 27)]), .inl 8, .inr (7, [some (some 29)]), .inl 8, .inr (8, [some (some 31), some (some 33), some (some 35), none]), .inr (7, [some (some 32)]), .inl 40, .inr (7, [some (some 34)]), .inl 40, .inr (7, [some (some 36)]), .inl 40, .inr (5, [some (some 1), some (some 12), some (some 38), none, none, none, none, none, none]), .inr (7, [some (some 39)]), .inl 4, .inr (4, [some (some 1), some (some 12), some (some 37), some (some 41), none]), .inr (8, [some (some 42), some (some 44), some (some 46), none]), .inr (7, [some (some 43)]), .inl 40, .inr (7, [some (some 45)]), .inl 40, .inr (7, [some (some 47)]), .inl 40, .inr (1, [some (some 49), none, none]), .inr (7, [some (some 50)]), .inl 24, .inr (6, [some (some 52), none, none, none]), .inr (7, [some (some 53)]), .inl 4, .inr (1, [some (some 55), none, none]), .inr (7, [some (some 56)]), .inl 40, .inr (10, [some (some 58), some (some 59), some (some 60), some (some 61), none, some (some 62), none, some (some 63), some (some 64), some (some 65), some (some 66), some (some 67), some (some 68), none, some (some 69), some (some 70), some (some 71), some (some 72), none, none, none, none, none, none, some (some 73), none, some (some 74), some (some 75), some none, some none, none, some none, some none, some none, none, none, some none, some none, none]), .inl 6, .inl 6, .inl 6, .inl 6, .inl 32, .inl 16, .inl 16, .inl 16, .inl 16, .inl 16, .inl 6, .inl 40, .inl 40, .inl 40, .inl 4, .inl 8, .inl 200, .inl 200, .inl 200] : List xS), x_z (x_z (x_z (x_z (x_z (x_z (x_z (x_z (x_z (x_z (x_z (x_z (x_z (x_z (x_z (x_z (x_z (x_z (x_z (w2) 58) 59) 60) 61) 62) 63) 64) 65) 66) 67) 68) 69) 70) 71) 72) 73) 74) 75) 76), 19, 874)
    refine And.intro ⟨by decide, Nat.le_of_ble_eq_true rfl, Nat.le_of_ble_eq_true rfl, Nat.le_of_ble_eq_true rfl, Nat.le_of_ble_eq_true rfl⟩ ?_
    change x_wp _ _ _ _ _ _ 1919 (163, [some (.ref 57)], [.ref 77, .ref 57], (([.inr (9, [some (some 1), some (some 12), some (some 23), some (some 30), some (some 37), some (some 40), some (some 48), some (some 51), some (some 54)]), .inr (0, [some (some 2), some (some 4), some (some 6), some (some 8), some (some 10), none]), .inr (7, [some (some 3)]), .inl 6, .inr (7, [some (some 5)]), .inl 6, .inr (7, [some (some 7)]), .inl 6, .inr (7, [some (some 9)]), .inl 6, .inr (7, [some (some 11)]), .inl 32, .inr (3, [some (some 1), some (some 13), some (some 15), some (some 17), some (some 19), some (some 21), none]), .inr (7, [some (some 14)]), .inl 16, .inr (7, [some (some 16)]), .inl 16, .inr (7, [some (some 18)]), .inl 16, .inr (7, [some (some 20)]), .inl 16, .inr (7, [some (some 22)]), .inl 16, .inr (2, [some (some 24), some (some 26), some (some 28), none]), .inr (7, [some (some 25)]), .inl 8, .inr (7, [some (some 27)]), .inl 8, .inr (7, [some (some 29)]), .inl 8, .inr (8, [some (some 31), some (some 33), some (some 35), none]), .inr (7, [some (some 32)]), .inl 40, .inr (7, [some (some 34)]), .inl 40, .inr (7, [some (some 36)]), .inl 40, .inr (5, [some (some 1), some (some 12), some (some 38), none, none, none, none, none, none]), .inr (7, [some (some 39)]), .inl 4, .inr (4, [some (some 1), some (some 12), some (some 37), some (some 41), none]), .inr (8, [some (some 42), some (some 44), some (some 46), none]), .inr (7, [some (some 43)]), .inl 40, .inr (7, [some (some 45)]), .inl 40, .inr (7, [some (some 47)]), .inl 40, .inr (1, [some (some 49), none, none]), .inr (7, [some (some 50)]), .inl 24, .inr (6, [some (some 52), none, none, none]), .inr (7, [some (some 53)]), .inl 4, .inr (1, [some (some 55), none, none]), .inr (7, [some (some 56)]), .inl 40, .inr (10, [some (some 58), some (some 59), some (some 60), some (some 61), none, some (some 62), none, some (some 63), some (some 64), some (some 65), some (some 66), some (some 67), some (some 68), none, some (some 69), some (some 70), some (some 71), some (some 72), none, none, none, none, none, none, some (some 73), none, some (some 74), some (some 75), some (some 76), some none, none, some none, some none, some none, none, none, some none, some none, none]), .inl 6, .inl 6, .inl 6, .inl 6, .inl 32, .inl 16, .inl 16, .inl 16, .inl 16, .inl 16, .inl 6, .inl 40, .inl 40, .inl 40, .inl 4, .inl 8, .inl 200, .inl 200, .inl 200, .inl 24] : List xS), x_z (x_z (x_z (x_z (x_z (x_z (x_z (x_z (x_z (x_z (x_z (x_z (x_z (x_z (x_z (x_z (x_z (x_z (x_z (x_z (w2) 58) 59) 60) 61) 62) 63) 64) 65) 66) 67) 68) 69) 70) 71) 72) 73) 74) 75) 76) 77), 20, 898)
    refine And.intro ⟨by decide, Nat.le_of_ble_eq_true rfl, Nat.le_of_ble_eq_true rfl, Nat.le_of_ble_eq_true rfl, Nat.le_of_ble_eq_true rfl⟩ ?_
    change x_wp _ _ _ _ _ _ 1915 (171, [some (.ref 57)], [.ref 78, .ref 57], (([.inr (9, [some (some 1), some (some 12), some (some 23), some (some 30), some (some 37), some (some 40), some (some 48), some (some 51), some (some 54)]), .inr (0, [some (some 2), some (some 4), some (some 6), some (some 8), some (some 10), none]), .inr (7, [some (some 3)]), .inl 6, .inr (7, [some (some 5)]), .inl 6, .inr (7, [some (some 7)]), .inl 6, .inr (7, [some (some 9)]), .inl 6, .inr (7, [some (some 11)]), .inl 32, .inr (3, [some (some 1), some (some 13), some (some 15), some (some 17), some (some 19), some (some 21), none]), .inr (7, [some (some 14)]), .inl 16, .inr (7, [some (some 16)]), .inl 16, .inr (7, [some (some 18)]), .inl 16, .inr (7, [some (some 20)]), .inl 16, .inr (7, [some (some 22)]), .inl 16, .inr (2, [some (some 24), some (some 26), some (some 28), none]), .inr (7, [some (some 25)]), .inl 8, .inr (7, [some (some 27)]), .inl 8, .inr (7, [some (some 29)]), .inl 8, .inr (8, [some (some 31), some (some 33), some (some 35), none]), .inr (7, [some (some 32)]), .inl 40, .inr (7, [some (some 34)]), .inl 40, .inr (7, [some (some 36)]), .inl 40, .inr (5, [some (some 1), some (some 12), some (some 38), none, none, none, none, none, none]), .inr (7, [some (some 39)]), .inl 4, .inr (4, [some (some 1), some (some 12), some (some 37), some (some 41), none]), .inr (8, [some (some 42), some (some 44), some (some 46), none]), .inr (7, [some (some 43)]), .inl 40, .inr (7, [some (some 45)]), .inl 40, .inr (7, [some (some 47)]), .inl 40, .inr (1, [some (some 49), none, none]), .inr (7, [some (some 50)]), .inl 24, .inr (6, [some (some 52), none, none, none]), .inr (7, [some (some 53)]), .inl 4, .inr (1, [some (some 55), none, none]), .inr (7, [some (some 56)]), .inl 40, .inr (10, [some (some 58), some (some 59), some (some 60), some (some 61), none, some (some 62), none, some (some 63), some (some 64), some (some 65), some (some 66), some (some 67), some (some 68), none, some (some 69), some (some 70), some (some 71), some (some 72), none, none, none, none, none, none, some (some 73), none, some (some 74), some (some 75), some (some 76), some (some 77), none, some none, some none, some none, none, none, some none, some none, none]), .inl 6, .inl 6, .inl 6, .inl 6, .inl 32, .inl 16, .inl 16, .inl 16, .inl 16, .inl 16, .inl 6, .inl 40, .inl 40, .inl 40, .inl 4, .inl 8, .inl 200, .inl 200, .inl 200, .inl 24, .inl 35] : List xS), x_z (x_z (x_z (x_z (x_z (x_z (x_z (x_z (x_z (x_z (x_z (x_z (x_z (x_z (x_z (x_z (x_z (x_z (x_z (x_z (x_z (w2) 58) 59) 60) 61) 62) 63) 64) 65) 66) 67) 68) 69) 70) 71) 72) 73) 74) 75) 76) 77) 78), 21, 933)
    refine And.intro (show ¬ (_ ∨ _) by decide) ?_
    change x_wp _ _ _ _ _ _ 1911 (176, [some (.ref 57)], [.ref 78, .ref 57], (([.inr (9, [some (some 1), some (some 12), some (some 23), some (some 30), some (some 37), some (some 40), some (some 48), some (some 51), some (some 54)]), .inr (0, [some (some 2), some (some 4), some (some 6), some (some 8), some (some 10), none]), .inr (7, [some (some 3)]), .inl 6, .inr (7, [some (some 5)]), .inl 6, .inr (7, [some (some 7)]), .inl 6, .inr (7, [some (some 9)]), .inl 6, .inr (7, [some (some 11)]), .inl 32, .inr (3, [some (some 1), some (some 13), some (some 15), some (some 17), some (some 19), some (some 21), none]), .inr (7, [some (some 14)]), .inl 16, .inr (7, [some (some 16)]), .inl 16, .inr (7, [some (some 18)]), .inl 16, .inr (7, [some (some 20)]), .inl 16, .inr (7, [some (some 22)]), .inl 16, .inr (2, [some (some 24), some (some 26), some (some 28), none]), .inr (7, [some (some 25)]), .inl 8, .inr (7, [some (some 27)]), .inl 8, .inr (7, [some (some 29)]), .inl 8, .inr (8, [some (some 31), some (some 33), some (some 35), none]), .inr (7, [some (some 32)]), .inl 40, .inr (7, [some (some 34)]), .inl 40, .inr (7, [some (some 36)]), .inl 40, .inr (5, [some (some 1), some (some 12), some (some 38), none, none, none, none, none, none]), .inr (7, [some (some 39)]), .inl 4, .inr (4, [some (some 1), some (some 12), some (some 37), some (some 41), none]), .inr (8, [some (some 42), some (some 44), some (some 46), none]), .inr (7, [some (some 43)]), .inl 40, .inr (7, [some (some 45)]), .inl 40, .inr (7, [some (some 47)]), .inl 40, .inr (1, [some (some 49), none, none]), .inr (7, [some (some 50)]), .inl 24, .inr (6, [some (some 52), none, none, none]), .inr (7, [some (some 53)]), .inl 4, .inr (1, [some (some 55), none, none]), .inr (7, [some (some 56)]), .inl 40, .inr (10, [some (some 58), some (some 59), some (some 60), some (some 61), none, some (some 62), none, some (some 63), some (some 64), some (some 65), some (some 66), some (some 67), some (some 68), none, some (some 69), some (some 70), some (some 71), some (some 72), none, none, none, none, none, none, some (some 73), none, some (some 74), some (some 75), some (some 76), some (some 77), none, some none, some none, some none, none, none, some none, some none, none]), .inl 6, .inl 6, .inl 6, .inl 6, .inl 32, .inl 16, .inl 16, .inl 16, .inl 16, .inl 16, .inl 6, .inl 40, .inl 40, .inl 40, .inl 4, .inl 8, .inl 200, .inl 200, .inl 200, .inl 24, .inl 35] : List xS), x_u (x_z (x_z (x_z (x_z (x_z (x_z (x_z (x_z (x_z (x_z (x_z (x_z (x_z (x_z (x_z (x_z (x_z (x_z (x_z (x_z (x_z (w2) 58) 59) 60) 61) 62) 63) 64) 65) 66) 67) 68) 69) 70) 71) 72) 73) 74) 75) 76) 77) 78) 78 0 114), 21, 933)
    refine And.intro (show ¬ (_ ∨ _) by decide) ?_
    change x_wp _ _ _ _ _ _ 1907 (181, [some (.ref 57)], [.ref 78, .ref 57], (([.inr (9, [some (some 1), some (some 12), some (some 23), some (some 30), some (some 37), some (some 40), some (some 48), some (some 51), some (some 54)]), .inr (0, [some (some 2), some (some 4), some (some 6), some (some 8), some (some 10), none]), .inr (7, [some (some 3)]), .inl 6, .inr (7, [some (some 5)]), .inl 6, .inr (7, [some (some 7)]), .inl 6, .inr (7, [some (some 9)]), .inl 6, .inr (7, [some (some 11)]), .inl 32, .inr (3, [some (some 1), some (some 13), some (some 15), some (some 17), some (some 19), some (some 21), none]), .inr (7, [some (some 14)]), .inl 16, .inr (7, [some (some 16)]), .inl 16, .inr (7, [some (some 18)]), .inl 16, .inr (7, [some (some 20)]), .inl 16, .inr (7, [some (some 22)]), .inl 16, .inr (2, [some (some 24), some (some 26), some (some 28), none]), .inr (7, [some (some 25)]), .inl 8, .inr (7, [some (some 27)]), .inl 8, .inr (7, [some (some 29)]), .inl 8, .inr (8, [some (some 31), some (some 33), some (some 35), none]), .inr (7, [some (some 32)]), .inl 40, .inr (7, [some (some 34)]), .inl 40, .inr (7, [some (some 36)]), .inl 40, .inr (5, [some (some 1), some (some 12), some (some 38), none, none, none, none, none, none]), .inr (7, [some (some 39)]), .inl 4, .inr (4, [some (some 1), some (some 12), some (some 37), some (some 41), none]), .inr (8, [some (some 42), some (some 44), some (some 46), none]), .inr (7, [some (some 43)]), .inl 40, .inr (7, [some (some 45)]), .inl 40, .inr (7, [some (some 47)]), .inl 40, .inr (1, [some (some 49), none, none]), .inr (7, [some (some 50)]), .inl 24, .inr (6, [some (some 52), none, none, none]), .inr (7, [some (some 53)]), .inl 4, .inr (1, [some (some 55), none, none]), .inr (7, [some (some 56)]), .inl 40, .inr (10, [some (some 58), some (some 59), some (some 60), some (some 61), none, some (some 62), none, some (some 63), some (some 64), some (some 65), some (some 66), some (some 67), some (some 68), none, some (some 69), some (some 70), some (some 71), some (some 72), none, none, none, none, none, none, some (some 73), none, some (some 74), some (some 75), some (some 76), some (some 77), none, some none, some none, some none, none, none, some none, some none, none]), .inl 6, .inl 6, .inl 6, .inl 6, .inl 32, .inl 16, .inl 16, .inl 16, .inl 16, .inl 16, .inl 6, .inl 40, .inl 40, .inl 40, .inl 4, .inl 8, .inl 200, .inl 200, .inl 200, .inl 24, .inl 35] : List xS), x_u (x_u (x_z (x_z (x_z (x_z (x_z (x_z (x_z (x_z (x_z (x_z (x_z (x_z (x_z (x_z (x_z (x_z (x_z (x_z (x_z (x_z (x_z (w2) 58) 59) 60) 61) 62) 63) 64) 65) 66) 67) 68) 69) 70) 71) 72) 73) 74) 75) 76) 77) 78) 78 0 114) 78 1 111), 21, 933)
    refine And.intro (show ¬ (_ ∨ _) by decide) ?_
    change x_wp _ _ _ _ _ _ 1903 (186, [some (.ref 57)], [.ref 78, .ref 57], (([.inr (9, [some (some 1), some (some 12), some (some 23), some (some 30), some (some 37), some (some 40), some (some 48), some (some 51), some (some 54)]), .inr (0, [some (some 2), some (some 4), some (some 6), some (some 8), some (some 10), none]), .inr (7, [some (some 3)]), .inl 6, .inr (7, [some (some 5)]), .inl 6, .inr (7, [some (some 7)]), .inl 6, .inr (7, [some (some 9)]), .inl 6, .inr (7, [some (some 11)]), .inl 32, .inr (3, [some (some 1), some (some 13), some (some 15), some (some 17), some (some 19), some (some 21), none]), .inr (7, [some (some 14)]), .inl 16, .inr (7, [some (some 16)]), .inl 16, .inr (7, [some (some 18)]), .inl 16, .inr (7, [some (some 20)]), .inl 16, .inr (7, [some (some 22)]), .inl 16, .inr (2, [some (some 24), some (some 26), some (some 28), none]), .inr (7, [some (some 25)]), .inl 8, .inr (7, [some (some 27)]), .inl 8, .inr (7, [some (some 29)]), .inl 8, .inr (8, [some (some 31), some (some 33), some (some 35), none]), .inr (7, [some (some 32)]), .inl 40, .inr (7, [some (some 34)]), .inl 40, .inr (7, [some (some 36)]), .inl 40, .inr (5, [some (some 1), some (some 12), some (some 38), none, none, none, none, none, none]), .inr (7, [some (some 39)]), .inl 4, .inr (4, [some (some 1), some (some 12), some (some 37), some (some 41), none]), .inr (8, [some (some 42), some (some 44), some (some 46), none]), .inr (7, [some (some 43)]), .inl 40, .inr (7, [some (some 45)]), .inl 40, .inr (7, [some (some 47)]), .inl 40, .inr (1, [some (some 49), none, none]), .inr (7, [some (some 50)]), .inl 24, .inr (6, [some (some 52), none, none, none]), .inr (7, [some (some 53)]), .inl 4, .inr (1, [some (some 55), none, none]), .inr (7, [some (some 56)]), .inl 40, .inr (10, [some (some 58), some (some 59), some (some 60), some (some 61), none, some (some 62), none, some (some 63), some (some 64), some (some 65), some (some 66), some (some 67), some (some 68), none, some (some 69), some (some 70), some (some 71), some (some 72), none, none, none, none, none, none, some (some 73), none, some (some 74), some (some 75), some (some 76), some (some 77), none, some none, some none, some none, none, none, some none, some none, none]), .inl 6, .inl 6, .inl 6, .inl 6, .inl 32, .inl 16, .inl 16, .inl 16, .inl 16, .inl 16, .inl 6, .inl 40, .inl 40, .inl 40, .inl 4, .inl 8, .inl 200, .inl 200, .inl 200, .inl 24, .inl 35] : List xS), x_u (x_u (x_u (x_z (x_z (x_z (x_z (x_z (x_z (x_z (x_z (x_z (x_z (x_z (x_z (x_z (x_z (x_z (x_z (x_z (x_z (x_z (x_z (x_z (w2) 58) 59) 60) 61) 62) 63) 64) 65) 66) 67) 68) 69) 70) 71) 72) 73) 74) 75) 76) 77) 78) 78 0 114) 78 1 111) 78 2 111), 21, 933)
    refine And.intro (show ¬ (_ ∨ _) by decide) ?_
    change x_wp _ _ _ _ _ _ 1899 (191, [some (.ref 57)], [.ref 78, .ref 57], (([.inr (9, [some (some 1), some (some 12), some (some 23), some (some 30), some (some 37), some (some 40), some (some 48), some (some 51), some (some 54)]), .inr (0, [some (some 2), some (some 4), some (some 6), some (some 8), some (some 10), none]), .inr (7, [some (some 3)]), .inl 6, .inr (7, [some (some 5)]), .inl 6, .inr (7, [some (some 7)]), .inl 6, .inr (7, [some (some 9)]), .inl 6, .inr (7, [some (some 11)]), .inl 32, .inr (3, [some (some 1), some (some 13), some (some 15), some (some 17), some (some 19), some (some 21), none]), .inr (7, [some (some 14)]), .inl 16, .inr (7, [some (some 16)]), .inl 16, .inr (7, [some (some 18)]), .inl 16, .inr (7, [some (some 20)]), .inl 16, .inr (7, [some (some 22)]), .inl 16, .inr (2, [some (some 24), some (some 26), some (some 28), none]), .inr (7, [some (some 25)]), .inl 8, .inr (7, [some (some 27)]), .inl 8, .inr (7, [some (some 29)]), .inl 8, .inr (8, [some (some 31), some (some 33), some (some 35), none]), .inr (7, [some (some 32)]), .inl 40, .inr (7, [some (some 34)]), .inl 40, .inr (7, [some (some 36)]), .inl 40, .inr (5, [some (some 1), some (some 12), some (some 38), none, none, none, none, none, none]), .inr (7, [some (some 39)]), .inl 4, .inr (4, [some (some 1), some (some 12), some (some 37), some (some 41), none]), .inr (8, [some (some 42), some (some 44), some (some 46), none]), .inr (7, [some (some 43)]), .inl 40, .inr (7, [some (some 45)]), .inl 40, .inr (7, [some (some 47)]), .inl 40, .inr (1, [some (some 49), none, none]), .inr (7, [some (some 50)]), .inl 24, .inr (6, [some (some 52), none, none, none]), .inr (7, [some (some 53)]), .inl 4, .inr (1, [some (some 55), none, none]), .inr (7, [some (some 56)]), .inl 40, .inr (10, [some (some 58), some (some 59), some (some 60), some (some 61), none, some (some 62), none, some (some 63), some (some 64), some (some 65), some (some 66), some (some 67), some (some 68), none, some (some 69), some (some 70), some (some 71), some (some 72), none, none, none, none, none, none, some (some 73), none, some (some 74), some (some 75), some (some 76), some (some 77), none, some none, some none, some none, none, none, some none, some none, none]), .inl 6, .inl 6, .inl 6, .inl 6, .inl 32, .inl 16, .inl 16, .inl 16, .inl 16, .inl 16, .inl 6, .inl 40, .inl 40, .inl 40, .inl 4, .inl 8, .inl 200, .inl 200, .inl 200, .inl 24, .inl 35] : List xS), x_u (x_u (x_u (x_u (x_z (x_z (x_z (x_z (x_z (x_z (x_z (x_z (x_z (x_z (x_z (x_z (x_z (x_z (x_z (x_z (x_z (x_z (x_z (x_z (x_z (w2) 58) 59) 60) 61) 62) 63) 64) 65) 66) 67) 68) 69) 70) 71) 72) 73) 74) 75) 76) 77) 78) 78 0 114) 78 1 111) 78 2 111) 78 3 109), 21, 933)
    refine And.intro (show ¬ (_ ∨ _) by decide) ?_
    change x_wp _ _ _ _ _ _ 1895 (195, [some (.ref 57)], [.ref 78, .ref 57], (([.inr (9, [some (some 1), some (some 12), some (some 23), some (some 30), some (some 37), some (some 40), some (some 48), some (some 51), some (some 54)]), .inr (0, [some (some 2), some (some 4), some (some 6), some (some 8), some (some 10), none]), .inr (7, [some (some 3)]), .inl 6, .inr (7, [some (some 5)]), .inl 6, .inr (7, [some (some 7)]), .inl 6, .inr (7, [some (some 9)]), .inl 6, .inr (7, [some (some 11)]), .inl 32, .inr (3, [some (some 1), some (some 13), some (some 15), some (some 17), some (some 19), some (some 21), none]), .inr (7, [some (some 14)]), .inl 16, .inr (7, [some (some 16)]), .inl 16, .inr (7, [some (some 18)]), .inl 16, .inr (7, [some (some 20)]), .inl 16, .inr (7, [some (some 22)]), .inl 16, .inr (2, [some (some 24), some (some 26), some (some 28), none]), .inr (7, [some (some 25)]), .inl 8, .inr (7, [some (some 27)]), .inl 8, .inr (7, [some (some 29)]), .inl 8, .inr (8, [some (some 31), some (some 33), some (some 35), none]), .inr (7, [some (some 32)]), .inl 40, .inr (7, [some (some 34)]), .inl 40, .inr (7, [some (some 36)]), .inl 40, .inr (5, [some (some 1), some (some 12), some (some 38), none, none, none, none, none, none]), .inr (7, [some (some 39)]), .inl 4, .inr (4, [some (some 1), some (some 12), some (some 37), some (some 41), none]), .inr (8, [some (some 42), some (some 44), some (some 46), none]), .inr (7, [some (some 43)]), .inl 40, .inr (7, [some (some 45)]), .inl 40, .inr (7, [some (some 47)]), .inl 40, .inr (1, [some (some 49), none, none]), .inr (7, [some (some 50)]), .inl 24, .inr (6, [some (some 52), none, none, none]), .inr (7, [some (some 53)]), .inl 4, .inr (1, [some (some 55), none, none]), .inr (7, [some (some 56)]), .inl 40, .inr (10, [some (some 58), some (some 59), some (some 60), some (some 61), none, some (some 62), none, some (some 63), some (some 64), some (some 65), some (some 66), some (some 67), some (some 68), none, some (some 69), some (some 70), some (some 71), some (some 72), none, none, none, none, none, none, some (some 73), none, some (some 74), some (some 75), some (some 76), some (some 77), none, some none, some none, some none, none, none, some none, some none, none]), .inl 6, .inl 6, .inl 6, .inl 6, .inl 32, .inl 16, .inl 16, .inl 16, .inl 16, .inl 16, .inl 6, .inl 40, .inl 40, .inl 40, .inl 4, .inl 8, .inl 200, .inl 200, .inl 200, .inl 24, .inl 35] : List xS), x_u (x_u (x_u (x_u (x_u (x_z (x_z (x_z (x_z (x_z (x_z (x_z (x_z (x_z (x_z (x_z (x_z (x_z (x_z (x_z (x_z (x_z (x_z (x_z (x_z (x_z (w2) 58) 59) 60) 61) 62) 63) 64) 65) 66) 67) 68) 69) 70) 71) 72) 73) 74) 75) 76) 77) 78) 78 0 114) 78 1 111) 78 2 111) 78 3 109) 78 4 0), 21, 933)
    refine And.intro (show ¬ (_ ∨ _) by decide) ?_
    change x_wp _ _ _ _ _ _ 1891 (200, [some (.ref 57)], [.ref 78, .ref 57], (([.inr (9, [some (some 1), some (some 12), some (some 23), some (some 30), some (some 37), some (some 40), some (some 48), some (some 51), some (some 54)]), .inr (0, [some (some 2), some (some 4), some (some 6), some (some 8), some (some 10), none]), .inr (7, [some (some 3)]), .inl 6, .inr (7, [some (some 5)]), .inl 6, .inr (7, [some (some 7)]), .inl 6, .inr (7, [some (some 9)]), .inl 6, .inr (7, [some (some 11)]), .inl 32, .inr (3, [some (some 1), some (some 13), some (some 15), some (some 17), some (some 19), some (some 21), none]), .inr (7, [some (some 14)]), .inl 16, .inr (7, [some (some 16)]), .inl 16, .inr (7, [some (some 18)]), .inl 16, .inr (7, [some (some 20)]), .inl 16, .inr (7, [some (some 22)]), .inl 16, .inr (2, [some (some 24), some (some 26), some (some 28), none]), .inr (7, [some (some 25)]), .inl 8, .inr (7, [some (some 27)]), .inl 8, .inr (7, [some (some 29)]), .inl 8, .inr (8, [some (some 31), some (some 33), some (some 35), none]), .inr (7, [some (some 32)]), .inl 40, .inr (7, [some (some 34)]), .inl 40, .inr (7, [some (some 36)]), .inl 40, .inr (5, [some (some 1), some (some 12), some (some 38), none, none, none, none, none, none]), .inr (7, [some (some 39)]), .inl 4, .inr (4, [some (some 1), some (some 12), some (some 37), some (some 41), none]), .inr (8, [some (some 42), some (some 44), some (some 46), none]), .inr (7, [some (some 43)]), .inl 40, .inr (7, [some (some 45)]), .inl 40, .inr (7, [some (some 47)]), .inl 40, .inr (1, [some (some 49), none, none]), .inr (7, [some (some 50)]), .inl 24, .inr (6, [some (some 52), none, none, none]), .inr (7, [some (some 53)]), .inl 4, .inr (1, [some (some 55), none, none]), .inr (7, [some (some 56)]), .inl 40, .inr (10, [some (some 58), some (some 59), some (some 60), some (some 61), none, some (some 62), none, some (some 63), some (some 64), some (some 65), some (some 66), some (some 67), some (some 68), none, some (some 69), some (some 70), some (some 71), some (some 72), none, none, none, none, none, none, some (some 73), none, some (some 74), some (some 75), some (some 76), some (some 77), none, some none, some none, some none, none, none, some none, some none, none]), .inl 6, .inl 6, .inl 6, .inl 6, .inl 32, .inl 16, .inl 16, .inl 16, .inl 16, .inl 16, .inl 6, .inl 40, .inl 40, .inl 40, .inl 4, .inl 8, .inl 200, .inl 200, .inl 200, .inl 24, .inl 35] : List xS), x_u (x_u (x_u (x_u (x_u (x_u (x_z (x_z (x_z (x_z (x_z (x_z (x_z (x_z (x_z (x_z (x_z (x_z (x_z (x_z (x_z (x_z (x_z (x_z (x_z (x_z (x_z (w2) 58) 59) 60) 61) 62) 63) 64) 65) 66) 67) 68) 69) 70) 71) 72) 73) 74) 75) 76) 77) 78) 78 0 114) 78 1 111) 78 2 111) 78 3 109) 78 4 0) 78 5 110), 21, 933)
    refine And.intro (show ¬ (_ ∨ _) by decide) ?_
    change x_wp _ _ _ _ _ _ 1887 (206, [some (.ref 57)], [.ref 78, .ref 57], (([.inr (9, [some (some 1), some (some 12), some (some 23), some (some 30), some (some 37), some (some 40), some (some 48), some (some 51), some (some 54)]), .inr (0, [some (some 2), some (some 4), some (some 6), some (some 8), some (some 10), none]), .inr (7, [some (some 3)]), .inl 6, .inr (7, [some (some 5)]), .inl 6, .inr (7, [some (some 7)]), .inl 6, .inr (7, [some (some 9)]), .inl 6, .inr (7, [some (some 11)]), .inl 32, .inr (3, [some (some 1), some (some 13), some (some 15), some (some 17), some (some 19), some (some 21), none]), .inr (7, [some (some 14)]), .inl 16, .inr (7, [some (some 16)]), .inl 16, .inr (7, [some (some 18)]), .inl 16, .inr (7, [some (some 20)]), .inl 16, .inr (7, [some (some 22)]), .inl 16, .inr (2, [some (some 24), some (some 26), some (some 28), none]), .inr (7, [some (some 25)]), .inl 8, .inr (7, [some (some 27)]), .inl 8, .inr (7, [some (some 29)]), .inl 8, .inr (8, [some (some 31), some (some 33), some (some 35), none]), .inr (7, [some (some 32)]), .inl 40, .inr (7, [some (some 34)]), .inl 40, .inr (7, [some (some 36)]), .inl 40, .inr (5, [some (some 1), some (some 12), some (some 38), none, none, none, none, none, none]), .inr (7, [some (some 39)]), .inl 4, .inr (4, [some (some 1), some (some 12), some (some 37), some (some 41), none]), .inr (8, [some (some 42), some (some 44), some (some 46), none]), .inr (7, [some (some 43)]), .inl 40, .inr (7, [some (some 45)]), .inl 40, .inr (7, [some (some 47)]), .inl 40, .inr (1, [some (some 49), none, none]), .inr (7, [some (some 50)]), .inl 24, .inr (6, [some (some 52), none, none, none]), .inr (7, [some (some 53)]), .inl 4, .inr (1, [some (some 55), none, none]), .inr (7, [some (some 56)]), .inl 40, .inr (10, [some (some 58), some (some 59), some (some 60), some (some 61), none, some (some 62), none, some (some 63), some (some 64), some (some 65), some (some 66), some (some 67), some (some 68), none, some (some 69), some (some 70), some (some 71), some (some 72), none, none, none, none, none, none, some (some 73), none, some (some 74), some (some 75), some (some 76), some (some 77), none, some none, some none, some none, none, none, some none, some none, none]), .inl 6, .inl 6, .inl 6, .inl 6, .inl 32, .inl 16, .inl 16, .inl 16, .inl 16, .inl 16, .inl 6, .inl 40, .inl 40, .inl 40, .inl 4, .inl 8, .inl 200, .inl 200, .inl 200, .inl 24, .inl 35] : List xS), x_u (x_u (x_u (x_u (x_u (x_u (x_u (x_z (x_z (x_z (x_z (x_z (x_z (x_z (x_z (x_z (x_z (x_z (x_z (x_z (x_z (x_z (x_z (x_z (x_z (x_z (x_z (x_z (w2) 58) 59) 60) 61) 62) 63) 64) 65) 66) 67) 68) 69) 70) 71) 72) 73) 74) 75) 76) 77) 78) 78 0 114) 78 1 111) 78 2 111) 78 3 109) 78 4 0) 78 5 110) 78 6 101), 21, 933)
    refine And.intro (show ¬ (_ ∨ _) by decide) ?_
    change x_wp _ _ _ _ _ _ 1883 (212, [some (.ref 57)], [.ref 78, .ref 57], (([.inr (9, [some (some 1), some (some 12), some (some 23), some (some 30), some (some 37), some (some 40), some (some 48), some (some 51), some (some 54)]), .inr (0, [some (some 2), some (some 4), some (some 6), some (some 8), some (some 10), none]), .inr (7, [some (some 3)]), .inl 6, .inr (7, [some (some 5)]), .inl 6, .inr (7, [some (some 7)]), .inl 6, .inr (7, [some (some 9)]), .inl 6, .inr (7, [some (some 11)]), .inl 32, .inr (3, [some (some 1), some (some 13), some (some 15), some (some 17), some (some 19), some (some 21), none]), .inr (7, [some (some 14)]), .inl 16, .inr (7, [some (some 16)]), .inl 16, .inr (7, [some (some 18)]), .inl 16, .inr (7, [some (some 20)]), .inl 16, .inr (7, [some (some 22)]), .inl 16, .inr (2, [some (some 24), some (some 26), some (some 28), none]), .inr (7, [some (some 25)]), .inl 8, .inr (7, [some (some 27)]), .inl 8, .inr (7, [some (some 29)]), .inl 8, .inr (8, [some (some 31), some (some 33), some (some 35), none]), .inr (7, [some (some 32)]), .inl 40, .inr (7, [some (some 34)]), .inl 40, .inr (7, [some (some 36)]), .inl 40, .inr (5, [some (some 1), some (some 12), some (some 38), none, none, none, none, none, none]), .inr (7, [some (some 39)]), .inl 4, .inr (4, [some (some 1), some (some 12), some (some 37), some (some 41), none]), .inr (8, [some (some 42), some (some 44), some (some 46), none]), .inr (7, [some (some 43)]), .inl 40, .inr (7, [some (some 45)]), .inl 40, .inr (7, [some (some 47)]), .inl 40, .inr (1, [some (some 49), none, none]), .inr (7, [some (some 50)]), .inl 24, .inr (6, [some (some 52), none, none, none]), .inr (7, [some (some 53)]), .inl 4, .inr (1, [some (some 55), none, none]), .inr (7, [some (some 56)]), .inl 40, .inr (10, [some (some 58), some (some 59), some (some 60), some (some 61), none, some (some 62), none, some (some 63), some (some 64), some (some 65), some (some 66), some (some 67), some (some 68), none, some (some 69), some (some 70), some (some 71), some (some 72), none, none, none, none, none, none, some (some 73), none, some (some 74), some (some 75), some (some 76), some (some 77), none, some none, some none, some none, none, none, some none, some none, none]), .inl 6, .inl 6, .inl 6, .inl 6, .inl 32, .inl 16, .inl 16, .inl 16, .inl 16, .inl 16, .inl 6, .inl 40, .inl 40, .inl 40, .inl 4, .inl 8, .inl 200, .inl 200, .inl 200, .inl 24, .inl 35] : List xS), x_u (x_u (x_u (x_u (x_u (x_u (x_u (x_u (x_z (x_z (x_z (x_z (x_z (x_z (x_z (x_z (x_z (x_z (x_z (x_z (x_z (x_z (x_z (x_z (x_z (x_z (x_z (x_z (x_z (w2) 58) 59) 60) 61) 62) 63) 64) 65) 66) 67) 68) 69) 70) 71) 72) 73) 74) 75) 76) 77) 78) 78 0 114) 78 1 111) 78 2 111) 78 3 109) 78 4 0) 78 5 110) 78 6 101) 78 7 97), 21, 933)
    refine And.intro (show ¬ (_ ∨ _) by decide) ?_
    change x_wp _ _ _ _ _ _ 1879 (218, [some (.ref 57)], [.ref 78, .ref 57], (([.inr (9, [some (some 1), some (some 12), some (some 23), some (some 30), some (some 37), some (some 40), some (some 48), some (some 51), some (some 54)]), .inr (0, [some (some 2), some (some 4), some (some 6), some (some 8), some (some 10), none]), .inr (7, [some (some 3)]), .inl 6, .inr (7, [some (some 5)]), .inl 6, .inr (7, [some (some 7)]), .inl 6, .inr (7, [some (some 9)]), .inl 6, .inr (7, [some (some 11)]), .inl 32, .inr (3, [some (some 1), some (some 13), some (some 15), some (some 17), some (some 19), some (some 21), none]), .inr (7, [some (some 14)]), .inl 16, .inr (7, [some (some 16)]), .inl 16, .inr (7, [some (some 18)]), .inl 16, .inr (7, [some (some 20)]), .inl 16, .inr (7, [some (some 22)]), .inl 16, .inr (2, [some (some 24), some (some 26), some (some 28), none]), .inr (7, [some (some 25)]), .inl 8, .inr (7, [some (some 27)]), .inl 8, .inr (7, [some (some 29)]), .inl 8, .inr (8, [some (some 31), some (some 33), some (some 35), none]), .inr (7, [some (some 32)]), .inl 40, .inr (7, [some (some 34)]), .inl 40, .inr (7, [some (some 36)]), .inl 40, .inr (5, [some (some 1), some (some 12), some (some 38), none, none, none, none, none, none]), .inr (7, [some (some 39)]), .inl 4, .inr (4, [some (some 1), some (some 12), some (some 37), some (some 41), none]), .inr (8, [some (some 42), some (some 44), some (some 46), none]), .inr (7, [some (some 43)]), .inl 40, .inr (7, [some (some 45)]), .inl 40, .inr (7, [some (some 47)]), .inl 40, .inr (1, [some (some 49), none, none]), .inr (7, [some (some 50)]), .inl 24, .inr (6, [some (some 52), none, none, none]), .inr (7, [some (some 53)]), .inl 4, .inr (1, [some (some 55), none, none]), .inr (7, [some (some 56)]), .inl 40, .inr (10, [some (some 58), some (some 59), some (some 60), some (some 61), none, some (some 62), none, some (some 63), some (some 64), some (some 65), some (some 66), some (some 67), some (some 68), none, some (some 69), some (some 70), some (some 71), some (some 72), none, none, none, none, none, none, some (some 73), none, some (some 74), some (some 75), some (some 76), some (some 77), none, some none, some none, some none, none, none, some none, some none, none]), .inl 6, .inl 6, .inl 6, .inl 6, .inl 32, .inl 16, .inl 16, .inl 16, .inl 16, .inl 16, .inl 6, .inl 40, .inl 40, .inl 40, .inl 4, .inl 8, .inl 200, .inl 200, .inl 200, .inl 24, .inl 35] : List xS), x_u (x_u (x_u (x_u (x_u (x_u (x_u (x_u (x_u (x_z (x_z (x_z (x_z (x_z (x_z (x_z (x_z (x_z (x_z (x_z (x_z (x_z (x_z (x_z (x_z (x_z (x_z (x_z (x_z (x_z (w2) 58) 59) 60) 61) 62) 63) 64) 65) 66) 67) 68) 69) 70) 71) 72) 73) 74) 75) 76) 77) 78) 78 0 114) 78 1 111) 78 2 111) 78 3 109) 78 4 0) 78 5 110) 78 6 101) 78 7 97) 78 8 114), 21, 933)
    refine And.intro (show ¬ (_ ∨ _) by decide) ?_
    change x_wp _ _ _ _ _ _ 1875 (223, [some (.ref 57)], [.ref 78, .ref 57], (([.inr (9, [some (some 1), some (some 12), some (some 23), some (some 30), some (some 37), some (some 40), some (some 48), some (some 51), some (some 54)]), .inr (0, [some (some 2), some (some 4), some (some 6), some (some 8), some (some 10), none]), .inr (7, [some (some 3)]), .inl 6, .inr (7, [some (some 5)]), .inl 6, .inr (7, [some (some 7)]), .inl 6, .inr (7, [some (some 9)]), .inl 6, .inr (7, [some (some 11)]), .inl 32, .inr (3, [some (some 1), some (some 13), some (some 15), some (some 17), some (some 19), some (some 21), none]), .inr (7, [some (some 14)]), .inl 16, .inr (7, [some (some 16)]), .inl 16, .inr (7, [some (some 18)]), .inl 16, .inr (7, [some (some 20)]), .inl 16, .inr (7, [some (some 22)]), .inl 16, .inr (2, [some (some 24), some (some 26), some (some 28), none]), .inr (7, [some (some 25)]), .inl 8, .inr (7, [some (some 27)]), .inl 8, .inr (7, [some (some 29)]), .inl 8, .inr (8, [some (some 31), some (some 33), some (some 35), none]), .inr (7, [some (some 32)]), .inl 40, .inr (7, [some (some 34)]), .inl 40, .inr (7, [some (some 36)]), .inl 40, .inr (5, [some (some 1), some (some 12), some (some 38), none, none, none, none, none, none]), .inr (7, [some (some 39)]), .inl 4, .inr (4, [some (some 1), some (some 12), some (some 37), some (some 41), none]), .inr (8, [some (some 42), some (some 44), some (some 46), none]), .inr (7, [some (some 43)]), .inl 40, .inr (7, [some (some 45)]), .inl 40, .inr (7, [some (some 47)]), .inl 40, .inr (1, [some (some 49), none, none]), .inr (7, [some (some 50)]), .inl 24, .inr (6, [some (some 52), none, none, none]), .inr (7, [some (some 53)]), .inl 4, .inr (1, [some (some 55), none, none]), .inr (7, [some (some 56)]), .inl 40, .inr (10, [some (some 58), some (some 59), some (some 60), some (some 61), none, some (some 62), none, some (some 63), some (some 64), some (some 65), some (some 66), some (some 67), some (some 68), none, some (some 69), some (some 70), some (some 71), some (some 72), none, none, none, none, none, none, some (some 73), none, some (some 74), some (some 75), some (some 76), some (some 77), none, some none, some none, some none, none, none, some none, some none, none]), .inl 6, .inl 6, .inl 6, .inl 6, .inl 32, .inl 16, .inl 16, .inl 16, .inl 16, .inl 16, .inl 6, .inl 40, .inl 40, .inl 40, .inl 4, .inl 8, .inl 200, .inl 200, .inl 200, .inl 24, .inl 35] : List xS), x_u (x_u (x_u (x_u (x_u (x_u (x_u (x_u (x_u (x_u (x_z (x_z (x_z (x_z (x_z (x_z (x_z (x_z (x_z (x_z (x_z (x_z (x_z (x_z (x_z (x_z (x_z (x_z (x_z (x_z (x_z (w2) 58) 59) 60) 61) 62) 63) 64) 65) 66) 67) 68) 69) 70) 71) 72) 73) 74) 75) 76) 77) 78) 78 0 114) 78 1 111) 78 2 111) 78 3 109) 78 4 0) 78 5 110) 78 6 101) 78 7 97) 78 8 114) 78 9 0), 21, 933)
    refine And.intro (show ¬ (_ ∨ _) by decide) ?_
    change x_wp _ _ _ _ _ _ 1871 (229, [some (.ref 57)], [.ref 78, .ref 57], (([.inr (9, [some (some 1), some (some 12), some (some 23), some (some 30), some (some 37), some (some 40), some (some 48), some (some 51), some (some 54)]), .inr (0, [some (some 2), some (some 4), some (some 6), some (some 8), some (some 10), none]), .inr (7, [some (some 3)]), .inl 6, .inr (7, [some (some 5)]), .inl 6, .inr (7, [some (some 7)]), .inl 6, .inr (7, [some (some 9)]), .inl 6, .inr (7, [some (some 11)]), .inl 32, .inr (3, [some (some 1), some (some 13), some (some 15), some (some 17), some (some 19), some (some 21), none]), .inr (7, [some (some 14)]), .inl 16, .inr (7, [some (some 16)]), .inl 16, .inr (7, [some (some 18)]), .inl 16, .inr (7, [some (some 20)]), .inl 16, .inr (7, [some (some 22)]), .inl 16, .inr (2, [some (some 24), some (some 26), some (some 28), none]), .inr (7, [some (some 25)]), .inl 8, .inr (7, [some (some 27)]), .inl 8, .inr (7, [some (some 29)]), .inl 8, .inr (8, [some (some 31), some (some 33), some (some 35), none]), .inr (7, [some (some 32)]), .inl 40, .inr (7, [some (some 34)]), .inl 40, .inr (7, [some (some 36)]), .inl 40, .inr (5, [some (some 1), some (some 12), some (some 38), none, none, none, none, none, none]), .inr (7, [some (some 39)]), .inl 4, .inr (4, [some (some 1), some (some 12), some (some 37), some (some 41), none]), .inr (8, [some (some 42), some (some 44), some (some 46), none]), .inr (7, [some (some 43)]), .inl 40, .inr (7, [some (some 45)]), .inl 40, .inr (7, [some (some 47)]), .inl 40, .inr (1, [some (some 49), none, none]), .inr (7, [some (some 50)]), .inl 24, .inr (6, [some (some 52), none, none, none]), .inr (7, [some (some 53)]), .inl 4, .inr (1, [some (some 55), none, none]), .inr (7, [some (some 56)]), .inl 40, .inr (10, [some (some 58), some (some 59), some (some 60), some (some 61), none, some (some 62), none, some (some 63), some (some 64), some (some 65), some (some 66), some (some 67), some (some 68), none, some (some 69), some (some 70), some (some 71), some (some 72), none, none, none, none, none, none, some (some 73), none, some (some 74), some (some 75), some (some 76), some (some 77), none, some none, some none, some none, none, none, some none, some none, none]), .inl 6, .inl 6, .inl 6, .inl 6, .inl 32, .inl 16, .inl 16, .inl 16, .inl 16, .inl 16, .inl 6, .inl 40, .inl 40, .inl 40, .inl 4, .inl 8, .inl 200, .inl 200, .inl 200, .inl 24, .inl 35] : List xS), x_u (x_u (x_u (x_u (x_u (x_u (x_u (x_u (x_u (x_u (x_u (x_z (x_z (x_z (x_z (x_z (x_z (x_z (x_z (x_z (x_z (x_z (x_z (x_z (x_z (x_z (x_z (x_z (x_z (x_z (x_z (x_z (w2) 58) 59) 60) 61) 62) 63) 64) 65) 66) 67) 68) 69) 70) 71) 72) 73) 74) 75) 76) 77) 78) 78 0 114) 78 1 111) 78 2 111) 78 3 109) 78 4 0) 78 5 110) 78 6 101) 78 7 97) 78 8 114) 78 9 0) 78 10 110), 21, 933)
    refine And.intro (show ¬ (_ ∨ _) by decide) ?_
    change x_wp _ _ _ _ _ _ 1867 (235, [some (.ref 57)], [.ref 78, .ref 57], (([.inr (9, [some (some 1), some (some 12), some (some 23), some (some 30), some (some 37), some (some 40), some (some 48), some (some 51), some (some 54)]), .inr (0, [some (some 2), some (some 4), some (some 6), some (some 8), some (some 10), none]), .inr (7, [some (some 3)]), .inl 6, .inr (7, [some (some 5)]), .inl 6, .inr (7, [some (some 7)]), .inl 6, .inr (7, [some (some 9)]), .inl 6, .inr (7, [some (some 11)]), .inl 32, .inr (3, [some (some 1), some (some 13), some (some 15), some (some 17), some (some 19), some (some 21), none]), .inr (7, [some (some 14)]), .inl 16, .inr (7, [some (some 16)]), .inl 16, .inr (7, [some (some 18)]), .inl 16, .inr (7, [some (some 20)]), .inl 16, .inr (7, [some (some 22)]), .inl 16, .inr (2, [some (some 24), some (some 26), some (some 28), none]), .inr (7, [some (some 25)]), .inl 8, .inr (7, [some (some 27)]), .inl 8, .inr (7, [some (some 29)]), .inl 8, .inr (8, [some (some 31), some (some 33), some (some 35), none]), .inr (7, [some (some 32)]), .inl 40, .inr (7, [some (some 34)]), .inl 40, .inr (7, [some (some 36)]), .inl 40, .inr (5, [some (some 1), some (some 12), some (some 38), none, none, none, none, none, none]), .inr (7, [some (some 39)]), .inl 4, .inr (4, [some (some 1), some (some 12), some (some 37), some (some 41), none]), .inr (8, [some (some 42), some (some 44), some (some 46), none]), .inr (7, [some (some 43)]), .inl 40, .inr (7, [some (some 45)]), .inl 40, .inr (7, [some (some 47)]), .inl 40, .inr (1, [some (some 49), none, none]), .inr (7, [some (some 50)]), .inl 24, .inr (6, [some (some 52), none, none, none]), .inr (7, [some (some 53)]), .inl 4, .inr (1, [some (some 55), none, none]), .inr (7, [some (some 56)]), .inl 40, .inr (10, [some (some 58), some (some 59), some (some 60), some (some 61), none, some (some 62), none, some (some 63), some (some 64), some (some 65), some (some 66), some (some 67), some (some 68), none, some (some 69), some (some 70), some (some 71), some (some 72), none, none, none, none, none, none, some (some 73), none, some (some 74), some (some 75), some (some 76), some (some 77), none, some none, some none, some none, none, none, some none, some none, none]), .inl 6, .inl 6, .inl 6, .inl 6, .inl 32, .inl 16, .inl 16, .inl 16, .inl 16, .inl 16, .inl 6, .inl 40, .inl 40, .inl 40, .inl 4, .inl 8, .inl 200, .inl 200, .inl 200, .inl 24, .inl 35] : List xS), x_u (x_u (x_u (x_u (x_u (x_u (x_u (x_u (x_u (x_u (x_u (x_u (x_z (x_z (x_z (x_z (x_z (x_z (x_z (x_z (x_z (x_z (x_z (x_z (x_z (x_z (x_z (x_z (x_z (x_z (x_z (x_z (x_z (w2) 58) 59) 60) 61) 62) 63) 64) 65) 66) 67) 68) 69) 70) 71) 72) 73) 74) 75) 76) 77) 78) 78 0 114) 78 1 111) 78 2 111) 78 3 109) 78 4 0) 78 5 110) 78 6 101) 78 7 97) 78 8 114) 78 9 0) 78 10 110) 78 11 101), 21, 933)
    refine And.intro (show ¬ (_ ∨ _) by decide) ?_
    change x_wp _ _ _ _ _ _ 1863 (241, [some (.ref 57)], [.ref 78, .ref 57], (([.inr (9, [some (some 1), some (some 12), some (some 23), some (some 30), some (some 37), some (some 40), some (some 48), some (some 51), some (some 54)]), .inr (0, [some (some 2), some (some 4), some (some 6), some (some 8), some (some 10), none]), .inr (7, [some (some 3)]), .inl 6, .inr (7, [some (some 5)]), .inl 6, .inr (7, [some (some 7)]), .inl 6, .inr (7, [some (some 9)]), .inl 6, .inr (7, [some (some 11)]), .inl 32, .inr (3, [some (some 1), some (some 13), some (some 15), some (some 17), some (some 19), some (some 21), none]), .inr (7, [some (some 14)]), .inl 16, .inr (7, [some (some 16)]), .inl 16, .inr (7, [some (some 18)]), .inl 16, .inr (7, [some (some 20)]), .inl 16, .inr (7, [some (some 22)]), .inl 16, .inr (2, [some (some 24), some (some 26), some (some 28), none]), .inr (7, [some (some 25)]), .inl 8, .inr (7, [some (some 27)]), .inl 8, .inr (7, [some (some 29)]), .inl 8, .inr (8, [some (some 31), some (some 33), some (some 35), none]), .inr (7, [some (some 32)]), .inl 40, .inr (7, [some (some 34)]), .inl 40, .inr (7, [some (some 36)]), .inl 40, .inr (5, [some (some 1), some (some 12), some (some 38), none, none, none, none, none, none]), .inr (7, [some (some 39)]), .inl 4, .inr (4, [some (some 1), some (some 12), some (some 37), some (some 41), none]), .inr (8, [some (some 42), some (some 44), some (some 46), none]), .inr (7, [some (some 43)]), .inl 40, .inr (7, [some (some 45)]), .inl 40, .inr (7, [some (some 47)]), .inl 40, .inr (1, [some (some 49), none, none]), .inr (7, [some (some 50)]), .inl 24, .inr (6, [some (some 52), none, none, none]), .inr (7, [some (some 53)]), .inl 4, .inr (1, [some (some 55), none, none]), .inr (7, [some (some 56)]), .inl 40, .inr (10, [some (some 58), some (some 59), some (some 60), some (some 61), none, some (some 62), none, some (some 63), some (some 64), some (some 65), some (some 66), some (some 67), some (some 68), none, some (some 69), some (some 70), some (some 71), some (some 72), none, none, none, none, none, none, some (some 73), none, some (some 74), some (some 75), some (some 76), some (some 77), none, some none, some none, some none, none, none, some none, some none, none]), .inl 6, .inl 6, .inl 6, .inl 6, .inl 32, .inl 16, .inl 16, .inl 16, .inl 16, .inl 16, .inl 6, .inl 40, .inl 40, .inl 40, .inl 4, .inl 8, .inl 200, .inl 200, .inl 200, .inl 24, .inl 35] : List xS), x_u (x_u (x_u (x_u (x_u (x_u (x_u (x_u (x_u (x_u (x_u (x_u (x_u (x_z (x_z (x_z (x_z (x_z (x_z (x_z (x_z (x_z (x_z (x_z (x_z (x_z (x_z (x_z (x_z (x_z (x_z (x_z (x_z (x_z (w2) 58) 59) 60) 61) 62) 63) 64) 65) 66) 67) 68) 69) 70) 71) 72) 73) 74) 75) 76) 77) 78) 78 0 114) 78 1 111) 78 2 111) 78 3 109) 78 4 0) 78 5 110) 78 6 101) 78 7 97) 78 8 114) 78 9 0) 78 10 110) 78 11 101) 78 12 116), 21, 933)
    refine And.intro (show ¬ (_ ∨ _) by decide) ?_
    change x_wp _ _ _ _ _ _ 1859 (246, [some (.ref 57)], [.ref 78, .ref 57], (([.inr (9, [some (some 1), some (some 12), some (some 23), some (some 30), some (some 37), some (some 40), some (some 48), some (some 51), some (some 54)]), .inr (0, [some (some 2), some (some 4), some (some 6), some (some 8), some (some 10), none]), .inr (7, [some (some 3)]), .inl 6, .inr (7, [some (some 5)]), .inl 6, .inr (7, [some (some 7)]), .inl 6, .inr (7, [some (some 9)]), .inl 6, .inr (7, [some (some 11)]), .inl 32, .inr (3, [some (some 1), some (some 13), some (some 15), some (some 17), some (some 19), some (some 21), none]), .inr (7, [some (some 14)]), .inl 16, .inr (7, [some (some 16)]), .inl 16, .inr (7, [some (some 18)]), .inl 16, .inr (7, [some (some 20)]), .inl 16, .inr (7, [some (some 22)]), .inl 16, .inr (2, [some (some 24), some (some 26), some (some 28), none]), .inr (7, [some (some 25)]), .inl 8, .inr (7, [some (some 27)]), .inl 8, .inr (7, [some (some 29)]), .inl 8, .inr (8, [some (some 31), some (some 33), some (some 35), none]), .inr (7, [some (some 32)]), .inl 40, .inr (7, [some (some 34)]), .inl 40, .inr (7, [some (some 36)]), .inl 40, .inr (5, [some (some 1), some (some 12), some (some 38), none, none, none, none, none, none]), .inr (7, [some (some 39)]), .inl 4, .inr (4, [some (some 1), some (some 12), some (some 37), some (some 41), none]), .inr (8, [some (some 42), some (some 44), some (some 46), none]), .inr (7, [some (some 43)]), .inl 40, .inr (7, [some (some 45)]), .inl 40, .inr (7, [some (some 47)]), .inl 40, .inr (1, [some (some 49), none, none]), .inr (7, [some (some 50)]), .inl 24, .inr (6, [some (some 52), none, none, none]), .inr (7, [some (some 53)]), .inl 4, .inr (1, [some (some 55), none, none]), .inr (7, [some (some 56)]), .inl 40, .inr (10, [some (some 58), some (some 59), some (some 60), some (some 61), none, some (some 62), none, some (some 63), some (some 64), some (some 65), some (some 66), some (some 67), some (some 68), none, some (some 69), some (some 70), some (some 71), some (some 72), none, none, none, none, none, none, some (some 73), none, some (some 74), some (some 75), some (some 76), some (some 77), none, some none, some none, some none, none, none, some none, some none, none]), .inl 6, .inl 6, .inl 6, .inl 6, .inl 32, .inl 16, .inl 16, .inl 16, .inl 16, .inl 16, .inl 6, .inl 40, .inl 40, .inl 40, .inl 4, .inl 8, .inl 200, .inl 200, .inl 200, .inl 24, .inl 35] : List xS), x_u (x_u (x_u (x_u (x_u (x_u (x_u (x_u (x_u (x_u (x_u (x_u (x_u (x_u (x_z (x_z (x_z (x_z (x_z (x_z (x_z (x_z (x_z (x_z (x_z (x_z (x_z (x_z (x_z (x_z (x_z (x_z (x_z (x_z (x_z (w2) 58) 59) 60) 61) 62) 63) 64) 65) 66) 67) 68) 69) 70) 71) 72) 73) 74) 75) 76) 77) 78) 78 0 114) 78 1 111) 78 2 111) 78 3 109) 78 4 0) 78 5 110) 78 6 101) 78 7 97) 78 8 114) 78 9 0) 78 10 110) 78 11 101) 78 12 116) 78 13 0), 21, 933)
    refine And.intro (show ¬ (_ ∨ _) by decide) ?_
    change x_wp _ _ _ _ _ _ 1855 (251, [some (.ref 57)], [.ref 78, .ref 57], (([.inr (9, [some (some 1), some (some 12), some (some 23), some (some 30), some (some 37), some (some 40), some (some 48), some (some 51), some (some 54)]), .inr (0, [some (some 2), some (some 4), some (some 6), some (some 8), some (some 10), none]), .inr (7, [some (some 3)]), .inl 6, .inr (7, [some (some 5)]), .inl 6, .inr (7, [some (some 7)]), .inl 6, .inr (7, [some (some 9)]), .inl 6, .inr (7, [some (some 11)]), .inl 32, .inr (3, [some (some 1), some (some 13), some (some 15), some (some 17), some (some 19), some (some 21), none]), .inr (7, [some (some 14)]), .inl 16, .inr (7, [some (some 16)]), .inl 16, .inr (7, [some (some 18)]), .inl 16, .inr (7, [some (some 20)]), .inl 16, .inr (7, [some (some 22)]), .inl 16, .inr (2, [some (some 24), some (some 26), some (some 28), none]), .inr (7, [some (some 25)]), .inl 8, .inr (7, [some (some 27)]), .inl 8, .inr (7, [some (some 29)]), .inl 8, .inr (8, [some (some 31), some (some 33), some (some 35), none]), .inr (7, [some (some 32)]), .inl 40, .inr (7, [some (some 34)]), .inl 40, .inr (7, [some (some 36)]), .inl 40, .inr (5, [some (some 1), some (some 12), some (some 38), none, none, none, none, none, none]), .inr (7, [some (some 39)]), .inl 4, .inr (4, [some (some 1), some (some 12), some (some 37), some (some 41), none]), .inr (8, [some (some 42), some (some 44), some (some 46), none]), .inr (7, [some (some 43)]), .inl 40, .inr (7, [some (some 45)]), .inl 40, .inr (7, [some (some 47)]), .inl 40, .inr (1, [some (some 49), none, none]), .inr (7, [some (some 50)]), .inl 24, .inr (6, [some (some 52), none, none, none]), .inr (7, [some (some 53)]), .inl 4, .inr (1, [some (some 55), none, none]), .inr (7, [some (some 56)]), .inl 40, .inr (10, [some (some 58), some (some 59), some (some 60), some (some 61), none, some (some 62), none, some (some 63), some (some 64), some (some 65), some (some 66), some (some 67), some (some 68), none, some (some 69), some (some 70), some (some 71), some (some 72), none, none, none, none, none, none, some (some 73), none, some (some 74), some (some 75), some (some 76), some (some 77), none, some none, some none, some none, none, none, some none, some none, none]), .inl 6, .inl 6, .inl 6, .inl 6, .inl 32, .inl 16, .inl 16, .inl 16, .inl 16, .inl 16, .inl 6, .inl 40, .inl 40, .inl 40, .inl 4, .inl 8, .inl 200, .inl 200, .inl 200, .inl 24, .inl 35] : List xS), x_u (x_u (x_u (x_u (x_u (x_u (x_u (x_u (x_u (x_u (x_u (x_u (x_u (x_u (x_u (x_z (x_z (x_z (x_z (x_z (x_z (x_z (x_z (x_z (x_z (x_z (x_z (x_z (x_z (x_z (x_z (x_z (x_z (x_z (x_z (x_z (w2) 58) 59) 60) 61) 62) 63) 64) 65) 66) 67) 68) 69) 70) 71) 72) 73) 74) 75) 76) 77) 78) 78 0 114) 78 1 111) 78 2 111) 78 3 109) 78 4 0) 78 5 110) 78 6 101) 78 7 97) 78 8 114) 78 9 0) 78 10 110) 78 11 101) 78 12 116) 78 13 0) 78 14 0), 21, 933)
    refine And.intro (show ¬ (_ ∨ _) by decide) ?_
    change x_wp _ _ _ _ _ _ 1851 (257, [some (.ref 57)], [.ref 78, .ref 57], (([.inr (9, [some (some 1), some (some 12), some (some 23), some (some 30), some (some 37), some (some 40), some (some 48), some (some 51), some (some 54)]), .inr (0, [some (some 2), some (some 4), some (some 6), some (some 8), some (some 10), none]), .inr (7, [some (some 3)]), .inl 6, .inr (7, [some (some 5)]), .inl 6, .inr (7, [some (some 7)]), .inl 6, .inr (7, [some (some 9)]), .inl 6, .inr (7, [some (some 11)]), .inl 32, .inr (3, [some (some 1), some (some 13), some (some 15), some (some 17), some (some 19), some (some 21), none]), .inr (7, [some (some 14)]), .inl 16, .inr (7, [some (some 16)]), .inl 16, .inr (7, [some (some 18)]), .inl 16, .inr (7, [some (some 20)]), .inl 16, .inr (7, [some (some 22)]), .inl 16, .inr (2, [some (some 24), some (some 26), some (some 28), none]), .inr (7, [some (some 25)]), .inl 8, .inr (7, [some (some 27)]), .inl 8, .inr (7, [some (some 29)]), .inl 8, .inr (8, [some (some 31), some (some 33), some (some 35), none]), .inr (7, [some (some 32)]), .inl 40, .inr (7, [some (some 34)]), .inl 40, .inr (7, [some (some 36)]), .inl 40, .inr (5, [some (some 1), some (some 12), some (some 38), none, none, none, none, none, none]), .inr (7, [some (some 39)]), .inl 4, .inr (4, [some (some 1), some (some 12), some (some 37), some (some 41), none]), .inr (8, [some (some 42), some (some 44), some (some 46), none]), .inr (7, [some (some 43)]), .inl 40, .inr (7, [some (some 45)]), .inl 40, .inr (7, [some (some 47)]), .inl 40, .inr (1, [some (some 49), none, none]), .inr (7, [some (some 50)]), .inl 24, .inr (6, [some (some 52), none, none, none]), .inr (7, [some (some 53)]), .inl 4, .inr (1, [some (some 55), none, none]), .inr (7, [some (some 56)]), .inl 40, .inr (10, [some (some 58), some (some 59), some (some 60), some (some 61), none, some (some 62), none, some (some 63), some (some 64), some (some 65), some (some 66), some (some 67), some (some 68), none, some (some 69), some (some 70), some (some 71), some (some 72), none, none, none, none, none, none, some (some 73), none, some (some 74), some (some 75), some (some 76), some (some 77), none, some none, some none, some none, none, none, some none, some none, none]), .inl 6, .inl 6, .inl 6, .inl 6, .inl 32, .inl 16, .inl 16, .inl 16, .inl 16, .inl 16, .inl 6, .inl 40, .inl 40, .inl 40, .inl 4, .inl 8, .inl 200, .inl 200, .inl 200, .inl 24, .inl 35] : List xS), x_u (x_u (x_u (x_u (x_u (x_u (x_u (x_u (x_u (x_u (x_u (x_u (x_u (x_u (x_u (x_u (x_z (x_z (x_z (x_z (x_z (x_z (x_z (x_z (x_z (x_z (x_z (x_z (x_z (x_z (x_z (x_z (x_z (x_z (x_z (x_z (x_z (w2) 58) 59) 60) 61) 62) 63) 64) 65) 66) 67) 68) 69) 70) 71) 72) 73) 74) 75) 76) 77) 78) 78 0 114) 78 1 111) 78 2 111) 78 3 109) 78 4 0) 78 5 110) 78 6 101) 78 7 97) 78 8 114) 78 9 0) 78 10 110) 78 11 101) 78 12 116) 78 13 0) 78 14 0) 78 15 115), 21, 933)
    refine And.intro (show ¬ (_ ∨ _) by decide) ?_
    change x_wp _ _ _ _ _ _ 1847 (263, [some (.ref 57)], [.ref 78, .ref 57], (([.inr (9, [some (some 1), some (some 12), some (some 23), some (some 30), some (some 37), some (some 40), some (some 48), some (some 51), some (some 54)]), .inr (0, [some (some 2), some (some 4), some (some 6), some (some 8), some (some 10), none]), .inr (7, [some (some 3)]), .inl 6, .inr (7, [some (some 5)]), .inl 6, .inr (7, [some (some 7)]), .inl 6, .inr (7, [some (some 9)]), .inl 6, .inr (7, [some (some 11)]), .inl 32, .inr (3, [some (some 1), some (some 13), some (some 15), some (some 17), some (some 19), some (some 21), none]), .inr (7, [some (some 14)]), .inl 16, .inr (7, [some (some 16)]), .inl 16, .inr (7, [some (some 18)]), .inl 16, .inr (7, [some (some 20)]), .inl 16, .inr (7, [some (some 22)]), .inl 16, .inr (2, [some (some 24), some (some 26), some (some 28), none]), .inr (7, [some (some 25)]), .inl 8, .inr (7, [some (some 27)]), .inl 8, .inr (7, [some (some 29)]), .inl 8, .inr (8, [some (some 31), some (some 33), some (some 35), none]), .inr (7, [some (some 32)]), .inl 40, .inr (7, [some (some 34)]), .inl 40, .inr (7, [some (some 36)]), .inl 40, .inr (5, [some (some 1), some (some 12), some (some 38), none, none, none, none, none, none]), .inr (7, [some (some 39)]), .inl 4, .inr (4, [some (some 1), some (some 12), some (some 37), some (some 41), none]), .inr (8, [some (some 42), some (some 44), some (some 46), none]), .inr (7, [some (some 43)]), .inl 40, .inr (7, [some (some 45)]), .inl 40, .inr (7, [some (some 47)]), .inl 40, .inr (1, [some (some 49), none, none]), .inr (7, [some (some 50)]), .inl 24, .inr (6, [some (some 52), none, none, none]), .inr (7, [some (some 53)]), .inl 4, .inr (1, [some (some 55), none, none]), .inr (7, [some (some 56)]), .inl 40, .inr (10, [some (some 58), some (some 59), some (some 60), some (some 61), none, some (some 62), none, some (some 63), some (some 64), some (some 65), some (some 66), some (some 67), some (some 68), none, some (some 69), some (some 70), some (some 71), some (some 72), none, none, none, none, none, none, some (some 73), none, some (some 74), some (some 75), some (some 76), some (some 77), none, some none, some none, some none, none, none, some none, some none, none]), .inl 6, .inl 6, .inl 6, .inl 6, .inl 32, .inl 16, .inl 16, .inl 16, .inl 16, .inl 16, .inl 6, .inl 40, .inl 40, .inl 40, .inl 4, .inl 8, .inl 200, .inl 200, .inl 200, .inl 24, .inl 35] : List xS), x_u (x_u (x_u (x_u (x_u (x_u (x_u (x_u (x_u (x_u (x_u (x_u (x_u (x_u (x_u (x_u (x_u (x_z (x_z (x_z (x_z (x_z (x_z (x_z (x_z (x_z (x_z (x_z (x_z (x_z (x_z (x_z (x_z (x_z (x_z (x_z (x_z (x_z (w2) 58) 59) 60) 61) 62) 63) 64) 65) 66) 67) 68) 69) 70) 71) 72) 73) 74) 75) 76) 77) 78) 78 0 114) 78 1 111) 78 2 111) 78 3 109) 78 4 0) 78 5 110) 78 6 101) 78 7 97) 78 8 114) 78 9 0) 78 10 110) 78 11 101) 78 12 116) 78 13 0) 78 14 0) 78 15 115) 78 16 99), 21, 933)
    refine And.intro (show ¬ (_ ∨ _) by decide) ?_
    change x_wp _ _ _ _ _ _ 1843 (269, [some (.ref 57)], [.ref 78, .ref 57], (([.inr (9, [some (some 1), some (some 12), some (some 23), some (some 30), some (some 37), some (some 40), some (some 48), some (some 51), some (some 54)]), .inr (0, [some (some 2), some (some 4), some (some 6), some (some 8), some (some 10), none]), .inr (7, [some (some 3)]), .inl 6, .inr (7, [some (some 5)]), .inl 6, .inr (7, [some (some 7)]), .inl 6, .inr (7, [some (some 9)]), .inl 6, .inr (7, [some (some 11)]), .inl 32, .inr (3, [some (some 1), some (some 13), some (some 15), some (some 17), some (some 19), some (some 21), none]), .inr (7, [some (some 14)]), .inl 16, .inr (7, [some (some 16)]), .inl 16, .inr (7, [some (some 18)]), .inl 16, .inr (7, [some (some 20)]), .inl 16, .inr (7, [some (some 22)]), .inl 16, .inr (2, [some (some 24), some (some 26), some (some 28), none]), .inr (7, [some (some 25)]), .inl 8, .inr (7, [some (some 27)]), .inl 8, .inr (7, [some (some 29)]), .inl 8, .inr (8, [some (some 31), some (some 33), some (some 35), none]), .inr (7, [some (some 32)]), .inl 40, .inr (7, [some (some 34)]), .inl 40, .inr (7, [some (some 36)]), .inl 40, .inr (5, [some (some 1), some (some 12), some (some 38), none, none, none, none, none, none]), .inr (7, [some (some 39)]), .inl 4, .inr (4, [some (some 1), some (some 12), some (some 37), some (some 41), none]), .inr (8, [some (some 42), some (some 44), some (some 46), none]), .inr (7, [some (some 43)]), .inl 40, .inr (7, [some (some 45)]), .inl 40, .inr (7, [some (some 47)]), .inl 40, .inr (1, [some (some 49), none, none]), .inr (7, [some (some 50)]), .inl 24, .inr (6, [some (some 52), none, none, none]), .inr (7, [some (some 53)]), .inl 4, .inr (1, [some (some 55), none, none]), .inr (7, [some (some 56)]), .inl 40, .inr (10, [some (some 58), some (some 59), some (some 60), some (some 61), none, some (some 62), none, some (some 63), some (some 64), some (some 65), some (some 66), some (some 67), some (some 68), none, some (some 69), some (some 70), some (some 71), some (some 72), none, none, none, none, none, none, some (some 73), none, some (some 74), some (some 75), some (some 76), some (some 77), none, some none, some none, some none, none, none, some none, some none, none]), .inl 6, .inl 6, .inl 6, .inl 6, .inl 32, .inl 16, .inl 16, .inl 16, .inl 16, .inl 16, .inl 6, .inl 40, .inl 40, .inl 40, .inl 4, .inl 8, .inl 200, .inl 200, .inl 200, .inl 24, .inl 35] : List xS), x_u (x_u (x_u (x_u (x_u (x_u (x_u (x_u (x_u (x_u (x_u (x_u (x_u (x_u (x_u (x_u (x_u (x_u (x_z (x_z (x_z (x_z (x_z (x_z (x_z (x_z (x_z (x_z (x_z (x_z (x_z (x_z (x_z (x_z (x_z (x_z (x_z (x_z (x_z (w2) 58) 59) 60) 61) 62) 63) 64) 65) 66) 67) 68) 69) 70) 71) 72) 73) 74) 75) 76) 77) 78) 78 0 114) 78 1 111) 78 2 111) 78 3 109) 78 4 0) 78 5 110) 78 6 101) 78 7 97) 78 8 114) 78 9 0) 78 10 110) 78 11 101) 78 12 116) 78 13 0) 78 14 0) 78 15 115) 78 16 99) 78 17 101), 21, 933)
    refine And.intro (show ¬ (_ ∨ _) by decide) ?_
    change x_wp _ _ _ _ _ _ 1839 (275, [some (.ref 57)], [.ref 78, .ref 57], (([.inr (9, [some (some 1), some (some 12), some (some 23), some (some 30), some (some 37), some (some 40), some (some 48), some (some 51), some (some 54)]), .inr (0, [some (some 2), some (some 4), some (some 6), some (some 8), some (some 10), none]), .inr (7, [some (some 3)]), .inl 6, .inr (7, [some (some 5)]), .inl 6, .inr (7, [some (some 7)]), .inl 6, .inr (7, [some (some 9)]), .inl 6, .inr (7, [some (some 11)]), .inl 32, .inr (3, [some (some 1), some (some 13), some (some 15), some (some 17), some (some 19), some (some 21), none]), .inr (7, [some (some 14)]), .inl 16, .inr (7, [some (some 16)]), .inl 16, .inr (7, [some (some 18)]), .inl 16, .inr (7, [some (some 20)]), .inl 16, .inr (7, [some (some 22)]), .inl 16, .inr (2, [some (some 24), some (some 26), some (some 28), none]), .inr (7, [some (some 25)]), .inl 8, .inr (7, [some (some 27)]), .inl 8, .inr (7, [some (some 29)]), .inl 8, .inr (8, [some (some 31), some (some 33), some (some 35), none]), .inr (7, [some (some 32)]), .inl 40, .inr (7, [some (some 34)]), .inl 40, .inr (7, [some (some 36)]), .inl 40, .inr (5, [some (some 1), some (some 12), some (some 38), none, none, none, none, none, none]), .inr (7, [some (some 39)]), .inl 4, .inr (4, [some (some 1), some (some 12), some (some 37), some (some 41), none]), .inr (8, [some (some 42), some (some 44), some (some 46), none]), .inr (7, [some (some 43)]), .inl 40, .inr (7, [some (some 45)]), .inl 40, .inr (7, [some (some 47)]), .inl 40, .inr (1, [some (some 49), none, none]), .inr (7, [some (some 50)]), .inl 24, .inr (6, [some (some 52), none, none, none]), .inr (7, [some (some 53)]), .inl 4, .inr (1, [some (some 55), none, none]), .inr (7, [some (some 56)]), .inl 40, .inr (10, [some (some 58), some (some 59), some (some 60), some (some 61), none, some (some 62), none, some (some 63), some (some 64), some (some 65), some (some 66), some (some 67), some (some 68), none, some (some 69), some (some 70), some (some 71), some (some 72), none, none, none, none, none, none, some (some 73), none, some (some 74), some (some 75), some (some 76), some (some 77), none, some none, some none, some none, none, none, some none, some none, none]), .inl 6, .inl 6, .inl 6, .inl 6, .inl 32, .inl 16, .inl 16, .inl 16, .inl 16, .inl 16, .inl 6, .inl 40, .inl 40, .inl 40, .inl 4, .inl 8, .inl 200, .inl 200, .inl 200, .inl 24, .inl 35] : List xS), x_u (x_u (x_u (x_u (x_u (x_u (x_u (x_u (x_u (x_u (x_u (x_u (x_u (x_u (x_u (x_u (x_u (x_u (x_u (x_z (x_z (x_z (x_z (x_z (x_z (x_z (x_z (x_z (x_z (x_z (x_z (x_z (x_z (x_z (x_z (x_z (x_z (x_z (x_z (x_z (w2) 58) 59) 60) 61) 62) 63) 64) 65) 66) 67) 68) 69) 70) 71) 72) 73) 74) 75) 76) 77) 78) 78 0 114) 78 1 111) 78 2 111) 78 3 109) 78 4 0) 78 5 110) 78 6 101) 78 7 97) 78 8 114) 78 9 0) 78 10 110) 78 11 101) 78 12 116) 78 13 0) 78 14 0) 78 15 115) 78 16 99) 78 17 101) 78 18 110), 21, 933)
    refine And.intro (show ¬ (_ ∨ _) by decide) ?_
    change x_wp _ _ _ _ _ _ 1835 (281, [some (.ref 57)], [.ref 78, .ref 57], (([.inr (9, [some (some 1), some (some 12), some (some 23), some (some 30), some (some 37), some (some 40), some (some 48), some (some 51), some (some 54)]), .inr (0, [some (some 2), some (some 4), some (some 6), some (some 8), some (some 10), none]), .inr (7, [some (some 3)]), .inl 6, .inr (7, [some (some 5)]), .inl 6, .inr (7, [some (some 7)]), .inl 6, .inr (7, [some (some 9)]), .inl 6, .inr (7, [some (some 11)]), .inl 32, .inr (3, [some (some 1), some (some 13), some (some 15), some (some 17), some (some 19), some (some 21), none]), .inr (7, [some (some 14)]), .inl 16, .inr (7, [some (some 16)]), .inl 16, .inr (7, [some (some 18)]), .inl 16, .inr (7, [some (some 20)]), .inl 16, .inr (7, [some (some 22)]), .inl 16, .inr (2, [some (some 24), some (some 26), some (some 28), none]), .inr (7, [some (some 25)]), .inl 8, .inr (7, [some (some 27)]), .inl 8, .inr (7, [some (some 29)]), .inl 8, .inr (8, [some (some 31), some (some 33), some (some 35), none]), .inr (7, [some (some 32)]), .inl 40, .inr (7, [some (some 34)]), .inl 40, .inr (7, [some (some 36)]), .inl 40, .inr (5, [some (some 1), some (some 12), some (some 38), none, none, none, none, none, none]), .inr (7, [some (some 39)]), .inl 4, .inr (4, [some (some 1), some (some 12), some (some 37), some (some 41), none]), .inr (8, [some (some 42), some (some 44), some (some 46), none]), .inr (7, [some (some 43)]), .inl 40, .inr (7, [some (some 45)]), .inl 40, .inr (7, [some (some 47)]), .inl 40, .inr (1, [some (some 49), none, none]), .inr (7, [some (some 50)]), .inl 24, .inr (6, [some (some 52), none, none, none]), .inr (7, [some (some 53)]), .inl 4, .inr (1, [some (some 55), none, none]), .inr (7, [some (some 56)]), .inl 40, .inr (10, [some (some 58), some (some 59), some (some 60), some (some 61), none, some (some 62), none, some (some 63), some (some 64), some (some 65), some (some 66), some (some 67), some (some 68), none, some (some 69), some (some 70), some (some 71), some (some 72), none, none, none, none, none, none, some (some 73), none, some (some 74), some (some 75), some (some 76), some (some 77), none, some none, some none, some none, none, none, some none, some none, none]), .inl 6, .inl 6, .inl 6, .inl 6, .inl 32, .inl 16, .inl 16, .inl 16, .inl 16, .inl 16, .inl 6, .inl 40, .inl 40, .inl 40, .inl 4, .inl 8, .inl 200, .inl 200, .inl 200, .inl 24, .inl 35] : List xS), x_u (x_u (x_u (x_u (x_u (x_u (x_u (x_u (x_u (x_u (x_u (x_u (x_u (x_u (x_u (x_u (x_u (x_u (x_u (x_u (x_z (x_z (x_z (x_z (x_z (x_z (x_z (x_z (x_z (x_z (x_z (x_z (x_z (x_z (x_z (x_z (x_z (x_z (x_z (x_z (x_z (w2) 58) 59) 60) 61) 62) 63) 64) 65) 66) 67) 68) 69) 70) 71) 72) 73) 74) 75) 76) 77) 78) 78 0 114) 78 1 111) 78 2 111) 78 3 109) 78 4 0) 78 5 110) 78 6 101) 78 7 97) 78 8 114) 78 9 0) 78 10 110) 78 11 101) 78 12 116) 78 13 0) 78 14 0) 78 15 115) 78 16 99) 78 17 101) 78 18 110) 78 19 101), 21, 933)
    refine And.intro (show ¬ (_ ∨ _) by decide) ?_
    change x_wp _ _ _ _ _ _ 1831 (287, [some (.ref 57)], [.ref 78, .ref 57], (([.inr (9, [some (some 1), some (some 12), some (some 23), some (some 30), some (some 37), some (some 40), some (some 48), some (some 51), some (some 54)]), .inr (0, [some (some 2), some (some 4), some (some 6), some (some 8), some (some 10), none]), .inr (7, [some (some 3)]), .inl 6, .inr (7, [some (some 5)]), .inl 6, .inr (7, [some (some 7)]), .inl 6, .inr (7, [some (some 9)]), .inl 6, .inr (7, [some (some 11)]), .inl 32, .inr (3, [some (some 1), some (some 13), some (some 15), some (some 17), some (some 19), some (some 21), none]), .inr (7, [some (some 14)]), .inl 16, .inr (7, [some (some 16)]), .inl 16, .inr (7, [some (some 18)]), .inl 16, .inr (7, [some (some 20)]), .inl 16, .inr (7, [some (some 22)]), .inl 16, .inr (2, [some (some 24), some (some 26), some (some 28), none]), .inr (7, [some (some 25)]), .inl 8, .inr (7, [some (some 27)]), .inl 8, .inr (7, [some (some 29)]), .inl 8, .inr (8, [some (some 31), some (some 33), some (some 35), none]), .inr (7, [some (some 32)]), .inl 40, .inr (7, [some (some 34)]), .inl 40, .inr (7, [some (some 36)]), .inl 40, .inr (5, [some (some 1), some (some 12), some (some 38), none, none, none, none, none, none]), .inr (7, [some (some 39)]), .inl 4, .inr (4, [some (some 1), some (some 12), some (some 37), some (some 41), none]), .inr (8, [some (some 42), some (some 44), some (some 46), none]), .inr (7, [some (some 43)]), .inl 40, .inr (7, [some (some 45)]), .inl 40, .inr (7, [some (some 47)]), .inl 40, .inr (1, [some (some 49), none, none]), .inr (7, [some (some 50)]), .inl 24, .inr (6, [some (some 52), none, none, none]), .inr (7, [some (some 53)]), .inl 4, .inr (1, [some (some 55), none, none]), .inr (7, [some (some 56)]), .inl 40, .inr (10, [some (some 58), some (some 59), some (some 60), some (some 61), none, some (some 62), none, some (some 63), some (some 64), some (some 65), some (some 66), some (some 67), some (some 68), none, some (some 69), some (some 70), some (some 71), some (some 72), none, none, none, none, none, none, some (some 73), none, some (some 74), some (some 75), some (some 76), some (some 77), none, some none, some none, some none, none, none, some none, some none, none]), .inl 6, .inl 6, .inl 6, .inl 6, .inl 32, .inl 16, .inl 16, .inl 16, .inl 16, .inl 16, .inl 6, .inl 40, .inl 40, .inl 40, .inl 4, .inl 8, .inl 200, .inl 200, .inl 200, .inl 24, .inl 35] : List xS), x_u (x_u (x_u (x_u (x_u (x_u (x_u (x_u (x_u (x_u (x_u (x_u (x_u (x_u (x_u (x_u (x_u (x_u (x_u (x_u (x_u (x_z (x_z (x_z (x_z (x_z (x_z (x_z (x_z (x_z (x_z (x_z (x_z (x_z (x_z (x_z (x_z (x_z (x_z (x_z (x_z (x_z (w2) 58) 59) 60) 61) 62) 63) 64) 65) 66) 67) 68) 69) 70) 71) 72) 73) 74) 75) 76) 77) 78) 78 0 114) 78 1 111) 78 2 111) 78 3 109) 78 4 0) 78 5 110) 78 6 101) 78 7 97) 78 8 114) 78 9 0) 78 10 110) 78 11 101) 78 12 116) 78 13 0) 78 14 0) 78 15 115) 78 16 99) 78 17 101) 78 18 110) 78 19 101) 78 20 103), 21, 933)
    refine And.intro (show ¬ (_ ∨ _) by decide) ?_
    change x_wp _ _ _ _ _ _ 1827 (293, [some (.ref 57)], [.ref 78, .ref 57], (([.inr (9, [some (some 1), some (some 12), some (some 23), some (some 30), some (some 37), some (some 40), some (some 48), some (some 51), some (some 54)]), .inr (0, [some (some 2), some (some 4), some (some 6), some (some 8), some (some 10), none]), .inr (7, [some (some 3)]), .inl 6, .inr (7, [some (some 5)]), .inl 6, .inr (7, [some (some 7)]), .inl 6, .inr (7, [some (some 9)]), .inl 6, .inr (7, [some (some 11)]), .inl 32, .inr (3, [some (some 1), some (some 13), some (some 15), some (some 17), some (some 19), some (some 21), none]), .inr (7, [some (some 14)]), .inl 16, .inr (7, [some (some 16)]), .inl 16, .inr (7, [some (some 18)]), .inl 16, .inr (7, [some (some 20)]), .inl 16, .inr (7, [some (some 22)]), .inl 16, .inr (2, [some (some 24), some (some 26), some (some 28), none]), .inr (7, [some (some 25)]), .inl 8, .inr (7, [some (some 27)]), .inl 8, .inr (7, [some (some 29)]), .inl 8, .inr (8, [some (some 31), some (some 33), some (some 35), none]), .inr (7, [some (some 32)]), .inl 40, .inr (7, [some (some 34)]), .inl 40, .inr (7, [some (some 36)]), .inl 40, .inr (5, [some (some 1), some (some 12), some (some 38), none, none, none, none, none, none]), .inr (7, [some (some 39)]), .inl 4, .inr (4, [some (some 1), some (some 12), some (some 37), some (some 41), none]), .inr (8, [some (some 42), some (some 44), some (some 46), none]), .inr (7, [some (some 43)]), .inl 40, .inr (7, [some (some 45)]), .inl 40, .inr (7, [some (some 47)]), .inl 40, .inr (1, [some (some 49), none, none]), .inr (7, [some (some 50)]), .inl 24, .inr (6, [some (some 52), none, none, none]), .inr (7, [some (some 53)]), .inl 4, .inr (1, [some (some 55), none, none]), .inr (7, [some (some 56)]), .inl 40, .inr (10, [some (some 58), some (some 59), some (some 60), some (some 61), none, some (some 62), none, some (some 63), some (some 64), some (some 65), some (some 66), some (some 67), some (some 68), none, some (some 69), some (some 70), some (some 71), some (some 72), none, none, none, none, none, none, some (some 73), none, some (some 74), some (some 75), some (some 76), some (some 77), none, some none, some none, some none, none, none, some none, some none, none]), .inl 6, .inl 6, .inl 6, .inl 6, .inl 32, .inl 16, .inl 16, .inl 16, .inl 16, .inl 16, .inl 6, .inl 40, .inl 40, .inl 40, .inl 4, .inl 8, .inl 200, .inl 200, .inl 200, .inl 24, .inl 35] : List xS), x_u (x_u (x_u (x_u (x_u (x_u (x_u (x_u (x_u (x_u (x_u (x_u (x_u (x_u (x_u (x_u (x_u (x_u (x_u (x_u (x_u (x_u (x_z (x_z (x_z (x_z (x_z (x_z (x_z (x_z (x_z (x_z (x_z (x_z (x_z (x_z (x_z (x_z (x_z (x_z (x_z (x_z (x_z (w2) 58) 59) 60) 61) 62) 63) 64) 65) 66) 67) 68) 69) 70) 71) 72) 73) 74) 75) 76) 77) 78) 78 0 114) 78 1 111) 78 2 111) 78 3 109) 78 4 0) 78 5 110) 78 6 101) 78 7 97) 78 8 114) 78 9 0) 78 10 110) 78 11 101) 78 12 116) 78 13 0) 78 14 0) 78 15 115) 78 16 99) 78 17 101) 78 18 110) 78 19 101) 78 20 103) 78 21 117), 21, 933)
    refine And.intro (show ¬ (_ ∨ _) by decide) ?_
    change x_wp _ _ _ _ _ _ 1823 (299, [some (.ref 57)], [.ref 78, .ref 57], (([.inr (9, [some (some 1), some (some 12), some (some 23), some (some 30), some (some 37), some (some 40), some (some 48), some (some 51), some (some 54)]), .inr (0, [some (some 2), some (some 4), some (some 6), some (some 8), some (some 10), none]), .inr (7, [some (some 3)]), .inl 6, .inr (7, [some (some 5)]), .inl 6, .inr (7, [some (some 7)]), .inl 6, .inr (7, [some (some 9)]), .inl 6, .inr (7, [some (some 11)]), .inl 32, .inr (3, [some (some 1), some (some 13), some (some 15), some (some 17), some (some 19), some (some 21), none]), .inr (7, [some (some 14)]), .inl 16, .inr (7, [some (some 16)]), .inl 16, .inr (7, [some (some 18)]), .inl 16, .inr (7, [some (some 20)]), .inl 16, .inr (7, [some (some 22)]), .inl 16, .inr (2, [some (some 24), some (some 26), some (some 28), none]), .inr (7, [some (some 25)]), .inl 8, .inr (7, [some (some 27)]), .inl 8, .inr (7, [some (some 29)]), .inl 8, .inr (8, [some (some 31), some (some 33), some (some 35), none]), .inr (7, [some (some 32)]), .inl 40, .inr (7, [some (some 34)]), .inl 40, .inr (7, [some (some 36)]), .inl 40, .inr (5, [some (some 1), some (some 12), some (some 38), none, none, none, none, none, none]), .inr (7, [some (some 39)]), .inl 4, .inr (4, [some (some 1), some (some 12), some (some 37), some (some 41), none]), .inr (8, [some (some 42), some (some 44), some (some 46), none]), .inr (7, [some (some 43)]), .inl 40, .inr (7, [some (some 45)]), .inl 40, .inr (7, [some (some 47)]), .inl 40, .inr (1, [some (some 49), none, none]), .inr (7, [some (some 50)]), .inl 24, .inr (6, [some (some 52), none, none, none]), .inr (7, [some (some 53)]), .inl 4, .inr (1, [some (some 55), none, none]), .inr (7, [some (some 56)]), .inl 40, .inr (10, [some (some 58), some (some 59), some (some 60), some (some 61), none, some (some 62), none, some (some 63), some (some 64), some (some 65), some (some 66), some (some 67), some (some 68), none, some (some 69), some (some 70), some (some 71), some (some 72), none, none, none, none, none, none, some (some 73), none, some (some 74), some (some 75), some (some 76), some (some 77), none, some none, some none, some none, none, none, some none, some none, none]), .inl 6, .inl 6, .inl 6, .inl 6, .inl 32, .inl 16, .inl 16, .inl 16, .inl 16, .inl 16, .inl 6, .inl 40, .inl 40, .inl 40, .inl 4, .inl 8, .inl 200, .inl 200, .inl 200, .inl 24, .inl 35] : List xS), x_u (x_u (x_u (x_u (x_u (x_u (x_u (x_u (x_u (x_u (x_u (x_u (x_u (x_u (x_u (x_u (x_u (x_u (x_u (x_u (x_u (x_u (x_u (x_z (x_z (x_z (x_z (x_z (x_z (x_z (x_z (x_z (x_z (x_z (x_z (x_z (x_z (x_z (x_z (x_z (x_z (x_z (x_z (x_z (w2) 58) 59) 60) 61) 62) 63) 64) 65) 66) 67) 68) 69) 70) 71) 72) 73) 74) 75) 76) 77) 78) 78 0 114) 78 1 111) 78 2 111) 78 3 109) 78 4 0) 78 5 110) 78 6 101) 78 7 97) 78 8 114) 78 9 0) 78 10 110) 78 11 101) 78 12 116) 78 13 0) 78 14 0) 78 15 115) 78 16 99) 78 17 101) 78 18 110) 78 19 101) 78 20 103) 78 21 117) 78 22 97), 21, 933)
    refine And.intro (show ¬ (_ ∨ _) by decide) ?_
    change x_wp _ _ _ _ _ _ 1819 (305, [some (.ref 57)], [.ref 78, .ref 57], (([.inr (9, [some (some 1), some (some 12), some (some 23), some (some 30), some (some 37), some (some 40), some (some 48), some (some 51), some (some 54)]), .inr (0, [some (some 2), some (some 4), some (some 6), some (some 8), some (some 10), none]), .inr (7, [some (some 3)]), .inl 6, .inr (7, [some (some 5)]), .inl 6, .inr (7, [some (some 7)]), .inl 6, .inr (7, [some (some 9)]), .inl 6, .inr (7, [some (some 11)]), .inl 32, .inr (3, [some (some 1), some (some 13), some (some 15), some (some 17), some (some 19), some (some 21), none]), .inr (7, [some (some 14)]), .inl 16, .inr (7, [some (some 16)]), .inl 16, .inr (7, [some (some 18)]), .inl 16, .inr (7, [some (some 20)]), .inl 16, .inr (7, [some (some 22)]), .inl 16, .inr (2, [some (some 24), some (some 26), some (some 28), none]), .inr (7, [some (some 25)]), .inl 8, .inr (7, [some (some 27)]), .inl 8, .inr (7, [some (some 29)]), .inl 8, .inr (8, [some (some 31), some (some 33), some (some 35), none]), .inr (7, [some (some 32)]), .inl 40, .inr (7, [some (some 34)]), .inl 40, .inr (7, [some (some 36)]), .inl 40, .inr (5, [some (some 1), some (some 12), some (some 38), none, none, none, none, none, none]), .inr (7, [some (some 39)]), .inl 4, .inr (4, [some (some 1), some (some 12), some (some 37), some (some 41), none]), .inr (8, [some (some 42), some (some 44), some (some 46), none]), .inr (7, [some (some 43)]), .inl 40, .inr (7, [some (some 45)]), .inl 40, .inr (7, [some (some 47)]), .inl 40, .inr (1, [some (some 49), none, none]), .inr (7, [some (some 50)]), .inl 24, .inr (6, [some (some 52), none, none, none]), .inr (7, [some (some 53)]), .inl 4, .inr (1, [some (some 55), none, none]), .inr (7, [some (some 56)]), .inl 40, .inr (10, [some (some 58), some (some 59), some (some 60), some (some 61), none, some (some 62), none, some (some 63), some (some 64), some (some 65), some (some 66), some (some 67), some (some 68), none, some (some 69), some (some 70), some (some 71), some (some 72), none, none, none, none, none, none, some (some 73), none, some (some 74), some (some 75), some (some 76), some (some 77), none, some none, some none, some none, none, none, some none, some none, none]), .inl 6, .inl 6, .inl 6, .inl 6, .inl 32, .inl 16, .inl 16, .inl 16, .inl 16, .inl 16, .inl 6, .inl 40, .inl 40, .inl 40, .inl 4, .inl 8, .inl 200, .inl 200, .inl 200, .inl 24, .inl 35] : List xS), x_u (x_u (x_u (x_u (x_u (x_u (x_u (x_u (x_u (x_u (x_u (x_u (x_u (x_u (x_u (x_u (x_u (x_u (x_u (x_u (x_u (x_u (x_u (x_u (x_z (x_z (x_z (x_z (x_z (x_z (x_z (x_z (x_z (x_z (x_z (x_z (x_z (x_z (x_z (x_z (x_z (x_z (x_z (x_z (x_z (w2) 58) 59) 60) 61) 62) 63) 64) 65) 66) 67) 68) 69) 70) 71) 72) 73) 74) 75) 76) 77) 78) 78 0 114) 78 1 111) 78 2 111) 78 3 109) 78 4 0) 78 5 110) 78 6 101) 78 7 97) 78 8 114) 78 9 0) 78 10 110) 78 11 101) 78 12 116) 78 13 0) 78 14 0) 78 15 115) 78 16 99) 78 17 101) 78 18 110) 78 19 101) 78 20 103) 78 21 117) 78 22 97) 78 23 114), 21, 933)
    refine And.intro (show ¬ (_ ∨ _) by decide) ?_
    change x_wp _ _ _ _ _ _ 1815 (311, [some (.ref 57)], [.ref 78, .ref 57], (([.inr (9, [some (some 1), some (some 12), some (some 23), some (some 30), some (some 37), some (some 40), some (some 48), some (some 51), some (some 54)]), .inr (0, [some (some 2), some (some 4), some (some 6), some (some 8), some (some 10), none]), .inr (7, [some (some 3)]), .inl 6, .inr (7, [some (some 5)]), .inl 6, .inr (7, [some (some 7)]), .inl 6, .inr (7, [some (some 9)]), .inl 6, .inr (7, [some (some 11)]), .inl 32, .inr (3, [some (some 1), some (some 13), some (some 15), some (some 17), some (some 19), some (some 21), none]), .inr (7, [some (some 14)]), .inl 16, .inr (7, [some (some 16)]), .inl 16, .inr (7, [some (some 18)]), .inl 16, .inr (7, [some (some 20)]), .inl 16, .inr (7, [some (some 22)]), .inl 16, .inr (2, [some (some 24), some (some 26), some (some 28), none]), .inr (7, [some (some 25)]), .inl 8, .inr (7, [some (some 27)]), .inl 8, .inr (7, [some (some 29)]), .inl 8, .inr (8, [some (some 31), some (some 33), some (some 35), none]), .inr (7, [some (some 32)]), .inl 40, .inr (7, [some (some 34)]), .inl 40, .inr (7, [some (some 36)]), .inl 40, .inr (5, [some (some 1), some (some 12), some (some 38), none, none, none, none, none, none]), .inr (7, [some (some 39)]), .inl 4, .inr (4, [some (some 1), some (some 12), some (some 37), some (some 41), none]), .inr (8, [some (some 42), some (some 44), some (some 46), none]), .inr (7, [some (some 43)]), .inl 40, .inr (7, [some (some 45)]), .inl 40, .inr (7, [some (some 47)]), .inl 40, .inr (1, [some (some 49), none, none]), .inr (7, [some (some 50)]), .inl 24, .inr (6, [some (some 52), none, none, none]), .inr (7, [some (some 53)]), .inl 4, .inr (1, [some (some 55), none, none]), .inr (7, [some (some 56)]), .inl 40, .inr (10, [some (some 58), some (some 59), some (some 60), some (some 61), none, some (some 62), none, some (some 63), some (some 64), some (some 65), some (some 66), some (some 67), some (some 68), none, some (some 69), some (some 70), some (some 71), some (some 72), none, none, none, none, none, none, some (some 73), none, some (some 74), some (some 75), some (some 76), some (some 77), none, some none, some none, some none, none, none, some none, some none, none]), .inl 6, .inl 6, .inl 6, .inl 6, .inl 32, .inl 16, .inl 16, .inl 16, .inl 16, .inl 16, .inl 6, .inl 40, .inl 40, .inl 40, .inl 4, .inl 8, .inl 200, .inl 200, .inl 200, .inl 24, .inl 35] : List xS), x_u (x_u (x_u (x_u (x_u (x_u (x_u (x_u (x_u (x_u (x_u (x_u (x_u (x_u (x_u (x_u (x_u (x_u (x_u (x_u (x_u (x_u (x_u (x_u (x_u (x_z (x_z (x_z (x_z (x_z (x_z (x_z (x_z (x_z (x_z (x_z (x_z (x_z (x_z (x_z (x_z (x_z (x_z (x_z (x_z (x_z (w2) 58) 59) 60) 61) 62) 63) 64) 65) 66) 67) 68) 69) 70) 71) 72) 73) 74) 75) 76) 77) 78) 78 0 114) 78 1 111) 78 2 111) 78 3 109) 78 4 0) 78 5 110) 78 6 101) 78 7 97) 78 8 114) 78 9 0) 78 10 110) 78 11 101) 78 12 116) 78 13 0) 78 14 0) 78 15 115) 78 16 99) 78 17 101) 78 18 110) 78 19 101) 78 20 103) 78 21 117) 78 22 97) 78 23 114) 78 24 100), 21, 933)
    refine And.intro (show ¬ (_ ∨ _) by decide) ?_
    change x_wp _ _ _ _ _ _ 1811 (317, [some (.ref 57)], [.ref 78, .ref 57], (([.inr (9, [some (some 1), some (some 12), some (some 23), some (some 30), some (some 37), some (some 40), some (some 48), some (some 51), some (some 54)]), .inr (0, [some (some 2), some (some 4), some (some 6), some (some 8), some (some 10), none]), .inr (7, [some (some 3)]), .inl 6, .inr (7, [some (some 5)]), .inl 6, .inr (7, [some (some 7)]), .inl 6, .inr (7, [some (some 9)]), .inl 6, .inr (7, [some (some 11)]), .inl 32, .inr (3, [some (some 1), some (some 13), some (some 15), some (some 17), some (some 19), some (some 21), none]), .inr (7, [some (some 14)]), .inl 16, .inr (7, [some (some 16)]), .inl 16, .inr (7, [some (some 18)]), .inl 16, .inr (7, [some (some 20)]), .inl 16, .inr (7, [some (some 22)]), .inl 16, .inr (2, [some (some 24), some (some 26), some (some 28), none]), .inr (7, [some (some 25)]), .inl 8, .inr (7, [some (some 27)]), .inl 8, .inr (7, [some (some 29)]), .inl 8, .inr (8, [some (some 31), some (some 33), some (some 35), none]), .inr (7, [some (some 32)]), .inl 40, .inr (7, [some (some 34)]), .inl 40, .inr (7, [some (some 36)]), .inl 40, .inr (5, [some (some 1), some (some 12), some (some 38), none, none, none, none, none, none]), .inr (7, [some (some 39)]), .inl 4, .inr (4, [some (some 1), some (some 12), some (some 37), some (some 41), none]), .inr (8, [some (some 42), some (some 44), some (some 46), none]), .inr (7, [some (some 43)]), .inl 40, .inr (7, [some (some 45)]), .inl 40, .inr (7, [some (some 47)]), .inl 40, .inr (1, [some (some 49), none, none]), .inr (7, [some (some 50)]), .inl 24, .inr (6, [some (some 52), none, none, none]), .inr (7, [some (some 53)]), .inl 4, .inr (1, [some (some 55), none, none]), .inr (7, [some (some 56)]), .inl 40, .inr (10, [some (some 58), some (some 59), some (some 60), some (some 61), none, some (some 62), none, some (some 63), some (some 64), some (some 65), some (some 66), some (some 67), some (some 68), none, some (some 69), some (some 70), some (some 71), some (some 72), none, none, none, none, none, none, some (some 73), none, some (some 74), some (some 75), some (some 76), some (some 77), none, some none, some none, some none, none, none, some none, some none, none]), .inl 6, .inl 6, .inl 6, .inl 6, .inl 32, .inl 16, .inl 16, .inl 16, .inl 16, .inl 16, .inl 6, .inl 40, .inl 40, .inl 40, .inl 4, .inl 8, .inl 200, .inl 200, .inl 200, .inl 24, .inl 35] : List xS), x_u (x_u (x_u (x_u (x_u (x_u (x_u (x_u (x_u (x_u (x_u (x_u (x_u (x_u (x_u (x_u (x_u (x_u (x_u (x_u (x_u (x_u (x_u (x_u (x_u (x_u (x_z (x_z (x_z (x_z (x_z (x_z (x_z (x_z (x_z (x_z (x_z (x_z (x_z (x_z (x_z (x_z (x_z (x_z (x_z (x_z (x_z (w2) 58) 59) 60) 61) 62) 63) 64) 65) 66) 67) 68) 69) 70) 71) 72) 73) 74) 75) 76) 77) 78) 78 0 114) 78 1 111) 78 2 111) 78 3 109) 78 4 0) 78 5 110) 78 6 101) 78 7 97) 78 8 114) 78 9 0) 78 10 110) 78 11 101) 78 12 116) 78 13 0) 78 14 0) 78 15 115) 78 16 99) 78 17 101) 78 18 110) 78 19 101) 78 20 103) 78 21 117) 78 22 97) 78 23 114) 78 24 100) 78 25 108), 21, 933)
    refine And.intro (show ¬ (_ ∨ _) by decide) ?_
    change x_wp _ _ _ _ _ _ 1807 (323, [some (.ref 57)], [.ref 78, .ref 57], (([.inr (9, [some (some 1), some (some 12), some (some 23), some (some 30), some (some 37), some (some 40), some (some 48), some (some 51), some (some 54)]), .inr (0, [some (some 2), some (some 4), some (some 6), some (some 8), some (some 10), none]), .inr (7, [some (some 3)]), .inl 6, .inr (7, [some (some 5)]), .inl 6, .inr (7, [some (some 7)]), .inl 6, .inr (7, [some (some 9)]), .inl 6, .inr (7, [some (some 11)]), .inl 32, .inr (3, [some (some 1), some (some 13), some (some 15), some (some 17), some (some 19), some (some 21), none]), .inr (7, [some (some 14)]), .inl 16, .inr (7, [some (some 16)]), .inl 16, .inr (7, [some (some 18)]), .inl 16, .inr (7, [some (some 20)]), .inl 16, .inr (7, [some (some 22)]), .inl 16, .inr (2, [some (some 24), some (some 26), some (some 28), none]), .inr (7, [some (some 25)]), .inl 8, .inr (7, [some (some 27)]), .inl 8, .inr (7, [some (some 29)]), .inl 8, .inr (8, [some (some 31), some (some 33), some (some 35), none]), .inr (7, [some (some 32)]), .inl 40, .inr (7, [some (some 34)]), .inl 40, .inr (7, [some (some 36)]), .inl 40, .inr (5, [some (some 1), some (some 12), some (some 38), none, none, none, none, none, none]), .inr (7, [some (some 39)]), .inl 4, .inr (4, [some (some 1), some (some 12), some (some 37), some (some 41), none]), .inr (8, [some (some 42), some (some 44), some (some 46), none]), .inr (7, [some (some 43)]), .inl 40, .inr (7, [some (some 45)]), .inl 40, .inr (7, [some (some 47)]), .inl 40, .inr (1, [some (some 49), none, none]), .inr (7, [some (some 50)]), .inl 24, .inr (6, [some (some 52), none, none, none]), .inr (7, [some (some 53)]), .inl 4, .inr (1, [some (some 55), none, none]), .inr (7, [some (some 56)]), .inl 40, .inr (10, [some (some 58), some (some 59), some (some 60), some (some 61), none, some (some 62), none, some (some 63), some (some 64), some (some 65), some (some 66), some (some 67), some (some 68), none, some (some 69), some (some 70), some (some 71), some (some 72), none, none, none, none, none, none, some (some 73), none, some (some 74), some (some 75), some (some 76), some (some 77), none, some none, some none, some none, none, none, some none, some none, none]), .inl 6, .inl 6, .inl 6, .inl 6, .inl 32, .inl 16, .inl 16, .inl 16, .inl 16, .inl 16, .inl 6, .inl 40, .inl 40, .inl 40, .inl 4, .inl 8, .inl 200, .inl 200, .inl 200, .inl 24, .inl 35] : List xS), x_u (x_u (x_u (x_u (x_u (x_u (x_u (x_u (x_u (x_u (x_u (x_u (x_u (x_u (x_u (x_u (x_u (x_u (x_u (x_u (x_u (x_u (x_u (x_u (x_u (x_u (x_u (x_z (x_z (x_z (x_z (x_z (x_z (x_z (x_z (x_z (x_z (x_z (x_z (x_z (x_z (x_z (x_z (x_z (x_z (x_z (x_z (x_z (w2) 58) 59) 60) 61) 62) 63) 64) 65) 66) 67) 68) 69) 70) 71) 72) 73) 74) 75) 76) 77) 78) 78 0 114) 78 1 111) 78 2 111) 78 3 109) 78 4 0) 78 5 110) 78 6 101) 78 7 97) 78 8 114) 78 9 0) 78 10 110) 78 11 101) 78 12 116) 78 13 0) 78 14 0) 78 15 115) 78 16 99) 78 17 101) 78 18 110) 78 19 101) 78 20 103) 78 21 117) 78 22 97) 78 23 114) 78 24 100) 78 25 108) 78 26 105), 21, 933)
    refine And.intro (show ¬ (_ ∨ _) by decide) ?_
    change x_wp _ _ _ _ _ _ 1803 (329, [some (.ref 57)], [.ref 78, .ref 57], (([.inr (9, [some (some 1), some (some 12), some (some 23), some (some 30), some (some 37), some (some 40), some (some 48), some (some 51), some (some 54)]), .inr (0, [some (some 2), some (some 4), some (some 6), some (some 8), some (some 10), none]), .inr (7, [some (some 3)]), .inl 6, .inr (7, [some (some 5)]), .inl 6, .inr (7, [some (some 7)]), .inl 6, .inr (7, [some (some 9)]), .inl 6, .inr (7, [some (some 11)]), .inl 32, .inr (3, [some (some 1), some (some 13), some (some 15), some (some 17), some (some 19), some (some 21), none]), .inr (7, [some (some 14)]), .inl 16, .inr (7, [some (some 16)]), .inl 16, .inr (7, [some (some 18)]), .inl 16, .inr (7, [some (some 20)]), .inl 16, .inr (7, [some (some 22)]), .inl 16, .inr (2, [some (some 24), some (some 26), some (some 28), none]), .inr (7, [some (some 25)]), .inl 8, .inr (7, [some (some 27)]), .inl 8, .inr (7, [some (some 29)]), .inl 8, .inr (8, [some (some 31), some (some 33), some (some 35), none]), .inr (7, [some (some 32)]), .inl 40, .inr (7, [some (some 34)]), .inl 40, .inr (7, [some (some 36)]), .inl 40, .inr (5, [some (some 1), some (some 12), some (some 38), none, none, none, none, none, none]), .inr (7, [some (some 39)]), .inl 4, .inr (4, [some (some 1), some (some 12), some (some 37), some (some 41), none]), .inr (8, [some (some 42), some (some 44), some (some 46), none]), .inr (7, [some (some 43)]), .inl 40, .inr (7, [some (some 45)]), .inl 40, .inr (7, [some (some 47)]), .inl 40, .inr (1, [some (some 49), none, none]), .inr (7, [some (some 50)]), .inl 24, .inr (6, [some (some 52), none, none, none]), .inr (7, [some (some 53)]), .inl 4, .inr (1, [some (some 55), none, none]), .inr (7, [some (some 56)]), .inl 40, .inr (10, [some (some 58), some (some 59), some (some 60), some (some 61), none, some (some 62), none, some (some 63), some (some 64), some (some 65), some (some 66), some (some 67), some (some 68), none, some (some 69), some (some 70), some (some 71), some (some 72), none, none, none, none, none, none, some (some 73), none, some (some 74), some (some 75), some (some 76), some (some 77), none, some none, some none, some none, none, none, some none, some none, none]), .inl 6, .inl 6, .inl 6, .inl 6, .inl 32, .inl 16, .inl 16, .inl 16, .inl 16, .inl 16, .inl 6, .inl 40, .inl 40, .inl 40, .inl 4, .inl 8, .inl 200, .inl 200, .inl 200, .inl 24, .inl 35] : List xS), x_u (x_u (x_u (x_u (x_u (x_u (x_u (x_u (x_u (x_u (x_u (x_u (x_u (x_u (x_u (x_u (x_u (x_u (x_u (x_u (x_u (x_u (x_u (x_u (x_u (x_u (x_u (x_u (x_z (x_z (x_z (x_z (x_z (x_z (x_z (x_z (x_z (x_z (x_z (x_z (x_z (x_z (x_z (x_z (x_z (x_z (x_z (x_z (x_z (w2) 58) 59) 60) 61) 62) 63) 64) 65) 66) 67) 68) 69) 70) 71) 72) 73) 74) 75) 76) 77) 78) 78 0 114) 78 1 111) 78 2 111) 78 3 109) 78 4 0) 78 5 110) 78 6 101) 78 7 97) 78 8 114) 78 9 0) 78 10 110) 78 11 101) 78 12 116) 78 13 0) 78 14 0) 78 15 115) 78 16 99) 78 17 101) 78 18 110) 78 19 101) 78 20 103) 78 21 117) 78 22 97) 78 23 114) 78 24 100) 78 25 108) 78 26 105) 78 27 102), 21, 933)
    refine And.intro (show ¬ (_ ∨ _) by decide) ?_
    change x_wp _ _ _ _ _ _ 1799 (335, [some (.ref 57)], [.ref 78, .ref 57], (([.inr (9, [some (some 1), some (some 12), some (some 23), some (some 30), some (some 37), some (some 40), some (some 48), some (some 51), some (some 54)]), .inr (0, [some (some 2), some (some 4), some (some 6), some (some 8), some (some 10), none]), .inr (7, [some (some 3)]), .inl 6, .inr (7, [some (some 5)]), .inl 6, .inr (7, [some (some 7)]), .inl 6, .inr (7, [some (some 9)]), .inl 6, .inr (7, [some (some 11)]), .inl 32, .inr (3, [some (some 1), some (some 13), some (some 15), some (some 17), some (some 19), some (some 21), none]), .inr (7, [some (some 14)]), .inl 16, .inr (7, [some (some 16)]), .inl 16, .inr (7, [some (some 18)]), .inl 16, .inr (7, [some (some 20)]), .inl 16, .inr (7, [some (some 22)]), .inl 16, .inr (2, [some (some 24), some (some 26), some (some 28), none]), .inr (7, [some (some 25)]), .inl 8, .inr (7, [some (some 27)]), .inl 8, .inr (7, [some (some 29)]), .inl 8, .inr (8, [some (some 31), some (some 33), some (some 35), none]), .inr (7, [some (some 32)]), .inl 40, .inr (7, [some (some 34)]), .inl 40, .inr (7, [some (some 36)]), .inl 40, .inr (5, [some (some 1), some (some 12), some (some 38), none, none, none, none, none, none]), .inr (7, [some (some 39)]), .inl 4, .inr (4, [some (some 1), some (some 12), some (some 37), some (some 41), none]), .inr (8, [some (some 42), some (some 44), some (some 46), none]), .inr (7, [some (some 43)]), .inl 40, .inr (7, [some (some 45)]), .inl 40, .inr (7, [some (some 47)]), .inl 40, .inr (1, [some (some 49), none, none]), .inr (7, [some (some 50)]), .inl 24, .inr (6, [some (some 52), none, none, none]), .inr (7, [some (some 53)]), .inl 4, .inr (1, [some (some 55), none, none]), .inr (7, [some (some 56)]), .inl 40, .inr (10, [some (some 58), some (some 59), some (some 60), some (some 61), none, some (some 62), none, some (some 63), some (some 64), some (some 65), some (some 66), some (some 67), some (some 68), none, some (some 69), some (some 70), some (some 71), some (some 72), none, none, none, none, none, none, some (some 73), none, some (some 74), some (some 75), some (some 76), some (some 77), none, some none, some none, some none, none, none, some none, some none, none]), .inl 6, .inl 6, .inl 6, .inl 6, .inl 32, .inl 16, .inl 16, .inl 16, .inl 16, .inl 16, .inl 6, .inl 40, .inl 40, .inl 40, .inl 4, .inl 8, .inl 200, .inl 200, .inl 200, .inl 24, .inl 35] : List xS), x_u (x_u (x_u (x_u (x_u (x_u (x_u (x_u (x_u (x_u (x_u (x_u (x_u (x_u (x_u (x_u (x_u (x_u (x_u (x_u (x_u (x_u (x_u (x_u (x_u (x_u (x_u (x_u (x_u (x_z (x_z (x_z (x_z (x_z (x_z (x_z (x_z (x_z (x_z (x_z (x_z (x_z (x_z (x_z (x_z (x_z (x_z (x_z (x_z (x_z (w2) 58) 59) 60) 61) 62) 63) 64) 65) 66) 67) 68) 69) 70) 71) 72) 73) 74) 75) 76) 77) 78) 78 0 114) 78 1 111) 78 2 111) 78 3 109) 78 4 0) 78 5 110) 78 6 101) 78 7 97) 78 8 114) 78 9 0) 78 10 110) 78 11 101) 78 12 116) 78 13 0) 78 14 0) 78 15 115) 78 16 99) 78 17 101) 78 18 110) 78 19 101) 78 20 103) 78 21 117) 78 22 97) 78 23 114) 78 24 100) 78 25 108) 78 26 105) 78 27 102) 78 28 116), 21, 933)
    refine And.intro (show ¬ (_ ∨ _) by decide) ?_
    change x_wp _ _ _ _ _ _ 1795 (340, [some (.ref 57)], [.ref 78, .ref 57], (([.inr (9, [some (some 1), some (some 12), some (some 23), some (some 30), some (some 37), some (some 40), some (some 48), some (some 51), some (some 54)]), .inr (0, [some (some 2), some (some 4), some (some 6), some (some 8), some (some 10), none]), .inr (7, [some (some 3)]), .inl 6, .inr (7, [some (some 5)]), .inl 6, .inr (7, [some (some 7)]), .inl 6, .inr (7, [some (some 9)]), .inl 6, .inr (7, [some (some 11)]), .inl 32, .inr (3, [some (some 1), some (some 13), some (some 15), some (some 17), some (some 19), some (some 21), none]), .inr (7, [some (some 14)]), .inl 16, .inr (7, [some (some 16)]), .inl 16, .inr (7, [some (some 18)]), .inl 16, .inr (7, [some (some 20)]), .inl 16, .inr (7, [some (some 22)]), .inl 16, .inr (2, [some (some 24), some (some 26), some (some 28), none]), .inr (7, [some (some 25)]), .inl 8, .inr (7, [some (some 27)]), .inl 8, .inr (7, [some (some 29)]), .inl 8, .inr (8, [some (some 31), some (some 33), some (some 35), none]), .inr (7, [some (some 32)]), .inl 40, .inr (7, [some (some 34)]), .inl 40, .inr (7, [some (some 36)]), .inl 40, .inr (5, [some (some 1), some (some 12), some (some 38), none, none, none, none, none, none]), .inr (7, [some (some 39)]), .inl 4, .inr (4, [some (some 1), some (some 12), some (some 37), some (some 41), none]), .inr (8, [some (some 42), some (some 44), some (some 46), none]), .inr (7, [some (some 43)]), .inl 40, .inr (7, [some (some 45)]), .inl 40, .inr (7, [some (some 47)]), .inl 40, .inr (1, [some (some 49), none, none]), .inr (7, [some (some 50)]), .inl 24, .inr (6, [some (some 52), none, none, none]), .inr (7, [some (some 53)]), .inl 4, .inr (1, [some (some 55), none, none]), .inr (7, [some (some 56)]), .inl 40, .inr (10, [some (some 58), some (some 59), some (some 60), some (some 61), none, some (some 62), none, some (some 63), some (some 64), some (some 65), some (some 66), some (some 67), some (some 68), none, some (some 69), some (some 70), some (some 71), some (some 72), none, none, none, none, none, none, some (some 73), none, some (some 74), some (some 75), some (some 76), some (some 77), none, some none, some none, some none, none, none, some none, some none, none]), .inl 6, .inl 6, .inl 6, .inl 6, .inl 32, .inl 16, .inl 16, .inl 16, .inl 16, .inl 16, .inl 6, .inl 40, .inl 40, .inl 40, .inl 4, .inl 8, .inl 200, .inl 200, .inl 200, .inl 24, .inl 35] : List xS), x_u (x_u (x_u (x_u (x_u (x_u (x_u (x_u (x_u (x_u (x_u (x_u (x_u (x_u (x_u (x_u (x_u (x_u (x_u (x_u (x_u (x_u (x_u (x_u (x_u (x_u (x_u (x_u (x_u (x_u (x_z (x_z (x_z (x_z (x_z (x_z (x_z (x_z (x_z (x_z (x_z (x_z (x_z (x_z (x_z (x_z (x_z (x_z (x_z (x_z (x_z (w2) 58) 59) 60) 61) 62) 63) 64) 65) 66) 67) 68) 69) 70) 71) 72) 73) 74) 75) 76) 77) 78) 78 0 114) 78 1 111) 78 2 111) 78 3 109) 78 4 0) 78 5 110) 78 6 101) 78 7 97) 78 8 114) 78 9 0) 78 10 110) 78 11 101) 78 12 116) 78 13 0) 78 14 0) 78 15 115) 78 16 99) 78 17 101) 78 18 110) 78 19 101) 78 20 103) 78 21 117) 78 22 97) 78 23 114) 78 24 100) 78 25 108) 78 26 105) 78 27 102) 78 28 116) 78 29 0), 21, 933)
    refine And.intro (show ¬ (_ ∨ _) by decide) ?_
    change x_wp _ _ _ _ _ _ 1791 (346, [some (.ref 57)], [.ref 78, .ref 57], (([.inr (9, [some (some 1), some (some 12), some (some 23), some (some 30), some (some 37), some (some 40), some (some 48), some (some 51), some (some 54)]), .inr (0, [some (some 2), some (some 4), some (some 6), some (some 8), some (some 10), none]), .inr (7, [some (some 3)]), .inl 6, .inr (7, [some (some 5)]), .inl 6, .inr (7, [some (some 7)]), .inl 6, .inr (7, [some (some 9)]), .inl 6, .inr (7, [some (some 11)]), .inl 32, .inr (3, [some (some 1), some (some 13), some (some 15), some (some 17), some (some 19), some (some 21), none]), .inr (7, [some (some 14)]), .inl 16, .inr (7, [some (some 16)]), .inl 16, .inr (7, [some (some 18)]), .inl 16, .inr (7, [some (some 20)]), .inl 16, .inr (7, [some (some 22)]), .inl 16, .inr (2, [some (some 24), some (some 26), some (some 28), none]), .inr (7, [some (some 25)]), .inl 8, .inr (7, [some (some 27)]), .inl 8, .inr (7, [some (some 29)]), .inl 8, .inr (8, [some (some 31), some (some 33), some (some 35), none]), .inr (7, [some (some 32)]), .inl 40, .inr (7, [some (some 34)]), .inl 40, .inr (7, [some (some 36)]), .inl 40, .inr (5, [some (some 1), some (some 12), some (some 38), none, none, none, none, none, none]), .inr (7, [some (some 39)]), .inl 4, .inr (4, [some (some 1), some (some 12), some (some 37), some (some 41), none]), .inr (8, [some (some 42), some (some 44), some (some 46), none]), .inr (7, [some (some 43)]), .inl 40, .inr (7, [some (some 45)]), .inl 40, .inr (7, [some (some 47)]), .inl 40, .inr (1, [some (some 49), none, none]), .inr (7, [some (some 50)]), .inl 24, .inr (6, [some (some 52), none, none, none]), .inr (7, [some (some 53)]), .inl 4, .inr (1, [some (some 55), none, none]), .inr (7, [some (some 56)]), .inl 40, .inr (10, [some (some 58), some (some 59), some (some 60), some (some 61), none, some (some 62), none, some (some 63), some (some 64), some (some 65), some (some 66), some (some 67), some (some 68), none, some (some 69), some (some 70), some (some 71), some (some 72), none, none, none, none, none, none, some (some 73), none, some (some 74), some (some 75), some (some 76), some (some 77), none, some none, some none, some none, none, none, some none, some none, none]), .inl 6, .inl 6, .inl 6, .inl 6, .inl 32, .inl 16, .inl 16, .inl 16, .inl 16, .inl 16, .inl 6, .inl 40, .inl 40, .inl 40, .inl 4, .inl 8, .inl 200, .inl 200, .inl 200, .inl 24, .inl 35] : List xS), x_u (x_u (x_u (x_u (x_u (x_u (x_u (x_u (x_u (x_u (x_u (x_u (x_u (x_u (x_u (x_u (x_u (x_u (x_u (x_u (x_u (x_u (x_u (x_u (x_u (x_u (x_u (x_u (x_u (x_u (x_u (x_z (x_z (x_z (x_z (x_z (x_z (x_z (x_z (x_z (x_z (x_z (x_z (x_z (x_z (x_z (x_z (x_z (x_z (x_z (x_z (x_z (w2) 58) 59) 60) 61) 62) 63) 64) 65) 66) 67) 68) 69) 70) 71) 72) 73) 74) 75) 76) 77) 78) 78 0 114) 78 1 111) 78 2 111) 78 3 109) 78 4 0) 78 5 110) 78 6 101) 78 7 97) 78 8 114) 78 9 0) 78 10 110) 78 11 101) 78 12 116) 78 13 0) 78 14 0) 78 15 115) 78 16 99) 78 17 101) 78 18 110) 78 19 101) 78 20 103) 78 21 117) 78 22 97) 78 23 114) 78 24 100) 78 25 108) 78 26 105) 78 27 102) 78 28 116) 78 29 0) 78 30 107), 21, 933)
    refine And.intro (show ¬ (_ ∨ _) by decide) ?_
    change x_wp _ _ _ _ _ _ 1787 (352, [some (.ref 57)], [.ref 78, .ref 57], (([.inr (9, [some (some 1), some (some 12), some (some 23), some (some 30), some (some 37), some (some 40), some (some 48), some (some 51), some (some 54)]), .inr (0, [some (some 2), some (some 4), some (some 6), some (some 8), some (some 10), none]), .inr (7, [some (some 3)]), .inl 6, .inr (7, [some (some 5)]), .inl 6, .inr (7, [some (some 7)]), .inl 6, .inr (7, [some (some 9)]), .inl 6, .inr (7, [some (some 11)]), .inl 32, .inr (3, [some (some 1), some (some 13), some (some 15), some (some 17), some (some 19), some (some 21), none]), .inr (7, [some (some 14)]), .inl 16, .inr (7, [some (some 16)]), .inl 16, .inr (7, [some (some 18)]), .inl 16, .inr (7, [some (some 20)]), .inl 16, .inr (7, [some (some 22)]), .inl 16, .inr (2, [some (some 24), some (some 26), some (some 28), none]), .inr (7, [some (some 25)]), .inl 8, .inr (7, [some (some 27)]), .inl 8, .inr (7, [some (some 29)]), .inl 8, .inr (8, [some (some 31), some (some 33), some (some 35), none]), .inr (7, [some (some 32)]), .inl 40, .inr (7, [some (some 34)]), .inl 40, .inr (7, [some (some 36)]), .inl 40, .inr (5, [some (some 1), some (some 12), some (some 38), none, none, none, none, none, none]), .inr (7, [some (some 39)]), .inl 4, .inr (4, [some (some 1), some (some 12), some (some 37), some (some 41), none]), .inr (8, [some (some 42), some (some 44), some (some 46), none]), .inr (7, [some (some 43)]), .inl 40, .inr (7, [some (some 45)]), .inl 40, .inr (7, [some (some 47)]), .inl 40, .inr (1, [some (some 49), none, none]), .inr (7, [some (some 50)]), .inl 24, .inr (6, [some (some 52), none, none, none]), .inr (7, [some (some 53)]), .inl 4, .inr (1, [some (some 55), none, none]), .inr (7, [some (some 56)]), .inl 40, .inr (10, [some (some 58), some (some 59), some (some 60), some (some 61), none, some (some 62), none, some (some 63), some (some 64), some (some 65), some (some 66), some (some 67), some (some 68), none, some (some 69), some (some 70), some (some 71), some (some 72), none, none, none, none, none, none, some (some 73), none, some (some 74), some (some 75), some (some 76), some (some 77), none, some none, some none, some none, none, none, some none, some none, none]), .inl 6, .inl 6, .inl 6, .inl 6, .inl 32, .inl 16, .inl 16, .inl 16, .inl 16, .inl 16, .inl 6, .inl 40, .inl 40, .inl 40, .inl 4, .inl 8, .inl 200, .inl 200, .inl 200, .inl 24, .inl 35] : List xS), x_u (x_u (x_u (x_u (x_u (x_u (x_u (x_u (x_u (x_u (x_u (x_u (x_u (x_u (x_u (x_u (x_u (x_u (x_u (x_u (x_u (x_u (x_u (x_u (x_u (x_u (x_u (x_u (x_u (x_u (x_u (x_u (x_z (x_z (x_z (x_z (x_z (x_z (x_z (x_z (x_z (x_z (x_z (x_z (x_z (x_z (x_z (x_z (x_z (x_z (x_z (x_z (x_z (w2) 58) 59) 60) 61) 62) 63) 64) 65) 66) 67) 68) 69) 70) 71) 72) 73) 74) 75) 76) 77) 78) 78 0 114) 78 1 111) 78 2 111) 78 3 109) 78 4 0) 78 5 110) 78 6 101) 78 7 97) 78 8 114) 78 9 0) 78 10 110) 78 11 101) 78 12 116) 78 13 0) 78 14 0) 78 15 115) 78 16 99) 78 17 101) 78 18 110) 78 19 101) 78 20 103) 78 21 117) 78 22 97) 78 23 114) 78 24 100) 78 25 108) 78 26 105) 78 27 102) 78 28 116) 78 29 0) 78 30 107) 78 31 101), 21, 933)
    refine And.intro (show ¬ (_ ∨ _) by decide) ?_
    change x_wp _ _ _ _ _ _ 1783 (358, [some (.ref 57)], [.ref 78, .ref 57], (([.inr (9, [some (some 1), some (some 12), some (some 23), some (some 30), some (some 37), some (some 40), some (some 48), some (some 51), some (some 54)]), .inr (0, [some (some 2), some (some 4), some (some 6), some (some 8), some (some 10), none]), .inr (7, [some (some 3)]), .inl 6, .inr (7, [some (some 5)]), .inl 6, .inr (7, [some (some 7)]), .inl 6, .inr (7, [some (some 9)]), .inl 6, .inr (7, [some (some 11)]), .inl 32, .inr (3, [some (some 1), some (some 13), some (some 15), some (some 17), some (some 19), some (some 21), none]), .inr (7, [some (some 14)]), .inl 16, .inr (7, [some (some 16)]), .inl 16, .inr (7, [some (some 18)]), .inl 16, .inr (7, [some (some 20)]), .inl 16, .inr (7, [some (some 22)]), .inl 16, .inr (2, [some (some 24), some (some 26), some (some 28), none]), .inr (7, [some (some 25)]), .inl 8, .inr (7, [some (some 27)]), .inl 8, .inr (7, [some (some 29)]), .inl 8, .inr (8, [some (some 31), some (some 33), some (some 35), none]), .inr (7, [some (some 32)]), .inl 40, .inr (7, [some (some 34)]), .inl 40, .inr (7, [some (some 36)]), .inl 40, .inr (5, [some (some 1), some (some 12), some (some 38), none, none, none, none, none, none]), .inr (7, [some (some 39)]), .inl 4, .inr (4, [some (some 1), some (some 12), some (some 37), some (some 41), none]), .inr (8, [some (some 42), some (some 44), some (some 46), none]), .inr (7, [some (some 43)]), .inl 40, .inr (7, [some (some 45)]), .inl 40, .inr (7, [some (some 47)]), .inl 40, .inr (1, [some (some 49), none, none]), .inr (7, [some (some 50)]), .inl 24, .inr (6, [some (some 52), none, none, none]), .inr (7, [some (some 53)]), .inl 4, .inr (1, [some (some 55), none, none]), .inr (7, [some (some 56)]), .inl 40, .inr (10, [some (some 58), some (some 59), some (some 60), some (some 61), none, some (some 62), none, some (some 63), some (some 64), some (some 65), some (some 66), some (some 67), some (some 68), none, some (some 69), some (some 70), some (some 71), some (some 72), none, none, none, none, none, none, some (some 73), none, some (some 74), some (some 75), some (some 76), some (some 77), none, some none, some none, some none, none, none, some none, some none, none]), .inl 6, .inl 6, .inl 6, .inl 6, .inl 32, .inl 16, .inl 16, .inl 16, .inl 16, .inl 16, .inl 6, .inl 40, .inl 40, .inl 40, .inl 4, .inl 8, .inl 200, .inl 200, .inl 200, .inl 24, .inl 35] : List xS), x_u (x_u (x_u (x_u (x_u (x_u (x_u (x_u (x_u (x_u (x_u (x_u (x_u (x_u (x_u (x_u (x_u (x_u (x_u (x_u (x_u (x_u (x_u (x_u (x_u (x_u (x_u (x_u (x_u (x_u (x_u (x_u (x_u (x_z (x_z (x_z (x_z (x_z (x_z (x_z (x_z (x_z (x_z (x_z (x_z (x_z (x_z (x_z (x_z (x_z (x_z (x_z (x_z (x_z (w2) 58) 59) 60) 61) 62) 63) 64) 65) 66) 67) 68) 69) 70) 71) 72) 73) 74) 75) 76) 77) 78) 78 0 114) 78 1 111) 78 2 111) 78 3 109) 78 4 0) 78 5 110) 78 6 101) 78 7 97) 78 8 114) 78 9 0) 78 10 110) 78 11 101) 78 12 116) 78 13 0) 78 14 0) 78 15 115) 78 16 99) 78 17 101) 78 18 110) 78 19 101) 78 20 103) 78 21 117) 78 22 97) 78 23 114) 78 24 100) 78 25 108) 78 26 105) 78 27 102) 78 28 116) 78 29 0) 78 30 107) 78 31 101) 78 32 101), 21, 933)
    refine And.intro (show ¬ (_ ∨ _) by decide) ?_
    change x_wp _ _ _ _ _ _ 1779 (364, [some (.ref 57)], [.ref 78, .ref 57], (([.inr (9, [some (some 1), some (some 12), some (some 23), some (some 30), some (some 37), some (some 40), some (some 48), some (some 51), some (some 54)]), .inr (0, [some (some 2), some (some 4), some (some 6), some (some 8), some (some 10), none]), .inr (7, [some (some 3)]), .inl 6, .inr (7, [some (some 5)]), .inl 6, .inr (7, [some (some 7)]), .inl 6, .inr (7, [some (some 9)]), .inl 6, .inr (7, [some (some 11)]), .inl 32, .inr (3, [some (some 1), some (some 13), some (some 15), some (some 17), some (some 19), some (some 21), none]), .inr (7, [some (some 14)]), .inl 16, .inr (7, [some (some 16)]), .inl 16, .inr (7, [some (some 18)]), .inl 16, .inr (7, [some (some 20)]), .inl 16, .inr (7, [some (some 22)]), .inl 16, .inr (2, [some (some 24), some (some 26), some (some 28), none]), .inr (7, [some (some 25)]), .inl 8, .inr (7, [some (some 27)]), .inl 8, .inr (7, [some (some 29)]), .inl 8, .inr (8, [some (some 31), some (some 33), some (some 35), none]), .inr (7, [some (some 32)]), .inl 40, .inr (7, [some (some 34)]), .inl 40, .inr (7, [some (some 36)]), .inl 40, .inr (5, [some (some 1), some (some 12), some (some 38), none, none, none, none, none, none]), .inr (7, [some (some 39)]), .inl 4, .inr (4, [some (some 1), some (some 12), some (some 37), some (some 41), none]), .inr (8, [some (some 42), some (some 44), some (some 46), none]), .inr (7, [some (some 43)]), .inl 40, .inr (7, [some (some 45)]), .inl 40, .inr (7, [some (some 47)]), .inl 40, .inr (1, [some (some 49), none, none]), .inr (7, [some (some 50)]), .inl 24, .inr (6, [some (some 52), none, none, none]), .inr (7, [some (some 53)]), .inl 4, .inr (1, [some (some 55), none, none]), .inr (7, [some (some 56)]), .inl 40, .inr (10, [some (some 58), some (some 59), some (some 60), some (some 61), none, some (some 62), none, some (some 63), some (some 64), some (some 65), some (some 66), some (some 67), some (some 68), none, some (some 69), some (some 70), some (some 71), some (some 72), none, none, none, none, none, none, some (some 73), none, some (some 74), some (some 75), some (some 76), some (some 77), none, some none, some none, some none, none, none, some none, some none, none]), .inl 6, .inl 6, .inl 6, .inl 6, .inl 32, .inl 16, .inl 16, .inl 16, .inl 16, .inl 16, .inl 6, .inl 40, .inl 40, .inl 40, .inl 4, .inl 8, .inl 200, .inl 200, .inl 200, .inl 24, .inl 35] : List xS), x_u (x_u (x_u (x_u (x_u (x_u (x_u (x_u (x_u (x_u (x_u (x_u (x_u (x_u (x_u (x_u (x_u (x_u (x_u (x_u (x_u (x_u (x_u (x_u (x_u (x_u (x_u (x_u (x_u (x_u (x_u (x_u (x_u (x_u (x_z (x_z (x_z (x_z (x_z (x_z (x_z (x_z (x_z (x_z (x_z (x_z (x_z (x_z (x_z (x_z (x_z (x_z (x_z (x_z (x_z (w2) 58) 59) 60) 61) 62) 63) 64) 65) 66) 67) 68) 69) 70) 71) 72) 73) 74) 75) 76) 77) 78) 78 0 114) 78 1 111) 78 2 111) 78 3 109) 78 4 0) 78 5 110) 78 6 101) 78 7 97) 78 8 114) 78 9 0) 78 10 110) 78 11 101) 78 12 116) 78 13 0) 78 14 0) 78 15 115) 78 16 99) 78 17 101) 78 18 110) 78 19 101) 78 20 103) 78 21 117) 78 22 97) 78 23 114) 78 24 100) 78 25 108) 78 26 105) 78 27 102) 78 28 116) 78 29 0) 78 30 107) 78 31 101) 78 32 101) 78 33 112), 21, 933)
    refine And.intro (show ¬ (_ ∨ _) by decide) ?_
    change x_wp _ _ _ _ _ _ 1775 (369, [some (.ref 57)], [.ref 78, .ref 57], (([.inr (9, [some (some 1), some (some 12), some (some 23), some (some 30), some (some 37), some (some 40), some (some 48), some (some 51), some (some 54)]), .inr (0, [some (some 2), some (some 4), some (some 6), some (some 8), some (some 10), none]), .inr (7, [some (some 3)]), .inl 6, .inr (7, [some (some 5)]), .inl 6, .inr (7, [some (some 7)]), .inl 6, .inr (7, [some (some 9)]), .inl 6, .inr (7, [some (some 11)]), .inl 32, .inr (3, [some (some 1), some (some 13), some (some 15), some (some 17), some (some 19), some (some 21), none]), .inr (7, [some (some 14)]), .inl 16, .inr (7, [some (some 16)]), .inl 16, .inr (7, [some (some 18)]), .inl 16, .inr (7, [some (some 20)]), .inl 16, .inr (7, [some (some 22)]), .inl 16, .inr (2, [some (some 24), some (some 26), some (some 28), none]), .inr (7, [some (some 25)]), .inl 8, .inr (7, [some (some 27)]), .inl 8, .inr (7, [some (some 29)]), .inl 8, .inr (8, [some (some 31), some (some 33), some (some 35), none]), .inr (7, [some (some 32)]), .inl 40, .inr (7, [some (some 34)]), .inl 40, .inr (7, [some (some 36)]), .inl 40, .inr (5, [some (some 1), some (some 12), some (some 38), none, none, none, none, none, none]), .inr (7, [some (some 39)]), .inl 4, .inr (4, [some (some 1), some (some 12), some (some 37), some (some 41), none]), .inr (8, [some (some 42), some (some 44), some (some 46), none]), .inr (7, [some (some 43)]), .inl 40, .inr (7, [some (some 45)]), .inl 40, .inr (7, [some (some 47)]), .inl 40, .inr (1, [some (some 49), none, none]), .inr (7, [some (some 50)]), .inl 24, .inr (6, [some (some 52), none, none, none]), .inr (7, [some (some 53)]), .inl 4, .inr (1, [some (some 55), none, none]), .inr (7, [some (some 56)]), .inl 40, .inr (10, [some (some 58), some (some 59), some (some 60), some (some 61), none, some (some 62), none, some (some 63), some (some 64), some (some 65), some (some 66), some (some 67), some (some 68), none, some (some 69), some (some 70), some (some 71), some (some 72), none, none, none, none, none, none, some (some 73), none, some (some 74), some (some 75), some (some 76), some (some 77), none, some none, some none, some none, none, none, some none, some none, none]), .inl 6, .inl 6, .inl 6, .inl 6, .inl 32, .inl 16, .inl 16, .inl 16, .inl 16, .inl 16, .inl 6, .inl 40, .inl 40, .inl 40, .inl 4, .inl 8, .inl 200, .inl 200, .inl 200, .inl 24, .inl 35] : List xS), x_u (x_u (x_u (x_u (x_u (x_u (x_u (x_u (x_u (x_u (x_u (x_u (x_u (x_u (x_u (x_u (x_u (x_u (x_u (x_u (x_u (x_u (x_u (x_u (x_u (x_u (x_u (x_u (x_u (x_u (x_u (x_u (x_u (x_u (x_u (x_z (x_z (x_z (x_z (x_z (x_z (x_z (x_z (x_z (x_z (x_z (x_z (x_z (x_z (x_z (x_z (x_z (x_z (x_z (x_z (x_z (w2) 58) 59) 60) 61) 62) 63) 64) 65) 66) 67) 68) 69) 70) 71) 72) 73) 74) 75) 76) 77) 78) 78 0 114) 78 1 111) 78 2 111) 78 3 109) 78 4 0) 78 5 110) 78 6 101) 78 7 97) 78 8 114) 78 9 0) 78 10 110) 78 11 101) 78 12 116) 78 13 0) 78 14 0) 78 15 115) 78 16 99) 78 17 101) 78 18 110) 78 19 101) 78 20 103) 78 21 117) 78 22 97) 78 23 114) 78 24 100) 78 25 108) 78 26 105) 78 27 102) 78 28 116) 78 29 0) 78 30 107) 78 31 101) 78 32 101) 78 33 112) 78 34 0), 21, 933)
    refine And.intro ⟨by decide, Nat.le_of_ble_eq_true rfl, Nat.le_of_ble_eq_true rfl, Nat.le_of_ble_eq_true rfl, Nat.le_of_ble_eq_true rfl⟩ ?_
    change x_wp _ _ _ _ _ _ 1771 (377, [some (.ref 57)], [.ref 79, .ref 57], (([.inr (9, [some (some 1), some (some 12), some (some 23), some (some 30), some (some 37), some (some 40), some (some 48), some (some 51), some (some 54)]), .inr (0, [some (some 2), some (some 4), some (some 6), some (some 8), some (some 10), none]), .inr (7, [some (some 3)]), .inl 6, .inr (7, [some (some 5)]), .inl 6, .inr (7, [some (some 7)]), .inl 6, .inr (7, [some (some 9)]), .inl 6, .inr (7, [some (some 11)]), .inl 32, .inr (3, [some (some 1), some (some 13), some (some 15), some (some 17), some (some 19), some (some 21), none]), .inr (7, [some (some 14)]), .inl 16, .inr (7, [some (some 16)]), .inl 16, .inr (7, [some (some 18)]), .inl 16, .inr (7, [some (some 20)]), .inl 16, .inr (7, [some (some 22)]), .inl 16, .inr (2, [some (some 24), some (some 26), some (some 28), none]), .inr (7, [some (some 25)]), .inl 8, .inr (7, [some (some 27)]), .inl 8, .inr (7, [some (some 29)]), .inl 8, .inr (8, [some (some 31), some (some 33), some (some 35), none]), .inr (7, [some (some 32)]), .inl 40, .inr (7, [some (some 34)]), .inl 40, .inr (7, [some (some 36)]), .inl 40, .inr (5, [some (some 1), some (some 12), some (some 38), none, none, none, none, none, none]), .inr (7, [some (some 39)]), .inl 4, .inr (4, [some (some 1), some (some 12), some (some 37), some (some 41), none]), .inr (8, [some (some 42), some (some 44), some (some 46), none]), .inr (7, [some (some 43)]), .inl 40, .inr (7, [some (some 45)]), .inl 40, .inr (7, [some (some 47)]), .inl 40, .inr (1, [some (some 49), none, none]), .inr (7, [some (some 50)]), .inl 24, .inr (6, [some (some 52), none, none, none]), .inr (7, [some (some 53)]), .inl 4, .inr (1, [some (some 55), none, none]), .inr (7, [some (some 56)]), .inl 40, .inr (10, [some (some 58), some (some 59), some (some 60), some (some 61), none, some (some 62), none, some (some 63), some (some 64), some (some 65), some (some 66), some (some 67), some (some 68), none, some (some 69), some (some 70), some (some 71), some (some 72), none, none, none, none, none, none, some (some 73), none, some (some 74), some (some 75), some (some 76), some (some 77), none, some (some 78), some none, some none, none, none, some none, some none, none]), .inl 6, .inl 6, .inl 6, .inl 6, .inl 32, .inl 16, .inl 16, .inl 16, .inl 16, .inl 16, .inl 6, .inl 40, .inl 40, .inl 40, .inl 4, .inl 8, .inl 200, .inl 200, .inl 200, .inl 24, .inl 35, .inl 7] : List xS), x_z (x_u (x_u (x_u (x_u (x_u (x_u (x_u (x_u (x_u (x_u (x_u (x_u (x_u (x_u (x_u (x_u (x_u (x_u (x_u (x_u (x_u (x_u (x_u (x_u (x_u (x_u (x_u (x_u (x_u (x_u (x_u (x_u (x_u (x_u (x_u (x_z (x_z (x_z (x_z (x_z (x_z (x_z (x_z (x_z (x_z (x_z (x_z (x_z (x_z (x_z (x_z (x_z (x_z (x_z (x_z (x_z (w2) 58) 59) 60) 61) 62) 63) 64) 65) 66) 67) 68) 69) 70) 71) 72) 73) 74) 75) 76) 77) 78) 78 0 114) 78 1 111) 78 2 111) 78 3 109) 78 4 0) 78 5 110) 78 6 101) 78 7 97) 78 8 114) 78 9 0) 78 10 110) 78 11 101) 78 12 116) 78 13 0) 78 14 0) 78 15 115) 78 16 99) 78 17 101) 78 18 110) 78 19 101) 78 20 103) 78 21 117) 78 22 97) 78 23 114) 78 24 100) 78 25 108) 78 26 105) 78 27 102) 78 28 116) 78 29 0) 78 30 107) 78 31 101) 78 32 101) 78 33 112) 78 34 0) 79), 22, 940)
    refine And.intro (show ¬ (_ ∨ _) by decide) ?_
    change x_wp _ _ _ _ _ _ 1767 (381, [some (.ref 57)], [.ref 79, .ref 57], (([.inr (9, [some (some 1), some (some 12), some (some 23), some (some 30), some (some 37), some (some 40), some (some 48), some (some 51), some (some 54)]), .inr (0, [some (some 2), some (some 4), some (some 6), some (some 8), some (some 10), none]), .inr (7, [some (some 3)]), .inl 6, .inr (7, [some (some 5)]), .inl 6, .inr (7, [some (some 7)]), .inl 6, .inr (7, [some (some 9)]), .inl 6, .inr (7, [some (some 11)]), .inl 32, .inr (3, [some (some 1), some (some 13), some (some 15), some (some 17), some (some 19), some (some 21), none]), .inr (7, [some (some 14)]), .inl 16, .inr (7, [some (some 16)]), .inl 16, .inr (7, [some (some 18)]), .inl 16, .inr (7, [some (some 20)]), .inl 16, .inr (7, [some (some 22)]), .inl 16, .inr (2, [some (some 24), some (some 26), some (some 28), none]), .inr (7, [some (some 25)]), .inl 8, .inr (7, [some (some 27)]), .inl 8, .inr (7, [some (some 29)]), .inl 8, .inr (8, [some (some 31), some (some 33), some (some 35), none]), .inr (7, [some (some 32)]), .inl 40, .inr (7, [some (some 34)]), .inl 40, .inr (7, [some (some 36)]), .inl 40, .inr (5, [some (some 1), some (some 12), some (some 38), none, none, none, none, none, none]), .inr (7, [some (some 39)]), .inl 4, .inr (4, [some (some 1), some (some 12), some (some 37), some (some 41), none]), .inr (8, [some (some 42), some (some 44), some (some 46), none]), .inr (7, [some (some 43)]), .inl 40, .inr (7, [some (some 45)]), .inl 40, .inr (7, [some (some 47)]), .inl 40, .inr (1, [some (some 49), none, none]), .inr (7, [some (some 50)]), .inl 24, .inr (6, [some (some 52), none, none, none]), .inr (7, [some (some 53)]), .inl 4, .inr (1, [some (some 55), none, none]), .inr (7, [some (some 56)]), .inl 40, .inr (10, [some (some 58), some (some 59), some (some 60), some (some 61), none, some (some 62), none, some (some 63), some (some 64), some (some 65), some (some 66), some (some 67), some (some 68), none, some (some 69), some (some 70), some (some 71), some (some 72), none, none, none, none, none, none, some (some 73), none, some (some 74), some (some 75), some (some 76), some (some 77), none, some (some 78), some none, some none, none, none, some none, some none, none]), .inl 6, .inl 6, .inl 6, .inl 6, .inl 32, .inl 16, .inl 16, .inl 16, .inl 16, .inl 16, .inl 6, .inl 40, .inl 40, .inl 40, .inl 4, .inl 8, .inl 200, .inl 200, .inl 200, .inl 24, .inl 35, .inl 7] : List xS), x_u (x_z (x_u (x_u (x_u (x_u (x_u (x_u (x_u (x_u (x_u (x_u (x_u (x_u (x_u (x_u (x_u (x_u (x_u (x_u (x_u (x_u (x_u (x_u (x_u (x_u (x_u (x_u (x_u (x_u (x_u (x_u (x_u (x_u (x_u (x_u (x_u (x_z (x_z (x_z (x_z (x_z (x_z (x_z (x_z (x_z (x_z (x_z (x_z (x_z (x_z (x_z (x_z (x_z (x_z (x_z (x_z (x_z (w2) 58) 59) 60) 61) 62) 63) 64) 65) 66) 67) 68) 69) 70) 71) 72) 73) 74) 75) 76) 77) 78) 78 0 114) 78 1 111) 78 2 111) 78 3 109) 78 4 0) 78 5 110) 78 6 101) 78 7 97) 78 8 114) 78 9 0) 78 10 110) 78 11 101) 78 12 116) 78 13 0) 78 14 0) 78 15 115) 78 16 99) 78 17 101) 78 18 110) 78 19 101) 78 20 103) 78 21 117) 78 22 97) 78 23 114) 78 24 100) 78 25 108) 78 26 105) 78 27 102) 78 28 116) 78 29 0) 78 30 107) 78 31 101) 78 32 101) 78 33 112) 78 34 0) 79) 79 0 2), 22, 940)
    refine And.intro (show ¬ (_ ∨ _) by decide) ?_
    change x_wp _ _ _ _ _ _ 1763 (385, [some (.ref 57)], [.ref 79, .ref 57], (([.inr (9, [some (some 1), some (some 12), some (some 23), some (some 30), some (some 37), some (some 40), some (some 48), some (some 51), some (some 54)]), .inr (0, [some (some 2), some (some 4), some (some 6), some (some 8), some (some 10), none]), .inr (7, [some (some 3)]), .inl 6, .inr (7, [some (some 5)]), .inl 6, .inr (7, [some (some 7)]), .inl 6, .inr (7, [some (some 9)]), .inl 6, .inr (7, [some (some 11)]), .inl 32, .inr (3, [some (some 1), some (some 13), some (some 15), some (some 17), some (some 19), some (some 21), none]), .inr (7, [some (some 14)]), .inl 16, .inr (7, [some (some 16)]), .inl 16, .inr (7, [some (some 18)]), .inl 16, .inr (7, [some (some 20)]), .inl 16, .inr (7, [some (some 22)]), .inl 16, .inr (2, [some (some 24), some (some 26), some (some 28), none]), .inr (7, [some (some 25)]), .inl 8, .inr (7, [some (some 27)]), .inl 8, .inr (7, [some (some 29)]), .inl 8, .inr (8, [some (some 31), some (some 33), some (some 35), none]), .inr (7, [some (some 32)]), .inl 40, .inr (7, [some (some 34)]), .inl 40, .inr (7, [some (some 36)]), .inl 40, .inr (5, [some (some 1), some (some 12), some (some 38), none, none, none, none, none, none]), .inr (7, [some (some 39)]), .inl 4, .inr (4, [some (some 1), some (some 12), some (some 37), some (some 41), none]), .inr (8, [some (some 42), some (some 44), some (some 46), none]), .inr (7, [some (some 43)]), .inl 40, .inr (7, [some (some 45)]), .inl 40, .inr (7, [some (some 47)]), .inl 40, .inr (1, [some (some 49), none, none]), .inr (7, [some (some 50)]), .inl 24, .inr (6, [some (some 52), none, none, none]), .inr (7, [some (some 53)]), .inl 4, .inr (1, [some (some 55), none, none]), .inr (7, [some (some 56)]), .inl 40, .inr (10, [some (some 58), some (some 59), some (some 60), some (some 61), none, some (some 62), none, some (some 63), some (some 64), some (some 65), some (some 66), some (some 67), some (some 68), none, some (some 69), some (some 70), some (some 71), some (some 72), none, none, none, none, none, none, some (some 73), none, some (some 74), some (some 75), some (some 76), some (some 77), none, some (some 78), some none, some none, none, none, some none, some none, none]), .inl 6, .inl 6, .inl 6, .inl 6, .inl 32, .inl 16, .inl 16, .inl 16, .inl 16, .inl 16, .inl 6, .inl 40, .inl 40, .inl 40, .inl 4, .inl 8, .inl 200, .inl 200, .inl 200, .inl 24, .inl 35, .inl 7] : List xS), x_u (x_u (x_z (x_u (x_u (x_u (x_u (x_u (x_u (x_u (x_u (x_u (x_u (x_u (x_u (x_u (x_u (x_u (x_u (x_u (x_u (x_u (x_u (x_u (x_u (x_u (x_u (x_u (x_u (x_u (x_u (x_u (x_u (x_u (x_u (x_u (x_u (x_u (x_z (x_z (x_z (x_z (x_z (x_z (x_z (x_z (x_z (x_z (x_z (x_z (x_z (x_z (x_z (x_z (x_z (x_z (x_z (x_z (x_z (w2) 58) 59) 60) 61) 62) 63) 64) 65) 66) 67) 68) 69) 70) 71) 72) 73) 74) 75) 76) 77) 78) 78 0 114) 78 1 111) 78 2 111) 78 3 109) 78 4 0) 78 5 110) 78 6 101) 78 7 97) 78 8 114) 78 9 0) 78 10 110) 78 11 101) 78 12 116) 78 13 0) 78 14 0) 78 15 115) 78 16 99) 78 17 101) 78 18 110) 78 19 101) 78 20 103) 78 21 117) 78 22 97) 78 23 114) 78 24 100) 78 25 108) 78 26 105) 78 27 102) 78 28 116) 78 29 0) 78 30 107) 78 31 101) 78 32 101) 78 33 112) 78 34 0) 79) 79 0 2) 79 1 3), 22, 940)
    refine And.intro (show ¬ (_ ∨ _) by decide) ?_
    change x_wp _ _ _ _ _ _ 1759 (389, [some (.ref 57)], [.ref 79, .ref 57], (([.inr (9, [some (some 1), some (some 12), some (some 23), some (some 30), some (some 37), some (some 40), some (some 48), some (some 51), some (some 54)]), .inr (0, [some (some 2), some (some 4), some (some 6), some (some 8), some (some 10), none]), .inr (7, [some (some 3)]), .inl 6, .inr (7, [some (some 5)]), .inl 6, .inr (7, [some (some 7)]), .inl 6, .inr (7, [some (some 9)]), .inl 6, .inr (7, [some (some 11)]), .inl 32, .inr (3, [some (some 1), some (some 13), some (some 15), some (some 17), some (some 19), some (some 21), none]), .inr (7, [some (some 14)]), .inl 16, .inr (7, [some (some 16)]), .inl 16, .inr (7, [some (some 18)]), .inl 16, .inr (7, [some (some 20)]), .inl 16, .inr (7, [some (some 22)]), .inl 16, .inr (2, [some (some 24), some (some 26), some (some 28), none]), .inr (7, [some (some 25)]), .inl 8, .inr (7, [some (some 27)]), .inl 8, .inr (7, [some (some 29)]), .inl 8, .inr (8, [some (some 31), some (some 33), some (some 35), none]), .inr (7, [some (some 32)]), .inl 40, .inr (7, [some (some 34)]), .inl 40, .inr (7, [some (some 36)]), .inl 40, .inr (5, [some (some 1), some (some 12), some (some 38), none, none, none, none, none, none]), .inr (7, [some (some 39)]), .inl 4, .inr (4, [some (some 1), some (some 12), some (some 37), some (some 41), none]), .inr (8, [some (some 42), some (some 44), some (some 46), none]), .inr (7, [some (some 43)]), .inl 40, .inr (7, [some (some 45)]), .inl 40, .inr (7, [some (some 47)]), .inl 40, .inr (1, [some (some 49), none, none]), .inr (7, [some (some 50)]), .inl 24, .inr (6, [some (some 52), none, none, none]), .inr (7, [some (some 53)]), .inl 4, .inr (1, [some (some 55), none, none]), .inr (7, [some (some 56)]), .inl 40, .inr (10, [some (some 58), some (some 59), some (some 60), some (some 61), none, some (some 62), none, some (some 63), some (some 64), some (some 65), some (some 66), some (some 67), some (some 68), none, some (some 69), some (some 70), some (some 71), some (some 72), none, none, none, none, none, none, some (some 73), none, some (some 74), some (some 75), some (some 76), some (some 77), none, some (some 78), some none, some none, none, none, some none, some none, none]), .inl 6, .inl 6, .inl 6, .inl 6, .inl 32, .inl 16, .inl 16, .inl 16, .inl 16, .inl 16, .inl 6, .inl 40, .inl 40, .inl 40, .inl 4, .inl 8, .inl 200, .inl 200, .inl 200, .inl 24, .inl 35, .inl 7] : List xS), x_u (x_u (x_u (x_z (x_u (x_u (x_u (x_u (x_u (x_u (x_u (x_u (x_u (x_u (x_u (x_u (x_u (x_u (x_u (x_u (x_u (x_u (x_u (x_u (x_u (x_u (x_u (x_u (x_u (x_u (x_u (x_u (x_u (x_u (x_u (x_u (x_u (x_u (x_u (x_z (x_z (x_z (x_z (x_z (x_z (x_z (x_z (x_z (x_z (x_z (x_z (x_z (x_z (x_z (x_z (x_z (x_z (x_z (x_z (x_z (w2) 58) 59) 60) 61) 62) 63) 64) 65) 66) 67) 68) 69) 70) 71) 72) 73) 74) 75) 76) 77) 78) 78 0 114) 78 1 111) 78 2 111) 78 3 109) 78 4 0) 78 5 110) 78 6 101) 78 7 97) 78 8 114) 78 9 0) 78 10 110) 78 11 101) 78 12 116) 78 13 0) 78 14 0) 78 15 115) 78 16 99) 78 17 101) 78 18 110) 78 19 101) 78 20 103) 78 21 117) 78 22 97) 78 23 114) 78 24 100) 78 25 108) 78 26 105) 78 27 102) 78 28 116) 78 29 0) 78 30 107) 78 31 101) 78 32 101) 78 33 112) 78 34 0) 79) 79 0 2) 79 1 3) 79 2 2), 22, 940)
    refine And.intro (show ¬ (_ ∨ _) by decide) ?_
    change x_wp _ _ _ _ _ _ 1755 (393, [some (.ref 57)], [.ref 79, .ref 57], (([.inr (9, [some (some 1), some (some 12), some (some 23), some (some 30), some (some 37), some (some 40), some (some 48), some (some 51), some (some 54)]), .inr (0, [some (some 2), some (some 4), some (some 6), some (some 8), some (some 10), none]), .inr (7, [some (some 3)]), .inl 6, .inr (7, [some (some 5)]), .inl 6, .inr (7, [some (some 7)]), .inl 6, .inr (7, [some (some 9)]), .inl 6, .inr (7, [some (some 11)]), .inl 32, .inr (3, [some (some 1), some (some 13), some (some 15), some (some 17), some (some 19), some (some 21), none]), .inr (7, [some (some 14)]), .inl 16, .inr (7, [some (some 16)]), .inl 16, .inr (7, [some (some 18)]), .inl 16, .inr (7, [some (some 20)]), .inl 16, .inr (7, [some (some 22)]), .inl 16, .inr (2, [some (some 24), some (some 26), some (some 28), none]), .inr (7, [some (some 25)]), .inl 8, .inr (7, [some (some 27)]), .inl 8, .inr (7, [some (some 29)]), .inl 8, .inr (8, [some (some 31), some (some 33), some (some 35), none]), .inr (7, [some (some 32)]), .inl 40, .inr (7, [some (some 34)]), .inl 40, .inr (7, [some (some 36)]), .inl 40, .inr (5, [some (some 1), some (some 12), some (some 38), none, none, none, none, none, none]), .inr (7, [some (some 39)]), .inl 4, .inr (4, [some (some 1), some (some 12), some (some 37), some (some 41), none]), .inr (8, [some (some 42), some (some 44), some (some 46), none]), .inr (7, [some (some 43)]), .inl 40, .inr (7, [some (some 45)]), .inl 40, .inr (7, [some (some 47)]), .inl 40, .inr (1, [some (some 49), none, none]), .inr (7, [some (some 50)]), .inl 24, .inr (6, [some (some 52), none, none, none]), .inr (7, [some (some 53)]), .inl 4, .inr (1, [some (some 55), none, none]), .inr (7, [some (some 56)]), .inl 40, .inr (10, [some (some 58), some (some 59), some (some 60), some (some 61), none, some (some 62), none, some (some 63), some (some 64), some (some 65), some (some 66), some (some 67), some (some 68), none, some (some 69), some (some 70), some (some 71), some (some 72), none, none, none, none, none, none, some (some 73), none, some (some 74), some (some 75), some (some 76), some (some 77), none, some (some 78), some none, some none, none, none, some none, some none, none]), .inl 6, .inl 6, .inl 6, .inl 6, .inl 32, .inl 16, .inl 16, .inl 16, .inl 16, .inl 16, .inl 6, .inl 40, .inl 40, .inl 40, .inl 4, .inl 8, .inl 200, .inl 200, .inl 200, .inl 24, .inl 35, .inl 7] : List xS), x_u (x_u (x_u (x_u (x_z (x_u (x_u (x_u (x_u (x_u (x_u (x_u (x_u (x_u (x_u (x_u (x_u (x_u (x_u (x_u (x_u (x_u (x_u (x_u (x_u (x_u (x_u (x_u (x_u (x_u (x_u (x_u (x_u (x_u (x_u (x_u (x_u (x_u (x_u (x_u (x_z (x_z (x_z (x_z (x_z (x_z (x_z (x_z (x_z (x_z (x_z (x_z (x_z (x_z (x_z (x_z (x_z (x_z (x_z (x_z (x_z (w2) 58) 59) 60) 61) 62) 63) 64) 65) 66) 67) 68) 69) 70) 71) 72) 73) 74) 75) 76) 77) 78) 78 0 114) 78 1 111) 78 2 111) 78 3 109) 78 4 0) 78 5 110) 78 6 101) 78 7 97) 78 8 114) 78 9 0) 78 10 110) 78 11 101) 78 12 116) 78 13 0) 78 14 0) 78 15 115) 78 16 99) 78 17 101) 78 18 110) 78 19 101) 78 20 103) 78 21 117) 78 22 97) 78 23 114) 78 24 100) 78 25 108) 78 26 105) 78 27 102) 78 28 116) 78 29 0) 78 30 107) 78 31 101) 78 32 101) 78 33 112) 78 34 0) 79) 79 0 2) 79 1 3) 79 2 2) 79 3 4), 22, 940)
    refine And.intro (show ¬ (_ ∨ _) by decide) ?_
    change x_wp _ _ _ _ _ _ 1751 (397, [some (.ref 57)], [.ref 79, .ref 57], (([.inr (9, [some (some 1), some (some 12), some (some 23), some (some 30), some (some 37), some (some 40), some (some 48), some (some 51), some (some 54)]), .inr (0, [some (some 2), some (some 4), some (some 6), some (some 8), some (some 10), none]), .inr (7, [some (some 3)]), .inl 6, .inr (7, [some (some 5)]), .inl 6, .inr (7, [some (some 7)]), .inl 6, .inr (7, [some (some 9)]), .inl 6, .inr (7, [some (some 11)]), .inl 32, .inr (3, [some (some 1), some (some 13), some (some 15), some (some 17), some (some 19), some (some 21), none]), .inr (7, [some (some 14)]), .inl 16, .inr (7, [some (some 16)]), .inl 16, .inr (7, [some (some 18)]), .inl 16, .inr (7, [some (some 20)]), .inl 16, .inr (7, [some (some 22)]), .inl 16, .inr (2, [some (some 24), some (some 26), some (some 28), none]), .inr (7, [some (some 25)]), .inl 8, .inr (7, [some (some 27)]), .inl 8, .inr (7, [some (some 29)]), .inl 8, .inr (8, [some (some 31), some (some 33), some (some 35), none]), .inr (7, [some (some 32)]), .inl 40, .inr (7, [some (some 34)]), .inl 40, .inr (7, [some (some 36)]), .inl 40, .inr (5, [some (some 1), some (some 12), some (some 38), none, none, none, none, none, none]), .inr (7, [some (some 39)]), .inl 4, .inr (4, [some (some 1), some (some 12), some (some 37), some (some 41), none]), .inr (8, [some (some 42), some (some 44), some (some 46), none]), .inr (7, [some (some 43)]), .inl 40, .inr (7, [some (some 45)]), .inl 40, .inr (7, [some (some 47)]), .inl 40, .inr (1, [some (some 49), none, none]), .inr (7, [some (some 50)]), .inl 24, .inr (6, [some (some 52), none, none, none]), .inr (7, [some (some 53)]), .inl 4, .inr (1, [some (some 55), none, none]), .inr (7, [some (some 56)]), .inl 40, .inr (10, [some (some 58), some (some 59), some (some 60), some (some 61), none, some (some 62), none, some (some 63), some (some 64), some (some 65), some (some 66), some (some 67), some (some 68), none, some (some 69), some (some 70), some (some 71), some (some 72), none, none, none, none, none, none, some (some 73), none, some (some 74), some (some 75), some (some 76), some (some 77), none, some (some 78), some none, some none, none, none, some none, some none, none]), .inl 6, .inl 6, .inl 6, .inl 6, .inl 32, .inl 16, .inl 16, .inl 16, .inl 16, .inl 16, .inl 6, .inl 40, .inl 40, .inl 40, .inl 4, .inl 8, .inl 200, .inl 200, .inl 200, .inl 24, .inl 35, .inl 7] : List xS), x_u (x_u (x_u (x_u (x_u (x_z (x_u (x_u (x_u (x_u (x_u (x_u (x_u (x_u (x_u (x_u (x_u (x_u (x_u (x_u (x_u (x_u (x_u (x_u (x_u (x_u (x_u (x_u (x_u (x_u (x_u (x_u (x_u (x_u (x_u (x_u (x_u (x_u (x_u (x_u (x_u (x_z (x_z (x_z (x_z (x_z (x_z (x_z (x_z (x_z (x_z (x_z (x_z (x_z (x_z (x_z (x_z (x_z (x_z (x_z (x_z (x_z (w2) 58) 59) 60) 61) 62) 63) 64) 65) 66) 67) 68) 69) 70) 71) 72) 73) 74) 75) 76) 77) 78) 78 0 114) 78 1 111) 78 2 111) 78 3 109) 78 4 0) 78 5 110) 78 6 101) 78 7 97) 78 8 114) 78 9 0) 78 10 110) 78 11 101) 78 12 116) 78 13 0) 78 14 0) 78 15 115) 78 16 99) 78 17 101) 78 18 110) 78 19 101) 78 20 103) 78 21 117) 78 22 97) 78 23 114) 78 24 100) 78 25 108) 78 26 105) 78 27 102) 78 28 116) 78 29 0) 78 30 107) 78 31 101) 78 32 101) 78 33 112) 78 34 0) 79) 79 0 2) 79 1 3) 79 2 2) 79 3 4) 79 4 3), 22, 940)
    refine And.intro (show ¬ (_ ∨ _) by decide) ?_
    change x_wp _ _ _ _ _ _ 1747 (401, [some (.ref 57)], [.ref 79, .ref 57], (([.inr (9, [some (some 1), some (some 12), some (some 23), some (some 30), some (some 37), some (some 40), some (some 48), some (some 51), some (some 54)]), .inr (0, [some (some 2), some (some 4), some (some 6), some (some 8), some (some 10), none]), .inr (7, [some (some 3)]), .inl 6, .inr (7, [some (some 5)]), .inl 6, .inr (7, [some (some 7)]), .inl 6, .inr (7, [some (some 9)]), .inl 6, .inr (7, [some (some 11)]), .inl 32, .inr (3, [some (some 1), some (some 13), some (some 15), some (some 17), some (some 19), some (some 21), none]), .inr (7, [some (some 14)]), .inl 16, .inr (7, [some (some 16)]), .inl 16, .inr (7, [some (some 18)]), .inl 16, .inr (7, [some (some 20)]), .inl 16, .inr (7, [some (some 22)]), .inl 16, .inr (2, [some (some 24), some (some 26), some (some 28), none]), .inr (7, [some (some 25)]), .inl 8, .inr (7, [some (some 27)]), .inl 8, .inr (7, [some (some 29)]), .inl 8, .inr (8, [some (some 31), some (some 33), some (some 35), none]), .inr (7, [some (some 32)]), .inl 40, .inr (7, [some (some 34)]), .inl 40, .inr (7, [some (some 36)]), .inl 40, .inr (5, [some (some 1), some (some 12), some (some 38), none, none, none, none, none, none]), .inr (7, [some (some 39)]), .inl 4, .inr (4, [some (some 1), some (some 12), some (some 37), some (some 41), none]), .inr (8, [some (some 42), some (some 44), some (some 46), none]), .inr (7, [some (some 43)]), .inl 40, .inr (7, [some (some 45)]), .inl 40, .inr (7, [some (some 47)]), .inl 40, .inr (1, [some (some 49), none, none]), .inr (7, [some (some 50)]), .inl 24, .inr (6, [some (some 52), none, none, none]), .inr (7, [some (some 53)]), .inl 4, .inr (1, [some (some 55), none, none]), .inr (7, [some (some 56)]), .inl 40, .inr (10, [some (some 58), some (some 59), some (some 60), some (some 61), none, some (some 62), none, some (some 63), some (some 64), some (some 65), some (some 66), some (some 67), some (some 68), none, some (some 69), some (some 70), some (some 71), some (some 72), none, none, none, none, none, none, some (some 73), none, some (some 74), some (some 75), some (some 76), some (some 77), none, some (some 78), some none, some none, none, none, some none, some none, none]), .inl 6, .inl 6, .inl 6, .inl 6, .inl 32, .inl 16, .inl 16, .inl 16, .inl 16, .inl 16, .inl 6, .inl 40, .inl 40, .inl 40, .inl 4, .inl 8, .inl 200, .inl 200, .inl 200, .inl 24, .inl 35, .inl 7] : List xS), x_u (x_u (x_u (x_u (x_u (x_u (x_z (x_u (x_u (x_u (x_u (x_u (x_u (x_u (x_u (x_u (x_u (x_u (x_u (x_u (x_u (x_u (x_u (x_u (x_u (x_u (x_u (x_u (x_u (x_u (x_u (x_u (x_u (x_u (x_u (x_u (x_u (x_u (x_u (x_u (x_u (x_u (x_z (x_z (x_z (x_z (x_z (x_z (x_z (x_z (x_z (x_z (x_z (x_z (x_z (x_z (x_z (x_z (x_z (x_z (x_z (x_z (x_z (w2) 58) 59) 60) 61) 62) 63) 64) 65) 66) 67) 68) 69) 70) 71) 72) 73) 74) 75) 76) 77) 78) 78 0 114) 78 1 111) 78 2 111) 78 3 109) 78 4 0) 78 5 110) 78 6 101) 78 7 97) 78 8 114) 78 9 0) 78 10 110) 78 11 101) 78 12 116) 78 13 0) 78 14 0) 78 15 115) 78 16 99) 78 17 101) 78 18 110) 78 19 101) 78 20 103) 78 21 117) 78 22 97) 78 23 114) 78 24 100) 78 25 108) 78 26 105) 78 27 102) 78 28 116) 78 29 0) 78 30 107) 78 31 101) 78 32 101) 78 33 112) 78 34 0) 79) 79 0 2) 79 1 3) 79 2 2) 79 3 4) 79 4 3) 79 5 2), 22, 940)
    refine And.intro (show ¬ (_ ∨ _) by decide) ?_
    change x_wp _ _ _ _ _ _ 1743 (406, [some (.ref 57)], [.ref 79, .ref 57], (([.inr (9, [some (some 1), some (some 12), some (some 23), some (some 30), some (some 37), some (some 40), some (some 48), some (some 51), some (some 54)]), .inr (0, [some (some 2), some (some 4), some (some 6), some (some 8), some (some 10), none]), .inr (7, [some (some 3)]), .inl 6, .inr (7, [some (some 5)]), .inl 6, .inr (7, [some (some 7)]), .inl 6, .inr (7, [some (some 9)]), .inl 6, .inr (7, [some (some 11)]), .inl 32, .inr (3, [some (some 1), some (some 13), some (some 15), some (some 17), some (some 19), some (some 21), none]), .inr (7, [some (some 14)]), .inl 16, .inr (7, [some (some 16)]), .inl 16, .inr (7, [some (some 18)]), .inl 16, .inr (7, [some (some 20)]), .inl 16, .inr (7, [some (some 22)]), .inl 16, .inr (2, [some (some 24), some (some 26), some (some 28), none]), .inr (7, [some (some 25)]), .inl 8, .inr (7, [some (some 27)]), .inl 8, .inr (7, [some (some 29)]), .inl 8, .inr (8, [some (some 31), some (some 33), some (some 35), none]), .inr (7, [some (some 32)]), .inl 40, .inr (7, [some (some 34)]), .inl 40, .inr (7, [some (some 36)]), .inl 40, .inr (5, [some (some 1), some (some 12), some (some 38), none, none, none, none, none, none]), .inr (7, [some (some 39)]), .inl 4, .inr (4, [some (some 1), some (some 12), some (some 37), some (some 41), none]), .inr (8, [some (some 42), some (some 44), some (some 46), none]), .inr (7, [some (some 43)]), .inl 40, .inr (7, [some (some 45)]), .inl 40, .inr (7, [some (some 47)]), .inl 40, .inr (1, [some (some 49), none, none]), .inr (7, [some (some 50)]), .inl 24, .inr (6, [some (some 52), none, none, none]), .inr (7, [some (some 53)]), .inl 4, .inr (1, [some (some 55), none, none]), .inr (7, [some (some 56)]), .inl 40, .inr (10, [some (some 58), some (some 59), some (some 60), some (some 61), none, some (some 62), none, some (some 63), some (some 64), some (some 65), some (some 66), some (some 67), some (some 68), none, some (some 69), some (some 70), some (some 71), some (some 72), none, none, none, none, none, none, some (some 73), none, some (some 74), some (some 75), some (some 76), some (some 77), none, some (some 78), some none, some none, none, none, some none, some none, none]), .inl 6, .inl 6, .inl 6, .inl 6, .inl 32, .inl 16, .inl 16, .inl 16, .inl 16, .inl 16, .inl 6, .inl 40, .inl 40, .inl 40, .inl 4, .inl 8, .inl 200, .inl 200, .inl 200, .inl 24, .inl 35, .inl 7] : List xS), x_u (x_u (x_u (x_u (x_u (x_u (x_u (x_z (x_u (x_u (x_u (x_u (x_u (x_u (x_u (x_u (x_u (x_u (x_u (x_u (x_u (x_u (x_u (x_u (x_u (x_u (x_u (x_u (x_u (x_u (x_u (x_u (x_u (x_u (x_u (x_u (x_u (x_u (x_u (x_u (x_u (x_u (x_u (x_z (x_z (x_z (x_z (x_z (x_z (x_z (x_z (x_z (x_z (x_z (x_z (x_z (x_z (x_z (x_z (x_z (x_z (x_z (x_z (x_z (w2) 58) 59) 60) 61) 62) 63) 64) 65) 66) 67) 68) 69) 70) 71) 72) 73) 74) 75) 76) 77) 78) 78 0 114) 78 1 111) 78 2 111) 78 3 109) 78 4 0) 78 5 110) 78 6 101) 78 7 97) 78 8 114) 78 9 0) 78 10 110) 78 11 101) 78 12 116) 78 13 0) 78 14 0) 78 15 115) 78 16 99) 78 17 101) 78 18 110) 78 19 101) 78 20 103) 78 21 117) 78 22 97) 78 23 114) 78 24 100) 78 25 108) 78 26 105) 78 27 102) 78 28 116) 78 29 0) 78 30 107) 78 31 101) 78 32 101) 78 33 112) 78 34 0) 79) 79 0 2) 79 1 3) 79 2 2) 79 3 4) 79 4 3) 79 5 2) 79 6 3), 22, 940)
    refine And.intro ⟨by decide, Nat.le_of_ble_eq_true rfl, Nat.le_of_ble_eq_true rfl, Nat.le_of_ble_eq_true rfl, Nat.le_of_ble_eq_true rfl⟩ ?_
    change x_wp _ _ _ _ _ _ 1739 (414, [some (.ref 57)], [.ref 80, .ref 57], (([.inr (9, [some (some 1), some (some 12), some (some 23), some (some 30), some (some 37), some (some 40), some (some 48), some (some 51), some (some 54)]), .inr (0, [some (some 2), some (some 4), some (some 6), some (some 8), some (some 10), none]), .inr (7, [some (some 3)]), .inl 6, .inr (7, [some (some 5)]), .inl 6, .inr (7, [some (some 7)]), .inl 6, .inr (7, [some (some 9)]), .inl 6, .inr (7, [some (some 11)]), .inl 32, .inr (3, [some (some 1), some (some 13), some (some 15), some (some 17), some (some 19), some (some 21), none]), .inr (7, [some (some 14)]), .inl 16, .inr (7, [some (some 16)]), .inl 16, .inr (7, [some (some 18)]), .inl 16, .inr (7, [some (some 20)]), .inl 16, .inr (7, [some (some 22)]), .inl 16, .inr (2, [some (some 24), some (some 26), some (some 28), none]), .inr (7, [some (some 25)]), .inl 8, .inr (7, [some (some 27)]), .inl 8, .inr (7, [some (some 29)]), .inl 8, .inr (8, [some (some 31), some (some 33), some (some 35), none]), .inr (7, [some (some 32)]), .inl 40, .inr (7, [some (some 34)]), .inl 40, .inr (7, [some (some 36)]), .inl 40, .inr (5, [some (some 1), some (some 12), some (some 38), none, none, none, none, none, none]), .inr (7, [some (some 39)]), .inl 4, .inr (4, [some (some 1), some (some 12), some (some 37), some (some 41), none]), .inr (8, [some (some 42), some (some 44), some (some 46), none]), .inr (7, [some (some 43)]), .inl 40, .inr (7, [some (some 45)]), .inl 40, .inr (7, [some (some 47)]), .inl 40, .inr (1, [some (some 49), none, none]), .inr (7, [some (some 50)]), .inl 24, .inr (6, [some (some 52), none, none, none]), .inr (7, [some (some 53)]), .inl 4, .inr (1, [some (some 55), none, none]), .inr (7, [some (some 56)]), .inl 40, .inr (10, [some (some 58), some (some 59), some (some 60), some (some 61), none, some (some 62), none, some (some 63), some (some 64), some (some 65), some (some 66), some (some 67), some (some 68), none, some (some 69), some (some 70), some (some 71), some (some 72), none, none, none, none, none, none, some (some 73), none, some (some 74), some (some 75), some (some 76), some (some 77), none, some (some 78), some (some 79), some none, none, none, some none, some none, none]), .inl 6, .inl 6, .inl 6, .inl 6, .inl 32, .inl 16, .inl 16, .inl 16, .inl 16, .inl 16, .inl 6, .inl 40, .inl 40, .inl 40, .inl 4, .inl 8, .inl 200, .inl 200, .inl 200, .inl 24, .inl 35, .inl 7, .inl 28] : List xS), x_z (x_u (x_u (x_u (x_u (x_u (x_u (x_u (x_z (x_u (x_u (x_u (x_u (x_u (x_u (x_u (x_u (x_u (x_u (x_u (x_u (x_u (x_u (x_u (x_u (x_u (x_u (x_u (x_u (x_u (x_u (x_u (x_u (x_u (x_u (x_u (x_u (x_u (x_u (x_u (x_u (x_u (x_u (x_u (x_z (x_z (x_z (x_z (x_z (x_z (x_z (x_z (x_z (x_z (x_z (x_z (x_z (x_z (x_z (x_z (x_z (x_z (x_z (x_z (x_z (w2) 58) 59) 60) 61) 62) 63) 64) 65) 66) 67) 68) 69) 70) 71) 72) 73) 74) 75) 76) 77) 78) 78 0 114) 78 1 111) 78 2 111) 78 3 109) 78 4 0) 78 5 110) 78 6 101) 78 7 97) 78 8 114) 78 9 0) 78 10 110) 78 11 101) 78 12 116) 78 13 0) 78 14 0) 78 15 115) 78 16 99) 78 17 101) 78 18 110) 78 19 101) 78 20 103) 78 21 117) 78 22 97) 78 23 114) 78 24 100) 78 25 108) 78 26 105) 78 27 102) 78 28 116) 78 29 0) 78 30 107) 78 31 101) 78 32 101) 78 33 112) 78 34 0) 79) 79 0 2) 79 1 3) 79 2 2) 79 3 4) 79 4 3) 79 5 2) 79 6 3) 80), 23, 968)
    refine And.intro (show ¬ (_ ∨ _) by decide) ?_
    change x_wp _ _ _ _ _ _ 1735 (418, [some (.ref 57)], [.ref 80, .ref 57], (([.inr (9, [some (some 1), some (some 12), some (some 23), some (some 30), some (some 37), some (some 40), some (some 48), some (some 51), some (some 54)]), .inr (0, [some (some 2), some (some 4), some (some 6), some (some 8), some (some 10), none]), .inr (7, [some (some 3)]), .inl 6, .inr (7, [some (some 5)]), .inl 6, .inr (7, [some (some 7)]), .inl 6, .inr (7, [some (some 9)]), .inl 6, .inr (7, [some (some 11)]), .inl 32, .inr (3, [some (some 1), some (some 13), some (some 15), some (some 17), some (some 19), some (some 21), none]), .inr (7, [some (some 14)]), .inl 16, .inr (7, [some (some 16)]), .inl 16, .inr (7, [some (some 18)]), .inl 16, .inr (7, [some (some 20)]), .inl 16, .inr (7, [some (some 22)]), .inl 16, .inr (2, [some (some 24), some (some 26), some (some 28), none]), .inr (7, [some (some 25)]), .inl 8, .inr (7, [some (some 27)]), .inl 8, .inr (7, [some (some 29)]), .inl 8, .inr (8, [some (some 31), some (some 33), some (some 35), none]), .inr (7, [some (some 32)]), .inl 40, .inr (7, [some (some 34)]), .inl 40, .inr (7, [some (some 36)]), .inl 40, .inr (5, [some (some 1), some (some 12), some (some 38), none, none, none, none, none, none]), .inr (7, [some (some 39)]), .inl 4, .inr (4, [some (some 1), some (some 12), some (some 37), some (some 41), none]), .inr (8, [some (some 42), some (some 44), some (some 46), none]), .inr (7, [some (some 43)]), .inl 40, .inr (7, [some (some 45)]), .inl 40, .inr (7, [some (some 47)]), .inl 40, .inr (1, [some (some 49), none, none]), .inr (7, [some (some 50)]), .inl 24, .inr (6, [some (some 52), none, none, none]), .inr (7, [some (some 53)]), .inl 4, .inr (1, [some (some 55), none, none]), .inr (7, [some (some 56)]), .inl 40, .inr (10, [some (some 58), some (some 59), some (some 60), some (some 61), none, some (some 62), none, some (some 63), some (some 64), some (some 65), some (some 66), some (some 67), some (some 68), none, some (some 69), some (some 70), some (some 71), some (some 72), none, none, none, none, none, none, some (some 73), none, some (some 74), some (some 75), some (some 76), some (some 77), none, some (some 78), some (some 79), some none, none, none, some none, some none, none]), .inl 6, .inl 6, .inl 6, .inl 6, .inl 32, .inl 16, .inl 16, .inl 16, .inl 16, .inl 16, .inl 6, .inl 40, .inl 40, .inl 40, .inl 4, .inl 8, .inl 200, .inl 200, .inl 200, .inl 24, .inl 35, .inl 7, .inl 28] : List xS), x_u (x_z (x_u (x_u (x_u (x_u (x_u (x_u (x_u (x_z (x_u (x_u (x_u (x_u (x_u (x_u (x_u (x_u (x_u (x_u (x_u (x_u (x_u (x_u (x_u (x_u (x_u (x_u (x_u (x_u (x_u (x_u (x_u (x_u (x_u (x_u (x_u (x_u (x_u (x_u (x_u (x_u (x_u (x_u (x_u (x_z (x_z (x_z (x_z (x_z (x_z (x_z (x_z (x_z (x_z (x_z (x_z (x_z (x_z (x_z (x_z (x_z (x_z (x_z (x_z (x_z (w2) 58) 59) 60) 61) 62) 63) 64) 65) 66) 67) 68) 69) 70) 71) 72) 73) 74) 75) 76) 77) 78) 78 0 114) 78 1 111) 78 2 111) 78 3 109) 78 4 0) 78 5 110) 78 6 101) 78 7 97) 78 8 114) 78 9 0) 78 10 110) 78 11 101) 78 12 116) 78 13 0) 78 14 0) 78 15 115) 78 16 99) 78 17 101) 78 18 110) 78 19 101) 78 20 103) 78 21 117) 78 22 97) 78 23 114) 78 24 100) 78 25 108) 78 26 105) 78 27 102) 78 28 116) 78 29 0) 78 30 107) 78 31 101) 78 32 101) 78 33 112) 78 34 0) 79) 79 0 2) 79 1 3) 79 2 2) 79 3 4) 79 4 3) 79 5 2) 79 6 3) 80) 80 0 5), 23, 968)
    refine And.intro (show ¬ (_ ∨ _) by decide) ?_
    change x_wp _ _ _ _ _ _ 1731 (422, [some (.ref 57)], [.ref 80, .ref 57], (([.inr (9, [some (some 1), some (some 12), some (some 23), some (some 30), some (some 37), some (some 40), some (some 48), some (some 51), some (some 54)]), .inr (0, [some (some 2), some (some 4), some (some 6), some (some 8), some (some 10), none]), .inr (7, [some (some 3)]), .inl 6, .inr (7, [some (some 5)]), .inl 6, .inr (7, [some (some 7)]), .inl 6, .inr (7, [some (some 9)]), .inl 6, .inr (7, [some (some 11)]), .inl 32, .inr (3, [some (some 1), some (some 13), some (some 15), some (some 17), some (some 19), some (some 21), none]), .inr (7, [some (some 14)]), .inl 16, .inr (7, [some (some 16)]), .inl 16, .inr (7, [some (some 18)]), .inl 16, .inr (7, [some (some 20)]), .inl 16, .inr (7, [some (some 22)]), .inl 16, .inr (2, [some (some 24), some (some 26), some (some 28), none]), .inr (7, [some (some 25)]), .inl 8, .inr (7, [some (some 27)]), .inl 8, .inr (7, [some (some 29)]), .inl 8, .inr (8, [some (some 31), some (some 33), some (some 35), none]), .inr (7, [some (some 32)]), .inl 40, .inr (7, [some (some 34)]), .inl 40, .inr (7, [some (some 36)]), .inl 40, .inr (5, [some (some 1), some (some 12), some (some 38), none, none, none, none, none, none]), .inr (7, [some (some 39)]), .inl 4, .inr (4, [some (some 1), some (some 12), some (some 37), some (some 41), none]), .inr (8, [some (some 42), some (some 44), some (some 46), none]), .inr (7, [some (some 43)]), .inl 40, .inr (7, [some (some 45)]), .inl 40, .inr (7, [some (some 47)]), .inl 40, .inr (1, [some (some 49), none, none]), .inr (7, [some (some 50)]), .inl 24, .inr (6, [some (some 52), none, none, none]), .inr (7, [some (some 53)]), .inl 4, .inr (1, [some (some 55), none, none]), .inr (7, [some (some 56)]), .inl 40, .inr (10, [some (some 58), some (some 59), some (some 60), some (some 61), none, some (some 62), none, some (some 63), some (some 64), some (some 65), some (some 66), some (some 67), some (some 68), none, some (some 69), some (some 70), some (some 71), some (some 72), none, none, none, none, none, none, some (some 73), none, some (some 74), some (some 75), some (some 76), some (some 77), none, some (some 78), some (some 79), some none, none, none, some none, some none, none]), .inl 6, .inl 6, .inl 6, .inl 6, .inl 32, .inl 16, .inl 16, .inl 16, .inl 16, .inl 16, .inl 6, .inl 40, .inl 40, .inl 40, .inl 4, .inl 8, .inl 200, .inl 200, .inl 200, .inl 24, .inl 35, .inl 7, .inl 28] : List xS), x_u (x_u (x_z (x_u (x_u (x_u (x_u (x_u (x_u (x_u (x_z (x_u (x_u (x_u (x_u (x_u (x_u (x_u (x_u (x_u (x_u (x_u (x_u (x_u (x_u (x_u (x_u (x_u (x_u (x_u (x_u (x_u (x_u (x_u (x_u (x_u (x_u (x_u (x_u (x_u (x_u (x_u (x_u (x_u (x_u (x_u (x_z (x_z (x_z (x_z (x_z (x_z (x_z (x_z (x_z (x_z (x_z (x_z (x_z (x_z (x_z (x_z (x_z (x_z (x_z (x_z (x_z (w2) 58) 59) 60) 61) 62) 63) 64) 65) 66) 67) 68) 69) 70) 71) 72) 73) 74) 75) 76) 77) 78) 78 0 114) 78 1 111) 78 2 111) 78 3 109) 78 4 0) 78 5 110) 78 6 101) 78 7 97) 78 8 114) 78 9 0) 78 10 110) 78 11 101) 78 12 116) 78 13 0) 78 14 0) 78 15 115) 78 16 99) 78 17 101) 78 18 110) 78 19 101) 78 20 103) 78 21 117) 78 22 97) 78 23 114) 78 24 100) 78 25 108) 78 26 105) 78 27 102) 78 28 116) 78 29 0) 78 30 107) 78 31 101) 78 32 101) 78 33 112) 78 34 0) 79) 79 0 2) 79 1 3) 79 2 2) 79 3 4) 79 4 3) 79 5 2) 79 6 3) 80) 80 0 5) 80 1 3), 23, 968)
    refine And.intro (show ¬ (_ ∨ _) by decide) ?_
    change x_wp _ _ _ _ _ _ 1727 (426, [some (.ref 57)], [.ref 80, .ref 57], (([.inr (9, [some (some 1), some (some 12), some (some 23), some (some 30), some (some 37), some (some 40), some (some 48), some (some 51), some (some 54)]), .inr (0, [some (some 2), some (some 4), some (some 6), some (some 8), some (some 10), none]), .inr (7, [some (some 3)]), .inl 6, .inr (7, [some (some 5)]), .inl 6, .inr (7, [some (some 7)]), .inl 6, .inr (7, [some (some 9)]), .inl 6, .inr (7, [some (some 11)]), .inl 32, .inr (3, [some (some 1), some (some 13), some (some 15), some (some 17), some (some 19), some (some 21), none]), .inr (7, [some (some 14)]), .inl 16, .inr (7, [some (some 16)]), .inl 16, .inr (7, [some (some 18)]), .inl 16, .inr (7, [some (some 20)]), .inl 16, .inr (7, [some (some 22)]), .inl 16, .inr (2, [some (some 24), some (some 26), some (some 28), none]), .inr (7, [some (some 25)]), .inl 8, .inr (7, [some (some 27)]), .inl 8, .inr (7, [some (some 29)]), .inl 8, .inr (8, [some (some 31), some (some 33), some (some 35), none]), .inr (7, [some (some 32)]), .inl 40, .inr (7, [some (some 34)]), .inl 40, .inr (7, [some (some 36)]), .inl 40, .inr (5, [some (some 1), some (some 12), some (some 38), none, none, none, none, none, none]), .inr (7, [some (some 39)]), .inl 4, .inr (4, [some (some 1), some (some 12), some (some 37), some (some 41), none]), .inr (8, [some (some 42), some (some 44), some (some 46), none]), .inr (7, [some (some 43)]), .inl 40, .inr (7, [some (some 45)]), .inl 40, .inr (7, [some (some 47)]), .inl 40, .inr (1, [some (some 49), none, none]), .inr (7, [some (some 50)]), .inl 24, .inr (6, [some (some 52), none, none, none]), .inr (7, [some (some 53)]), .inl 4, .inr (1, [some (some 55), none, none]), .inr (7, [some (some 56)]), .inl 40, .inr (10, [some (some 58), some (some 59), some (some 60), some (some 61), none, some (some 62), none, some (some 63), some (some 64), some (some 65), some (some 66), some (some 67), some (some 68), none, some (some 69), some (some 70), some (some 71), some (some 72), none, none, none, none, none, none, some (some 73), none, some (some 74), some (some 75), some (some 76), some (some 77), none, some (some 78), some (some 79), some none, none, none, some none, some none, none]), .inl 6, .inl 6, .inl 6, .inl 6, .inl 32, .inl 16, .inl 16, .inl 16, .inl 16, .inl 16, .inl 6, .inl 40, .inl 40, .inl 40, .inl 4, .inl 8, .inl 200, .inl 200, .inl 200, .inl 24, .inl 35, .inl 7, .inl 28] : List xS), x_u (x_u (x_u (x_z (x_u (x_u (x_u (x_u (x_u (x_u (x_u (x_z (x_u (x_u (x_u (x_u (x_u (x_u (x_u (x_u (x_u (x_u (x_u (x_u (x_u (x_u (x_u (x_u (x_u (x_u (x_u (x_u (x_u (x_u (x_u (x_u (x_u (x_u (x_u (x_u (x_u (x_u (x_u (x_u (x_u (x_u (x_u (x_z (x_z (x_z (x_z (x_z (x_z (x_z (x_z (x_z (x_z (x_z (x_z (x_z (x_z (x_z (x_z (x_z (x_z (x_z (x_z (x_z (w2) 58) 59) 60) 61) 62) 63) 64) 65) 66) 67) 68) 69) 70) 71) 72) 73) 74) 75) 76) 77) 78) 78 0 114) 78 1 111) 78 2 111) 78 3 109) 78 4 0) 78 5 110) 78 6 101) 78 7 97) 78 8 114) 78 9 0) 78 10 110) 78 11 101) 78 12 116) 78 13 0) 78 14 0) 78 15 115) 78 16 99) 78 17 101) 78 18 110) 78 19 101) 78 20 103) 78 21 117) 78 22 97) 78 23 114) 78 24 100) 78 25 108) 78 26 105) 78 27 102) 78 28 116) 78 29 0) 78 30 107) 78 31 101) 78 32 101) 78 33 112) 78 34 0) 79) 79 0 2) 79 1 3) 79 2 2) 79 3 4) 79 4 3) 79 5 2) 79 6 3) 80) 80 0 5) 80 1 3) 80 2 0), 23, 968)
    refine And.intro (show ¬ (_ ∨ _) by decide) ?_
    change x_wp _ _ _ _ _ _ 1723 (430, [some (.ref 57)], [.ref 80, .ref 57], (([.inr (9, [some (some 1), some (some 12), some (some 23), some (some 30), some (some 37), some (some 40), some (some 48), some (some 51), some (some 54)]), .inr (0, [some (some 2), some (some 4), some (some 6), some (some 8), some (some 10), none]), .inr (7, [some (some 3)]), .inl 6, .inr (7, [some (some 5)]), .inl 6, .inr (7, [some (some 7)]), .inl 6, .inr (7, [some (some 9)]), .inl 6, .inr (7, [some (some 11)]), .inl 32, .inr (3, [some (some 1), some (some 13), some (some 15), some (some 17), some (some 19), some (some 21), none]), .inr (7, [some (some 14)]), .inl 16, .inr (7, [some (some 16)]), .inl 16, .inr (7, [some (some 18)]), .inl 16, .inr (7, [some (some 20)]), .inl 16, .inr (7, [some (some 22)]), .inl 16, .inr (2, [some (some 24), some (some 26), some (some 28), none]), .inr (7, [some (some 25)]), .inl 8, .inr (7, [some (some 27)]), .inl 8, .inr (7, [some (some 29)]), .inl 8, .inr (8, [some (some 31), some (some 33), some (some 35), none]), .inr (7, [some (some 32)]), .inl 40, .inr (7, [some (some 34)]), .inl 40, .inr (7, [some (some 36)]), .inl 40, .inr (5, [some (some 1), some (some 12), some (some 38), none, none, none, none, none, none]), .inr (7, [some (some 39)]), .inl 4, .inr (4, [some (some 1), some (some 12), some (some 37), some (some 41), none]), .inr (8, [some (some 42), some (some 44), some (some 46), none]), .inr (7, [some (some 43)]), .inl 40, .inr (7, [some (some 45)]), .inl 40, .inr (7, [some (some 47)]), .inl 40, .inr (1, [some (some 49), none, none]), .inr (7, [some (some 50)]), .inl 24, .inr (6, [some (some 52), none, none, none]), .inr (7, [some (some 53)]), .inl 4, .inr (1, [some (some 55), none, none]), .inr (7, [some (some 56)]), .inl 40, .inr (10, [some (some 58), some (some 59), some (some 60), some (some 61), none, some (some 62), none, some (some 63), some (some 64), some (some 65), some (some 66), some (some 67), some (some 68), none, some (some 69), some (some 70), some (some 71), some (some 72), none, none, none, none, none, none, some (some 73), none, some (some 74), some (some 75), some (some 76), some (some 77), none, some (some 78), some (some 79), some none, none, none, some none, some none, none]), .inl 6, .inl 6, .inl 6, .inl 6, .inl 32, .inl 16, .inl 16, .inl 16, .inl 16, .inl 16, .inl 6, .inl 40, .inl 40, .inl 40, .inl 4, .inl 8, .inl 200, .inl 200, .inl 200, .inl 24, .inl 35, .inl 7, .inl 28] : List xS), x_u (x_u (x_u (x_u (x_z (x_u (x_u (x_u (x_u (x_u (x_u (x_u (x_z (x_u (x_u (x_u (x_u (x_u (x_u (x_u (x_u (x_u (x_u (x_u (x_u (x_u (x_u (x_u (x_u (x_u (x_u (x_u (x_u (x_u (x_u (x_u (x_u (x_u (x_u (x_u (x_u (x_u (x_u (x_u (x_u (x_u (x_u (x_u (x_z (x_z (x_z (x_z (x_z (x_z (x_z (x_z (x_z (x_z (x_z (x_z (x_z (x_z (x_z (x_z (x_z (x_z (x_z (x_z (x_z (w2) 58) 59) 60) 61) 62) 63) 64) 65) 66) 67) 68) 69) 70) 71) 72) 73) 74) 75) 76) 77) 78) 78 0 114) 78 1 111) 78 2 111) 78 3 109) 78 4 0) 78 5 110) 78 6 101) 78 7 97) 78 8 114) 78 9 0) 78 10 110) 78 11 101) 78 12 116) 78 13 0) 78 14 0) 78 15 115) 78 16 99) 78 17 101) 78 18 110) 78 19 101) 78 20 103) 78 21 117) 78 22 97) 78 23 114) 78 24 100) 78 25 108) 78 26 105) 78 27 102) 78 28 116) 78 29 0) 78 30 107) 78 31 101) 78 32 101) 78 33 112) 78 34 0) 79) 79 0 2) 79 1 3) 79 2 2) 79 3 4) 79 4 3) 79 5 2) 79 6 3) 80) 80 0 5) 80 1 3) 80 2 0) 80 3 0), 23, 968)
    refine And.intro (show ¬ (_ ∨ _) by decide) ?_
    change x_wp _ _ _ _ _ _ 1719 (434, [some (.ref 57)], [.ref 80, .ref 57], (([.inr (9, [some (some 1), some (some 12), some (some 23), some (some 30), some (some 37), some (some 40), some (some 48), some (some 51), some (some 54)]), .inr (0, [some (some 2), some (some 4), some (some 6), some (some 8), some (some 10), none]), .inr (7, [some (some 3)]), .inl 6, .inr (7, [some (some 5)]), .inl 6, .inr (7, [some (some 7)]), .inl 6, .inr (7, [some (some 9)]), .inl 6, .inr (7, [some (some 11)]), .inl 32, .inr (3, [some (some 1), some (some 13), some (some 15), some (some 17), some (some 19), some (some 21), none]), .inr (7, [some (some 14)]), .inl 16, .inr (7, [some (some 16)]), .inl 16, .inr (7, [some (some 18)]), .inl 16, .inr (7, [some (some 20)]), .inl 16, .inr (7, [some (some 22)]), .inl 16, .inr (2, [some (some 24), some (some 26), some (some 28), none]), .inr (7, [some (some 25)]), .inl 8, .inr (7, [some (some 27)]), .inl 8, .inr (7, [some (some 29)]), .inl 8, .inr (8, [some (some 31), some (some 33), some (some 35), none]), .inr (7, [some (some 32)]), .inl 40, .inr (7, [some (some 34)]), .inl 40, .inr (7, [some (some 36)]), .inl 40, .inr (5, [some (some 1), some (some 12), some (some 38), none, none, none, none, none, none]), .inr (7, [some (some 39)]), .inl 4, .inr (4, [some (some 1), some (some 12), some (some 37), some (some 41), none]), .inr (8, [some (some 42), some (some 44), some (some 46), none]), .inr (7, [some (some 43)]), .inl 40, .inr (7, [some (some 45)]), .inl 40, .inr (7, [some (some 47)]), .inl 40, .inr (1, [some (some 49), none, none]), .inr (7, [some (some 50)]), .inl 24, .inr (6, [some (some 52), none, none, none]), .inr (7, [some (some 53)]), .inl 4, .inr (1, [some (some 55), none, none]), .inr (7, [some (some 56)]), .inl 40, .inr (10, [some (some 58), some (some 59), some (some 60), some (some 61), none, some (some 62), none, some (some 63), some (some 64), some (some 65), some (some 66), some (some 67), some (some 68), none, some (some 69), some (some 70), some (some 71), some (some 72), none, none, none, none, none, none, some (some 73), none, some (some 74), some (some 75), some (some 76), some (some 77), none, some (some 78), some (some 79), some none, none, none, some none, some none, none]), .inl 6, .inl 6, .inl 6, .inl 6, .inl 32, .inl 16, .inl 16, .inl 16, .inl 16, .inl 16, .inl 6, .inl 40, .inl 40, .inl 40, .inl 4, .inl 8, .inl 200, .inl 200, .inl 200, .inl 24, .inl 35, .inl 7, .inl 28] : List xS), x_u (x_u (x_u (x_u (x_u (x_z (x_u (x_u (x_u (x_u (x_u (x_u (x_u (x_z (x_u (x_u (x_u (x_u (x_u (x_u (x_u (x_u (x_u (x_u (x_u (x_u (x_u (x_u (x_u (x_u (x_u (x_u (x_u (x_u (x_u (x_u (x_u (x_u (x_u (x_u (x_u (x_u (x_u (x_u (x_u (x_u (x_u (x_u (x_u (x_z (x_z (x_z (x_z (x_z (x_z (x_z (x_z (x_z (x_z (x_z (x_z (x_z (x_z (x_z (x_z (x_z (x_z (x_z (x_z (x_z (w2) 58) 59) 60) 61) 62) 63) 64) 65) 66) 67) 68) 69) 70) 71) 72) 73) 74) 75) 76) 77) 78) 78 0 114) 78 1 111) 78 2 111) 78 3 109) 78 4 0) 78 5 110) 78 6 101) 78 7 97) 78 8 114) 78 9 0) 78 10 110) 78 11 101) 78 12 116) 78 13 0) 78 14 0) 78 15 115) 78 16 99) 78 17 101) 78 18 110) 78 19 101) 78 20 103) 78 21 117) 78 22 97) 78 23 114) 78 24 100) 78 25 108) 78 26 105) 78 27 102) 78 28 116) 78 29 0) 78 30 107) 78 31 101) 78 32 101) 78 33 112) 78 34 0) 79) 79 0 2) 79 1 3) 79 2 2) 79 3 4) 79 4 3) 79 5 2) 79 6 3) 80) 80 0 5) 80 1 3) 80 2 0) 80 3 0) 80 4 5), 23, 968)
    refine And.intro (show ¬ (_ ∨ _) by decide) ?_
    change x_wp _ _ _ _ _ _ 1715 (438, [some (.ref 57)], [.ref 80, .ref 57], (([.inr (9, [some (some 1), some (some 12), some (some 23), some (some 30), some (some 37), some (some 40), some (some 48), some (some 51), some (some 54)]), .inr (0, [some (some 2), some (some 4), some (some 6), some (some 8), some (some 10), none]), .inr (7, [some (some 3)]), .inl 6, .inr (7, [some (some 5)]), .inl 6, .inr (7, [some (some 7)]), .inl 6, .inr (7, [some (some 9)]), .inl 6, .inr (7, [some (some 11)]), .inl 32, .inr (3, [some (some 1), some (some 13), some (some 15), some (some 17), some (some 19), some (some 21), none]), .inr (7, [some (some 14)]), .inl 16, .inr (7, [some (some 16)]), .inl 16, .inr (7, [some (some 18)]), .inl 16, .inr (7, [some (some 20)]), .inl 16, .inr (7, [some (some 22)]), .inl 16, .inr (2, [some (some 24), some (some 26), some (some 28), none]), .inr (7, [some (some 25)]), .inl 8, .inr (7, [some (some 27)]), .inl 8, .inr (7, [some (some 29)]), .inl 8, .inr (8, [some (some 31), some (some 33), some (some 35), none]), .inr (7, [some (some 32)]), .inl 40, .inr (7, [some (some 34)]), .inl 40, .inr (7, [some (some 36)]), .inl 40, .inr (5, [some (some 1), some (some 12), some (some 38), none, none, none, none, none, none]), .inr (7, [some (some 39)]), .inl 4, .inr (4, [some (some 1), some (some 12), some (some 37), some (some 41), none]), .inr (8, [some (some 42), some (some 44), some (some 46), none]), .inr (7, [some (some 43)]), .inl 40, .inr (7, [some (some 45)]), .inl 40, .inr (7, [some (some 47)]), .inl 40, .inr (1, [some (some 49), none, none]), .inr (7, [some (some 50)]), .inl 24, .inr (6, [some (some 52), none, none, none]), .inr (7, [some (some 53)]), .inl 4, .inr (1, [some (some 55), none, none]), .inr (7, [some (some 56)]), .inl 40, .inr (10, [some (some 58), some (some 59), some (some 60), some (some 61), none, some (some 62), none, some (some 63), some (some 64), some (some 65), some (some 66), some (some 67), some (some 68), none, some (some 69), some (some 70), some (some 71), some (some 72), none, none, none, none, none, none, some (some 73), none, some (some 74), some (some 75), some (some 76), some (some 77), none, some (some 78), some (some 79), some none, none, none, some none, some none, none]), .inl 6, .inl 6, .inl 6, .inl 6, .inl 32, .inl 16, .inl 16, .inl 16, .inl 16, .inl 16, .inl 6, .inl 40, .inl 40, .inl 40, .inl 4, .inl 8, .inl 200, .inl 200, .inl 200, .inl 24, .inl 35, .inl 7, .inl 28] : List xS), x_u (x_u (x_u (x_u (x_u (x_u (x_z (x_u (x_u (x_u (x_u (x_u (x_u (x_u (x_z (x_u (x_u (x_u (x_u (x_u (x_u (x_u (x_u (x_u (x_u (x_u (x_u (x_u (x_u (x_u (x_u (x_u (x_u (x_u (x_u (x_u (x_u (x_u (x_u (x_u (x_u (x_u (x_u (x_u (x_u (x_u (x_u (x_u (x_u (x_u (x_z (x_z (x_z (x_z (x_z (x_z (x_z (x_z (x_z (x_z (x_z (x_z (x_z (x_z (x_z (x_z (x_z (x_z (x_z (x_z (x_z (w2) 58) 59) 60) 61) 62) 63) 64) 65) 66) 67) 68) 69) 70) 71) 72) 73) 74) 75) 76) 77) 78) 78 0 114) 78 1 111) 78 2 111) 78 3 109) 78 4 0) 78 5 110) 78 6 101) 78 7 97) 78 8 114) 78 9 0) 78 10 110) 78 11 101) 78 12 116) 78 13 0) 78 14 0) 78 15 115) 78 16 99) 78 17 101) 78 18 110) 78 19 101) 78 20 103) 78 21 117) 78 22 97) 78 23 114) 78 24 100) 78 25 108) 78 26 105) 78 27 102) 78 28 116) 78 29 0) 78 30 107) 78 31 101) 78 32 101) 78 33 112) 78 34 0) 79) 79 0 2) 79 1 3) 79 2 2) 79 3 4) 79 4 3) 79 5 2) 79 6 3) 80) 80 0 5) 80 1 3) 80 2 0) 80 3 0) 80 4 5) 80 5 5), 23, 968)
    refine And.intro (show ¬ (_ ∨ _) by decide) ?_
    change x_wp _ _ _ _ _ _ 1711 (443, [some (.ref 57)], [.ref 80, .ref 57], (([.inr (9, [some (some 1), some (some 12), some (some 23), some (some 30), some (some 37), some (some 40), some (some 48), some (some 51), some (some 54)]), .inr (0, [some (some 2), some (some 4), some (some 6), some (some 8), some (some 10), none]), .inr (7, [some (some 3)]), .inl 6, .inr (7, [some (some 5)]), .inl 6, .inr (7, [some (some 7)]), .inl 6, .inr (7, [some (some 9)]), .inl 6, .inr (7, [some (some 11)]), .inl 32, .inr (3, [some (some 1), some (some 13), some (some 15), some (some 17), some (some 19), some (some 21), none]), .inr (7, [some (some 14)]), .inl 16, .inr (7, [some (some 16)]), .inl 16, .inr (7, [some (some 18)]), .inl 16, .inr (7, [some (some 20)]), .inl 16, .inr (7, [some (some 22)]), .inl 16, .inr (2, [some (some 24), some (some 26), some (some 28), none]), .inr (7, [some (some 25)]), .inl 8, .inr (7, [some (some 27)]), .inl 8, .inr (7, [some (some 29)]), .inl 8, .inr (8, [some (some 31), some (some 33), some (some 35), none]), .inr (7, [some (some 32)]), .inl 40, .inr (7, [some (some 34)]), .inl 40, .inr (7, [some (some 36)]), .inl 40, .inr (5, [some (some 1), some (some 12), some (some 38), none, none, none, none, none, none]), .inr (7, [some (some 39)]), .inl 4, .inr (4, [some (some 1), some (some 12), some (some 37), some (some 41), none]), .inr (8, [some (some 42), some (some 44), some (some 46), none]), .inr (7, [some (some 43)]), .inl 40, .inr (7, [some (some 45)]), .inl 40, .inr (7, [some (some 47)]), .inl 40, .inr (1, [some (some 49), none, none]), .inr (7, [some (some 50)]), .inl 24, .inr (6, [some (some 52), none, none, none]), .inr (7, [some (some 53)]), .inl 4, .inr (1, [some (some 55), none, none]), .inr (7, [some (some 56)]), .inl 40, .inr (10, [some (some 58), some (some 59), some (some 60), some (some 61), none, some (some 62), none, some (some 63), some (some 64), some (some 65), some (some 66), some (some 67), some (some 68), none, some (some 69), some (some 70), some (some 71), some (some 72), none, none, none, none, none, none, some (some 73), none, some (some 74), some (some 75), some (some 76), some (some 77), none, some (some 78), some (some 79), some none, none, none, some none, some none, none]), .inl 6, .inl 6, .inl 6, .inl 6, .inl 32, .inl 16, .inl 16, .inl 16, .inl 16, .inl 16, .inl 6, .inl 40, .inl 40, .inl 40, .inl 4, .inl 8, .inl 200, .inl 200, .inl 200, .inl 24, .inl 35, .inl 7, .inl 28] : List xS), x_u (x_u (x_u (x_u (x_u (x_u (x_u (x_z (x_u (x_u (x_u (x_u (x_u (x_u (x_u (x_z (x_u (x_u (x_u (x_u (x_u (x_u (x_u (x_u (x_u (x_u (x_u (x_u (x_u (x_u (x_u (x_u (x_u (x_u (x_u (x_u (x_u (x_u (x_u (x_u (x_u (x_u (x_u (x_u (x_u (x_u (x_u (x_u (x_u (x_u (x_u (x_z (x_z (x_z (x_z (x_z (x_z (x_z (x_z (x_z (x_z (x_z (x_z (x_z (x_z (x_z (x_z (x_z (x_z (x_z (x_z (x_z (w2) 58) 59) 60) 61) 62) 63) 64) 65) 66) 67) 68) 69) 70) 71) 72) 73) 74) 75) 76) 77) 78) 78 0 114) 78 1 111) 78 2 111) 78 3 109) 78 4 0) 78 5 110) 78 6 101) 78 7 97) 78 8 114) 78 9 0) 78 10 110) 78 11 101) 78 12 116) 78 13 0) 78 14 0) 78 15 115) 78 16 99) 78 17 101) 78 18 110) 78 19 101) 78 20 103) 78 21 117) 78 22 97) 78 23 114) 78 24 100) 78 25 108) 78 26 105) 78 27 102) 78 28 116) 78 29 0) 78 30 107) 78 31 101) 78 32 101) 78 33 112) 78 34 0) 79) 79 0 2) 79 1 3) 79 2 2) 79 3 4) 79 4 3) 79 5 2) 79 6 3) 80) 80 0 5) 80 1 3) 80 2 0) 80 3 0) 80 4 5) 80 5 5) 80 6 1), 23, 968)
    refine And.intro (show ¬ (_ ∨ _) by decide) ?_
    change x_wp _ _ _ _ _ _ 1707 (448, [some (.ref 57)], [.ref 80, .ref 57], (([.inr (9, [some (some 1), some (some 12), some (some 23), some (some 30), some (some 37), some (some 40), some (some 48), some (some 51), some (some 54)]), .inr (0, [some (some 2), some (some 4), some (some 6), some (some 8), some (some 10), none]), .inr (7, [some (some 3)]), .inl 6, .inr (7, [some (some 5)]), .inl 6, .inr (7, [some (some 7)]), .inl 6, .inr (7, [some (some 9)]), .inl 6, .inr (7, [some (some 11)]), .inl 32, .inr (3, [some (some 1), some (some 13), some (some 15), some (some 17), some (some 19), some (some 21), none]), .inr (7, [some (some 14)]), .inl 16, .inr (7, [some (some 16)]), .inl 16, .inr (7, [some (some 18)]), .inl 16, .inr (7, [some (some 20)]), .inl 16, .inr (7, [some (some 22)]), .inl 16, .inr (2, [some (some 24), some (some 26), some (some 28), none]), .inr (7, [some (some 25)]), .inl 8, .inr (7, [some (some 27)]), .inl 8, .inr (7, [some (some 29)]), .inl 8, .inr (8, [some (some 31), some (some 33), some (some 35), none]), .inr (7, [some (some 32)]), .inl 40, .inr (7, [some (some 34)]), .inl 40, .inr (7, [some (some 36)]), .inl 40, .inr (5, [some (some 1), some (some 12), some (some 38), none, none, none, none, none, none]), .inr (7, [some (some 39)]), .inl 4, .inr (4, [some (some 1), some (some 12), some (some 37), some (some 41), none]), .inr (8, [some (some 42), some (some 44), some (some 46), none]), .inr (7, [some (some 43)]), .inl 40, .inr (7, [some (some 45)]), .inl 40, .inr (7, [some (some 47)]), .inl 40, .inr (1, [some (some 49), none, none]), .inr (7, [some (some 50)]), .inl 24, .inr (6, [some (some 52), none, none, none]), .inr (7, [some (some 53)]), .inl 4, .inr (1, [some (some 55), none, none]), .inr (7, [some (some 56)]), .inl 40, .inr (10, [some (some 58), some (some 59), some (some 60), some (some 61), none, some (some 62), none, some (some 63), some (some 64), some (some 65), some (some 66), some (some 67), some (some 68), none, some (some 69), some (some 70), some (some 71), some (some 72), none, none, none, none, none, none, some (some 73), none, some (some 74), some (some 75), some (some 76), some (some 77), none, some (some 78), some (some 79), some none, none, none, some none, some none, none]), .inl 6, .inl 6, .inl 6, .inl 6, .inl 32, .inl 16, .inl 16, .inl 16, .inl 16, .inl 16, .inl 6, .inl 40, .inl 40, .inl 40, .inl 4, .inl 8, .inl 200, .inl 200, .inl 200, .inl 24, .inl 35, .inl 7, .inl 28] : List xS), x_u (x_u (x_u (x_u (x_u (x_u (x_u (x_u (x_z (x_u (x_u (x_u (x_u (x_u (x_u (x_u (x_z (x_u (x_u (x_u (x_u (x_u (x_u (x_u (x_u (x_u (x_u (x_u (x_u (x_u (x_u (x_u (x_u (x_u (x_u (x_u (x_u (x_u (x_u (x_u (x_u (x_u (x_u (x_u (x_u (x_u (x_u (x_u (x_u (x_u (x_u (x_u (x_z (x_z (x_z (x_z (x_z (x_z (x_z (x_z (x_z (x_z (x_z (x_z (x_z (x_z (x_z (x_z (x_z (x_z (x_z (x_z (x_z (w2) 58) 59) 60) 61) 62) 63) 64) 65) 66) 67) 68) 69) 70) 71) 72) 73) 74) 75) 76) 77) 78) 78 0 114) 78 1 111) 78 2 111) 78 3 109) 78 4 0) 78 5 110) 78 6 101) 78 7 97) 78 8 114) 78 9 0) 78 10 110) 78 11 101) 78 12 116) 78 13 0) 78 14 0) 78 15 115) 78 16 99) 78 17 101) 78 18 110) 78 19 101) 78 20 103) 78 21 117) 78 22 97) 78 23 114) 78 24 100) 78 25 108) 78 26 105) 78 27 102) 78 28 116) 78 29 0) 78 30 107) 78 31 101) 78 32 101) 78 33 112) 78 34 0) 79) 79 0 2) 79 1 3) 79 2 2) 79 3 4) 79 4 3) 79 5 2) 79 6 3) 80) 80 0 5) 80 1 3) 80 2 0) 80 3 0) 80 4 5) 80 5 5) 80 6 1) 80 7 0), 23, 968)
    refine And.intro (show ¬ (_ ∨ _) by decide) ?_
    change x_wp _ _ _ _ _ _ 1703 (453, [some (.ref 57)], [.ref 80, .ref 57], (([.inr (9, [some (some 1), some (some 12), some (some 23), some (some 30), some (some 37), some (some 40), some (some 48), some (some 51), some (some 54)]), .inr (0, [some (some 2), some (some 4), some (some 6), some (some 8), some (some 10), none]), .inr (7, [some (some 3)]), .inl 6, .inr (7, [some (some 5)]), .inl 6, .inr (7, [some (some 7)]), .inl 6, .inr (7, [some (some 9)]), .inl 6, .inr (7, [some (some 11)]), .inl 32, .inr (3, [some (some 1), some (some 13), some (some 15), some (some 17), some (some 19), some (some 21), none]), .inr (7, [some (some 14)]), .inl 16, .inr (7, [some (some 16)]), .inl 16, .inr (7, [some (some 18)]), .inl 16, .inr (7, [some (some 20)]), .inl 16, .inr (7, [some (some 22)]), .inl 16, .inr (2, [some (some 24), some (some 26), some (some 28), none]), .inr (7, [some (some 25)]), .inl 8, .inr (7, [some (some 27)]), .inl 8, .inr (7, [some (some 29)]), .inl 8, .inr (8, [some (some 31), some (some 33), some (some 35), none]), .inr (7, [some (some 32)]), .inl 40, .inr (7, [some (some 34)]), .inl 40, .inr (7, [some (some 36)]), .inl 40, .inr (5, [some (some 1), some (some 12), some (some 38), none, none, none, none, none, none]), .inr (7, [some (some 39)]), .inl 4, .inr (4, [some (some 1), some (some 12), some (some 37), some (some 41), none]), .inr (8, [some (some 42), some (some 44), some (some 46), none]), .inr (7, [some (some 43)]), .inl 40, .inr (7, [some (some 45)]), .inl 40, .inr (7, [some (some 47)]), .inl 40, .inr (1, [some (some 49), none, none]), .inr (7, [some (some 50)]), .inl 24, .inr (6, [some (some 52), none, none, none]), .inr (7, [some (some 53)]), .inl 4, .inr (1, [some (some 55), none, none]), .inr (7, [some (some 56)]), .inl 40, .inr (10, [some (some 58), some (some 59), some (some 60), some (some 61), none, some (some 62), none, some (some 63), some (some 64), some (some 65), some (some 66), some (some 67), some (some 68), none, some (some 69), some (some 70), some (some 71), some (some 72), none, none, none, none, none, none, some (some 73), none, some (some 74), some (some 75), some (some 76), some (some 77), none, some (some 78), some (some 79), some none, none, none, some none, some none, none]), .inl 6, .inl 6, .inl 6, .inl 6, .inl 32, .inl 16, .inl 16, .inl 16, .inl 16, .inl 16, .inl 6, .inl 40, .inl 40, .inl 40, .inl 4, .inl 8, .inl 200, .inl 200, .inl 200, .inl 24, .inl 35, .inl 7, .inl 28] : List xS), x_u (x_u (x_u (x_u (x_u (x_u (x_u (x_u (x_u (x_z (x_u (x_u (x_u (x_u (x_u (x_u (x_u (x_z (x_u (x_u (x_u (x_u (x_u (x_u (x_u (x_u (x_u (x_u (x_u (x_u (x_u (x_u (x_u (x_u (x_u (x_u (x_u (x_u (x_u (x_u (x_u (x_u (x_u (x_u (x_u (x_u (x_u (x_u (x_u (x_u (x_u (x_u (x_u (x_z (x_z (x_z (x_z (x_z (x_z (x_z (x_z (x_z (x_z (x_z (x_z (x_z (x_z (x_z (x_z (x_z (x_z (x_z (x_z (x_z (w2) 58) 59) 60) 61) 62) 63) 64) 65) 66) 67) 68) 69) 70) 71) 72) 73) 74) 75) 76) 77) 78) 78 0 114) 78 1 111) 78 2 111) 78 3 109) 78 4 0) 78 5 110) 78 6 101) 78 7 97) 78 8 114) 78 9 0) 78 10 110) 78 11 101) 78 12 116) 78 13 0) 78 14 0) 78 15 115) 78 16 99) 78 17 101) 78 18 110) 78 19 101) 78 20 103) 78 21 117) 78 22 97) 78 23 114) 78 24 100) 78 25 108) 78 26 105) 78 27 102) 78 28 116) 78 29 0) 78 30 107) 78 31 101) 78 32 101) 78 33 112) 78 34 0) 79) 79 0 2) 79 1 3) 79 2 2) 79 3 4) 79 4 3) 79 5 2) 79 6 3) 80) 80 0 5) 80 1 3) 80 2 0) 80 3 0) 80 4 5) 80 5 5) 80 6 1) 80 7 0) 80 8 5), 23, 968)
    refine And.intro (show ¬ (_ ∨ _) by decide) ?_
    change x_wp _ _ _ _ _ _ 1699 (458, [some (.ref 57)], [.ref 80, .ref 57], (([.inr (9, [some (some 1), some (some 12), some (some 23), some (some 30), some (some 37), some (some 40), some (some 48), some (some 51), some (some 54)]), .inr (0, [some (some 2), some (some 4), some (some 6), some (some 8), some (some 10), none]), .inr (7, [some (some 3)]), .inl 6, .inr (7, [some (some 5)]), .inl 6, .inr (7, [some (some 7)]), .inl 6, .inr (7, [some (some 9)]), .inl 6, .inr (7, [some (some 11)]), .inl 32, .inr (3, [some (some 1), some (some 13), some (some 15), some (some 17), some (some 19), some (some 21), none]), .inr (7, [some (some 14)]), .inl 16, .inr (7, [some (some 16)]), .inl 16, .inr (7, [some (some 18)]), .inl 16, .inr (7, [some (some 20)]), .inl 16, .inr (7, [some (some 22)]), .inl 16, .inr (2, [some (some 24), some (some 26), some (some 28), none]), .inr (7, [some (some 25)]), .inl 8, .inr (7, [some (some 27)]), .inl 8, .inr (7, [some (some 29)]), .inl 8, .inr (8, [some (some 31), some (some 33), some (some 35), none]), .inr (7, [some (some 32)]), .inl 40, .inr (7, [some (some 34)]), .inl 40, .inr (7, [some (some 36)]), .inl 40, .inr (5, [some (some 1), some (some 12), some (some 38), none, none, none, none, none, none]), .inr (7, [some (some 39)]), .inl 4, .inr (4, [some (some 1), some (some 12), some (some 37), some (some 41), none]), .inr (8, [some (some 42), some (some 44), some (some 46), none]), .inr (7, [some (some 43)]), .inl 40, .inr (7, [some (some 45)]), .inl 40, .inr (7, [some (some 47)]), .inl 40, .inr (1, [some (some 49), none, none]), .inr (7, [some (some 50)]), .inl 24, .inr (6, [some (some 52), none, none, none]), .inr (7, [some (some 53)]), .inl 4, .inr (1, [some (some 55), none, none]), .inr (7, [some (some 56)]), .inl 40, .inr (10, [some (some 58), some (some 59), some (some 60), some (some 61), none, some (some 62), none, some (some 63), some (some 64), some (some 65), some (some 66), some (some 67), some (some 68), none, some (some 69), some (some 70), some (some 71), some (some 72), none, none, none, none, none, none, some (some 73), none, some (some 74), some (some 75), some (some 76), some (some 77), none, some (some 78), some (some 79), some none, none, none, some none, some none, none]), .inl 6, .inl 6, .inl 6, .inl 6, .inl 32, .inl 16, .inl 16, .inl 16, .inl 16, .inl 16, .inl 6, .inl 40, .inl 40, .inl 40, .inl 4, .inl 8, .inl 200, .inl 200, .inl 200, .inl 24, .inl 35, .inl 7, .inl 28] : List xS), x_u (x_u (x_u (x_u (x_u (x_u (x_u (x_u (x_u (x_u (x_z (x_u (x_u (x_u (x_u (x_u (x_u (x_u (x_z (x_u (x_u (x_u (x_u (x_u (x_u (x_u (x_u (x_u (x_u (x_u (x_u (x_u (x_u (x_u (x_u (x_u (x_u (x_u (x_u (x_u (x_u (x_u (x_u (x_u (x_u (x_u (x_u (x_u (x_u (x_u (x_u (x_u (x_u (x_u (x_z (x_z (x_z (x_z (x_z (x_z (x_z (x_z (x_z (x_z (x_z (x_z (x_z (x_z (x_z (x_z (x_z (x_z (x_z (x_z (x_z (w2) 58) 59) 60) 61) 62) 63) 64) 65) 66) 67) 68) 69) 70) 71) 72) 73) 74) 75) 76) 77) 78) 78 0 114) 78 1 111) 78 2 111) 78 3 109) 78 4 0) 78 5 110) 78 6 101) 78 7 97) 78 8 114) 78 9 0) 78 10 110) 78 11 101) 78 12 116) 78 13 0) 78 14 0) 78 15 115) 78 16 99) 78 17 101) 78 18 110) 78 19 101) 78 20 103) 78 21 117) 78 22 97) 78 23 114) 78 24 100) 78 25 108) 78 26 105) 78 27 102) 78 28 116) 78 29 0) 78 30 107) 78 31 101) 78 32 101) 78 33 112) 78 34 0) 79) 79 0 2) 79 1 3) 79 2 2) 79 3 4) 79 4 3) 79 5 2) 79 6 3) 80) 80 0 5) 80 1 3) 80 2 0) 80 3 0) 80 4 5) 80 5 5) 80 6 1) 80 7 0) 80 8 5) 80 9 5), 23, 968)
    refine And.intro (show ¬ (_ ∨ _) by decide) ?_
    change x_wp _ _ _ _ _ _ 1695 (463, [some (.ref 57)], [.ref 80, .ref 57], (([.inr (9, [some (some 1), some (some 12), some (some 23), some (some 30), some (some 37), some (some 40), some (some 48), some (some 51), some (some 54)]), .inr (0, [some (some 2), some (some 4), some (some 6), some (some 8), some (some 10), none]), .inr (7, [some (some 3)]), .inl 6, .inr (7, [some (some 5)]), .inl 6, .inr (7, [some (some 7)]), .inl 6, .inr (7, [some (some 9)]), .inl 6, .inr (7, [some (some 11)]), .inl 32, .inr (3, [some (some 1), some (some 13), some (some 15), some (some 17), some (some 19), some (some 21), none]), .inr (7, [some (some 14)]), .inl 16, .inr (7, [some (some 16)]), .inl 16, .inr (7, [some (some 18)]), .inl 16, .inr (7, [some (some 20)]), .inl 16, .inr (7, [some (some 22)]), .inl 16, .inr (2, [some (some 24), some (some 26), some (some 28), none]), .inr (7, [some (some 25)]), .inl 8, .inr (7, [some (some 27)]), .inl 8, .inr (7, [some (some 29)]), .inl 8, .inr (8, [some (some 31), some (some 33), some (some 35), none]), .inr (7, [some (some 32)]), .inl 40, .inr (7, [some (some 34)]), .inl 40, .inr (7, [some (some 36)]), .inl 40, .inr (5, [some (some 1), some (some 12), some (some 38), none, none, none, none, none, none]), .inr (7, [some (some 39)]), .inl 4, .inr (4, [some (some 1), some (some 12), some (some 37), some (some 41), none]), .inr (8, [some (some 42), some (some 44), some (some 46), none]), .inr (7, [some (some 43)]), .inl 40, .inr (7, [some (some 45)]), .inl 40, .inr (7, [some (some 47)]), .inl 40, .inr (1, [some (some 49), none, none]), .inr (7, [some (some 50)]), .inl 24, .inr (6, [some (some 52), none, none, none]), .inr (7, [some (some 53)]), .inl 4, .inr (1, [some (some 55), none, none]), .inr (7, [some (some 56)]), .inl 40, .inr (10, [some (some 58), some (some 59), some (some 60), some (some 61), none, some (some 62), none, some (some 63), some (some 64), some (some 65), some (some 66), some (some 67), some (some 68), none, some (some 69), some (some 70), some (some 71), some (some 72), none, none, none, none, none, none, some (some 73), none, some (some 74), some (some 75), some (some 76), some (some 77), none, some (some 78), some (some 79), some none, none, none, some none, some none, none]), .inl 6, .inl 6, .inl 6, .inl 6, .inl 32, .inl 16, .inl 16, .inl 16, .inl 16, .inl 16, .inl 6, .inl 40, .inl 40, .inl 40, .inl 4, .inl 8, .inl 200, .inl 200, .inl 200, .inl 24, .inl 35, .inl 7, .inl 28] : List xS), x_u (x_u (x_u (x_u (x_u (x_u (x_u (x_u (x_u (x_u (x_u (x_z (x_u (x_u (x_u (x_u (x_u (x_u (x_u (x_z (x_u (x_u (x_u (x_u (x_u (x_u (x_u (x_u (x_u (x_u (x_u (x_u (x_u (x_u (x_u (x_u (x_u (x_u (x_u (x_u (x_u (x_u (x_u (x_u (x_u (x_u (x_u (x_u (x_u (x_u (x_u (x_u (x_u (x_u (x_u (x_z (x_z (x_z (x_z (x_z (x_z (x_z (x_z (x_z (x_z (x_z (x_z (x_z (x_z (x_z (x_z (x_z (x_z (x_z (x_z (x_z (w2) 58) 59) 60) 61) 62) 63) 64) 65) 66) 67) 68) 69) 70) 71) 72) 73) 74) 75) 76) 77) 78) 78 0 114) 78 1 111) 78 2 111) 78 3 109) 78 4 0) 78 5 110) 78 6 101) 78 7 97) 78 8 114) 78 9 0) 78 10 110) 78 11 101) 78 12 116) 78 13 0) 78 14 0) 78 15 115) 78 16 99) 78 17 101) 78 18 110) 78 19 101) 78 20 103) 78 21 117) 78 22 97) 78 23 114) 78 24 100) 78 25 108) 78 26 105) 78 27 102) 78 28 116) 78 29 0) 78 30 107) 78 31 101) 78 32 101) 78 33 112) 78 34 0) 79) 79 0 2) 79 1 3) 79 2 2) 79 3 4) 79 4 3) 79 5 2) 79 6 3) 80) 80 0 5) 80 1 3) 80 2 0) 80 3 0) 80 4 5) 80 5 5) 80 6 1) 80 7 0) 80 8 5) 80 9 5) 80 10 0), 23, 968)
    refine And.intro (show ¬ (_ ∨ _) by decide) ?_
    change x_wp _ _ _ _ _ _ 1691 (468, [some (.ref 57)], [.ref 80, .ref 57], (([.inr (9, [some (some 1), some (some 12), some (some 23), some (some 30), some (some 37), some (some 40), some (some 48), some (some 51), some (some 54)]), .inr (0, [some (some 2), some (some 4), some (some 6), some (some 8), some (some 10), none]), .inr (7, [some (some 3)]), .inl 6, .inr (7, [some (some 5)]), .inl 6, .inr (7, [some (some 7)]), .inl 6, .inr (7, [some (some 9)]), .inl 6, .inr (7, [some (some 11)]), .inl 32, .inr (3, [some (some 1), some (some 13), some (some 15), some (some 17), some (some 19), some (some 21), none]), .inr (7, [some (some 14)]), .inl 16, .inr (7, [some (some 16)]), .inl 16, .inr (7, [some (some 18)]), .inl 16, .inr (7, [some (some 20)]), .inl 16, .inr (7, [some (some 22)]), .inl 16, .inr (2, [some (some 24), some (some 26), some (some 28), none]), .inr (7, [some (some 25)]), .inl 8, .inr (7, [some (some 27)]), .inl 8, .inr (7, [some (some 29)]), .inl 8, .inr (8, [some (some 31), some (some 33), some (some 35), none]), .inr (7, [some (some 32)]), .inl 40, .inr (7, [some (some 34)]), .inl 40, .inr (7, [some (some 36)]), .inl 40, .inr (5, [some (some 1), some (some 12), some (some 38), none, none, none, none, none, none]), .inr (7, [some (some 39)]), .inl 4, .inr (4, [some (some 1), some (some 12), some (some 37), some (some 41), none]), .inr (8, [some (some 42), some (some 44), some (some 46), none]), .inr (7, [some (some 43)]), .inl 40, .inr (7, [some (some 45)]), .inl 40, .inr (7, [some (some 47)]), .inl 40, .inr (1, [some (some 49), none, none]), .inr (7, [some (some 50)]), .inl 24, .inr (6, [some (some 52), none, none, none]), .inr (7, [some (some 53)]), .inl 4, .inr (1, [some (some 55), none, none]), .inr (7, [some (some 56)]), .inl 40, .inr (10, [some (some 58), some (some 59), some (some 60), some (some 61), none, some (some 62), none, some (some 63), some (some 64), some (some 65), some (some 66), some (some 67), some (some 68), none, some (some 69), some (some 70), some (some 71), some (some 72), none, none, none, none, none, none, some (some 73), none, some (some 74), some (some 75), some (some 76), some (some 77), none, some (some 78), some (some 79), some none, none, none, some none, some none, none]), .inl 6, .inl 6, .inl 6, .inl 6, .inl 32, .inl 16, .inl 16, .inl 16, .inl 16, .inl 16, .inl 6, .inl 40, .inl 40, .inl 40, .inl 4, .inl 8, .inl 200, .inl 200, .inl 200, .inl 24, .inl 35, .inl 7, .inl 28] : List xS), x_u (x_u (x_u (x_u (x_u (x_u (x_u (x_u (x_u (x_u (x_u (x_u (x_z (x_u (x_u (x_u (x_u (x_u (x_u (x_u (x_z (x_u (x_u (x_u (x_u (x_u (x_u (x_u (x_u (x_u (x_u (x_u (x_u (x_u (x_u (x_u (x_u (x_u (x_u (x_u (x_u (x_u (x_u (x_u (x_u (x_u (x_u (x_u (x_u (x_u (x_u (x_u (x_u (x_u (x_u (x_u (x_z (x_z (x_z (x_z (x_z (x_z (x_z (x_z (x_z (x_z (x_z (x_z (x_z (x_z (x_z (x_z (x_z (x_z (x_z (x_z (x_z (w2) 58) 59) 60) 61) 62) 63) 64) 65) 66) 67) 68) 69) 70) 71) 72) 73) 74) 75) 76) 77) 78) 78 0 114) 78 1 111) 78 2 111) 78 3 109) 78 4 0) 78 5 110) 78 6 101) 78 7 97) 78 8 114) 78 9 0) 78 10 110) 78 11 101) 78 12 116) 78 13 0) 78 14 0) 78 15 115) 78 16 99) 78 17 101) 78 18 110) 78 19 101) 78 20 103) 78 21 117) 78 22 97) 78 23 114) 78 24 100) 78 25 108) 78 26 105) 78 27 102) 78 28 116) 78 29 0) 78 30 107) 78 31 101) 78 32 101) 78 33 112) 78 34 0) 79) 79 0 2) 79 1 3) 79 2 2) 79 3 4) 79 4 3) 79 5 2) 79 6 3) 80) 80 0 5) 80 1 3) 80 2 0) 80 3 0) 80 4 5) 80 5 5) 80 6 1) 80 7 0) 80 8 5) 80 9 5) 80 10 0) 80 11 0), 23, 968)
    refine And.intro (show ¬ (_ ∨ _) by decide) ?_
    change x_wp _ _ _ _ _ _ 1687 (473, [some (.ref 57)], [.ref 80, .ref 57], (([.inr (9, [some (some 1), some (some 12), some (some 23), some (some 30), some (some 37), some (some 40), some (some 48), some (some 51), some (some 54)]), .inr (0, [some (some 2), some (some 4), some (some 6), some (some 8), some (some 10), none]), .inr (7, [some (some 3)]), .inl 6, .inr (7, [some (some 5)]), .inl 6, .inr (7, [some (some 7)]), .inl 6, .inr (7, [some (some 9)]), .inl 6, .inr (7, [some (some 11)]), .inl 32, .inr (3, [some (some 1), some (some 13), some (some 15), some (some 17), some (some 19), some (some 21), none]), .inr (7, [some (some 14)]), .inl 16, .inr (7, [some (some 16)]), .inl 16, .inr (7, [some (some 18)]), .inl 16, .inr (7, [some (some 20)]), .inl 16, .inr (7, [some (some 22)]), .inl 16, .inr (2, [some (some 24), some (some 26), some (some 28), none]), .inr (7, [some (some 25)]), .inl 8, .inr (7, [some (some 27)]), .inl 8, .inr (7, [some (some 29)]), .inl 8, .inr (8, [some (some 31), some (some 33), some (some 35), none]), .inr (7, [some (some 32)]), .inl 40, .inr (7, [some (some 34)]), .inl 40, .inr (7, [some (some 36)]), .inl 40, .inr (5, [some (some 1), some (some 12), some (some 38), none, none, none, none, none, none]), .inr (7, [some (some 39)]), .inl 4, .inr (4, [some (some 1), some (some 12), some (some 37), some (some 41), none]), .inr (8, [some (some 42), some (some 44), some (some 46), none]), .inr (7, [some (some 43)]), .inl 40, .inr (7, [some (some 45)]), .inl 40, .inr (7, [some (some 47)]), .inl 40, .inr (1, [some (some 49), none, none]), .inr (7, [some (some 50)]), .inl 24, .inr (6, [some (some 52), none, none, none]), .inr (7, [some (some 53)]), .inl 4, .inr (1, [some (some 55), none, none]), .inr (7, [some (some 56)]), .inl 40, .inr (10, [some (some 58), some (some 59), some (some 60), some (some 61), none, some (some 62), none, some (some 63), some (some 64), some (some 65), some (some 66), some (some 67), some (some 68), none, some (some 69), some (some 70), some (some 71), some (some 72), none, none, none, none, none, none, some (some 73), none, some (some 74), some (some 75), some (some 76), some (some 77), none, some (some 78), some (some 79), some none, none, none, some none, some none, none]), .inl 6, .inl 6, .inl 6, .inl 6, .inl 32, .inl 16, .inl 16, .inl 16, .inl 16, .inl 16, .inl 6, .inl 40, .inl 40, .inl 40, .inl 4, .inl 8, .inl 200, .inl 200, .inl 200, .inl 24, .inl 35, .inl 7, .inl 28] : List xS), x_u (x_u (x_u (x_u (x_u (x_u (x_u (x_u (x_u (x_u (x_u (x_u (x_u (x_z (x_u (x_u (x_u (x_u (x_u (x_u (x_u (x_z (x_u (x_u (x_u (x_u (x_u (x_u (x_u (x_u (x_u (x_u (x_u (x_u (x_u (x_u (x_u (x_u (x_u (x_u (x_u (x_u (x_u (x_u (x_u (x_u (x_u (x_u (x_u (x_u (x_u (x_u (x_u (x_u (x_u (x_u (x_u (x_z (x_z (x_z (x_z (x_z (x_z (x_z (x_z (x_z (x_z (x_z (x_z (x_z (x_z (x_z (x_z (x_z (x_z (x_z (x_z (x_z (w2) 58) 59) 60) 61) 62) 63) 64) 65) 66) 67) 68) 69) 70) 71) 72) 73) 74) 75) 76) 77) 78) 78 0 114) 78 1 111) 78 2 111) 78 3 109) 78 4 0) 78 5 110) 78 6 101) 78 7 97) 78 8 114) 78 9 0) 78 10 110) 78 11 101) 78 12 116) 78 13 0) 78 14 0) 78 15 115) 78 16 99) 78 17 101) 78 18 110) 78 19 101) 78 20 103) 78 21 117) 78 22 97) 78 23 114) 78 24 100) 78 25 108) 78 26 105) 78 27 102) 78 28 116) 78 29 0) 78 30 107) 78 31 101) 78 32 101) 78 33 112) 78 34 0) 79) 79 0 2) 79 1 3) 79 2 2) 79 3 4) 79 4 3) 79 5 2) 79 6 3) 80) 80 0 5) 80 1 3) 80 2 0) 80 3 0) 80 4 5) 80 5 5) 80 6 1) 80 7 0) 80 8 5) 80 9 5) 80 10 0) 80 11 0) 80 12 3), 23, 968)
    refine And.intro (show ¬ (_ ∨ _) by decide) ?_
    change x_wp _ _ _ _ _ _ 1683 (478, [some (.ref 57)], [.ref 80, .ref 57], (([.inr (9, [some (some 1), some (some 12), some (some 23), some (some 30), some (some 37), some (some 40), some (some 48), some (some 51), some (some 54)]), .inr (0, [some (some 2), some (some 4), some (some 6), some (some 8), some (some 10), none]), .inr (7, [some (some 3)]), .inl 6, .inr (7, [some (some 5)]), .inl 6, .inr (7, [some (some 7)]), .inl 6, .inr (7, [some (some 9)]), .inl 6, .inr (7, [some (some 11)]), .inl 32, .inr (3, [some (some 1), some (some 13), some (some 15), some (some 17), some (some 19), some (some 21), none]), .inr (7, [some (some 14)]), .inl 16, .inr (7, [some (some 16)]), .inl 16, .inr (7, [some (some 18)]), .inl 16, .inr (7, [some (some 20)]), .inl 16, .inr (7, [some (some 22)]), .inl 16, .inr (2, [some (some 24), some (some 26), some (some 28), none]), .inr (7, [some (some 25)]), .inl 8, .inr (7, [some (some 27)]), .inl 8, .inr (7, [some (some 29)]), .inl 8, .inr (8, [some (some 31), some (some 33), some (some 35), none]), .inr (7, [some (some 32)]), .inl 40, .inr (7, [some (some 34)]), .inl 40, .inr (7, [some (some 36)]), .inl 40, .inr (5, [some (some 1), some (some 12), some (some 38), none, none, none, none, none, none]), .inr (7, [some (some 39)]), .inl 4, .inr (4, [some (some 1), some (some 12), some (some 37), some (some 41), none]), .inr (8, [some (some 42), some (some 44), some (some 46), none]), .inr (7, [some (some 43)]), .inl 40, .inr (7, [some (some 45)]), .inl 40, .inr (7, [some (some 47)]), .inl 40, .inr (1, [some (some 49), none, none]), .inr (7, [some (some 50)]), .inl 24, .inr (6, [some (some 52), none, none, none]), .inr (7, [some (some 53)]), .inl 4, .inr (1, [some (some 55), none, none]), .inr (7, [some (some 56)]), .inl 40, .inr (10, [some (some 58), some (some 59), some (some 60), some (some 61), none, some (some 62), none, some (some 63), some (some 64), some (some 65), some (some 66), some (some 67), some (some 68), none, some (some 69), some (some 70), some (some 71), some (some 72), none, none, none, none, none, none, some (some 73), none, some (some 74), some (some 75), some (some 76), some (some 77), none, some (some 78), some (some 79), some none, none, none, some none, some none, none]), .inl 6, .inl 6, .inl 6, .inl 6, .inl 32, .inl 16, .inl 16, .inl 16, .inl 16, .inl 16, .inl 6, .inl 40, .inl 40, .inl 40, .inl 4, .inl 8, .inl 200, .inl 200, .inl 200, .inl 24, .inl 35, .inl 7, .inl 28] : List xS), x_u (x_u (x_u (x_u (x_u (x_u (x_u (x_u (x_u (x_u (x_u (x_u (x_u (x_u (x_z (x_u (x_u (x_u (x_u (x_u (x_u (x_u (x_z (x_u (x_u (x_u (x_u (x_u (x_u (x_u (x_u (x_u (x_u (x_u (x_u (x_u (x_u (x_u (x_u (x_u (x_u (x_u (x_u (x_u (x_u (x_u (x_u (x_u (x_u (x_u (x_u (x_u (x_u (x_u (x_u (x_u (x_u (x_u (x_z (x_z (x_z (x_z (x_z (x_z (x_z (x_z (x_z (x_z (x_z (x_z (x_z (x_z (x_z (x_z (x_z (x_z (x_z (x_z (x_z (w2) 58) 59) 60) 61) 62) 63) 64) 65) 66) 67) 68) 69) 70) 71) 72) 73) 74) 75) 76) 77) 78) 78 0 114) 78 1 111) 78 2 111) 78 3 109) 78 4 0) 78 5 110) 78 6 101) 78 7 97) 78 8 114) 78 9 0) 78 10 110) 78 11 101) 78 12 116) 78 13 0) 78 14 0) 78 15 115) 78 16 99) 78 17 101) 78 18 110) 78 19 101) 78 20 103) 78 21 117) 78 22 97) 78 23 114) 78 24 100) 78 25 108) 78 26 105) 78 27 102) 78 28 116) 78 29 0) 78 30 107) 78 31 101) 78 32 101) 78 33 112) 78 34 0) 79) 79 0 2) 79 1 3) 79 2 2) 79 3 4) 79 4 3) 79 5 2) 79 6 3) 80) 80 0 5) 80 1 3) 80 2 0) 80 3 0) 80 4 5) 80 5 5) 80 6 1) 80 7 0) 80 8 5) 80 9 5) 80 10 0) 80 11 0) 80 12 3) 80 13 3), 23, 968)
    refine And.intro (show ¬ (_ ∨ _) by decide) ?_
    change x_wp _ _ _ _ _ _ 1679 (483, [some (.ref 57)], [.ref 80, .ref 57], (([.inr (9, [some (some 1), some (some 12), some (some 23), some (some 30), some (some 37), some (some 40), some (some 48), some (some 51), some (some 54)]), .inr (0, [some (some 2), some (some 4), some (some 6), some (some 8), some (some 10), none]), .inr (7, [some (some 3)]), .inl 6, .inr (7, [some (some 5)]), .inl 6, .inr (7, [some (some 7)]), .inl 6, .inr (7, [some (some 9)]), .inl 6, .inr (7, [some (some 11)]), .inl 32, .inr (3, [some (some 1), some (some 13), some (some 15), some (some 17), some (some 19), some (some 21), none]), .inr (7, [some (some 14)]), .inl 16, .inr (7, [some (some 16)]), .inl 16, .inr (7, [some (some 18)]), .inl 16, .inr (7, [some (some 20)]), .inl 16, .inr (7, [some (some 22)]), .inl 16, .inr (2, [some (some 24), some (some 26), some (some 28), none]), .inr (7, [some (some 25)]), .inl 8, .inr (7, [some (some 27)]), .inl 8, .inr (7, [some (some 29)]), .inl 8, .inr (8, [some (some 31), some (some 33), some (some 35), none]), .inr (7, [some (some 32)]), .inl 40, .inr (7, [some (some 34)]), .inl 40, .inr (7, [some (some 36)]), .inl 40, .inr (5, [some (some 1), some (some 12), some (some 38), none, none, none, none, none, none]), .inr (7, [some (some 39)]), .inl 4, .inr (4, [some (some 1), some (some 12), some (some 37), some (some 41), none]), .inr (8, [some (some 42), some (some 44), some (some 46), none]), .inr (7, [some (some 43)]), .inl 40, .inr (7, [some (some 45)]), .inl 40, .inr (7, [some (some 47)]), .inl 40, .inr (1, [some (some 49), none, none]), .inr (7, [some (some 50)]), .inl 24, .inr (6, [some (some 52), none, none, none]), .inr (7, [some (some 53)]), .inl 4, .inr (1, [some (some 55), none, none]), .inr (7, [some (some 56)]), .inl 40, .inr (10, [some (some 58), some (some 59), some (some 60), some (some 61), none, some (some 62), none, some (some 63), some (some 64), some (some 65), some (some 66), some (some 67), some (some 68), none, some (some 69), some (some 70), some (some 71), some (some 72), none, none, none, none, none, none, some (some 73), none, some (some 74), some (some 75), some (some 76), some (some 77), none, some (some 78), some (some 79), some none, none, none, some none, some none, none]), .inl 6, .inl 6, .inl 6, .inl 6, .inl 32, .inl 16, .inl 16, .inl 16, .inl 16, .inl 16, .inl 6, .inl 40, .inl 40, .inl 40, .inl 4, .inl 8, .inl 200, .inl 200, .inl 200, .inl 24, .inl 35, .inl 7, .inl 28] : List xS), x_u (x_u (x_u (x_u (x_u (x_u (x_u (x_u (x_u (x_u (x_u (x_u (x_u (x_u (x_u (x_z (x_u (x_u (x_u (x_u (x_u (x_u (x_u (x_z (x_u (x_u (x_u (x_u (x_u (x_u (x_u (x_u (x_u (x_u (x_u (x_u (x_u (x_u (x_u (x_u (x_u (x_u (x_u (x_u (x_u (x_u (x_u (x_u (x_u (x_u (x_u (x_u (x_u (x_u (x_u (x_u (x_u (x_u (x_u (x_z (x_z (x_z (x_z (x_z (x_z (x_z (x_z (x_z (x_z (x_z (x_z (x_z (x_z (x_z (x_z (x_z (x_z (x_z (x_z (x_z (w2) 58) 59) 60) 61) 62) 63) 64) 65) 66) 67) 68) 69) 70) 71) 72) 73) 74) 75) 76) 77) 78) 78 0 114) 78 1 111) 78 2 111) 78 3 109) 78 4 0) 78 5 110) 78 6 101) 78 7 97) 78 8 114) 78 9 0) 78 10 110) 78 11 101) 78 12 116) 78 13 0) 78 14 0) 78 15 115) 78 16 99) 78 17 101) 78 18 110) 78 19 101) 78 20 103) 78 21 117) 78 22 97) 78 23 114) 78 24 100) 78 25 108) 78 26 105) 78 27 102) 78 28 116) 78 29 0) 78 30 107) 78 31 101) 78 32 101) 78 33 112) 78 34 0) 79) 79 0 2) 79 1 3) 79 2 2) 79 3 4) 79 4 3) 79 5 2) 79 6 3) 80) 80 0 5) 80 1 3) 80 2 0) 80 3 0) 80 4 5) 80 5 5) 80 6 1) 80 7 0) 80 8 5) 80 9 5) 80 10 0) 80 11 0) 80 12 3) 80 13 3) 80 14 3), 23, 968)
    refine And.intro (show ¬ (_ ∨ _) by decide) ?_
    change x_wp _ _ _ _ _ _ 1675 (488, [some (.ref 57)], [.ref 80, .ref 57], (([.inr (9, [some (some 1), some (some 12), some (some 23), some (some 30), some (some 37), some (some 40), some (some 48), some (some 51), some (some 54)]), .inr (0, [some (some 2), some (some 4), some (some 6), some (some 8), some (some 10), none]), .inr (7, [some (some 3)]), .inl 6, .inr (7, [some (some 5)]), .inl 6, .inr (7, [some (some 7)]), .inl 6, .inr (7, [some (some 9)]), .inl 6, .inr (7, [some (some 11)]), .inl 32, .inr (3, [some (some 1), some (some 13), some (some 15), some (some 17), some (some 19), some (some 21), none]), .inr (7, [some (some 14)]), .inl 16, .inr (7, [some (some 16)]), .inl 16, .inr (7, [some (some 18)]), .inl 16, .inr (7, [some (some 20)]), .inl 16, .inr (7, [some (some 22)]), .inl 16, .inr (2, [some (some 24), some (some 26), some (some 28), none]), .inr (7, [some (some 25)]), .inl 8, .inr (7, [some (some 27)]), .inl 8, .inr (7, [some (some 29)]), .inl 8, .inr (8, [some (some 31), some (some 33), some (some 35), none]), .inr (7, [some (some 32)]), .inl 40, .inr (7, [some (some 34)]), .inl 40, .inr (7, [some (some 36)]), .inl 40, .inr (5, [some (some 1), some (some 12), some (some 38), none, none, none, none, none, none]), .inr (7, [some (some 39)]), .inl 4, .inr (4, [some (some 1), some (some 12), some (some 37), some (some 41), none]), .inr (8, [some (some 42), some (some 44), some (some 46), none]), .inr (7, [some (some 43)]), .inl 40, .inr (7, [some (some 45)]), .inl 40, .inr (7, [some (some 47)]), .inl 40, .inr (1, [some (some 49), none, none]), .inr (7, [some (some 50)]), .inl 24, .inr (6, [some (some 52), none, none, none]), .inr (7, [some (some 53)]), .inl 4, .inr (1, [some (some 55), none, none]), .inr (7, [some (some 56)]), .inl 40, .inr (10, [some (some 58), some (some 59), some (some 60), some (some 61), none, some (some 62), none, some (some 63), some (some 64), some (some 65), some (some 66), some (some 67), some (some 68), none, some (some 69), some (some 70), some (some 71), some (some 72), none, none, none, none, none, none, some (some 73), none, some (some 74), some (some 75), some (some 76), some (some 77), none, some (some 78), some (some 79), some none, none, none, some none, some none, none]), .inl 6, .inl 6, .inl 6, .inl 6, .inl 32, .inl 16, .inl 16, .inl 16, .inl 16, .inl 16, .inl 6, .inl 40, .inl 40, .inl 40, .inl 4, .inl 8, .inl 200, .inl 200, .inl 200, .inl 24, .inl 35, .inl 7, .inl 28] : List xS), x_u (x_u (x_u (x_u (x_u (x_u (x_u (x_u (x_u (x_u (x_u (x_u (x_u (x_u (x_u (x_u (x_z (x_u (x_u (x_u (x_u (x_u (x_u (x_u (x_z (x_u (x_u (x_u (x_u (x_u (x_u (x_u (x_u (x_u (x_u (x_u (x_u (x_u (x_u (x_u (x_u (x_u (x_u (x_u (x_u (x_u (x_u (x_u (x_u (x_u (x_u (x_u (x_u (x_u (x_u (x_u (x_u (x_u (x_u (x_u (x_z (x_z (x_z (x_z (x_z (x_z (x_z (x_z (x_z (x_z (x_z (x_z (x_z (x_z (x_z (x_z (x_z (x_z (x_z (x_z (x_z (w2) 58) 59) 60) 61) 62) 63) 64) 65) 66) 67) 68) 69) 70) 71) 72) 73) 74) 75) 76) 77) 78) 78 0 114) 78 1 111) 78 2 111) 78 3 109) 78 4 0) 78 5 110) 78 6 101) 78 7 97) 78 8 114) 78 9 0) 78 10 110) 78 11 101) 78 12 116) 78 13 0) 78 14 0) 78 15 115) 78 16 99) 78 17 101) 78 18 110) 78 19 101) 78 20 103) 78 21 117) 78 22 97) 78 23 114) 78 24 100) 78 25 108) 78 26 105) 78 27 102) 78 28 116) 78 29 0) 78 30 107) 78 31 101) 78 32 101) 78 33 112) 78 34 0) 79) 79 0 2) 79 1 3) 79 2 2) 79 3 4) 79 4 3) 79 5 2) 79 6 3) 80) 80 0 5) 80 1 3) 80 2 0) 80 3 0) 80 4 5) 80 5 5) 80 6 1) 80 7 0) 80 8 5) 80 9 5) 80 10 0) 80 11 0) 80 12 3) 80 13 3) 80 14 3) 80 15 3), 23, 968)
    refine And.intro (show ¬ (_ ∨ _) by decide) ?_
    change x_wp _ _ _ _ _ _ 1671 (494, [some (.ref 57)], [.ref 80, .ref 57], (([.inr (9, [some (some 1), some (some 12), some (some 23), some (some 30), some (some 37), some (some 40), some (some 48), some (some 51), some (some 54)]), .inr (0, [some (some 2), some (some 4), some (some 6), some (some 8), some (some 10), none]), .inr (7, [some (some 3)]), .inl 6, .inr (7, [some (some 5)]), .inl 6, .inr (7, [some (some 7)]), .inl 6, .inr (7, [some (some 9)]), .inl 6, .inr (7, [some (some 11)]), .inl 32, .inr (3, [some (some 1), some (some 13), some (some 15), some (some 17), some (some 19), some (some 21), none]), .inr (7, [some (some 14)]), .inl 16, .inr (7, [some (some 16)]), .inl 16, .inr (7, [some (some 18)]), .inl 16, .inr (7, [some (some 20)]), .inl 16, .inr (7, [some (some 22)]), .inl 16, .inr (2, [some (some 24), some (some 26), some (some 28), none]), .inr (7, [some (some 25)]), .inl 8, .inr (7, [some (some 27)]), .inl 8, .inr (7, [some (some 29)]), .inl 8, .inr (8, [some (some 31), some (some 33), some (some 35), none]), .inr (7, [some (some 32)]), .inl 40, .inr (7, [some (some 34)]), .inl 40, .inr (7, [some (some 36)]), .inl 40, .inr (5, [some (some 1), some (some 12), some (some 38), none, none, none, none, none, none]), .inr (7, [some (some 39)]), .inl 4, .inr (4, [some (some 1), some (some 12), some (some 37), some (some 41), none]), .inr (8, [some (some 42), some (some 44), some (some 46), none]), .inr (7, [some (some 43)]), .inl 40, .inr (7, [some (some 45)]), .inl 40, .inr (7, [some (some 47)]), .inl 40, .inr (1, [some (some 49), none, none]), .inr (7, [some (some 50)]), .inl 24, .inr (6, [some (some 52), none, none, none]), .inr (7, [some (some 53)]), .inl 4, .inr (1, [some (some 55), none, none]), .inr (7, [some (some 56)]), .inl 40, .inr (10, [some (some 58), some (some 59), some (some 60), some (some 61), none, some (some 62), none, some (some 63), some (some 64), some (some 65), some (some 66), some (some 67), some (some 68), none, some (some 69), some (some 70), some (some 71), some (some 72), none, none, none, none, none, none, some (some 73), none, some (some 74), some (some 75), some (some 76), some (some 77), none, some (some 78), some (some 79), some none, none, none, some none, some none, none]), .inl 6, .inl 6, .inl 6, .inl 6, .inl 32, .inl 16, .inl 16, .inl 16, .inl 16, .inl 16, .inl 6, .inl 40, .inl 40, .inl 40, .inl 4, .inl 8, .inl 200, .inl 200, .inl 200, .inl 24, .inl 35, .inl 7, .inl 28] : List xS), x_u (x_u (x_u (x_u (x_u (x_u (x_u (x_u (x_u (x_u (x_u (x_u (x_u (x_u (x_u (x_u (x_u (x_z (x_u (x_u (x_u (x_u (x_u (x_u (x_u (x_z (x_u (x_u (x_u (x_u (x_u (x_u (x_u (x_u (x_u (x_u (x_u (x_u (x_u (x_u (x_u (x_u (x_u (x_u (x_u (x_u (x_u (x_u (x_u (x_u (x_u (x_u (x_u (x_u (x_u (x_u (x_u (x_u (x_u (x_u (x_u (x_z (x_z (x_z (x_z (x_z (x_z (x_z (x_z (x_z (x_z (x_z (x_z (x_z (x_z (x_z (x_z (x_z (x_z (x_z (x_z (x_z (w2) 58) 59) 60) 61) 62) 63) 64) 65) 66) 67) 68) 69) 70) 71) 72) 73) 74) 75) 76) 77) 78) 78 0 114) 78 1 111) 78 2 111) 78 3 109) 78 4 0) 78 5 110) 78 6 101) 78 7 97) 78 8 114) 78 9 0) 78 10 110) 78 11 101) 78 12 116) 78 13 0) 78 14 0) 78 15 115) 78 16 99) 78 17 101) 78 18 110) 78 19 101) 78 20 103) 78 21 117) 78 22 97) 78 23 114) 78 24 100) 78 25 108) 78 26 105) 78 27 102) 78 28 116) 78 29 0) 78 30 107) 78 31 101) 78 32 101) 78 33 112) 78 34 0) 79) 79 0 2) 79 1 3) 79 2 2) 79 3 4) 79 4 3) 79 5 2) 79 6 3) 80) 80 0 5) 80 1 3) 80 2 0) 80 3 0) 80 4 5) 80 5 5) 80 6 1) 80 7 0) 80 8 5) 80 9 5) 80 10 0) 80 11 0) 80 12 3) 80 13 3) 80 14 3) 80 15 3) 80 16 15), 23, 968)
    refine And.intro (show ¬ (_ ∨ _) by decide) ?_
    change x_wp _ _ _ _ _ _ 1667 (499, [some (.ref 57)], [.ref 80, .ref 57], (([.inr (9, [some (some 1), some (some 12), some (some 23), some (some 30), some (some 37), some (some 40), some (some 48), some (some 51), some (some 54)]), .inr (0, [some (some 2), some (some 4), some (some 6), some (some 8), some (some 10), none]), .inr (7, [some (some 3)]), .inl 6, .inr (7, [some (some 5)]), .inl 6, .inr (7, [some (some 7)]), .inl 6, .inr (7, [some (some 9)]), .inl 6, .inr (7, [some (some 11)]), .inl 32, .inr (3, [some (some 1), some (some 13), some (some 15), some (some 17), some (some 19), some (some 21), none]), .inr (7, [some (some 14)]), .inl 16, .inr (7, [some (some 16)]), .inl 16, .inr (7, [some (some 18)]), .inl 16, .inr (7, [some (some 20)]), .inl 16, .inr (7, [some (some 22)]), .inl 16, .inr (2, [some (some 24), some (some 26), some (some 28), none]), .inr (7, [some (some 25)]), .inl 8, .inr (7, [some (some 27)]), .inl 8, .inr (7, [some (some 29)]), .inl 8, .inr (8, [some (some 31), some (some 33), some (some 35), none]), .inr (7, [some (some 32)]), .inl 40, .inr (7, [some (some 34)]), .inl 40, .inr (7, [some (some 36)]), .inl 40, .inr (5, [some (some 1), some (some 12), some (some 38), none, none, none, none, none, none]), .inr (7, [some (some 39)]), .inl 4, .inr (4, [some (some 1), some (some 12), some (some 37), some (some 41), none]), .inr (8, [some (some 42), some (some 44), some (some 46), none]), .inr (7, [some (some 43)]), .inl 40, .inr (7, [some (some 45)]), .inl 40, .inr (7, [some (some 47)]), .inl 40, .inr (1, [some (some 49), none, none]), .inr (7, [some (some 50)]), .inl 24, .inr (6, [some (some 52), none, none, none]), .inr (7, [some (some 53)]), .inl 4, .inr (1, [some (some 55), none, none]), .inr (7, [some (some 56)]), .inl 40, .inr (10, [some (some 58), some (some 59), some (some 60), some (some 61), none, some (some 62), none, some (some 63), some (some 64), some (some 65), some (some 66), some (some 67), some (some 68), none, some (some 69), some (some 70), some (some 71), some (some 72), none, none, none, none, none, none, some (some 73), none, some (some 74), some (some 75), some (some 76), some (some 77), none, some (some 78), some (some 79), some none, none, none, some none, some none, none]), .inl 6, .inl 6, .inl 6, .inl 6, .inl 32, .inl 16, .inl 16, .inl 16, .inl 16, .inl 16, .inl 6, .inl 40, .inl 40, .inl 40, .inl 4, .inl 8, .inl 200, .inl 200, .inl 200, .inl 24, .inl 35, .inl 7, .inl 28] : List xS), x_u (x_u (x_u (x_u (x_u (x_u (x_u (x_u (x_u (x_u (x_u (x_u (x_u (x_u (x_u (x_u (x_u (x_u (x_z (x_u (x_u (x_u (x_u (x_u (x_u (x_u (x_z (x_u (x_u (x_u (x_u (x_u (x_u (x_u (x_u (x_u (x_u (x_u (x_u (x_u (x_u (x_u (x_u (x_u (x_u (x_u (x_u (x_u (x_u (x_u (x_u (x_u (x_u (x_u (x_u (x_u (x_u (x_u (x_u (x_u (x_u (x_u (x_z (x_z (x_z (x_z (x_z (x_z (x_z (x_z (x_z (x_z (x_z (x_z (x_z (x_z (x_z (x_z (x_z (x_z (x_z (x_z (x_z (w2) 58) 59) 60) 61) 62) 63) 64) 65) 66) 67) 68) 69) 70) 71) 72) 73) 74) 75) 76) 77) 78) 78 0 114) 78 1 111) 78 2 111) 78 3 109) 78 4 0) 78 5 110) 78 6 101) 78 7 97) 78 8 114) 78 9 0) 78 10 110) 78 11 101) 78 12 116) 78 13 0) 78 14 0) 78 15 115) 78 16 99) 78 17 101) 78 18 110) 78 19 101) 78 20 103) 78 21 117) 78 22 97) 78 23 114) 78 24 100) 78 25 108) 78 26 105) 78 27 102) 78 28 116) 78 29 0) 78 30 107) 78 31 101) 78 32 101) 78 33 112) 78 34 0) 79) 79 0 2) 79 1 3) 79 2 2) 79 3 4) 79 4 3) 79 5 2) 79 6 3) 80) 80 0 5) 80 1 3) 80 2 0) 80 3 0) 80 4 5) 80 5 5) 80 6 1) 80 7 0) 80 8 5) 80 9 5) 80 10 0) 80 11 0) 80 12 3) 80 13 3) 80 14 3) 80 15 3) 80 16 15) 80 17 1), 23, 968)
    refine And.intro (show ¬ (_ ∨ _) by decide) ?_
    change x_wp _ _ _ _ _ _ 1663 (504, [some (.ref 57)], [.ref 80, .ref 57], (([.inr (9, [some (some 1), some (some 12), some (some 23), some (some 30), some (some 37), some (some 40), some (some 48), some (some 51), some (some 54)]), .inr (0, [some (some 2), some (some 4), some (some 6), some (some 8), some (some 10), none]), .inr (7, [some (some 3)]), .inl 6, .inr (7, [some (some 5)]), .inl 6, .inr (7, [some (some 7)]), .inl 6, .inr (7, [some (some 9)]), .inl 6, .inr (7, [some (some 11)]), .inl 32, .inr (3, [some (some 1), some (some 13), some (some 15), some (some 17), some (some 19), some (some 21), none]), .inr (7, [some (some 14)]), .inl 16, .inr (7, [some (some 16)]), .inl 16, .inr (7, [some (some 18)]), .inl 16, .inr (7, [some (some 20)]), .inl 16, .inr (7, [some (some 22)]), .inl 16, .inr (2, [some (some 24), some (some 26), some (some 28), none]), .inr (7, [some (some 25)]), .inl 8, .inr (7, [some (some 27)]), .inl 8, .inr (7, [some (some 29)]), .inl 8, .inr (8, [some (some 31), some (some 33), some (some 35), none]), .inr (7, [some (some 32)]), .inl 40, .inr (7, [some (some 34)]), .inl 40, .inr (7, [some (some 36)]), .inl 40, .inr (5, [some (some 1), some (some 12), some (some 38), none, none, none, none, none, none]), .inr (7, [some (some 39)]), .inl 4, .inr (4, [some (some 1), some (some 12), some (some 37), some (some 41), none]), .inr (8, [some (some 42), some (some 44), some (some 46), none]), .inr (7, [some (some 43)]), .inl 40, .inr (7, [some (some 45)]), .inl 40, .inr (7, [some (some 47)]), .inl 40, .inr (1, [some (some 49), none, none]), .inr (7, [some (some 50)]), .inl 24, .inr (6, [some (some 52), none, none, none]), .inr (7, [some (some 53)]), .inl 4, .inr (1, [some (some 55), none, none]), .inr (7, [some (some 56)]), .inl 40, .inr (10, [some (some 58), some (some 59), some (some 60), some (some 61), none, some (some 62), none, some (some 63), some (some 64), some (some 65), some (some 66), some (some 67), some (some 68), none, some (some 69), some (some 70), some (some 71), some (some 72), none, none, none, none, none, none, some (some 73), none, some (some 74), some (some 75), some (some 76), some (some 77), none, some (some 78), some (some 79), some none, none, none, some none, some none, none]), .inl 6, .inl 6, .inl 6, .inl 6, .inl 32, .inl 16, .inl 16, .inl 16, .inl 16, .inl 16, .inl 6, .inl 40, .inl 40, .inl 40, .inl 4, .inl 8, .inl 200, .inl 200, .inl 200, .inl 24, .inl 35, .inl 7, .inl 28] : List xS), x_u (x_u (x_u (x_u (x_u (x_u (x_u (x_u (x_u (x_u (x_u (x_u (x_u (x_u (x_u (x_u (x_u (x_u (x_u (x_z (x_u (x_u (x_u (x_u (x_u (x_u (x_u (x_z (x_u (x_u (x_u (x_u (x_u (x_u (x_u (x_u (x_u (x_u (x_u (x_u (x_u (x_u (x_u (x_u (x_u (x_u (x_u (x_u (x_u (x_u (x_u (x_u (x_u (x_u (x_u (x_u (x_u (x_u (x_u (x_u (x_u (x_u (x_u (x_z (x_z (x_z (x_z (x_z (x_z (x_z (x_z (x_z (x_z (x_z (x_z (x_z (x_z (x_z (x_z (x_z (x_z (x_z (x_z (x_z (w2) 58) 59) 60) 61) 62) 63) 64) 65) 66) 67) 68) 69) 70) 71) 72) 73) 74) 75) 76) 77) 78) 78 0 114) 78 1 111) 78 2 111) 78 3 109) 78 4 0) 78 5 110) 78 6 101) 78 7 97) 78 8 114) 78 9 0) 78 10 110) 78 11 101) 78 12 116) 78 13 0) 78 14 0) 78 15 115) 78 16 99) 78 17 101) 78 18 110) 78 19 101) 78 20 103) 78 21 117) 78 22 97) 78 23 114) 78 24 100) 78 25 108) 78 26 105) 78 27 102) 78 28 116) 78 29 0) 78 30 107) 78 31 101) 78 32 101) 78 33 112) 78 34 0) 79) 79 0 2) 79 1 3) 79 2 2) 79 3 4) 79 4 3) 79 5 2) 79 6 3) 80) 80 0 5) 80 1 3) 80 2 0) 80 3 0) 80 4 5) 80 5 5) 80 6 1) 80 7 0) 80 8 5) 80 9 5) 80 10 0) 80 11 0) 80 12 3) 80 13 3) 80 14 3) 80 15 3) 80 16 15) 80 17 1) 80 18 3), 23, 968)
    refine And.intro (show ¬ (_ ∨ _) by decide) ?_
    change x_wp _ _ _ _ _ _ 1659 (509, [some (.ref 57)], [.ref 80, .ref 57], (([.inr (9, [some (some 1), some (some 12), some (some 23), some (some 30), some (some 37), some (some 40), some (some 48), some (some 51), some (some 54)]), .inr (0, [some (some 2), some (some 4), some (some 6), some (some 8), some (some 10), none]), .inr (7, [some (some 3)]), .inl 6, .inr (7, [some (some 5)]), .inl 6, .inr (7, [some (some 7)]), .inl 6, .inr (7, [some (some 9)]), .inl 6, .inr (7, [some (some 11)]), .inl 32, .inr (3, [some (some 1), some (some 13), some (some 15), some (some 17), some (some 19), some (some 21), none]), .inr (7, [some (some 14)]), .inl 16, .inr (7, [some (some 16)]), .inl 16, .inr (7, [some (some 18)]), .inl 16, .inr (7, [some (some 20)]), .inl 16, .inr (7, [some (some 22)]), .inl 16, .inr (2, [some (some 24), some (some 26), some (some 28), none]), .inr (7, [some (some 25)]), .inl 8, .inr (7, [some (some 27)]), .inl 8, .inr (7, [some (some 29)]), .inl 8, .inr (8, [some (some 31), some (some 33), some (some 35), none]), .inr (7, [some (some 32)]), .inl 40, .inr (7, [some (some 34)]), .inl 40, .inr (7, [some (some 36)]), .inl 40, .inr (5, [some (some 1), some (some 12), some (some 38), none, none, none, none, none, none]), .inr (7, [some (some 39)]), .inl 4, .inr (4, [some (some 1), some (some 12), some (some 37), some (some 41), none]), .inr (8, [some (some 42), some (some 44), some (some 46), none]), .inr (7, [some (some 43)]), .inl 40, .inr (7, [some (some 45)]), .inl 40, .inr (7, [some (some 47)]), .inl 40, .inr (1, [some (some 49), none, none]), .inr (7, [some (some 50)]), .inl 24, .inr (6, [some (some 52), none, none, none]), .inr (7, [some (some 53)]), .inl 4, .inr (1, [some (some 55), none, none]), .inr (7, [some (some 56)]), .inl 40, .inr (10, [some (some 58), some (some 59), some (some 60), some (some 61), none, some (some 62), none, some (some 63), some (some 64), some (some 65), some (some 66), some (some 67), some (some 68), none, some (some 69), some (some 70), some (some 71), some (some 72), none, none, none, none, none, none, some (some 73), none, some (some 74), some (some 75), some (some 76), some (some 77), none, some (some 78), some (some 79), some none, none, none, some none, some none, none]), .inl 6, .inl 6, .inl 6, .inl 6, .inl 32, .inl 16, .inl 16, .inl 16, .inl 16, .inl 16, .inl 6, .inl 40, .inl 40, .inl 40, .inl 4, .inl 8, .inl 200, .inl 200, .inl 200, .inl 24, .inl 35, .inl 7, .inl 28] : List xS), x_u (x_u (x_u (x_u (x_u (x_u (x_u (x_u (x_u (x_u (x_u (x_u (x_u (x_u (x_u (x_u (x_u (x_u (x_u (x_u (x_z (x_u (x_u (x_u (x_u (x_u (x_u (x_u (x_z (x_u (x_u (x_u (x_u (x_u (x_u (x_u (x_u (x_u (x_u (x_u (x_u (x_u (x_u (x_u (x_u (x_u (x_u (x_u (x_u (x_u (x_u (x_u (x_u (x_u (x_u (x_u (x_u (x_u (x_u (x_u (x_u (x_u (x_u (x_u (x_z (x_z (x_z (x_z (x_z (x_z (x_z (x_z (x_z (x_z (x_z (x_z (x_z (x_z (x_z (x_z (x_z (x_z (x_z (x_z (x_z (w2) 58) 59) 60) 61) 62) 63) 64) 65) 66) 67) 68) 69) 70) 71) 72) 73) 74) 75) 76) 77) 78) 78 0 114) 78 1 111) 78 2 111) 78 3 109) 78 4 0) 78 5 110) 78 6 101) 78 7 97) 78 8 114) 78 9 0) 78 10 110) 78 11 101) 78 12 116) 78 13 0) 78 14 0) 78 15 115) 78 16 99) 78 17 101) 78 18 110) 78 19 101) 78 20 103) 78 21 117) 78 22 97) 78 23 114) 78 24 100) 78 25 108) 78 26 105) 78 27 102) 78 28 116) 78 29 0) 78 30 107) 78 31 101) 78 32 101) 78 33 112) 78 34 0) 79) 79 0 2) 79 1 3) 79 2 2) 79 3 4) 79 4 3) 79 5 2) 79 6 3) 80) 80 0 5) 80 1 3) 80 2 0) 80 3 0) 80 4 5) 80 5 5) 80 6 1) 80 7 0) 80 8 5) 80 9 5) 80 10 0) 80 11 0) 80 12 3) 80 13 3) 80 14 3) 80 15 3) 80 16 15) 80 17 1) 80 18 3) 80 19 0), 23, 968)
    refine And.intro (show ¬ (_ ∨ _) by decide) ?_
    change x_wp _ _ _ _ _ _ 1655 (515, [some (.ref 57)], [.ref 80, .ref 57], (([.inr (9, [some (some 1), some (some 12), some (some 23), some (some 30), some (some 37), some (some 40), some (some 48), some (some 51), some (some 54)]), .inr (0, [some (some 2), some (some 4), some (some 6), some (some 8), some (some 10), none]), .inr (7, [some (some 3)]), .inl 6, .inr (7, [some (some 5)]), .inl 6, .inr (7, [some (some 7)]), .inl 6, .inr (7, [some (some 9)]), .inl 6, .inr (7, [some (some 11)]), .inl 32, .inr (3, [some (some 1), some (some 13), some (some 15), some (some 17), some (some 19), some (some 21), none]), .inr (7, [some (some 14)]), .inl 16, .inr (7, [some (some 16)]), .inl 16, .inr (7, [some (some 18)]), .inl 16, .inr (7, [some (some 20)]), .inl 16, .inr (7, [some (some 22)]), .inl 16, .inr (2, [some (some 24), some (some 26), some (some 28), none]), .inr (7, [some (some 25)]), .inl 8, .inr (7, [some (some 27)]), .inl 8, .inr (7, [some (some 29)]), .inl 8, .inr (8, [some (some 31), some (some 33), some (some 35), none]), .inr (7, [some (some 32)]), .inl 40, .inr (7, [some (some 34)]), .inl 40, .inr (7, [some (some 36)]), .inl 40, .inr (5, [some (some 1), some (some 12), some (some 38), none, none, none, none, none, none]), .inr (7, [some (some 39)]), .inl 4, .inr (4, [some (some 1), some (some 12), some (some 37), some (some 41), none]), .inr (8, [some (some 42), some (some 44), some (some 46), none]), .inr (7, [some (some 43)]), .inl 40, .inr (7, [some (some 45)]), .inl 40, .inr (7, [some (some 47)]), .inl 40, .inr (1, [some (some 49), none, none]), .inr (7, [some (some 50)]), .inl 24, .inr (6, [some (some 52), none, none, none]), .inr (7, [some (some 53)]), .inl 4, .inr (1, [some (some 55), none, none]), .inr (7, [some (some 56)]), .inl 40, .inr (10, [some (some 58), some (some 59), some (some 60), some (some 61), none, some (some 62), none, some (some 63), some (some 64), some (some 65), some (some 66), some (some 67), some (some 68), none, some (some 69), some (some 70), some (some 71), some (some 72), none, none, none, none, none, none, some (some 73), none, some (some 74), some (some 75), some (some 76), some (some 77), none, some (some 78), some (some 79), some none, none, none, some none, some none, none]), .inl 6, .inl 6, .inl 6, .inl 6, .inl 32, .inl 16, .inl 16, .inl 16, .inl 16, .inl 16, .inl 6, .inl 40, .inl 40, .inl 40, .inl 4, .inl 8, .inl 200, .inl 200, .inl 200, .inl 24, .inl 35, .inl 7, .inl 28] : List xS), x_u (x_u (x_u (x_u (x_u (x_u (x_u (x_u (x_u (x_u (x_u (x_u (x_u (x_u (x_u (x_u (x_u (x_u (x_u (x_u (x_u (x_z (x_u (x_u (x_u (x_u (x_u (x_u (x_u (x_z (x_u (x_u (x_u (x_u (x_u (x_u (x_u (x_u (x_u (x_u (x_u (x_u (x_u (x_u (x_u (x_u (x_u (x_u (x_u (x_u (x_u (x_u (x_u (x_u (x_u (x_u (x_u (x_u (x_u (x_u (x_u (x_u (x_u (x_u (x_u (x_z (x_z (x_z (x_z (x_z (x_z (x_z (x_z (x_z (x_z (x_z (x_z (x_z (x_z (x_z (x_z (x_z (x_z (x_z (x_z (x_z (w2) 58) 59) 60) 61) 62) 63) 64) 65) 66) 67) 68) 69) 70) 71) 72) 73) 74) 75) 76) 77) 78) 78 0 114) 78 1 111) 78 2 111) 78 3 109) 78 4 0) 78 5 110) 78 6 101) 78 7 97) 78 8 114) 78 9 0) 78 10 110) 78 11 101) 78 12 116) 78 13 0) 78 14 0) 78 15 115) 78 16 99) 78 17 101) 78 18 110) 78 19 101) 78 20 103) 78 21 117) 78 22 97) 78 23 114) 78 24 100) 78 25 108) 78 26 105) 78 27 102) 78 28 116) 78 29 0) 78 30 107) 78 31 101) 78 32 101) 78 33 112) 78 34 0) 79) 79 0 2) 79 1 3) 79 2 2) 79 3 4) 79 4 3) 79 5 2) 79 6 3) 80) 80 0 5) 80 1 3) 80 2 0) 80 3 0) 80 4 5) 80 5 5) 80 6 1) 80 7 0) 80 8 5) 80 9 5) 80 10 0) 80 11 0) 80 12 3) 80 13 3) 80 14 3) 80 15 3) 80 16 15) 80 17 1) 80 18 3) 80 19 0) 80 20 15), 23, 968)
    refine And.intro (show ¬ (_ ∨ _) by decide) ?_
    change x_wp _ _ _ _ _ _ 1651 (520, [some (.ref 57)], [.ref 80, .ref 57], (([.inr (9, [some (some 1), some (some 12), some (some 23), some (some 30), some (some 37), some (some 40), some (some 48), some (some 51), some (some 54)]), .inr (0, [some (some 2), some (some 4), some (some 6), some (some 8), some (some 10), none]), .inr (7, [some (some 3)]), .inl 6, .inr (7, [some (some 5)]), .inl 6, .inr (7, [some (some 7)]), .inl 6, .inr (7, [some (some 9)]), .inl 6, .inr (7, [some (some 11)]), .inl 32, .inr (3, [some (some 1), some (some 13), some (some 15), some (some 17), some (some 19), some (some 21), none]), .inr (7, [some (some 14)]), .inl 16, .inr (7, [some (some 16)]), .inl 16, .inr (7, [some (some 18)]), .inl 16, .inr (7, [some (some 20)]), .inl 16, .inr (7, [some (some 22)]), .inl 16, .inr (2, [some (some 24), some (some 26), some (some 28), none]), .inr (7, [some (some 25)]), .inl 8, .inr (7, [some (some 27)]), .inl 8, .inr (7, [some (some 29)]), .inl 8, .inr (8, [some (some 31), some (some 33), some (some 35), none]), .inr (7, [some (some 32)]), .inl 40, .inr (7, [some (some 34)]), .inl 40, .inr (7, [some (some 36)]), .inl 40, .inr (5, [some (some 1), some (some 12), some (some 38), none, none, none, none, none, none]), .inr (7, [some (some 39)]), .inl 4, .inr (4, [some (some 1), some (some 12), some (some 37), some (some 41), none]), .inr (8, [some (some 42), some (some 44), some (some 46), none]), .inr (7, [some (some 43)]), .inl 40, .inr (7, [some (some 45)]), .inl 40, .inr (7, [some (some 47)]), .inl 40, .inr (1, [some (some 49), none, none]), .inr (7, [some (some 50)]), .inl 24, .inr (6, [some (some 52), none, none, none]), .inr (7, [some (some 53)]), .inl 4, .inr (1, [some (some 55), none, none]), .inr (7, [some (some 56)]), .inl 40, .inr (10, [some (some 58), some (some 59), some (some 60), some (some 61), none, some (some 62), none, some (some 63), some (some 64), some (some 65), some (some 66), some (some 67), some (some 68), none, some (some 69), some (some 70), some (some 71), some (some 72), none, none, none, none, none, none, some (some 73), none, some (some 74), some (some 75), some (some 76), some (some 77), none, some (some 78), some (some 79), some none, none, none, some none, some none, none]), .inl 6, .inl 6, .inl 6, .inl 6, .inl 32, .inl 16, .inl 16, .inl 16, .inl 16, .inl 16, .inl 6, .inl 40, .inl 40, .inl 40, .inl 4, .inl 8, .inl 200, .inl 200, .inl 200, .inl 24, .inl 35, .inl 7, .inl 28] : List xS), x_u (x_u (x_u (x_u (x_u (x_u (x_u (x_u (x_u (x_u (x_u (x_u (x_u (x_u (x_u (x_u (x_u (x_u (x_u (x_u (x_u (x_u (x_z (x_u (x_u (x_u (x_u (x_u (x_u (x_u (x_z (x_u (x_u (x_u (x_u (x_u (x_u (x_u (x_u (x_u (x_u (x_u (x_u (x_u (x_u (x_u (x_u (x_u (x_u (x_u (x_u (x_u (x_u (x_u (x_u (x_u (x_u (x_u (x_u (x_u (x_u (x_u (x_u (x_u (x_u (x_u (x_z (x_z (x_z (x_z (x_z (x_z (x_z (x_z (x_z (x_z (x_z (x_z (x_z (x_z (x_z (x_z (x_z (x_z (x_z (x_z (x_z (w2) 58) 59) 60) 61) 62) 63) 64) 65) 66) 67) 68) 69) 70) 71) 72) 73) 74) 75) 76) 77) 78) 78 0 114) 78 1 111) 78 2 111) 78 3 109) 78 4 0) 78 5 110) 78 6 101) 78 7 97) 78 8 114) 78 9 0) 78 10 110) 78 11 101) 78 12 116) 78 13 0) 78 14 0) 78 15 115) 78 16 99) 78 17 101) 78 18 110) 78 19 101) 78 20 103) 78 21 117) 78 22 97) 78 23 114) 78 24 100) 78 25 108) 78 26 105) 78 27 102) 78 28 116) 78 29 0) 78 30 107) 78 31 101) 78 32 101) 78 33 112) 78 34 0) 79) 79 0 2) 79 1 3) 79 2 2) 79 3 4) 79 4 3) 79 5 2) 79 6 3) 80) 80 0 5) 80 1 3) 80 2 0) 80 3 0) 80 4 5) 80 5 5) 80 6 1) 80 7 0) 80 8 5) 80 9 5) 80 10 0) 80 11 0) 80 12 3) 80 13 3) 80 14 3) 80 15 3) 80 16 15) 80 17 1) 80 18 3) 80 19 0) 80 20 15) 80 21 3), 23, 968)
    refine And.intro (show ¬ (_ ∨ _) by decide) ?_
    change x_wp _ _ _ _ _ _ 1647 (525, [some (.ref 57)], [.ref 80, .ref 57], (([.inr (9, [some (some 1), some (some 12), some (some 23), some (some 30), some (some 37), some (some 40), some (some 48), some (some 51), some (some 54)]), .inr (0, [some (some 2), some (some 4), some (some 6), some (some 8), some (some 10), none]), .inr (7, [some (some 3)]), .inl 6, .inr (7, [some (some 5)]), .inl 6, .inr (7, [some (some 7)]), .inl 6, .inr (7, [some (some 9)]), .inl 6, .inr (7, [some (some 11)]), .inl 32, .inr (3, [some (some 1), some (some 13), some (some 15), some (some 17), some (some 19), some (some 21), none]), .inr (7, [some (some 14)]), .inl 16, .inr (7, [some (some 16)]), .inl 16, .inr (7, [some (some 18)]), .inl 16, .inr (7, [some (some 20)]), .inl 16, .inr (7, [some (some 22)]), .inl 16, .inr (2, [some (some 24), some (some 26), some (some 28), none]), .inr (7, [some (some 25)]), .inl 8, .inr (7, [some (some 27)]), .inl 8, .inr (7, [some (some 29)]), .inl 8, .inr (8, [some (some 31), some (some 33), some (some 35), none]), .inr (7, [some (some 32)]), .inl 40, .inr (7, [some (some 34)]), .inl 40, .inr (7, [some (some 36)]), .inl 40, .inr (5, [some (some 1), some (some 12), some (some 38), none, none, none, none, none, none]), .inr (7, [some (some 39)]), .inl 4, .inr (4, [some (some 1), some (some 12), some (some 37), some (some 41), none]), .inr (8, [some (some 42), some (some 44), some (some 46), none]), .inr (7, [some (some 43)]), .inl 40, .inr (7, [some (some 45)]), .inl 40, .inr (7, [some (some 47)]), .inl 40, .inr (1, [some (some 49), none, none]), .inr (7, [some (some 50)]), .inl 24, .inr (6, [some (some 52), none, none, none]), .inr (7, [some (some 53)]), .inl 4, .inr (1, [some (some 55), none, none]), .inr (7, [some (some 56)]), .inl 40, .inr (10, [some (some 58), some (some 59), some (some 60), some (some 61), none, some (some 62), none, some (some 63), some (some 64), some (some 65), some (some 66), some (some 67), some (some 68), none, some (some 69), some (some 70), some (some 71), some (some 72), none, none, none, none, none, none, some (some 73), none, some (some 74), some (some 75), some (some 76), some (some 77), none, some (some 78), some (some 79), some none, none, none, some none, some none, none]), .inl 6, .inl 6, .inl 6, .inl 6, .inl 32, .inl 16, .inl 16, .inl 16, .inl 16, .inl 16, .inl 6, .inl 40, .inl 40, .inl 40, .inl 4, .inl 8, .inl 200, .inl 200, .inl 200, .inl 24, .inl 35, .inl 7, .inl 28] : List xS), x_u (x_u (x_u (x_u (x_u (x_u (x_u (x_u (x_u (x_u (x_u (x_u (x_u (x_u (x_u (x_u (x_u (x_u (x_u (x_u (x_u (x_u (x_u (x_z (x_u (x_u (x_u (x_u (x_u (x_u (x_u (x_z (x_u (x_u (x_u (x_u (x_u (x_u (x_u (x_u (x_u (x_u (x_u (x_u (x_u (x_u (x_u (x_u (x_u (x_u (x_u (x_u (x_u (x_u (x_u (x_u (x_u (x_u (x_u (x_u (x_u (x_u (x_u (x_u (x_u (x_u (x_u (x_z (x_z (x_z (x_z (x_z (x_z (x_z (x_z (x_z (x_z (x_z (x_z (x_z (x_z (x_z (x_z (x_z (x_z (x_z (x_z (x_z (w2) 58) 59) 60) 61) 62) 63) 64) 65) 66) 67) 68) 69) 70) 71) 72) 73) 74) 75) 76) 77) 78) 78 0 114) 78 1 111) 78 2 111) 78 3 109) 78 4 0) 78 5 110) 78 6 101) 78 7 97) 78 8 114) 78 9 0) 78 10 110) 78 11 101) 78 12 116) 78 13 0) 78 14 0) 78 15 115) 78 16 99) 78 17 101) 78 18 110) 78 19 101) 78 20 103) 78 21 117) 78 22 97) 78 23 114) 78 24 100) 78 25 108) 78 26 105) 78 27 102) 78 28 116) 78 29 0) 78 30 107) 78 31 101) 78 32 101) 78 33 112) 78 34 0) 79) 79 0 2) 79 1 3) 79 2 2) 79 3 4) 79 4 3) 79 5 2) 79 6 3) 80) 80 0 5) 80 1 3) 80 2 0) 80 3 0) 80 4 5) 80 5 5) 80 6 1) 80 7 0) 80 8 5) 80 9 5) 80 10 0) 80 11 0) 80 12 3) 80 13 3) 80 14 3) 80 15 3) 80 16 15) 80 17 1) 80 18 3) 80 19 0) 80 20 15) 80 21 3) 80 22 0), 23, 968)
    refine And.intro (show ¬ (_ ∨ _) by decide) ?_
    change x_wp _ _ _ _ _ _ 1643 (530, [some (.ref 57)], [.ref 80, .ref 57], (([.inr (9, [some (some 1), some (some 12), some (some 23), some (some 30), some (some 37), some (some 40), some (some 48), some (some 51), some (some 54)]), .inr (0, [some (some 2), some (some 4), some (some 6), some (some 8), some (some 10), none]), .inr (7, [some (some 3)]), .inl 6, .inr (7, [some (some 5)]), .inl 6, .inr (7, [some (some 7)]), .inl 6, .inr (7, [some (some 9)]), .inl 6, .inr (7, [some (some 11)]), .inl 32, .inr (3, [some (some 1), some (some 13), some (some 15), some (some 17), some (some 19), some (some 21), none]), .inr (7, [some (some 14)]), .inl 16, .inr (7, [some (some 16)]), .inl 16, .inr (7, [some (some 18)]), .inl 16, .inr (7, [some (some 20)]), .inl 16, .inr (7, [some (some 22)]), .inl 16, .inr (2, [some (some 24), some (some 26), some (some 28), none]), .inr (7, [some (some 25)]), .inl 8, .inr (7, [some (some 27)]), .inl 8, .inr (7, [some (some 29)]), .inl 8, .inr (8, [some (some 31), some (some 33), some (some 35), none]), .inr (7, [some (some 32)]), .inl 40, .inr (7, [some (some 34)]), .inl 40, .inr (7, [some (some 36)]), .inl 40, .inr (5, [some (some 1), some (some 12), some (some 38), none, none, none, none, none, none]), .inr (7, [some (some 39)]), .inl 4, .inr (4, [some (some 1), some (some 12), some (some 37), some (some 41), none]), .inr (8, [some (some 42), some (some 44), some (some 46), none]), .inr (7, [some (some 43)]), .inl 40, .inr (7, [some (some 45)]), .inl 40, .inr (7, [some (some 47)]), .inl 40, .inr (1, [some (some 49), none, none]), .inr (7, [some (some 50)]), .inl 24, .inr (6, [some (some 52), none, none, none]), .inr (7, [some (some 53)]), .inl 4, .inr (1, [some (some 55), none, none]), .inr (7, [some (some 56)]), .inl 40, .inr (10, [some (some 58), some (some 59), some (some 60), some (some 61), none, some (some 62), none, some (some 63), some (some 64), some (some 65), some (some 66), some (some 67), some (some 68), none, some (some 69), some (some 70), some (some 71), some (some 72), none, none, none, none, none, none, some (some 73), none, some (some 74), some (some 75), some (some 76), some (some 77), none, some (some 78), some (some 79), some none, none, none, some none, some none, none]), .inl 6, .inl 6, .inl 6, .inl 6, .inl 32, .inl 16, .inl 16, .inl 16, .inl 16, .inl 16, .inl 6, .inl 40, .inl 40, .inl 40, .inl 4, .inl 8, .inl 200, .inl 200, .inl 200, .inl 24, .inl 35, .inl 7, .inl 28] : List xS), x_u (x_u (x_u (x_u (x_u (x_u (x_u (x_u (x_u (x_u (x_u (x_u (x_u (x_u (x_u (x_u (x_u (x_u (x_u (x_u (x_u (x_u (x_u (x_u (x_z (x_u (x_u (x_u (x_u (x_u (x_u (x_u (x_z (x_u (x_u (x_u (x_u (x_u (x_u (x_u (x_u (x_u (x_u (x_u (x_u (x_u (x_u (x_u (x_u (x_u (x_u (x_u (x_u (x_u (x_u (x_u (x_u (x_u (x_u (x_u (x_u (x_u (x_u (x_u (x_u (x_u (x_u (x_u (x_z (x_z (x_z (x_z (x_z (x_z (x_z (x_z (x_z (x_z (x_z (x_z (x_z (x_z (x_z (x_z (x_z (x_z (x_z (x_z (x_z (w2) 58) 59) 60) 61) 62) 63) 64) 65) 66) 67) 68) 69) 70) 71) 72) 73) 74) 75) 76) 77) 78) 78 0 114) 78 1 111) 78 2 111) 78 3 109) 78 4 0) 78 5 110) 78 6 101) 78 7 97) 78 8 114) 78 9 0) 78 10 110) 78 11 101) 78 12 116) 78 13 0) 78 14 0) 78 15 115) 78 16 99) 78 17 101) 78 18 110) 78 19 101) 78 20 103) 78 21 117) 78 22 97) 78 23 114) 78 24 100) 78 25 108) 78 26 105) 78 27 102) 78 28 116) 78 29 0) 78 30 107) 78 31 101) 78 32 101) 78 33 112) 78 34 0) 79) 79 0 2) 79 1 3) 79 2 2) 79 3 4) 79 4 3) 79 5 2) 79 6 3) 80) 80 0 5) 80 1 3) 80 2 0) 80 3 0) 80 4 5) 80 5 5) 80 6 1) 80 7 0) 80 8 5) 80 9 5) 80 10 0) 80 11 0) 80 12 3) 80 13 3) 80 14 3) 80 15 3) 80 16 15) 80 17 1) 80 18 3) 80 19 0) 80 20 15) 80 21 3) 80 22 0) 80 23 0), 23, 968)
    refine And.intro (show ¬ (_ ∨ _) by decide) ?_
    change x_wp _ _ _ _ _ _ 1639 (535, [some (.ref 57)], [.ref 80, .ref 57], (([.inr (9, [some (some 1), some (some 12), some (some 23), some (some 30), some (some 37), some (some 40), some (some 48), some (some 51), some (some 54)]), .inr (0, [some (some 2), some (some 4), some (some 6), some (some 8), some (some 10), none]), .inr (7, [some (some 3)]), .inl 6, .inr (7, [some (some 5)]), .inl 6, .inr (7, [some (some 7)]), .inl 6, .inr (7, [some (some 9)]), .inl 6, .inr (7, [some (some 11)]), .inl 32, .inr (3, [some (some 1), some (some 13), some (some 15), some (some 17), some (some 19), some (some 21), none]), .inr (7, [some (some 14)]), .inl 16, .inr (7, [some (some 16)]), .inl 16, .inr (7, [some (some 18)]), .inl 16, .inr (7, [some (some 20)]), .inl 16, .inr (7, [some (some 22)]), .inl 16, .inr (2, [some (some 24), some (some 26), some (some 28), none]), .inr (7, [some (some 25)]), .inl 8, .inr (7, [some (some 27)]), .inl 8, .inr (7, [some (some 29)]), .inl 8, .inr (8, [some (some 31), some (some 33), some (some 35), none]), .inr (7, [some (some 32)]), .inl 40, .inr (7, [some (some 34)]), .inl 40, .inr (7, [some (some 36)]), .inl 40, .inr (5, [some (some 1), some (some 12), some (some 38), none, none, none, none, none, none]), .inr (7, [some (some 39)]), .inl 4, .inr (4, [some (some 1), some (some 12), some (some 37), some (some 41), none]), .inr (8, [some (some 42), some (some 44), some (some 46), none]), .inr (7, [some (some 43)]), .inl 40, .inr (7, [some (some 45)]), .inl 40, .inr (7, [some (some 47)]), .inl 40, .inr (1, [some (some 49), none, none]), .inr (7, [some (some 50)]), .inl 24, .inr (6, [some (some 52), none, none, none]), .inr (7, [some (some 53)]), .inl 4, .inr (1, [some (some 55), none, none]), .inr (7, [some (some 56)]), .inl 40, .inr (10, [some (some 58), some (some 59), some (some 60), some (some 61), none, some (some 62), none, some (some 63), some (some 64), some (some 65), some (some 66), some (some 67), some (some 68), none, some (some 69), some (some 70), some (some 71), some (some 72), none, none, none, none, none, none, some (some 73), none, some (some 74), some (some 75), some (some 76), some (some 77), none, some (some 78), some (some 79), some none, none, none, some none, some none, none]), .inl 6, .inl 6, .inl 6, .inl 6, .inl 32, .inl 16, .inl 16, .inl 16, .inl 16, .inl 16, .inl 6, .inl 40, .inl 40, .inl 40, .inl 4, .inl 8, .inl 200, .inl 200, .inl 200, .inl 24, .inl 35, .inl 7, .inl 28] : List xS), x_u (x_u (x_u (x_u (x_u (x_u (x_u (x_u (x_u (x_u (x_u (x_u (x_u (x_u (x_u (x_u (x_u (x_u (x_u (x_u (x_u (x_u (x_u (x_u (x_u (x_z (x_u (x_u (x_u (x_u (x_u (x_u (x_u (x_z (x_u (x_u (x_u (x_u (x_u (x_u (x_u (x_u (x_u (x_u (x_u (x_u (x_u (x_u (x_u (x_u (x_u (x_u (x_u (x_u (x_u (x_u (x_u (x_u (x_u (x_u (x_u (x_u (x_u (x_u (x_u (x_u (x_u (x_u (x_u (x_z (x_z (x_z (x_z (x_z (x_z (x_z (x_z (x_z (x_z (x_z (x_z (x_z (x_z (x_z (x_z (x_z (x_z (x_z (x_z (x_z (w2) 58) 59) 60) 61) 62) 63) 64) 65) 66) 67) 68) 69) 70) 71) 72) 73) 74) 75) 76) 77) 78) 78 0 114) 78 1 111) 78 2 111) 78 3 109) 78 4 0) 78 5 110) 78 6 101) 78 7 97) 78 8 114) 78 9 0) 78 10 110) 78 11 101) 78 12 116) 78 13 0) 78 14 0) 78 15 115) 78 16 99) 78 17 101) 78 18 110) 78 19 101) 78 20 103) 78 21 117) 78 22 97) 78 23 114) 78 24 100) 78 25 108) 78 26 105) 78 27 102) 78 28 116) 78 29 0) 78 30 107) 78 31 101) 78 32 101) 78 33 112) 78 34 0) 79) 79 0 2) 79 1 3) 79 2 2) 79 3 4) 79 4 3) 79 5 2) 79 6 3) 80) 80 0 5) 80 1 3) 80 2 0) 80 3 0) 80 4 5) 80 5 5) 80 6 1) 80 7 0) 80 8 5) 80 9 5) 80 10 0) 80 11 0) 80 12 3) 80 13 3) 80 14 3) 80 15 3) 80 16 15) 80 17 1) 80 18 3) 80 19 0) 80 20 15) 80 21 3) 80 22 0) 80 23 0) 80 24 5), 23, 968)
    refine And.intro (show ¬ (_ ∨ _) by decide) ?_
    change x_wp _ _ _ _ _ _ 1635 (541, [some (.ref 57)], [.ref 80, .ref 57], (([.inr (9, [some (some 1), some (some 12), some (some 23), some (some 30), some (some 37), some (some 40), some (some 48), some (some 51), some (some 54)]), .inr (0, [some (some 2), some (some 4), some (some 6), some (some 8), some (some 10), none]), .inr (7, [some (some 3)]), .inl 6, .inr (7, [some (some 5)]), .inl 6, .inr (7, [some (some 7)]), .inl 6, .inr (7, [some (some 9)]), .inl 6, .inr (7, [some (some 11)]), .inl 32, .inr (3, [some (some 1), some (some 13), some (some 15), some (some 17), some (some 19), some (some 21), none]), .inr (7, [some (some 14)]), .inl 16, .inr (7, [some (some 16)]), .inl 16, .inr (7, [some (some 18)]), .inl 16, .inr (7, [some (some 20)]), .inl 16, .inr (7, [some (some 22)]), .inl 16, .inr (2, [some (some 24), some (some 26), some (some 28), none]), .inr (7, [some (some 25)]), .inl 8, .inr (7, [some (some 27)]), .inl 8, .inr (7, [some (some 29)]), .inl 8, .inr (8, [some (some 31), some (some 33), some (some 35), none]), .inr (7, [some (some 32)]), .inl 40, .inr (7, [some (some 34)]), .inl 40, .inr (7, [some (some 36)]), .inl 40, .inr (5, [some (some 1), some (some 12), some (some 38), none, none, none, none, none, none]), .inr (7, [some (some 39)]), .inl 4, .inr (4, [some (some 1), some (some 12), some (some 37), some (some 41), none]), .inr (8, [some (some 42), some (some 44), some (some 46), none]), .inr (7, [some (some 43)]), .inl 40, .inr (7, [some (some 45)]), .inl 40, .inr (7, [some (some 47)]), .inl 40, .inr (1, [some (some 49), none, none]), .inr (7, [some (some 50)]), .inl 24, .inr (6, [some (some 52), none, none, none]), .inr (7, [some (some 53)]), .inl 4, .inr (1, [some (some 55), none, none]), .inr (7, [some (some 56)]), .inl 40, .inr (10, [some (some 58), some (some 59), some (some 60), some (some 61), none, some (some 62), none, some (some 63), some (some 64), some (some 65), some (some 66), some (some 67), some (some 68), none, some (some 69), some (some 70), some (some 71), some (some 72), none, none, none, none, none, none, some (some 73), none, some (some 74), some (some 75), some (some 76), some (some 77), none, some (some 78), some (some 79), some none, none, none, some none, some none, none]), .inl 6, .inl 6, .inl 6, .inl 6, .inl 32, .inl 16, .inl 16, .inl 16, .inl 16, .inl 16, .inl 6, .inl 40, .inl 40, .inl 40, .inl 4, .inl 8, .inl 200, .inl 200, .inl 200, .inl 24, .inl 35, .inl 7, .inl 28] : List xS), x_u (x_u (x_u (x_u (x_u (x_u (x_u (x_u (x_u (x_u (x_u (x_u (x_u (x_u (x_u (x_u (x_u (x_u (x_u (x_u (x_u (x_u (x_u (x_u (x_u (x_u (x_z (x_u (x_u (x_u (x_u (x_u (x_u (x_u (x_z (x_u (x_u (x_u (x_u (x_u (x_u (x_u (x_u (x_u (x_u (x_u (x_u (x_u (x_u (x_u (x_u (x_u (x_u (x_u (x_u (x_u (x_u (x_u (x_u (x_u (x_u (x_u (x_u (x_u (x_u (x_u (x_u (x_u (x_u (x_u (x_z (x_z (x_z (x_z (x_z (x_z (x_z (x_z (x_z (x_z (x_z (x_z (x_z (x_z (x_z (x_z (x_z (x_z (x_z (x_z (x_z (w2) 58) 59) 60) 61) 62) 63) 64) 65) 66) 67) 68) 69) 70) 71) 72) 73) 74) 75) 76) 77) 78) 78 0 114) 78 1 111) 78 2 111) 78 3 109) 78 4 0) 78 5 110) 78 6 101) 78 7 97) 78 8 114) 78 9 0) 78 10 110) 78 11 101) 78 12 116) 78 13 0) 78 14 0) 78 15 115) 78 16 99) 78 17 101) 78 18 110) 78 19 101) 78 20 103) 78 21 117) 78 22 97) 78 23 114) 78 24 100) 78 25 108) 78 26 105) 78 27 102) 78 28 116) 78 29 0) 78 30 107) 78 31 101) 78 32 101) 78 33 112) 78 34 0) 79) 79 0 2) 79 1 3) 79 2 2) 79 3 4) 79 4 3) 79 5 2) 79 6 3) 80) 80 0 5) 80 1 3) 80 2 0) 80 3 0) 80 4 5) 80 5 5) 80 6 1) 80 7 0) 80 8 5) 80 9 5) 80 10 0) 80 11 0) 80 12 3) 80 13 3) 80 14 3) 80 15 3) 80 16 15) 80 17 1) 80 18 3) 80 19 0) 80 20 15) 80 21 3) 80 22 0) 80 23 0) 80 24 5) 80 25 9), 23, 968)
    refine And.intro (show ¬ (_ ∨ _) by decide) ?_
    change x_wp _ _ _ _ _ _ 1631 (546, [some (.ref 57)], [.ref 80, .ref 57], (([.inr (9, [some (some 1), some (some 12), some (some 23), some (some 30), some (some 37), some (some 40), some (some 48), some (some 51), some (some 54)]), .inr (0, [some (some 2), some (some 4), some (some 6), some (some 8), some (some 10), none]), .inr (7, [some (some 3)]), .inl 6, .inr (7, [some (some 5)]), .inl 6, .inr (7, [some (some 7)]), .inl 6, .inr (7, [some (some 9)]), .inl 6, .inr (7, [some (some 11)]), .inl 32, .inr (3, [some (some 1), some (some 13), some (some 15), some (some 17), some (some 19), some (some 21), none]), .inr (7, [some (some 14)]), .inl 16, .inr (7, [some (some 16)]), .inl 16, .inr (7, [some (some 18)]), .inl 16, .inr (7, [some (some 20)]), .inl 16, .inr (7, [some (some 22)]), .inl 16, .inr (2, [some (some 24), some (some 26), some (some 28), none]), .inr (7, [some (some 25)]), .inl 8, .inr (7, [some (some 27)]), .inl 8, .inr (7, [some (some 29)]), .inl 8, .inr (8, [some (some 31), some (some 33), some (some 35), none]), .inr (7, [some (some 32)]), .inl 40, .inr (7, [some (some 34)]), .inl 40, .inr (7, [some (some 36)]), .inl 40, .inr (5, [some (some 1), some (some 12), some (some 38), none, none, none, none, none, none]), .inr (7, [some (some 39)]), .inl 4, .inr (4, [some (some 1), some (some 12), some (some 37), some (some 41), none]), .inr (8, [some (some 42), some (some 44), some (some 46), none]), .inr (7, [some (some 43)]), .inl 40, .inr (7, [some (some 45)]), .inl 40, .inr (7, [some (some 47)]), .inl 40, .inr (1, [some (some 49), none, none]), .inr (7, [some (some 50)]), .inl 24, .inr (6, [some (some 52), none, none, none]), .inr (7, [some (some 53)]), .inl 4, .inr (1, [some (some 55), none, none]), .inr (7, [some (some 56)]), .inl 40, .inr (10, [some (some 58), some (some 59), some (some 60), some (some 61), none, some (some 62), none, some (some 63), some (some 64), some (some 65), some (some 66), some (some 67), some (some 68), none, some (some 69), some (some 70), some (some 71), some (some 72), none, none, none, none, none, none, some (some 73), none, some (some 74), some (some 75), some (some 76), some (some 77), none, some (some 78), some (some 79), some none, none, none, some none, some none, none]), .inl 6, .inl 6, .inl 6, .inl 6, .inl 32, .inl 16, .inl 16, .inl 16, .inl 16, .inl 16, .inl 6, .inl 40, .inl 40, .inl 40, .inl 4, .inl 8, .inl 200, .inl 200, .inl 200, .inl 24, .inl 35, .inl 7, .inl 28] : List xS), x_u (x_u (x_u (x_u (x_u (x_u (x_u (x_u (x_u (x_u (x_u (x_u (x_u (x_u (x_u (x_u (x_u (x_u (x_u (x_u (x_u (x_u (x_u (x_u (x_u (x_u (x_u (x_z (x_u (x_u (x_u (x_u (x_u (x_u (x_u (x_z (x_u (x_u (x_u (x_u (x_u (x_u (x_u (x_u (x_u (x_u (x_u (x_u (x_u (x_u (x_u (x_u (x_u (x_u (x_u (x_u (x_u (x_u (x_u (x_u (x_u (x_u (x_u (x_u (x_u (x_u (x_u (x_u (x_u (x_u (x_u (x_z (x_z (x_z (x_z (x_z (x_z (x_z (x_z (x_z (x_z (x_z (x_z (x_z (x_z (x_z (x_z (x_z (x_z (x_z (x_z (x_z (w2) 58) 59) 60) 61) 62) 63) 64) 65) 66) 67) 68) 69) 70) 71) 72) 73) 74) 75) 76) 77) 78) 78 0 114) 78 1 111) 78 2 111) 78 3 109) 78 4 0) 78 5 110) 78 6 101) 78 7 97) 78 8 114) 78 9 0) 78 10 110) 78 11 101) 78 12 116) 78 13 0) 78 14 0) 78 15 115) 78 16 99) 78 17 101) 78 18 110) 78 19 101) 78 20 103) 78 21 117) 78 22 97) 78 23 114) 78 24 100) 78 25 108) 78 26 105) 78 27 102) 78 28 116) 78 29 0) 78 30 107) 78 31 101) 78 32 101) 78 33 112) 78 34 0) 79) 79 0 2) 79 1 3) 79 2 2) 79 3 4) 79 4 3) 79 5 2) 79 6 3) 80) 80 0 5) 80 1 3) 80 2 0) 80 3 0) 80 4 5) 80 5 5) 80 6 1) 80 7 0) 80 8 5) 80 9 5) 80 10 0) 80 11 0) 80 12 3) 80 13 3) 80 14 3) 80 15 3) 80 16 15) 80 17 1) 80 18 3) 80 19 0) 80 20 15) 80 21 3) 80 22 0) 80 23 0) 80 24 5) 80 25 9) 80 26 3), 23, 968)
    refine And.intro (show ¬ (_ ∨ _) by decide) ?_
    change x_wp _ _ _ _ _ _ 1627 (551, [some (.ref 57)], [.ref 80, .ref 57], (([.inr (9, [some (some 1), some (some 12), some (some 23), some (some 30), some (some 37), some (some 40), some (some 48), some (some 51), some (some 54)]), .inr (0, [some (some 2), some (some 4), some (some 6), some (some 8), some (some 10), none]), .inr (7, [some (some 3)]), .inl 6, .inr (7, [some (some 5)]), .inl 6, .inr (7, [some (some 7)]), .inl 6, .inr (7, [some (some 9)]), .inl 6, .inr (7, [some (some 11)]), .inl 32, .inr (3, [some (some 1), some (some 13), some (some 15), some (some 17), some (some 19), some (some 21), none]), .inr (7, [some (some 14)]), .inl 16, .inr (7, [some (some 16)]), .inl 16, .inr (7, [some (some 18)]), .inl 16, .inr (7, [some (some 20)]), .inl 16, .inr (7, [some (some 22)]), .inl 16, .inr (2, [some (some 24), some (some 26), some (some 28), none]), .inr (7, [some (some 25)]), .inl 8, .inr (7, [some (some 27)]), .inl 8, .inr (7, [some (some 29)]), .inl 8, .inr (8, [some (some 31), some (some 33), some (some 35), none]), .inr (7, [some (some 32)]), .inl 40, .inr (7, [some (some 34)]), .inl 40, .inr (7, [some (some 36)]), .inl 40, .inr (5, [some (some 1), some (some 12), some (some 38), none, none, none, none, none, none]), .inr (7, [some (some 39)]), .inl 4, .inr (4, [some (some 1), some (some 12), some (some 37), some (some 41), none]), .inr (8, [some (some 42), some (some 44), some (some 46), none]), .inr (7, [some (some 43)]), .inl 40, .inr (7, [some (some 45)]), .inl 40, .inr (7, [some (some 47)]), .inl 40, .inr (1, [some (some 49), none, none]), .inr (7, [some (some 50)]), .inl 24, .inr (6, [some (some 52), none, none, none]), .inr (7, [some (some 53)]), .inl 4, .inr (1, [some (some 55), none, none]), .inr (7, [some (some 56)]), .inl 40, .inr (10, [some (some 58), some (some 59), some (some 60), some (some 61), none, some (some 62), none, some (some 63), some (some 64), some (some 65), some (some 66), some (some 67), some (some 68), none, some (some 69), some (some 70), some (some 71), some (some 72), none, none, none, none, none, none, some (some 73), none, some (some 74), some (some 75), some (some 76), some (some 77), none, some (some 78), some (some 79), some none, none, none, some none, some none, none]), .inl 6, .inl 6, .inl 6, .inl 6, .inl 32, .inl 16, .inl 16, .inl 16, .inl 16, .inl 16, .inl 6, .inl 40, .inl 40, .inl 40, .inl 4, .inl 8, .inl 200, .inl 200, .inl 200, .inl 24, .inl 35, .inl 7, .inl 28] : List xS), x_u (x_u (x_u (x_u (x_u (x_u (x_u (x_u (x_u (x_u (x_u (x_u (x_u (x_u (x_u (x_u (x_u (x_u (x_u (x_u (x_u (x_u (x_u (x_u (x_u (x_u (x_u (x_u (x_z (x_u (x_u (x_u (x_u (x_u (x_u (x_u (x_z (x_u (x_u (x_u (x_u (x_u (x_u (x_u (x_u (x_u (x_u (x_u (x_u (x_u (x_u (x_u (x_u (x_u (x_u (x_u (x_u (x_u (x_u (x_u (x_u (x_u (x_u (x_u (x_u (x_u (x_u (x_u (x_u (x_u (x_u (x_u (x_z (x_z (x_z (x_z (x_z (x_z (x_z (x_z (x_z (x_z (x_z (x_z (x_z (x_z (x_z (x_z (x_z (x_z (x_z (x_z (x_z (w2) 58) 59) 60) 61) 62) 63) 64) 65) 66) 67) 68) 69) 70) 71) 72) 73) 74) 75) 76) 77) 78) 78 0 114) 78 1 111) 78 2 111) 78 3 109) 78 4 0) 78 5 110) 78 6 101) 78 7 97) 78 8 114) 78 9 0) 78 10 110) 78 11 101) 78 12 116) 78 13 0) 78 14 0) 78 15 115) 78 16 99) 78 17 101) 78 18 110) 78 19 101) 78 20 103) 78 21 117) 78 22 97) 78 23 114) 78 24 100) 78 25 108) 78 26 105) 78 27 102) 78 28 116) 78 29 0) 78 30 107) 78 31 101) 78 32 101) 78 33 112) 78 34 0) 79) 79 0 2) 79 1 3) 79 2 2) 79 3 4) 79 4 3) 79 5 2) 79 6 3) 80) 80 0 5) 80 1 3) 80 2 0) 80 3 0) 80 4 5) 80 5 5) 80 6 1) 80 7 0) 80 8 5) 80 9 5) 80 10 0) 80 11 0) 80 12 3) 80 13 3) 80 14 3) 80 15 3) 80 16 15) 80 17 1) 80 18 3) 80 19 0) 80 20 15) 80 21 3) 80 22 0) 80 23 0) 80 24 5) 80 25 9) 80 26 3) 80 27 0), 23, 968)
    refine And.intro ⟨by decide, Nat.le_of_ble_eq_true rfl, Nat.le_of_ble_eq_true rfl, Nat.le_of_ble_eq_true rfl, Nat.le_of_ble_eq_true rfl⟩ ?_
    change x_wp _ _ _ _ _ _ 1623 (558, [some (.ref 57)], [.ref 81, .ref 57], (([.inr (9, [some (some 1), some (some 12), some (some 23), some (some 30), some (some 37), some (some 40), some (some 48), some (some 51), some (some 54)]), .inr (0, [some (some 2), some (some 4), some (some 6), some (some 8), some (some 10), none]), .inr (7, [some (some 3)]), .inl 6, .inr (7, [some (some 5)]), .inl 6, .inr (7, [some (some 7)]), .inl 6, .inr (7, [some (some 9)]), .inl 6, .inr (7, [some (some 11)]), .inl 32, .inr (3, [some (some 1), some (some 13), some (some 15), some (some 17), some (some 19), some (some 21), none]), .inr (7, [some (some 14)]), .inl 16, .inr (7, [some (some 16)]), .inl 16, .inr (7, [some (some 18)]), .inl 16, .inr (7, [some (some 20)]), .inl 16, .inr (7, [some (some 22)]), .inl 16, .inr (2, [some (some 24), some (some 26), some (some 28), none]), .inr (7, [some (some 25)]), .inl 8, .inr (7, [some (some 27)]), .inl 8, .inr (7, [some (some 29)]), .inl 8, .inr (8, [some (some 31), some (some 33), some (some 35), none]), .inr (7, [some (some 32)]), .inl 40, .inr (7, [some (some 34)]), .inl 40, .inr (7, [some (some 36)]), .inl 40, .inr (5, [some (some 1), some (some 12), some (some 38), none, none, none, none, none, none]), .inr (7, [some (some 39)]), .inl 4, .inr (4, [some (some 1), some (some 12), some (some 37), some (some 41), none]), .inr (8, [some (some 42), some (some 44), some (some 46), none]), .inr (7, [some (some 43)]), .inl 40, .inr (7, [some (some 45)]), .inl 40, .inr (7, [some (some 47)]), .inl 40, .inr (1, [some (some 49), none, none]), .inr (7, [some (some 50)]), .inl 24, .inr (6, [some (some 52), none, none, none]), .inr (7, [some (some 53)]), .inl 4, .inr (1, [some (some 55), none, none]), .inr (7, [some (some 56)]), .inl 40, .inr (10, [some (some 58), some (some 59), some (some 60), some (some 61), none, some (some 62), none, some (some 63), some (some 64), some (some 65), some (some 66), some (some 67), some (some 68), none, some (some 69), some (some 70), some (some 71), some (some 72), none, none, none, none, none, none, some (some 73), none, some (some 74), some (some 75), some (some 76), some (some 77), none, some (some 78), some (some 79), some (some 80), none, none, some none, some none, none]), .inl 6, .inl 6, .inl 6, .inl 6, .inl 32, .inl 16, .inl 16, .inl 16, .inl 16, .inl 16, .inl 6, .inl 40, .inl 40, .inl 40, .inl 4, .inl 8, .inl 200, .inl 200, .inl 200, .inl 24, .inl 35, .inl 7, .inl 28, .inl 4] : List xS), x_z (x_u (x_u (x_u (x_u (x_u (x_u (x_u (x_u (x_u (x_u (x_u (x_u (x_u (x_u (x_u (x_u (x_u (x_u (x_u (x_u (x_u (x_u (x_u (x_u (x_u (x_u (x_u (x_u (x_z (x_u (x_u (x_u (x_u (x_u (x_u (x_u (x_z (x_u (x_u (x_u (x_u (x_u (x_u (x_u (x_u (x_u (x_u (x_u (x_u (x_u (x_u (x_u (x_u (x_u (x_u (x_u (x_u (x_u (x_u (x_u (x_u (x_u (x_u (x_u (x_u (x_u (x_u (x_u (x_u (x_u (x_u (x_u (x_z (x_z (x_z (x_z (x_z (x_z (x_z (x_z (x_z (x_z (x_z (x_z (x_z (x_z (x_z (x_z (x_z (x_z (x_z (x_z (x_z (w2) 58) 59) 60) 61) 62) 63) 64) 65) 66) 67) 68) 69) 70) 71) 72) 73) 74) 75) 76) 77) 78) 78 0 114) 78 1 111) 78 2 111) 78 3 109) 78 4 0) 78 5 110) 78 6 101) 78 7 97) 78 8 114) 78 9 0) 78 10 110) 78 11 101) 78 12 116) 78 13 0) 78 14 0) 78 15 115) 78 16 99) 78 17 101) 78 18 110) 78 19 101) 78 20 103) 78 21 117) 78 22 97) 78 23 114) 78 24 100) 78 25 108) 78 26 105) 78 27 102) 78 28 116) 78 29 0) 78 30 107) 78 31 101) 78 32 101) 78 33 112) 78 34 0) 79) 79 0 2) 79 1 3) 79 2 2) 79 3 4) 79 4 3) 79 5 2) 79 6 3) 80) 80 0 5) 80 1 3) 80 2 0) 80 3 0) 80 4 5) 80 5 5) 80 6 1) 80 7 0) 80 8 5) 80 9 5) 80 10 0) 80 11 0) 80 12 3) 80 13 3) 80 14 3) 80 15 3) 80 16 15) 80 17 1) 80 18 3) 80 19 0) 80 20 15) 80 21 3) 80 22 0) 80 23 0) 80 24 5) 80 25 9) 80 26 3) 80 27 0) 81), 24, 972)
    refine And.intro ⟨by decide, Nat.le_of_ble_eq_true rfl, Nat.le_of_ble_eq_true rfl, Nat.le_of_ble_eq_true rfl, Nat.le_of_ble_eq_true rfl⟩ ?_
    change x_wp _ _ _ _ _ _ 1619 (566, [some (.ref 57)], [.ref 82, .ref 57], (([.inr (9, [some (some 1), some (some 12), some (some 23), some (some 30), some (some 37), some (some 40), some (some 48), some (some 51), some (some 54)]), .inr (0, [some (some 2), some (some 4), some (some 6), some (some 8), some (some 10), none]), .inr (7, [some (some 3)]), .inl 6, .inr (7, [some (some 5)]), .inl 6, .inr (7, [some (some 7)]), .inl 6, .inr (7, [some (some 9)]), .inl 6, .inr (7, [some (some 11)]), .inl 32, .inr (3, [some (some 1), some (some 13), some (some 15), some (some 17), some (some 19), some (some 21), none]), .inr (7, [some (some 14)]), .inl 16, .inr (7, [some (some 16)]), .inl 16, .inr (7, [some (some 18)]), .inl 16, .inr (7, [some (some 20)]), .inl 16, .inr (7, [some (some 22)]), .inl 16, .inr (2, [some (some 24), some (some 26), some (some 28), none]), .inr (7, [some (some 25)]), .inl 8, .inr (7, [some (some 27)]), .inl 8, .inr (7, [some (some 29)]), .inl 8, .inr (8, [some (some 31), some (some 33), some (some 35), none]), .inr (7, [some (some 32)]), .inl 40, .inr (7, [some (some 34)]), .inl 40, .inr (7, [some (some 36)]), .inl 40, .inr (5, [some (some 1), some (some 12), some (some 38), none, none, none, none, none, none]), .inr (7, [some (some 39)]), .inl 4, .inr (4, [some (some 1), some (some 12), some (some 37), some (some 41), none]), .inr (8, [some (some 42), some (some 44), some (some 46), none]), .inr (7, [some (some 43)]), .inl 40, .inr (7, [some (some 45)]), .inl 40, .inr (7, [some (some 47)]), .inl 40, .inr (1, [some (some 49), none, none]), .inr (7, [some (some 50)]), .inl 24, .inr (6, [some (some 52), none, none, none]), .inr (7, [some (some 53)]), .inl 4, .inr (1, [some (some 55), none, none]), .inr (7, [some (some 56)]), .inl 40, .inr (10, [some (some 58), some (some 59), some (some 60), some (some 61), none, some (some 62), none, some (some 63), some (some 64), some (some 65), some (some 66), some (some 67), some (some 68), none, some (some 69), some (some 70), some (some 71), some (some 72), none, none, none, none, none, none, some (some 73), none, some (some 74), some (some 75), some (some 76), some (some 77), none, some (some 78), some (some 79), some (some 80), none, none, some (some 81), some none, none]), .inl 6, .inl 6, .inl 6, .inl 6, .inl 32, .inl 16, .inl 16, .inl 16, .inl 16, .inl 16, .inl 6, .inl 40, .inl 40, .inl 40, .inl 4, .inl 8, .inl 200, .inl 200, .inl 200, .inl 24, .inl 35, .inl 7, .inl 28, .inl 4, .inl 40] : List xS), x_z (x_z (x_u (x_u (x_u (x_u (x_u (x_u (x_u (x_u (x_u (x_u (x_u (x_u (x_u (x_u (x_u (x_u (x_u (x_u (x_u (x_u (x_u (x_u (x_u (x_u (x_u (x_u (x_u (x_u (x_z (x_u (x_u (x_u (x_u (x_u (x_u (x_u (x_z (x_u (x_u (x_u (x_u (x_u (x_u (x_u (x_u (x_u (x_u (x_u (x_u (x_u (x_u (x_u (x_u (x_u (x_u (x_u (x_u (x_u (x_u (x_u (x_u (x_u (x_u (x_u (x_u (x_u (x_u (x_u (x_u (x_u (x_u (x_u (x_z (x_z (x_z (x_z (x_z (x_z (x_z (x_z (x_z (x_z (x_z (x_z (x_z (x_z (x_z (x_z (x_z (x_z (x_z (x_z (x_z (w2) 58) 59) 60) 61) 62) 63) 64) 65) 66) 67) 68) 69) 70) 71) 72) 73) 74) 75) 76) 77) 78) 78 0 114) 78 1 111) 78 2 111) 78 3 109) 78 4 0) 78 5 110) 78 6 101) 78 7 97) 78 8 114) 78 9 0) 78 10 110) 78 11 101) 78 12 116) 78 13 0) 78 14 0) 78 15 115) 78 16 99) 78 17 101) 78 18 110) 78 19 101) 78 20 103) 78 21 117) 78 22 97) 78 23 114) 78 24 100) 78 25 108) 78 26 105) 78 27 102) 78 28 116) 78 29 0) 78 30 107) 78 31 101) 78 32 101) 78 33 112) 78 34 0) 79) 79 0 2) 79 1 3) 79 2 2) 79 3 4) 79 4 3) 79 5 2) 79 6 3) 80) 80 0 5) 80 1 3) 80 2 0) 80 3 0) 80 4 5) 80 5 5) 80 6 1) 80 7 0) 80 8 5) 80 9 5) 80 10 0) 80 11 0) 80 12 3) 80 13 3) 80 14 3) 80 15 3) 80 16 15) 80 17 1) 80 18 3) 80 19 0) 80 20 15) 80 21 3) 80 22 0) 80 23 0) 80 24 5) 80 25 9) 80 26 3) 80 27 0) 81) 82), 25, 1012)
    refine And.intro trivial ?_
    change x_wp _ _ _ _ _ _ 1616 (573, [some (.ref 57)], [], (([.inr (9, [some (some 1), some (some 12), some (some 23), some (some 30), some (some 37), some (some 40), some (some 48), some (some 51), some (some 54)]), .inr (0, [some (some 2), some (some 4), some (some 6), some (some 8), some (some 10), none]), .inr (7, [some (some 3)]), .inl 6, .inr (7, [some (some 5)]), .inl 6, .inr (7, [some (some 7)]), .inl 6, .inr (7, [some (some 9)]), .inl 6, .inr (7, [some (some 11)]), .inl 32, .inr (3, [some (some 1), some (some 13), some (some 15), some (some 17), some (some 19), some (some 21), none]), .inr (7, [some (some 14)]), .inl 16, .inr (7, [some (some 16)]), .inl 16, .inr (7, [some (some 18)]), .inl 16, .inr (7, [some (some 20)]), .inl 16, .inr (7, [some (some 22)]), .inl 16, .inr (2, [some (some 24), some (some 26), some (some 28), none]), .inr (7, [some (some 25)]), .inl 8, .inr (7, [some (some 27)]), .inl 8, .inr (7, [some (some 29)]), .inl 8, .inr (8, [some (some 31), some (some 33), some (some 35), none]), .inr (7, [some (some 32)]), .inl 40, .inr (7, [some (some 34)]), .inl 40, .inr (7, [some (some 36)]), .inl 40, .inr (5, [some (some 1), some (some 12), some (some 38), none, none, none, none, none, none]), .inr (7, [some (some 39)]), .inl 4, .inr (4, [some (some 1), some (some 12), some (some 37), some (some 41), none]), .inr (8, [some (some 42), some (some 44), some (some 46), none]), .inr (7, [some (some 43)]), .inl 40, .inr (7, [some (some 45)]), .inl 40, .inr (7, [some (some 47)]), .inl 40, .inr (1, [some (some 49), none, none]), .inr (7, [some (some 50)]), .inl 24, .inr (6, [some (some 52), none, none, none]), .inr (7, [some (some 53)]), .inl 4, .inr (1, [some (some 55), none, none]), .inr (7, [some (some 56)]), .inl 40, .inr (10, [some (some 58), some (some 59), some (some 60), some (some 61), none, some (some 62), none, some (some 63), some (some 64), some (some 65), some (some 66), some (some 67), some (some 68), none, some (some 69), some (some 70), some (some 71), some (some 72), none, none, none, none, none, none, some (some 73), none, some (some 74), some (some 75), some (some 76), some (some 77), none, some (some 78), some (some 79), some (some 80), none, none, some (some 81), some (some 82), none]), .inl 6, .inl 6, .inl 6, .inl 6, .inl 32, .inl 16, .inl 16, .inl 16, .inl 16, .inl 16, .inl 6, .inl 40, .inl 40, .inl 40, .inl 4, .inl 8, .inl 200, .inl 200, .inl 200, .inl 24, .inl 35, .inl 7, .inl 28, .inl 4, .inl 40] : List xS), x_u (x_u (x_u (x_u (x_u (x_u (x_u (x_u (x_u (x_u (x_u (x_u (x_u (x_u (x_u (x_u (x_u (x_u (x_u (x_u (x_u (x_u (x_u (x_u (x_u (x_u (x_u (x_u (x_u (x_u (x_u (x_u (x_z (x_z (x_u (x_u (x_u (x_u (x_u (x_u (x_u (x_u (x_u (x_u (x_u (x_u (x_u (x_u (x_u (x_u (x_u (x_u (x_u (x_u (x_u (x_u (x_u (x_u (x_u (x_u (x_u (x_u (x_z (x_u (x_u (x_u (x_u (x_u (x_u (x_u (x_z (x_u (x_u (x_u (x_u (x_u (x_u (x_u (x_u (x_u (x_u (x_u (x_u (x_u (x_u (x_u (x_u (x_u (x_u (x_u (x_u (x_u (x_u (x_u (x_u (x_u (x_u (x_u (x_u (x_u (x_u (x_u (x_u (x_u (x_u (x_u (x_z (x_z (x_z (x_z (x_z (x_z (x_z (x_z (x_z (x_z (x_z (x_z (x_z (x_z (x_z (x_z (x_z (x_z (x_z (x_z (x_z (w2) 58) 59) 60) 61) 62) 63) 64) 65) 66) 67) 68) 69) 70) 71) 72) 73) 74) 75) 76) 77) 78) 78 0 114) 78 1 111) 78 2 111) 78 3 109) 78 4 0) 78 5 110) 78 6 101) 78 7 97) 78 8 114) 78 9 0) 78 10 110) 78 11 101) 78 12 116) 78 13 0) 78 14 0) 78 15 115) 78 16 99) 78 17 101) 78 18 110) 78 19 101) 78 20 103) 78 21 117) 78 22 97) 78 23 114) 78 24 100) 78 25 108) 78 26 105) 78 27 102) 78 28 116) 78 29 0) 78 30 107) 78 31 101) 78 32 101) 78 33 112) 78 34 0) 79) 79 0 2) 79 1 3) 79 2 2) 79 3 4) 79 4 3) 79 5 2) 79 6 3) 80) 80 0 5) 80 1 3) 80 2 0) 80 3 0) 80 4 5) 80 5 5) 80 6 1) 80 7 0) 80 8 5) 80 9 5) 80 10 0) 80 11 0) 80 12 3) 80 13 3) 80 14 3) 80 15 3) 80 16 15) 80 17 1) 80 18 3) 80 19 0) 80 20 15) 80 21 3) 80 22 0) 80 23 0) 80 24 5) 80 25 9) 80 26 3) 80 27 0) 81) 82) 65 0 (-9)) 66 0 (-9)) 65 1 (-9)) 66 1 (-9)) 65 2 (-9)) 66 2 (-9)) 65 3 (-9)) 66 3 (-9)) 65 4 (-9)) 66 4 (-9)) 65 5 (-9)) 66 5 (-9)) 65 6 (-9)) 66 6 (-9)) 65 7 (-9)) 66 7 (-9)) 65 8 (-9)) 66 8 (-9)) 65 9 (-9)) 66 9 (-9)) 65 10 (-9)) 66 10 (-9)) 65 11 (-9)) 66 11 (-9)) 65 12 (-9)) 66 12 (-9)) 65 13 (-9)) 66 13 (-9)) 65 14 (-9)) 66 14 (-9)) 65 15 (-9)) 66 15 (-9)), 25, 1012)
    exact ⟨Nat.le_of_ble_eq_true rfl, Nat.le_of_ble_eq_true rfl, rfl, rfl⟩
  · cases hr
def sms_12 : List (Nat × xSm) := (119, sm_X10_init) :: sms_11
theorem vss_12 : ∀ q ∈ sms_12, x_VS q := List.forall_mem_cons.mpr ⟨vs_X10_init, vss_11⟩
end
section
/-! ===== what the law's start gives ===== -/
def x_tm (i : Nat) : Term := Term.string (x_strs.getD i ("", 0, "")).1 (x_strs.getD i ("", 0, "")).2.1
def x_gv : List Cond := flatC (Jvm.Cond.and given_1 narrow_1)
set_option maxRecDepth 100000 in
theorem x_g1 : ∀ i, i < 11 → (Cond.exactly (x_tm i) "java/lang/String") ∈ x_gv := by decide +kernel
set_option maxRecDepth 100000 in
theorem x_g2 : ∀ i, i < 11 → (Cond.eq (.field (x_tm i) "java/lang/String" "coder" "B") (.int 0)) ∈ x_gv := by decide +kernel
set_option maxRecDepth 100000 in
theorem x_g3 : ∀ i, i < 11 → (Cond.arrayOf (.field (x_tm i) "java/lang/String" "value" "[B") .byte) ∈ x_gv := by decide +kernel
set_option maxRecDepth 100000 in
theorem x_g4 : ∀ i, i < 11 → (Cond.eq (.length (.field (x_tm i) "java/lang/String" "value" "[B")) (.int (Int32.ofNat (x_len.getD i 0)))) ∈ x_gv := by decide +kernel
set_option maxRecDepth 100000 in
theorem x_g5 : ∀ i, i < 11 → ∀ j, j < x_len.getD i 0 → (Cond.eq (.elem (.field (x_tm i) "java/lang/String" "value" "[B") (.int (Int32.ofNat j))) (.int ((x_byt.getD i []).getD j 0))) ∈ x_gv := by decide +kernel
set_option maxRecDepth 100000 in
theorem x_g6 : ∀ i, i < 11 → ∀ j, j < 11 → i ≠ j → (Cond.not (Cond.eq (x_tm i) (x_tm j))) ∈ x_gv ∨ (Cond.not (Cond.eq (x_tm j) (x_tm i))) ∈ x_gv := by decide +kernel
set_option maxRecDepth 100000 in
theorem x_g7 : (Cond.eq (.static "java/lang/String" "COMPACT_STRINGS" "Z") (.int 1)) ∈ x_gv ∧ (Cond.isRef (.static "jdk/internal/util/Preconditions" "SIOOBE_FORMATTER" "Ljava/util/function/BiFunction;")) ∈ x_gv := by decide +kernel
theorem x_g8 : ∀ i, i < 11 → x_len.getD i 0 < 2 ^ 31 := by decide +kernel
set_option maxRecDepth 100000 in
theorem x_t1 : ∀ q ∈ x_nest, Cond.methodLinkNest q.1 q.2.1 q.2.2.1 q.2.2.2 ∈ lw_tbl := by decide +kernel
set_option maxRecDepth 100000 in
theorem x_t2 : ∀ q ∈ x_strs, Cond.stringRef q.1 q.2.1 q.2.2 ∈ lw_tbl := by decide +kernel
set_option maxRecDepth 100000 in
theorem x_t3 : (Cond.laysStatic "java/lang/String" "COMPACT_STRINGS" "Z") ∈ lw_tbl ∧ (Cond.initialized "java/lang/String") ∈ lw_tbl ∧ (Cond.laysStatic "jdk/internal/util/Preconditions" "SIOOBE_FORMATTER" "Ljava/util/function/BiFunction;") ∈ lw_tbl ∧ (Cond.initialized "jdk/internal/util/Preconditions") ∈ lw_tbl ∧ (Cond.arrayClass .int) ∈ lw_tbl := by decide +kernel
set_option maxRecDepth 100000 in
theorem x_t4 : ∀ q ∈ vwCl, (Cond.instantiable q.1 q.2.2) ∈ lw_tbl := by decide +kernel
theorem x_tb_sub {w : Cond} (h : w ∈ x_tb) : w ∈ lw_tbl := (List.mem_filter.mp h).1
/-- the world's keepers at the start -/
theorem x_start {s : State} {b L : Nat} {xs : Nat → Int32} {args : Array Value} (hts : ∀ w ∈ lw_tbl, w.before args s = true) (hX : va_X b L xs s s.heap) (hbl : b < s.heap.size) (hL : L ≤ 2560) (hgv : (Jvm.Cond.and given_1 narrow_1).before args s = true) :
    ∃ g : xG, x_h g = s.heap.size ∧ x_b g = b ∧ x_L g = L ∧ x_xs g = xs ∧ x_K g s := by
  have hgv := flat_of_before _ hgv
  have hk : ∀ k : Nat, ∃ (c : ClassId) (i : Nat → Nat), ∀ q : vw_C, vwCl[k]? = some q → u_Kn s q.1 q.2.1 q.2.2 c i := by
    intro k
    cases hq : vwCl[k]? with
    | none => exact ⟨0, fun _ => 0, fun q h => by cases h⟩
    | some q =>
      obtain ⟨c, i, h⟩ := u_known (C := q.1) (T := q.2.1) (N := q.2.2) (n := q.2.2) hts (fun w hw => x_tb_sub ((x_cls k q hq).1 w hw)) (hts _ (x_t4 q (List.mem_of_getElem? hq)))
      exact ⟨c, i, fun q' h' => by cases h'; exact h⟩
  obtain ⟨dC, hk⟩ := Classical.axiomOfChoice hk
  obtain ⟨dI, hk⟩ := Classical.axiomOfChoice hk
  obtain ⟨cA, kA, comp, hfind, hkA, hkind⟩ := Cond.arrayClass_spec (hts _ x_t3.2.2.2.2)
  have hA : ∀ a : Nat, a < s.heap.size → ¬ (fun q : Nat => s.heap.size ≤ q) a := fun a h => Nat.not_le.mpr h
  obtain ⟨adK, adV, hS, hR⟩ := vk_Sof (args := args) (s := s) (N := 11) (tm := x_tm) (len := x_len) (byt := x_byt) (A := fun q : Nat => s.heap.size ≤ q) x_g8 (fun i hi => hgv _ (x_g1 i hi)) (fun i hi => hgv _ (x_g2 i hi)) (fun i hi => hgv _ (x_g3 i hi)) (fun i hi => hgv _ (x_g4 i hi)) (fun i hi j hj => hgv _ (x_g5 i hi j hj))
    (fun i j hi hj hij => (x_g6 i hi j hj hij).elim (fun h => Or.inl (hgv _ h)) (fun h => Or.inr (hgv _ h))) hA
  refine ⟨(s.heap.size, (dC, dI), cA, adK, adV, b, L, xs), rfl, rfl, rfl, rfl, ⟨fun c q hq => hk c q hq, fun k q hq => ?_⟩, fun q hq => va_Nw.of rfl (hts _ (x_t1 q hq)), ⟨hS, fun i q hq => ?_, ?_, ?_⟩, hX, hbl, Nat.le_refl _, hL⟩
  · have hz : k < 1 := (List.getElem?_eq_some_iff.mp hq).1
    rw [show k = 0 by omega] at hq
    cases hq
    exact ⟨fun n z => ⟨fun k h => (by cases h), kA, hkA, comp, hkind⟩, hfind⟩
  · have hi : i < 11 := (List.getElem?_eq_some_iff.mp hq).1
    have e : x_strs.getD i ("", 0, "") = q := by rw [List.getD_eq_getElem?_getD, hq]; rfl
    have h1 := hR i hi
    rw [x_tm, e] at h1
    exact vk_R.of (hts _ (x_t2 q (List.mem_of_getElem? hq))) h1
  · exact va_Zof (hts _ x_t3.1) (hts _ x_t3.2.1) (va_eqi (hgv _ x_g7.1)) hA
  · exact va_Zqof (hts _ x_t3.2.2.1) (hts _ x_t3.2.2.2.1) (hgv _ x_g7.2) hA
end
section
/-! ===== a call by its summary ===== -/
/-- the same for one state -/
theorem x_callW {M : xM} {sums : List (Nat × xSm)} {aux lvx : List Nat} {pc i cs ss : Nat} {lv : List (Option Value)} {st : List Value} {w : xW} {ins : Instr} {g : xG} {p : Program} {l : Launch} {e : Env} {s : State} {m : MethodId} {args : Array Value} {below : List Frame} {meth : Method} {co : Code} {H : Heap} {locs : List Loc} {ls : Array Slot} {Qf : State → Prop} (X : x_X M g p s m args meth co) (hH : x_H g w H) (hS : va_S (x_A g) s.heap H locs) (hL : x_lv g ls M.2.2.1 lv)
    (hsum : ∀ q ∈ sums, x_VS q) (hok : x_okC M i aux = true) (hd : decode M.2.1 pc = .ok (ins, 3)) (hins : (ins = .invokevirtual i ∧ x_kd aux [0] = true) ∨ (ins = .invokestatic i ∧ x_kd aux [1, 4] = true) ∨ (ins = .invokespecial i ∧ x_kd aux [2, 5] = true))
    (h : x_call M.2.2.2.2 sums aux st w cs ss (fun st' w' mc ms => ∀ (H1 : Heap) (locs1 : List Loc), x_H g w' H1 → va_S (x_A g) s.heap H1 locs1 → W p l e M.2.2.2.2 s m args below meth co H1 locs1 (cs + mc) (ss + ms) Qf (F0 m (pc + 3) ls (st'.map (x_v g))))) : W p l e M.2.2.2.2 s m args below meth co H locs cs ss Qf (F0 m pc ls (st.map (x_v g))) := by
  unfold x_call at h
  split at h
  rotate_left
  · exact h.elim
  next mi na kd ci mc ms more =>
  split at h
  rotate_left
  · exact h.elim
  next f hf =>
  split at h
  rotate_left
  · exact h.elim
  next hb =>
  split at h
  rotate_left
  · exact h.elim
  next r hr =>
  obtain ⟨hP, hkk⟩ := h
  have hV := hsum _ (x_sum_in hf) _ _ _ hr hP
  have hG := hkk
  simp only [Bool.and_eq_true, Bool.or_eq_true] at hb
  obtain ⟨⟨hcat, hlen, hrcv⟩, hroom1, hroom2⟩ := hb
  have hcat := Nat.le_of_ble_eq_true hcat
  have hlen : (st.take na).length = na := Nat.eq_of_beq_eq_true hlen
  have hf9 : cs + mc ≤ M.2.2.2.2.cells ∧ ss + ms ≤ M.2.2.2.2.slots := ⟨Nat.le_of_ble_eq_true hroom1, Nat.le_of_ble_eq_true hroom2⟩
  unfold x_okC at hok
  split at hok
  rotate_left
  · cases hok
  next mi' na' kd' ci' mc' ms' wl wi ws wn wc more' he =>
  cases he
  simp only [Bool.and_eq_true, decide_eq_true_eq] at hok
  obtain ⟨⟨⟨⟨hwc, hwn⟩, hy⟩, hrc, hrs, hfr, hlo⟩, hkind⟩ := hok
  obtain ⟨hx, hb, -, -, hml, hown, hts, -, hK⟩ := X
  have hgood : GoodIn (x_ws M) (x_ws (x_m mi)) := x_good (x_tb_of hwc)
  have hini := hts _ (x_wd_in (M := M) hwn)
  have hM := hV g l
  have hpre : ∀ U : State, U.heap = H → s.WarmedH U.vm → x_K g U ∧ x_H g w U.heap := fun U hU hW => ⟨hK.to hW hU hS, by rw [hU]; exact hH⟩
  have hst : st.map (x_v g) = (((st.take na).reverse).map (x_v g)).reverse ++ (st.drop na).map (x_v g) := by
    rw [← List.map_reverse, List.reverse_reverse, ← List.map_append, List.take_append_drop]
  have hcat2 : (((st.drop na).map (x_v g)).map fun v => v.category).sum ≤ 8 := by rw [x_cats]; exact hcat
  have fin : ∀ (a : Array Value), va_Run p l e M.2.2.2.2 s m args below meth co H locs cs ss mc ms (F0 m pc ls (st.map (x_v g))) ((st.drop na).map (x_v g)) (x_Q g (fun a b => a = r.1 ∧ b = r.2.1) a) (x_A g) → W p l e M.2.2.2.2 s m args below meth co H locs cs ss Qf (F0 m pc ls (st.map (x_v g))) := by
    intro a hrun
    refine x_run hrun hS (fun r1 w1 H1 locs1 hq hH1 hS1 => ?_)
    obtain ⟨rfl, rfl⟩ := hq
    have h9 := hG H1 locs1 hH1 hS1
    have e9 : ((r.1.toList ++ st.drop na).map (x_v g)) = (r.1.map (x_v g)).toList ++ (st.drop na).map (x_v g) := by
      rw [List.map_append]
      cases r.1 <;> rfl
    rw [e9] at h9
    exact h9
  subst hrc
  subst hrs
  split at hkind
  -- a virtual call
  · simp only [Bool.and_eq_true, decide_eq_true_eq] at hkind
    obtain ⟨⟨⟨⟨hwl, hwi⟩, hws⟩, hpar, hna⟩, hcls⟩ := hkind
    have hins : ins = .invokevirtual i := by
      rcases hins with h | h | h
      · exact h.1
      · exact absurd h.2 Bool.false_ne_true
      · exact absurd h.2 Bool.false_ne_true
    subst hins
    have hrcv : x_rcv w (st.take na).reverse ci = true := by
      rcases hrcv with (h | h) | h
      · cases h
      · cases h
      · exact h
    obtain ⟨a, tl, hargs⟩ : ∃ a tl, (st.take na).reverse = .ref a :: tl := by
      unfold x_rcv at hrcv
      split at hrcv
      · exact ⟨_, _, by assumption⟩
      · cases hrcv
    rw [hargs] at hM hst hrcv
    have hrec : ∃ cellB : Cell, H[x_ad g a]? = some cellB ∧ cellB.vm.isStatics = false ∧ s.vm.findClass (x_m mi).1.cls = some cellB.cls := by
      unfold x_rcv x_rc at hrcv
      dsimp only at hrcv
      split at hrcv
      · next h99 =>
        rw [h99] at hcls
        simp only [Bool.and_eq_true] at hrcv
        have h1 := Nat.le_of_ble_eq_true hrcv.1
        have h2 := Nat.le_of_ble_eq_true hrcv.2
        obtain ⟨j, rfl⟩ := Nat.le.dest h1
        rw [x_ad_s, of_decide_eq_true hcls]
        exact vk_recv hK.2.2.1.1 (by omega) hS
      · next h99 =>
        rw [h99] at hcls
        dsimp only at hcls
        split at hrcv
        · next o ho =>
          have hci : o.1 = ci := Nat.eq_of_beq_eq_true hrcv
          split at hcls
          · next q hq =>
            rw [← of_decide_eq_true hcls, x_ad_lt (Nat.lt_trans (x_lt ho) hH.2.1)]
            refine va_recv (ci := ci) (q0 := a) hK.1 hH.2.2.1 hq (fs := o.2.mapIdx (fun j f => x_v g (x_fv (w.2 a j) f))) ?_
            rw [x_cs_at ho, ← hci]
            rfl
          · cases hcls
        · cases hrcv
    have hlen2 : tl.length = na - 1 := by
      have := congrArg List.length hargs
      rw [List.length_reverse, hlen] at this
      simp at this
      omega
    refine fin _ (va_runV (As := tl.map (x_v g)) (b := x_ad g a) (C := (x_m mi).1.cls) (n := na - 1) ⟨hx, hb, hml, hown, hts⟩ hM ⟨callB_of (na - 1) hts hgood rfl rfl rfl hini (hts _ (x_wd_in (M := M) hwl)) ⟨hy.1, hy.2, hpar⟩ ⟨hfr, hlo⟩, hts _ (x_wd_in (M := M) hwi), hts _ (x_wd_in (M := M) hws)⟩
      ⟨x_blind, hrec, fun U hU hW => ⟨rfl, hpre U hU hW⟩⟩ rfl (by rw [List.length_map]; exact hlen2) hL.2.1 ?_ (lv_room hcat2) hd hf9)
    rw [hst]
    simp [x_v]
  -- a static one
  · simp only [Bool.and_eq_true, decide_eq_true_eq] at hkind
    obtain ⟨⟨hwl, hwi⟩, hpar⟩ := hkind
    have hins : ins = .invokestatic i := by
      rcases hins with h | h | h
      · exact absurd h.2 Bool.false_ne_true
      · exact h.1
      · exact absurd h.2 Bool.false_ne_true
    subst hins
    exact fin _ (va_runS (As := ((st.take na).reverse).map (x_v g)) (n := na) ⟨hx, hb, hml, hown, hts⟩ hM ⟨callB_of na hts hgood rfl rfl rfl hini (hts _ (x_wd_in (M := M) hwl)) ⟨hy.1, hy.2, hpar⟩ ⟨hfr, hlo⟩, hts _ (x_wd_in (M := M) hwi)⟩
      ⟨x_blind, fun U hU hW => ⟨rfl, hpre U hU hW⟩⟩ rfl (by rw [List.length_map, List.length_reverse]; exact hlen) hL.2.1 hst (lv_room hcat2) hd hf9)
  -- a constructor
  · simp only [Bool.and_eq_true, decide_eq_true_eq] at hkind
    obtain ⟨⟨hwl, hwi⟩, hpar, hna, hname, hret⟩ := hkind
    have hins : ins = .invokespecial i := by
      rcases hins with h | h | h
      · exact absurd h.2 Bool.false_ne_true
      · exact absurd h.2 Bool.false_ne_true
      · exact h.1
    subst hins
    have hrcv : x_rcv w (st.take na).reverse ci = true := by
      rcases hrcv with (h | h) | h
      · cases h
      · cases h
      · exact h
    obtain ⟨a, tl, hargs⟩ : ∃ a tl, (st.take na).reverse = .ref a :: tl := by
      unfold x_rcv at hrcv
      split at hrcv
      · exact ⟨_, _, by assumption⟩
      · cases hrcv
    rw [hargs] at hM hst
    have hlen2 : tl.length = na - 1 := by
      have := congrArg List.length hargs
      rw [List.length_reverse, hlen] at this
      simp at this
      omega
    have hcb := callB_of (own := M.1.cls) (index := i) (y := (x_m mi).1) (bytes := (x_m mi).2.1) (maxL := (x_m mi).2.2.1) (ret := (x_m mi).2.2.2.1) (R := M.2.2.2.2) (rm := (x_m mi).2.2.2.2) (na - 1) hts hgood rfl rfl rfl hini (hts _ (x_wd_in (M := M) hwl)) ⟨hy.1, hy.2, hpar⟩ ⟨hfr, hlo⟩
    rw [hret] at hcb
    refine fin _ (va_runI (As := tl.map (x_v g)) (b := x_ad g a) (n := na - 1) ⟨hx, hb, hml, hown, hts⟩ hM ⟨hcb, hname, hts _ (x_wd_in (M := M) hwi)⟩
      ⟨x_blind, fun U hU hW => ⟨rfl, hpre U hU hW⟩⟩ rfl (by rw [List.length_map]; exact hlen2) hL.2.1 ?_ (lv_room hcat2) hd hf9)
    rw [hst]
    simp [x_v]
  -- a private static one of another class
  · simp only [Bool.and_eq_true, decide_eq_true_eq] at hkind
    obtain ⟨⟨hwl, hwi⟩, hpar⟩ := hkind
    have hins : ins = .invokestatic i := by
      rcases hins with h | h | h
      · exact absurd h.2 Bool.false_ne_true
      · exact h.1
      · exact absurd h.2 Bool.false_ne_true
    subst hins
    have hn := hK.2.1 _ (List.mem_of_getElem? hwl)
    exact fin _ (va_runSN (As := ((st.take na).reverse).map (x_v g)) (n := na) ⟨hx, hb, hml, hown, hts⟩ hM ⟨va_cnB na hts hgood rfl rfl rfl hn hini ⟨hy.1, hy.2, hpar⟩ ⟨hfr, hlo⟩, hts _ (x_wd_in (M := M) hwi), trivial⟩
      ⟨x_blind, fun U hU hW => ⟨rfl, hpre U hU hW⟩⟩ rfl (by rw [List.length_map, List.length_reverse]; exact hlen) hL.2.1 hst (lv_room hcat2) hd hf9)
  -- a private constructor
  · simp only [Bool.and_eq_true, decide_eq_true_eq] at hkind
    obtain ⟨⟨hwl, hwi⟩, hpar, hna, hname, hret⟩ := hkind
    have hins : ins = .invokespecial i := by
      rcases hins with h | h | h
      · exact absurd h.2 Bool.false_ne_true
      · exact absurd h.2 Bool.false_ne_true
      · exact h.1
    subst hins
    have hn := hK.2.1 _ (List.mem_of_getElem? hwl)
    have hrcv : x_rcv w (st.take na).reverse ci = true := by
      rcases hrcv with (h | h) | h
      · cases h
      · cases h
      · exact h
    obtain ⟨a, tl, hargs⟩ : ∃ a tl, (st.take na).reverse = .ref a :: tl := by
      unfold x_rcv at hrcv
      split at hrcv
      · exact ⟨_, _, by assumption⟩
      · cases hrcv
    rw [hargs] at hM hst
    have hlen2 : tl.length = na - 1 := by
      have := congrArg List.length hargs
      rw [List.length_reverse, hlen] at this
      simp at this
      omega
    have hcb := va_cnB (own := M.1.cls) (index := i) (y := (x_m mi).1) (bytes := (x_m mi).2.1) (maxL := (x_m mi).2.2.1) (ret := (x_m mi).2.2.2.1) (R := M.2.2.2.2) (rm := (x_m mi).2.2.2.2) (na - 1) hts hgood rfl rfl rfl hn hini ⟨hy.1, hy.2, hpar⟩ ⟨hfr, hlo⟩
    rw [hret] at hcb
    refine fin _ (va_runIN (As := tl.map (x_v g)) (b := x_ad g a) (n := na - 1) ⟨hx, hb, hml, hown, hts⟩ hM ⟨hcb, hname, hts _ (x_wd_in (M := M) hwi)⟩
      ⟨x_blind, fun U hU hW => ⟨rfl, hpre U hU hW⟩⟩ rfl (by rw [List.length_map]; exact hlen2) hL.2.1 ?_ (lv_room hcat2) hd hf9)
    rw [hst]
    simp [x_v]
  · cases hkind
end
section
/-! ===== the claim's room is too small: every run of the law makes more slots than room_1 has ===== -/
/-- the law, with a room in which it can run -/
def M_law9 : xM := (yL_law, cL_law, 4, (some .boolean), { frames := 10, cells := 83, slots := 1604, locals := 354 })
theorem l9_0 : decode M_law9.2.1 0 = .ok (.new 7, 3) := by decide +kernel
theorem l9_3 : decode M_law9.2.1 3 = .ok (.dup, 1) := by decide +kernel
theorem l9_4 : decode M_law9.2.1 4 = .ok (.invokespecial 9, 3) := by decide +kernel
theorem l9_7 : decode M_law9.2.1 7 = .ok (.astore_n 1, 1) := by decide +kernel
theorem l9_8 : decode M_law9.2.1 8 = .ok (.new 10, 3) := by decide +kernel
theorem l9_11 : decode M_law9.2.1 11 = .ok (.dup, 1) := by decide +kernel
theorem l9_12 : decode M_law9.2.1 12 = .ok (.invokespecial 12, 3) := by decide +kernel
set_option maxRecDepth 100000 in
theorem l9_c4 : x_okC M_law9 9 [79, 1, 2, 9, 56, 544, 81, 82, 0, 62, 83] = true := by decide +kernel
set_option maxRecDepth 100000 in
theorem l9_c12 : x_okC M_law9 12 [119, 1, 2, 10, 25, 1012, 896, 897, 0, 72, 898] = true := by decide +kernel
set_option maxRecDepth 100000 in
theorem l9_w : x_wd 79 (.classLink M_law9.1.cls 7 RX9) = true ∧ x_wd 80 (.instantiable RX9 9) = true ∧ x_wd 62 (.initialized RX9) = true ∧ x_wd 894 (.classLink M_law9.1.cls 10 RX10) = true ∧ x_wd 895 (.instantiable RX10 39) = true ∧ x_wd 72 (.initialized RX10) = true := by decide +kernel
/-- the slots of the arrays of a list of shapes -/
def x_a1 (sh : xS) : Nat := match sh with
  | .inl n => n
  | .inr _ => 0
def x_as (S : List xS) : Nat := (S.map x_a1).sum
theorem x_as_le : ∀ (S : List xS) (cells : List Cell), cells.length = S.length → (∀ (k n : Nat), S[k]? = some (.inl n) → ∃ c, cells[k]? = some c ∧ c.slots.size = n) → x_as S ≤ (cells.map (·.slots.size)).sum
  | [], cells, _, _ => Nat.zero_le _
  | sh :: S, [], h, _ => by simp at h
  | sh :: S, c :: cells, h, hk => by
    have ih := x_as_le S cells (by simpa using h) (fun k n hn => by
      obtain ⟨d, h1, h2⟩ := hk (k + 1) n (by simpa using hn)
      exact ⟨d, by simpa using h1, h2⟩)
    have h0 : x_a1 sh ≤ c.slots.size := by
      cases sh with
      | inl n =>
        obtain ⟨d, h1, h2⟩ := hk 0 n rfl
        cases h1
        exact Nat.le_of_eq h2.symm
      | inr o => exact Nat.zero_le _
    simp only [x_as, List.map_cons, List.sum_cons] at ih ⊢
    exact Nat.add_le_add h0 ih
theorem x_used {g : xG} {w : xW} {p : Program} {l : Launch} {e : Env} {R : Room} {s : State} {m : MethodId} {args : Array Value} {below : List Frame} {meth : Method} {c : Code} {T : State} {locs : List Loc} {cells slots : Nat} (hh : x_h g = s.heap.size) (hH : x_H g w T.heap) (X : Stand p l e R s m args below meth c T locs cells slots) : s.slotsUsed + x_as w.1 ≤ T.slotsUsed := by
  have h4 : T.slotsUsed = s.slotsUsed + ((T.heap.toList.drop s.heap.size).map (·.slots.size)).sum := X.same.2.2.2.1
  rw [h4]
  refine Nat.add_le_add_left (x_as_le _ _ ?_ (fun k n hn => ?_)) _
  · rw [List.length_drop, Array.length_toList, hH.1, hh]
    omega
  · have h1 := hH.2.2.1 k _ (x_cs_at (g := g) hn)
    refine ⟨vp_cell (x_cI g) (n, .inl (w.2 k)), ?_, ?_⟩
    · rw [List.getElem?_drop, Array.getElem?_toList, ← hh]
      exact h1
    · show (vp_cell _ _).slots.size = n
      rw [vp_cell_i, arrV_size]
theorem x_as_S0 : x_as sa_X10_init_0 = 1484 := by decide +kernel
set_option maxRecDepth 100000 in
set_option maxHeartbeats 4000000 in
/-- the law up to its loop -/
theorem law9_mid {g : xG} {p : Program} {l : Launch} {e : Env} {s : State} {m : MethodId} {below : List Frame} {meth : Method} {co : Code} {ls : Array Slot} {args : Array Value} {σ : Nat → Nat → Int32}
    (X : x_X M_law9 g p s m args meth co) (hh : x_h g = s.heap.size) (hH : x_H g ([], σ) s.heap) (hL : x_lv g ls 4 [some (.ref 1000), none, none, none]) : W p l e M_law9.2.2.2.2 s m args below meth co s.heap [] 0 0 (fun t => s.slotsUsed + 1132 < t.slotsUsed) (F0 m 0 ls []) := by
  refine x_newo (ci := 9) (q := (RX9, TX9, 9)) X hH va_S.rf rfl l9_w.1 l9_w.2.1 l9_w.2.2.1 (Nat.le_of_ble_eq_true rfl) (Nat.le_of_ble_eq_true rfl) (Nat.le_of_ble_eq_true rfl) l9_0 (fun H hH hS => ?_)
  refine lv_dup X.1 X.2.1 l9_3 rfl ?_
  refine x_callW (sums := sms_12) (lv := [some (.ref 1000), none, none, none]) (st := [.ref 0, .ref 0]) (lvx := []) X hH hS hL vss_12 l9_c4 l9_4 (Or.inr (Or.inr ⟨rfl, rfl⟩)) ?_
  refine And.intro trivial ?_
  intro H1 locs1 hH hS
  refine lv_astore_n X.1 X.2.1 l9_7 rfl (x_lv_has hL) (by decide) rfl (fun ls' h' => ?_)
  have hL := x_lv_back (v := .ref 0) hL rfl h'
  refine x_newo (ci := 10) (q := (RX10, TX10, 39)) X hH hS rfl l9_w.2.2.2.1 l9_w.2.2.2.2.1 l9_w.2.2.2.2.2 (Nat.le_of_ble_eq_true rfl) (Nat.le_of_ble_eq_true rfl) (Nat.le_of_ble_eq_true rfl) l9_8 (fun H hH hS => ?_)
  refine lv_dup X.1 X.2.1 l9_11 rfl ?_
  refine x_callW (sums := sms_12) (lv := [some (.ref 1000), some (.ref 0), none, none]) (st := [.ref 57, .ref 57]) (lvx := []) X hH hS hL vss_12 l9_c12 l9_12 (Or.inr (Or.inr ⟨rfl, rfl⟩)) ?_
  refine And.intro trivial ?_
  intro H2 locs2 hH2 hS2
  intro T hT XT
  refine ⟨_, Steps.refl _, ?_⟩
  have h9 := x_used (w := (sa_X10_init_0, _)) hh (by rw [hT]; exact hH2) XT
  have h9 : s.slotsUsed + x_as sa_X10_init_0 ≤ T.slotsUsed := h9
  rw [x_as_S0] at h9
  show s.slotsUsed + 1132 < T.slotsUsed
  omega
end
section
/-! ===== THE REFUTATION: the printed start (the witness) and the printed claim can't both hold ===== -/
/-- the entry of a method, one step of the machine -/
theorem x_enter {p : Program} {l : Launch} {e : Env} {s : State} {m : MethodId} {args : Array Value} {below : List Frame} {S : Spec} {y : MethodName} {cc : ByteArray} {maxL : Nat} {ret : Option FieldType} (hy : plainName y.cls = true) (ha : l.admits e) (hc : FairCas e.choices) (hk : FairClock e.choices) (hf : s.frames = .invoking m args :: below) (happ : S.appliesLoose y e.platform s = true)
    (hw : (Cond.code y cc maxL ret).before args s = true) : ∃ (meth : Method) (c : Code) (s₁ : State), BodyLoose p l y S cc maxL ret e s m args below meth c s₁ ∧ c.maxLocals = maxL ∧ ∀ t, Steps p.tables e below (s₁.setTop (entryFrame m args maxL)) t → Steps p.tables e below s t := by
  obtain ⟨hrun, hable, halone, hname, hhears, hinit, hroom, hpre⟩ := (Spec.appliesLoose_iff hf).mp happ
  obtain ⟨meth, c, hmeth, hcode, hbytes, hlocals, hret, hlocks, -, -⟩ := Cond.code_spec hname hw
  have hcur := State.cur_lt_of_frames hf
  have hf1 := State.frames_setFrames (s := s) (.java (entryFrame m args maxL) :: below) hcur
  have ht1 := State.topJava?_of_frames hf1
  have hfull : e.platform.stackFull (s.setFrames below).me (s.setFrames below).frames c.maxLocals = false := by
    obtain ⟨-, h1, -, h2⟩ := State.hasRoom_stack hroom
    rw [hf, List.length_cons] at h1
    rw [State.localsInUse_invoking hf hmeth hcode] at h2
    have h3 := stackUse_le_stackWeight below
    rw [State.frames_setFrames _ hcur]
    exact Platform.stackFull_eq_false (by rw [State.stackLimits_setFrames]; omega) (by rw [State.stackLimits_setFrames]; omega)
  have hstep : (stepThread p.tables e s).1 = (s.setFrames (.java (entryFrame m args maxL) :: below)).setTop (entryFrame m args maxL) := by
    rw [stepThread_invoking hf, (doInvoke_java (s := s.setFrames below) (e := e) (meth := meth) (code := c) hmeth hcode hlocks hfull).1, State.setTop_self ht1]
    simp only [State.pushFrame, State.frames_setFrames _ hcur, State.setFrames_setFrames, hlocals, entryFrame]
  have hAt : At (s.setFrames (.java (entryFrame m args maxL) :: below)) m c below :=
    ⟨by rw [ht1]; rfl, ⟨[], by rw [hf1]; rfl⟩, hrun, by simpa using hable, by simpa using halone, by rw [State.code?_eq]; simp [State.setFrames, hmeth, hcode], State.plainMethod.of_named (s := s) (plainFor_of_name hy) hname hmeth⟩
  refine ⟨meth, c, _, ⟨ha, hc, hk, by cases p <;> rfl, hf, hname, hhears, hinit, hroom, hpre, hmeth, hret, hlocks, hbytes, rfl, hAt⟩, hlocals, fun t ht => ?_⟩
  exact Steps.head (tb := p.tables) (e := e) ⟨hrun, hable, halone⟩ ⟨[.invoking m args], hf, by simp, by simp⟩ (hstep ▸ ht)
/-- a machine with more slots -/
def x_more (e : Env) : Env := { e with platform := { e.platform with maxSlots := e.platform.maxSlots + 2000 } }
theorem x_more_admits {l : Launch} {e : Env} (h : l.admits e) : l.admits (x_more e) := by
  obtain ⟨h1, h2, h3, h4, h5, h6, h7, h8, h9⟩ := h
  exact ⟨h1, h2, h3, h4, congrArg (fun pl : Platform => { pl with maxSlots := e.platform.maxSlots + 2000 }) h5, h6, h7, Nat.le_trans h8 (Nat.le_add_right _ _), h9⟩
theorem x_more_room {e : Env} {s : State} {r : Room} {n : Nat} (h : s.hasRoom e.platform r = true) (hn : n ≤ 2000) : s.hasRoom (x_more e).platform { r with slots := r.slots + n } = true := by
  simp only [State.hasRoom, Bool.and_eq_true, decide_eq_true_eq] at h ⊢
  obtain ⟨⟨⟨⟨h1, h2⟩, h3⟩, h4⟩, h5⟩ := h
  refine ⟨⟨⟨⟨h1, h2⟩, h3⟩, ?_⟩, h5⟩
  show s.slotsUsed + (r.slots + n) ≤ e.platform.maxSlots + 2000
  omega
def lw_P (b : Addr) (xs : List Int32) (args : Array Value) (s : State) : Prop := args = #[.ref b] ∧ s.IntsAt b xs ∧ xs.length ≤ 2560 ∧ (Jvm.Cond.and given_1 narrow_1).before args s = true
theorem lw_pre_spec {args : Array Value} {s : State} (h : (Jvm.Cond.and given_1 narrow_1).before args s = true) (hr : rest_1_c.before args s = true) : ∃ (b : Addr) (xs : List Int32), lw_P b xs args s := by
  have hs := flat_of_before _ h
  have hq := flat_of_before _ hr
  have hc : (Cond.count 1).before args s = true := hs _ (by decide +kernel)
  have harr : (Cond.arrayOf (.arg 0) .int).before args s = true := hs _ (by decide +kernel)
  have hle : (Cond.le (.length (.arg 0)) (.int 2560)).before args s = true := hs _ (by decide +kernel)
  have hlen : (Cond.isInt (.length (.arg 0))).before args s = true := hq _ (by decide +kernel)
  have hall : (Cond.all (.arg 0) (.isInt (.elem (.arg 0) (.index 0)))).before args s = true := hq _ (by decide +kernel)
  obtain ⟨b, xs, hb, hx⟩ := State.ints_of_pre rfl harr hlen hall
  have hsm : xs.length < 2 ^ 31 := hx.choose_spec.2.2.2
  have hev : (Term.length (.arg 0)).eval args s none [] s = some (.int xs.length.toInt32) := hx.length_eval hb
  have hv := Cond.le_ints hev (show (Term.int 2560).eval args s none [] s = some (.int 2560) from rfl)
  have hd : xs.length.toInt32 ≤ 2560 := by
    simpa [Cond.before, Cond.holds, hv] using hle
  have hN : xs.length ≤ 2560 := (Int32.ofNat_le_ofNat hsm (by decide)).mp (show Int32.ofNat xs.length ≤ Int32.ofNat 2560 from hd)
  exact ⟨b, xs, Cond.one_arg hc (show args[0]? = some (.ref b) from hb), hx, hN, h⟩
theorem x_apps {ts : List Cond} {r r' : Room} {y : MethodName} {pl pl' : Platform} {s : State} {m : MethodId} {args : Array Value} {below : List Frame} (hfr : s.frames = .invoking m args :: below) (h : (headSpec ts r).applies y pl s = true) (hr : s.hasRoom pl r = true → s.hasRoom pl' r' = true) : (headSpec ts r').applies y pl' s = true := by
  obtain ⟨a1, a2, a3, a4, a5, a6, a7, a8⟩ := (Spec.applies_iff hfr).mp h
  exact (Spec.applies_iff hfr).mpr ⟨a1, a2, a3, a4, a5, a6, hr a7, a8⟩
theorem x_appl {ts : List Cond} {r : Room} {y : MethodName} {pl : Platform} {s : State} {m : MethodId} {args : Array Value} {below : List Frame} (hfr : s.frames = .invoking m args :: below) (h : (headSpec ts r).applies y pl s = true) : (headSpec ts r).appliesLoose y pl s = true ∧ ∀ c ∈ ts, c.before args s = true :=
  ⟨((Spec.applies_iff_loose hfr).mp h).1, atoms_spec (ws := ts) ((Spec.applies_iff hfr).mp h).2.2.2.2.2.2.2⟩
def x_tsl : List Cond := Jvm.Cond.code x code maxLocals ret :: tables_1
def x_s0 (L : Nat) (xs : Nat → Int32) : Nat → Nat → Int32 := fun i j => if i = 1000 then xs j else if i = 1001 then Int32.ofNat L else 0
set_option maxRecDepth 100000 in
set_option maxHeartbeats 4000000 in
/-- THE CLAIM IS FALSE AS IT IS PRINTED: at the printed start the law makes more than 1132 slots (its arrays alone are 1484), and Post_1_1 says at most 1132 -/
theorem whole_false_at {l : Launch} {p : Program} {e : Env} {s : State} {m : MethodId} {args : Array Value} {below : List Frame} (hfl : l.flags = flags0) (hS : AtStart classFile x code maxLocals ret World_1 tables_1 room_1 Calls_1 rest_1 Pre_1 l p e s m args below) : ¬ Claimed_1_1 := by
  intro hC
  obtain ⟨hLi, hWo, hadm, -, hcas, hclk, hfr, hfit, hheap, happ, hcalls, hrest, hpre⟩ := hS
  have happ : (headSpec x_tsl room_1).applies x e.platform s = true := happ
  have happ' : (headSpec x_tsl room_1).applies x (x_more e).platform s = true := x_apps hfr happ (fun h => x_more_room (r := room_1) (n := 0) h (Nat.zero_le _))
  obtain ⟨n, o, hwn, hrun, hend, hpost⟩ := hC l hfl hLi hWo p (x_more e) (x_more_admits hadm) hcas hclk s m args below hfr hfit hheap happ' ⟨hcalls, hrest, hpre⟩
  obtain ⟨happ9, hts0⟩ := x_appl hfr (x_apps (r' := { room_1 with slots := room_1.slots + 472 }) (pl' := (x_more e).platform) hfr happ (fun h => x_more_room (r := room_1) (n := 472) h (Nat.le_of_ble_eq_true rfl)))
  obtain ⟨meth, c, s₁, B, hml, hgo⟩ := x_enter (p := p) (l := l) (y := x) (cc := code) (maxL := maxLocals) (ret := ret) (by decide) (x_more_admits hadm) hcas hclk hfr happ9 (hts0 _ List.mem_cons_self)
  obtain ⟨b, ys, rfl, hy, hbd, hgv⟩ := lw_pre_spec hpre hrest
  obtain ⟨scr, harrAt, hlist, hof, hsmall⟩ := hy
  obtain ⟨hcb, hkn, -, -⟩ := State.arrayAt?_spec harrAt
  have hts : ∀ w ∈ lw_tbl, w.before #[Value.ref b] s = true := k2_hts_sels lw_privs (fun w hw => hts0 w (List.mem_cons_of_mem _ hw)) lw_privs_ok
  have hsz : scr.slots.size = ys.length := by rw [← Array.length_toList, hlist, List.length_map]
  have hval : ∀ j : Nat, j < ys.length → scr.slots[j]? = some (.int (ys.getD j 0)) := fun j hj => by
    rw [← Array.getElem?_toList, hlist]
    simp [hj]
  have hbl : b < s.heap.size := (Array.getElem?_eq_some_iff.mp hcb).1
  have hX : va_X b ys.length (fun j => ys.getD j 0) s s.heap := ⟨scr, hcb, hof, hkn, hsz, hval⟩
  obtain ⟨g, hh, hb9, hL9, hxs, hK⟩ := x_start hts hX hbl hbd hgv
  have X : x_X M_law9 g p s m #[Value.ref b] meth c := ⟨B.exec, B.bytes, B.returns, B.notSynchronized, hml, findClass_of_methodNamed B.named, fun w hw => (List.mem_cons.mp hw).elim (fun h => by rw [h]; exact hts0 _ List.mem_cons_self) (fun h => hts w (x_tb_sub h)), (name_of_methodNamed B.named B.method).1, hK⟩
  have hH : x_H g ([], x_s0 (x_L g) (x_xs g)) s.heap := ⟨by rw [hh]; rfl, Nat.le_of_ble_eq_true rfl, fun k q h => by simp [x_cs] at h, fun j hj => rfl, rfl⟩
  have hL := x_lv_entry (g := g) (args := [.ref 1000]) (n := 4) (Nat.le_of_ble_eq_true rfl) (by simp [Value.category])
  have hv : ([.ref 1000] : List Value).map (x_v g) = [.ref b] := by
    show [Value.ref (x_ad g 1000)] = _
    rw [x_ad_b, hb9]
  rw [hv] at hL
  have K := law9_mid (l := l) (e := x_more e) (below := below) X hh hH hL
  obtain ⟨t, hst, hq⟩ := K s₁ (by rw [B.state]; rfl) (Stand.of_body B)
  have hst : Steps p.tables (x_more e) below (s₁.setTop (entryFrame m ([Value.ref b] : List Value).toArray 4)) t := by
    rw [lg_entry_eq]
    exact hst
  obtain ⟨k, hk, hwk⟩ := hgo t hst
  have hkn : k ≤ n := by
    rcases Nat.lt_or_ge n k with h | h
    · exact absurd (hwk n h) hend.not_within
    · exact h
  have hmono := (stepsAlone_heap_grows_add p.tables (x_more e) k (n - k) s).2
  rw [hk, Nat.add_sub_cancel' hkn] at hmono
  obtain ⟨-, -, hF⟩ := hpost.2
  have e1 : (stepsAlone p.tables (x_more e) n s).slotsUsed = s.slotsUsed + _ := hF.2.2.2.1
  have e2 := hF.2.2.2.2.1
  rw [e1] at hmono
  exact absurd (Nat.lt_of_lt_of_le hq hmono) (Nat.not_lt.mpr (Nat.add_le_add_left e2 _))
theorem x_flags : launch0.flags = flags0 := by unfold launch0; rfl
theorem whole_false (hw : WitnessClaimed_1) : ¬ (Claimed_1_1 ∧ Claimed_1_2) := by
  obtain ⟨p, e, s, m, args, below, hS⟩ := hw
  exact fun h => whole_false_at x_flags hS h.1
end
