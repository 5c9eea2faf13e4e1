-- ===== PART A: goes FIRST, ahead of the names: the tables' words, and 'selects' of the private methods out of them =====
/-- a private method of a class that the tables say can be made, by its rows of tables_1 -/
def lw_okq (q : MethodName × Nat) : Prop := (q.1.cls ≠ "java/lang/invoke/MethodHandle" ∧ q.1.cls ≠ "java/lang/invoke/VarHandle") ∧ Cond.instantiable q.1.cls q.2 ∈ tables_1 ∧ Cond.privateMethod q.1 ∈ tables_1 ∧ Cond.instanceMethod q.1 ∈ tables_1
theorem lw_p0 : lw_okq (⟨"QueryHandles$Types", "add", "(ILQueryHandles$Type;LQueryHandles$Type;Z)I"⟩, 6) := ⟨⟨by decide +kernel, by decide +kernel⟩, List.mem_of_getElem? (i := 27) (by decide +kernel), List.mem_of_getElem? (i := 282) (by decide +kernel), List.mem_of_getElem? (i := 283) (by decide +kernel)⟩
theorem lw_p1 : lw_okq (⟨"QueryHandles", "answered", "(I)I"⟩, 12) := ⟨⟨by decide +kernel, by decide +kernel⟩, List.mem_of_getElem? (i := 19) (by decide +kernel), List.mem_of_getElem? (i := 286) (by decide +kernel), List.mem_of_getElem? (i := 287) (by decide +kernel)⟩
theorem lw_p2 : lw_okq (⟨"QueryHandles$Types", "memberedAt", "(I)LQueryHandles$Type;"⟩, 6) := ⟨⟨by decide +kernel, by decide +kernel⟩, List.mem_of_getElem? (i := 27) (by decide +kernel), List.mem_of_getElem? (i := 306) (by decide +kernel), List.mem_of_getElem? (i := 307) (by decide +kernel)⟩
theorem lw_p3 : lw_okq (⟨"QueryHandles$Types", "faceAt", "(I)LQueryHandles$Type;"⟩, 6) := ⟨⟨by decide +kernel, by decide +kernel⟩, List.mem_of_getElem? (i := 27) (by decide +kernel), List.mem_of_getElem? (i := 310) (by decide +kernel), List.mem_of_getElem? (i := 311) (by decide +kernel)⟩
theorem lw_p4 : lw_okq (⟨"QueryHandles$Types", "ownClassAt", "(I)LQueryHandles$Type;"⟩, 6) := ⟨⟨by decide +kernel, by decide +kernel⟩, List.mem_of_getElem? (i := 27) (by decide +kernel), List.mem_of_getElem? (i := 314) (by decide +kernel), List.mem_of_getElem? (i := 315) (by decide +kernel)⟩
theorem lw_p5 : lw_okq (⟨"QueryHandles$Types", "mayHaveBody", "(LQueryHandles$Type;II)Z"⟩, 6) := ⟨⟨by decide +kernel, by decide +kernel⟩, List.mem_of_getElem? (i := 27) (by decide +kernel), List.mem_of_getElem? (i := 459) (by decide +kernel), List.mem_of_getElem? (i := 460) (by decide +kernel)⟩
theorem lw_p6 : lw_okq (⟨"QueryHandles$Types", "lentBodyFor", "(LQueryHandles$Type;I)I"⟩, 6) := ⟨⟨by decide +kernel, by decide +kernel⟩, List.mem_of_getElem? (i := 27) (by decide +kernel), List.mem_of_getElem? (i := 485) (by decide +kernel), List.mem_of_getElem? (i := 486) (by decide +kernel)⟩
theorem lw_p7 : lw_okq (⟨"QueryHandles$Things", "keep", "(LQueryHandles$Thing;)I"⟩, 3) := ⟨⟨by decide +kernel, by decide +kernel⟩, List.mem_of_getElem? (i := 167) (by decide +kernel), List.mem_of_getElem? (i := 564) (by decide +kernel), List.mem_of_getElem? (i := 565) (by decide +kernel)⟩
theorem lw_p8 : lw_okq (⟨"QueryHandles", "lostOr", "(IJ)J"⟩, 12) := ⟨⟨by decide +kernel, by decide +kernel⟩, List.mem_of_getElem? (i := 19) (by decide +kernel), List.mem_of_getElem? (i := 604) (by decide +kernel), List.mem_of_getElem? (i := 605) (by decide +kernel)⟩
theorem lw_p9 : lw_okq (⟨"QueryHandles$Reader", "readField", "(LQueryHandles$Member;LQueryHandles$Thing;)I"⟩, 8) := ⟨⟨by decide +kernel, by decide +kernel⟩, List.mem_of_getElem? (i := 186) (by decide +kernel), List.mem_of_getElem? (i := 724) (by decide +kernel), List.mem_of_getElem? (i := 725) (by decide +kernel)⟩
theorem lw_p10 : lw_okq (⟨"QueryHandles$Reader", "whyNotOf", "(LQueryHandles$Handle;LQueryHandles$Thing;)I"⟩, 8) := ⟨⟨by decide +kernel, by decide +kernel⟩, List.mem_of_getElem? (i := 186) (by decide +kernel), List.mem_of_getElem? (i := 733) (by decide +kernel), List.mem_of_getElem? (i := 734) (by decide +kernel)⟩
theorem lw_p11 : lw_okq (⟨"QueryHandles$Reader", "readBody", "(ILQueryHandles$Thing;)I"⟩, 8) := ⟨⟨by decide +kernel, by decide +kernel⟩, List.mem_of_getElem? (i := 186) (by decide +kernel), List.mem_of_getElem? (i := 738) (by decide +kernel), List.mem_of_getElem? (i := 739) (by decide +kernel)⟩
theorem lw_p12 : lw_okq (⟨"QueryHandles$Reader", "keepTrace", "(I)V"⟩, 8) := ⟨⟨by decide +kernel, by decide +kernel⟩, List.mem_of_getElem? (i := 186) (by decide +kernel), List.mem_of_getElem? (i := 743) (by decide +kernel), List.mem_of_getElem? (i := 744) (by decide +kernel)⟩
theorem lw_p13 : lw_okq (⟨"QueryHandles$Reader", "readLast", "(LQueryHandles$Member;LQueryHandles$Thing;)I"⟩, 8) := ⟨⟨by decide +kernel, by decide +kernel⟩, List.mem_of_getElem? (i := 186) (by decide +kernel), List.mem_of_getElem? (i := 751) (by decide +kernel), List.mem_of_getElem? (i := 752) (by decide +kernel)⟩
theorem lw_p14 : lw_okq (⟨"QueryHandles$Reader", "addOnes", "(I)I"⟩, 8) := ⟨⟨by decide +kernel, by decide +kernel⟩, List.mem_of_getElem? (i := 186) (by decide +kernel), List.mem_of_getElem? (i := 756) (by decide +kernel), List.mem_of_getElem? (i := 757) (by decide +kernel)⟩
theorem lw_p15 : lw_okq (⟨"QueryHandles", "fillNext", "(LQueryHandles$Column;LQueryHandles$Handle;LQueryHandles$Thing;)I"⟩, 12) := ⟨⟨by decide +kernel, by decide +kernel⟩, List.mem_of_getElem? (i := 19) (by decide +kernel), List.mem_of_getElem? (i := 804) (by decide +kernel), List.mem_of_getElem? (i := 805) (by decide +kernel)⟩
def lw_privs_1 : List (MethodName × Nat) := [(⟨"QueryHandles$Types", "add", "(ILQueryHandles$Type;LQueryHandles$Type;Z)I"⟩, 6), (⟨"QueryHandles", "answered", "(I)I"⟩, 12), (⟨"QueryHandles$Types", "memberedAt", "(I)LQueryHandles$Type;"⟩, 6), (⟨"QueryHandles$Types", "faceAt", "(I)LQueryHandles$Type;"⟩, 6), (⟨"QueryHandles$Types", "ownClassAt", "(I)LQueryHandles$Type;"⟩, 6), (⟨"QueryHandles$Types", "mayHaveBody", "(LQueryHandles$Type;II)Z"⟩, 6), (⟨"QueryHandles$Types", "lentBodyFor", "(LQueryHandles$Type;I)I"⟩, 6), (⟨"QueryHandles$Things", "keep", "(LQueryHandles$Thing;)I"⟩, 3), (⟨"QueryHandles", "lostOr", "(IJ)J"⟩, 12), (⟨"QueryHandles$Reader", "readField", "(LQueryHandles$Member;LQueryHandles$Thing;)I"⟩, 8), (⟨"QueryHandles$Reader", "whyNotOf", "(LQueryHandles$Handle;LQueryHandles$Thing;)I"⟩, 8), (⟨"QueryHandles$Reader", "readBody", "(ILQueryHandles$Thing;)I"⟩, 8), (⟨"QueryHandles$Reader", "keepTrace", "(I)V"⟩, 8), (⟨"QueryHandles$Reader", "readLast", "(LQueryHandles$Member;LQueryHandles$Thing;)I"⟩, 8), (⟨"QueryHandles$Reader", "addOnes", "(I)I"⟩, 8), (⟨"QueryHandles", "fillNext", "(LQueryHandles$Column;LQueryHandles$Handle;LQueryHandles$Thing;)I"⟩, 12)]
theorem lw_r1 : ∀ q ∈ lw_privs_1, lw_okq q := List.forall_mem_cons.mpr ⟨lw_p0, List.forall_mem_cons.mpr ⟨lw_p1, List.forall_mem_cons.mpr ⟨lw_p2, List.forall_mem_cons.mpr ⟨lw_p3, List.forall_mem_cons.mpr ⟨lw_p4, List.forall_mem_cons.mpr ⟨lw_p5, List.forall_mem_cons.mpr ⟨lw_p6, List.forall_mem_cons.mpr ⟨lw_p7, List.forall_mem_cons.mpr ⟨lw_p8, List.forall_mem_cons.mpr ⟨lw_p9, List.forall_mem_cons.mpr ⟨lw_p10, List.forall_mem_cons.mpr ⟨lw_p11, List.forall_mem_cons.mpr ⟨lw_p12, List.forall_mem_cons.mpr ⟨lw_p13, List.forall_mem_cons.mpr ⟨lw_p14, List.forall_mem_cons.mpr ⟨lw_p15, fun _ h => absurd h List.not_mem_nil⟩⟩⟩⟩⟩⟩⟩⟩⟩⟩⟩⟩⟩⟩⟩⟩
theorem lw_p16 : lw_okq (⟨"QueryHandles", "queryAt", "(I)LQueryHandles$Query;"⟩, 12) := ⟨⟨by decide +kernel, by decide +kernel⟩, List.mem_of_getElem? (i := 19) (by decide +kernel), List.mem_of_getElem? (i := 891) (by decide +kernel), List.mem_of_getElem? (i := 892) (by decide +kernel)⟩
theorem lw_p17 : lw_okq (⟨"QueryHandles", "holds", "(LQueryHandles$Query;LQueryHandles$Thing;)I"⟩, 12) := ⟨⟨by decide +kernel, by decide +kernel⟩, List.mem_of_getElem? (i := 19) (by decide +kernel), List.mem_of_getElem? (i := 906) (by decide +kernel), List.mem_of_getElem? (i := 907) (by decide +kernel)⟩
theorem lw_p18 : lw_okq (⟨"QueryHandlesModel", "isClass", "(I)Z"⟩, 53) := ⟨⟨by decide +kernel, by decide +kernel⟩, List.mem_of_getElem? (i := 967) (by decide +kernel), List.mem_of_getElem? (i := 1138) (by decide +kernel), List.mem_of_getElem? (i := 1139) (by decide +kernel)⟩
theorem lw_p19 : lw_okq (⟨"QueryHandlesModel", "isType", "(I)Z"⟩, 53) := ⟨⟨by decide +kernel, by decide +kernel⟩, List.mem_of_getElem? (i := 967) (by decide +kernel), List.mem_of_getElem? (i := 1142) (by decide +kernel), List.mem_of_getElem? (i := 1143) (by decide +kernel)⟩
theorem lw_p20 : lw_okq (⟨"QueryHandlesModel", "fail", "(I)I"⟩, 53) := ⟨⟨by decide +kernel, by decide +kernel⟩, List.mem_of_getElem? (i := 967) (by decide +kernel), List.mem_of_getElem? (i := 1149) (by decide +kernel), List.mem_of_getElem? (i := 1150) (by decide +kernel)⟩
theorem lw_p21 : lw_okq (⟨"QueryHandlesModel", "make", "(I)I"⟩, 53) := ⟨⟨by decide +kernel, by decide +kernel⟩, List.mem_of_getElem? (i := 967) (by decide +kernel), List.mem_of_getElem? (i := 1153) (by decide +kernel), List.mem_of_getElem? (i := 1154) (by decide +kernel)⟩
theorem lw_p22 : lw_okq (⟨"QueryHandlesModel", "good", "(I)I"⟩, 53) := ⟨⟨by decide +kernel, by decide +kernel⟩, List.mem_of_getElem? (i := 967) (by decide +kernel), List.mem_of_getElem? (i := 1157) (by decide +kernel), List.mem_of_getElem? (i := 1158) (by decide +kernel)⟩
theorem lw_p23 : lw_okq (⟨"QueryHandlesModel", "isFace", "(I)Z"⟩, 53) := ⟨⟨by decide +kernel, by decide +kernel⟩, List.mem_of_getElem? (i := 967) (by decide +kernel), List.mem_of_getElem? (i := 1169) (by decide +kernel), List.mem_of_getElem? (i := 1170) (by decide +kernel)⟩
theorem lw_p24 : lw_okq (⟨"QueryHandlesModel", "isFaceOf", "(II)Z"⟩, 53) := ⟨⟨by decide +kernel, by decide +kernel⟩, List.mem_of_getElem? (i := 967) (by decide +kernel), List.mem_of_getElem? (i := 1173) (by decide +kernel), List.mem_of_getElem? (i := 1174) (by decide +kernel)⟩
theorem lw_p25 : lw_okq (⟨"QueryHandlesModel", "facesOf", "(I)V"⟩, 53) := ⟨⟨by decide +kernel, by decide +kernel⟩, List.mem_of_getElem? (i := 967) (by decide +kernel), List.mem_of_getElem? (i := 1177) (by decide +kernel), List.mem_of_getElem? (i := 1178) (by decide +kernel)⟩
theorem lw_p26 : lw_okq (⟨"QueryHandlesModel", "listFaces", "(I)V"⟩, 53) := ⟨⟨by decide +kernel, by decide +kernel⟩, List.mem_of_getElem? (i := 967) (by decide +kernel), List.mem_of_getElem? (i := 1181) (by decide +kernel), List.mem_of_getElem? (i := 1182) (by decide +kernel)⟩
theorem lw_p27 : lw_okq (⟨"QueryHandlesModel", "base", "(I)I"⟩, 53) := ⟨⟨by decide +kernel, by decide +kernel⟩, List.mem_of_getElem? (i := 967) (by decide +kernel), List.mem_of_getElem? (i := 1201) (by decide +kernel), List.mem_of_getElem? (i := 1202) (by decide +kernel)⟩
theorem lw_p28 : lw_okq (⟨"QueryHandlesModel", "depth", "(I)I"⟩, 53) := ⟨⟨by decide +kernel, by decide +kernel⟩, List.mem_of_getElem? (i := 967) (by decide +kernel), List.mem_of_getElem? (i := 1205) (by decide +kernel), List.mem_of_getElem? (i := 1206) (by decide +kernel)⟩
theorem lw_p29 : lw_okq (⟨"QueryHandlesModel", "isSo", "(IIII)Z"⟩, 53) := ⟨⟨by decide +kernel, by decide +kernel⟩, List.mem_of_getElem? (i := 967) (by decide +kernel), List.mem_of_getElem? (i := 1213) (by decide +kernel), List.mem_of_getElem? (i := 1214) (by decide +kernel)⟩
theorem lw_p30 : lw_okq (⟨"QueryHandlesModel", "isAbove", "(II)Z"⟩, 53) := ⟨⟨by decide +kernel, by decide +kernel⟩, List.mem_of_getElem? (i := 967) (by decide +kernel), List.mem_of_getElem? (i := 1217) (by decide +kernel), List.mem_of_getElem? (i := 1218) (by decide +kernel)⟩
theorem lw_p31 : lw_okq (⟨"QueryHandlesModel", "memberBy", "(IIZ)I"⟩, 53) := ⟨⟨by decide +kernel, by decide +kernel⟩, List.mem_of_getElem? (i := 967) (by decide +kernel), List.mem_of_getElem? (i := 1229) (by decide +kernel), List.mem_of_getElem? (i := 1230) (by decide +kernel)⟩
def lw_privs_2 : List (MethodName × Nat) := [(⟨"QueryHandles", "queryAt", "(I)LQueryHandles$Query;"⟩, 12), (⟨"QueryHandles", "holds", "(LQueryHandles$Query;LQueryHandles$Thing;)I"⟩, 12), (⟨"QueryHandlesModel", "isClass", "(I)Z"⟩, 53), (⟨"QueryHandlesModel", "isType", "(I)Z"⟩, 53), (⟨"QueryHandlesModel", "fail", "(I)I"⟩, 53), (⟨"QueryHandlesModel", "make", "(I)I"⟩, 53), (⟨"QueryHandlesModel", "good", "(I)I"⟩, 53), (⟨"QueryHandlesModel", "isFace", "(I)Z"⟩, 53), (⟨"QueryHandlesModel", "isFaceOf", "(II)Z"⟩, 53), (⟨"QueryHandlesModel", "facesOf", "(I)V"⟩, 53), (⟨"QueryHandlesModel", "listFaces", "(I)V"⟩, 53), (⟨"QueryHandlesModel", "base", "(I)I"⟩, 53), (⟨"QueryHandlesModel", "depth", "(I)I"⟩, 53), (⟨"QueryHandlesModel", "isSo", "(IIII)Z"⟩, 53), (⟨"QueryHandlesModel", "isAbove", "(II)Z"⟩, 53), (⟨"QueryHandlesModel", "memberBy", "(IIZ)I"⟩, 53)]
theorem lw_r2 : ∀ q ∈ lw_privs_2, lw_okq q := List.forall_mem_cons.mpr ⟨lw_p16, List.forall_mem_cons.mpr ⟨lw_p17, List.forall_mem_cons.mpr ⟨lw_p18, List.forall_mem_cons.mpr ⟨lw_p19, List.forall_mem_cons.mpr ⟨lw_p20, List.forall_mem_cons.mpr ⟨lw_p21, List.forall_mem_cons.mpr ⟨lw_p22, List.forall_mem_cons.mpr ⟨lw_p23, List.forall_mem_cons.mpr ⟨lw_p24, List.forall_mem_cons.mpr ⟨lw_p25, List.forall_mem_cons.mpr ⟨lw_p26, List.forall_mem_cons.mpr ⟨lw_p27, List.forall_mem_cons.mpr ⟨lw_p28, List.forall_mem_cons.mpr ⟨lw_p29, List.forall_mem_cons.mpr ⟨lw_p30, List.forall_mem_cons.mpr ⟨lw_p31, fun _ h => absurd h List.not_mem_nil⟩⟩⟩⟩⟩⟩⟩⟩⟩⟩⟩⟩⟩⟩⟩⟩
theorem lw_p32 : lw_okq (⟨"QueryHandlesModel", "isForeign", "(II)Z"⟩, 53) := ⟨⟨by decide +kernel, by decide +kernel⟩, List.mem_of_getElem? (i := 967) (by decide +kernel), List.mem_of_getElem? (i := 1233) (by decide +kernel), List.mem_of_getElem? (i := 1234) (by decide +kernel)⟩
theorem lw_p33 : lw_okq (⟨"QueryHandlesModel", "addMember", "(IIZ)I"⟩, 53) := ⟨⟨by decide +kernel, by decide +kernel⟩, List.mem_of_getElem? (i := 967) (by decide +kernel), List.mem_of_getElem? (i := 1237) (by decide +kernel), List.mem_of_getElem? (i := 1238) (by decide +kernel)⟩
theorem lw_p34 : lw_okq (⟨"QueryHandlesModel", "find", "(II)I"⟩, 53) := ⟨⟨by decide +kernel, by decide +kernel⟩, List.mem_of_getElem? (i := 967) (by decide +kernel), List.mem_of_getElem? (i := 1251) (by decide +kernel), List.mem_of_getElem? (i := 1252) (by decide +kernel)⟩
theorem lw_p35 : lw_okq (⟨"QueryHandlesModel", "see", "(II)I"⟩, 53) := ⟨⟨by decide +kernel, by decide +kernel⟩, List.mem_of_getElem? (i := 967) (by decide +kernel), List.mem_of_getElem? (i := 1262) (by decide +kernel), List.mem_of_getElem? (i := 1263) (by decide +kernel)⟩
theorem lw_p36 : lw_okq (⟨"QueryHandlesModel", "isPlace", "(I)Z"⟩, 53) := ⟨⟨by decide +kernel, by decide +kernel⟩, List.mem_of_getElem? (i := 967) (by decide +kernel), List.mem_of_getElem? (i := 1270) (by decide +kernel), List.mem_of_getElem? (i := 1271) (by decide +kernel)⟩
theorem lw_p37 : lw_okq (⟨"QueryHandlesModel", "added", "(III)I"⟩, 53) := ⟨⟨by decide +kernel, by decide +kernel⟩, List.mem_of_getElem? (i := 967) (by decide +kernel), List.mem_of_getElem? (i := 1274) (by decide +kernel), List.mem_of_getElem? (i := 1275) (by decide +kernel)⟩
theorem lw_p38 : lw_okq (⟨"QueryHandlesModel", "isNoThing", "(I)Z"⟩, 53) := ⟨⟨by decide +kernel, by decide +kernel⟩, List.mem_of_getElem? (i := 967) (by decide +kernel), List.mem_of_getElem? (i := 1286) (by decide +kernel), List.mem_of_getElem? (i := 1287) (by decide +kernel)⟩
theorem lw_p39 : lw_okq (⟨"QueryHandlesModel", "isThing", "(I)Z"⟩, 53) := ⟨⟨by decide +kernel, by decide +kernel⟩, List.mem_of_getElem? (i := 967) (by decide +kernel), List.mem_of_getElem? (i := 1290) (by decide +kernel), List.mem_of_getElem? (i := 1291) (by decide +kernel)⟩
theorem lw_p40 : lw_okq (⟨"QueryHandlesModel", "hinders", "(III)I"⟩, 53) := ⟨⟨by decide +kernel, by decide +kernel⟩, List.mem_of_getElem? (i := 967) (by decide +kernel), List.mem_of_getElem? (i := 1303) (by decide +kernel), List.mem_of_getElem? (i := 1304) (by decide +kernel)⟩
theorem lw_p41 : lw_okq (⟨"QueryHandlesModel", "lost", "(I)J"⟩, 53) := ⟨⟨by decide +kernel, by decide +kernel⟩, List.mem_of_getElem? (i := 967) (by decide +kernel), List.mem_of_getElem? (i := 1307) (by decide +kernel), List.mem_of_getElem? (i := 1308) (by decide +kernel)⟩
theorem lw_p42 : lw_okq (⟨"QueryHandlesModel", "told0", "(J)J"⟩, 53) := ⟨⟨by decide +kernel, by decide +kernel⟩, List.mem_of_getElem? (i := 967) (by decide +kernel), List.mem_of_getElem? (i := 1312) (by decide +kernel), List.mem_of_getElem? (i := 1313) (by decide +kernel)⟩
theorem lw_p43 : lw_okq (⟨"QueryHandlesModel", "mayBePut", "(IIJ)Z"⟩, 53) := ⟨⟨by decide +kernel, by decide +kernel⟩, List.mem_of_getElem? (i := 967) (by decide +kernel), List.mem_of_getElem? (i := 1320) (by decide +kernel), List.mem_of_getElem? (i := 1321) (by decide +kernel)⟩
theorem lw_p44 : lw_okq (⟨"QueryHandlesModel", "hindersLane", "(II)I"⟩, 53) := ⟨⟨by decide +kernel, by decide +kernel⟩, List.mem_of_getElem? (i := 967) (by decide +kernel), List.mem_of_getElem? (i := 1337) (by decide +kernel), List.mem_of_getElem? (i := 1338) (by decide +kernel)⟩
theorem lw_p45 : lw_okq (⟨"QueryHandlesModel", "isOfLane", "(I)Z"⟩, 53) := ⟨⟨by decide +kernel, by decide +kernel⟩, List.mem_of_getElem? (i := 967) (by decide +kernel), List.mem_of_getElem? (i := 1341) (by decide +kernel), List.mem_of_getElem? (i := 1342) (by decide +kernel)⟩
theorem lw_p46 : lw_okq (⟨"QueryHandlesModel", "hasMethod", "(II)Z"⟩, 53) := ⟨⟨by decide +kernel, by decide +kernel⟩, List.mem_of_getElem? (i := 967) (by decide +kernel), List.mem_of_getElem? (i := 1389) (by decide +kernel), List.mem_of_getElem? (i := 1390) (by decide +kernel)⟩
theorem lw_p47 : lw_okq (⟨"QueryHandlesModel", "isHandle", "(I)Z"⟩, 53) := ⟨⟨by decide +kernel, by decide +kernel⟩, List.mem_of_getElem? (i := 967) (by decide +kernel), List.mem_of_getElem? (i := 1397) (by decide +kernel), List.mem_of_getElem? (i := 1398) (by decide +kernel)⟩
def lw_privs_3 : List (MethodName × Nat) := [(⟨"QueryHandlesModel", "isForeign", "(II)Z"⟩, 53), (⟨"QueryHandlesModel", "addMember", "(IIZ)I"⟩, 53), (⟨"QueryHandlesModel", "find", "(II)I"⟩, 53), (⟨"QueryHandlesModel", "see", "(II)I"⟩, 53), (⟨"QueryHandlesModel", "isPlace", "(I)Z"⟩, 53), (⟨"QueryHandlesModel", "added", "(III)I"⟩, 53), (⟨"QueryHandlesModel", "isNoThing", "(I)Z"⟩, 53), (⟨"QueryHandlesModel", "isThing", "(I)Z"⟩, 53), (⟨"QueryHandlesModel", "hinders", "(III)I"⟩, 53), (⟨"QueryHandlesModel", "lost", "(I)J"⟩, 53), (⟨"QueryHandlesModel", "told0", "(J)J"⟩, 53), (⟨"QueryHandlesModel", "mayBePut", "(IIJ)Z"⟩, 53), (⟨"QueryHandlesModel", "hindersLane", "(II)I"⟩, 53), (⟨"QueryHandlesModel", "isOfLane", "(I)Z"⟩, 53), (⟨"QueryHandlesModel", "hasMethod", "(II)Z"⟩, 53), (⟨"QueryHandlesModel", "isHandle", "(I)Z"⟩, 53)]
theorem lw_r3 : ∀ q ∈ lw_privs_3, lw_okq q := List.forall_mem_cons.mpr ⟨lw_p32, List.forall_mem_cons.mpr ⟨lw_p33, List.forall_mem_cons.mpr ⟨lw_p34, List.forall_mem_cons.mpr ⟨lw_p35, List.forall_mem_cons.mpr ⟨lw_p36, List.forall_mem_cons.mpr ⟨lw_p37, List.forall_mem_cons.mpr ⟨lw_p38, List.forall_mem_cons.mpr ⟨lw_p39, List.forall_mem_cons.mpr ⟨lw_p40, List.forall_mem_cons.mpr ⟨lw_p41, List.forall_mem_cons.mpr ⟨lw_p42, List.forall_mem_cons.mpr ⟨lw_p43, List.forall_mem_cons.mpr ⟨lw_p44, List.forall_mem_cons.mpr ⟨lw_p45, List.forall_mem_cons.mpr ⟨lw_p46, List.forall_mem_cons.mpr ⟨lw_p47, fun _ h => absurd h List.not_mem_nil⟩⟩⟩⟩⟩⟩⟩⟩⟩⟩⟩⟩⟩⟩⟩⟩
theorem lw_p48 : lw_okq (⟨"QueryHandlesModel", "readBy", "(II)I"⟩, 53) := ⟨⟨by decide +kernel, by decide +kernel⟩, List.mem_of_getElem? (i := 967) (by decide +kernel), List.mem_of_getElem? (i := 1401) (by decide +kernel), List.mem_of_getElem? (i := 1402) (by decide +kernel)⟩
theorem lw_p49 : lw_okq (⟨"QueryHandlesModel", "reach", "(II)I"⟩, 53) := ⟨⟨by decide +kernel, by decide +kernel⟩, List.mem_of_getElem? (i := 967) (by decide +kernel), List.mem_of_getElem? (i := 1405) (by decide +kernel), List.mem_of_getElem? (i := 1406) (by decide +kernel)⟩
theorem lw_p50 : lw_okq (⟨"QueryHandlesModel", "isOf", "(II)Z"⟩, 53) := ⟨⟨by decide +kernel, by decide +kernel⟩, List.mem_of_getElem? (i := 967) (by decide +kernel), List.mem_of_getElem? (i := 1409) (by decide +kernel), List.mem_of_getElem? (i := 1410) (by decide +kernel)⟩
theorem lw_p51 : lw_okq (⟨"QueryHandlesModel", "work", "(II)I"⟩, 53) := ⟨⟨by decide +kernel, by decide +kernel⟩, List.mem_of_getElem? (i := 967) (by decide +kernel), List.mem_of_getElem? (i := 1413) (by decide +kernel), List.mem_of_getElem? (i := 1414) (by decide +kernel)⟩
theorem lw_p52 : lw_okq (⟨"QueryHandlesModel", "ends", "(III)I"⟩, 53) := ⟨⟨by decide +kernel, by decide +kernel⟩, List.mem_of_getElem? (i := 967) (by decide +kernel), List.mem_of_getElem? (i := 1417) (by decide +kernel), List.mem_of_getElem? (i := 1418) (by decide +kernel)⟩
theorem lw_p53 : lw_okq (⟨"QueryHandlesModel", "takeField", "(II)V"⟩, 53) := ⟨⟨by decide +kernel, by decide +kernel⟩, List.mem_of_getElem? (i := 967) (by decide +kernel), List.mem_of_getElem? (i := 1421) (by decide +kernel), List.mem_of_getElem? (i := 1422) (by decide +kernel)⟩
theorem lw_p54 : lw_okq (⟨"QueryHandlesModel", "placeIn", "(II)I"⟩, 53) := ⟨⟨by decide +kernel, by decide +kernel⟩, List.mem_of_getElem? (i := 967) (by decide +kernel), List.mem_of_getElem? (i := 1425) (by decide +kernel), List.mem_of_getElem? (i := 1426) (by decide +kernel)⟩
theorem lw_p55 : lw_okq (⟨"QueryHandlesModel", "comesTo", "(I)I"⟩, 53) := ⟨⟨by decide +kernel, by decide +kernel⟩, List.mem_of_getElem? (i := 967) (by decide +kernel), List.mem_of_getElem? (i := 1449) (by decide +kernel), List.mem_of_getElem? (i := 1450) (by decide +kernel)⟩
theorem lw_p56 : lw_okq (⟨"QueryHandlesModel", "isQuery", "(I)Z"⟩, 53) := ⟨⟨by decide +kernel, by decide +kernel⟩, List.mem_of_getElem? (i := 967) (by decide +kernel), List.mem_of_getElem? (i := 1484) (by decide +kernel), List.mem_of_getElem? (i := 1485) (by decide +kernel)⟩
theorem lw_p57 : lw_okq (⟨"QueryHandlesModel", "asks", "(II)I"⟩, 53) := ⟨⟨by decide +kernel, by decide +kernel⟩, List.mem_of_getElem? (i := 967) (by decide +kernel), List.mem_of_getElem? (i := 1494) (by decide +kernel), List.mem_of_getElem? (i := 1495) (by decide +kernel)⟩
theorem lw_p58 : lw_okq (⟨"QueryHandlesModel", "compares", "(I)Z"⟩, 53) := ⟨⟨by decide +kernel, by decide +kernel⟩, List.mem_of_getElem? (i := 967) (by decide +kernel), List.mem_of_getElem? (i := 1498) (by decide +kernel), List.mem_of_getElem? (i := 1499) (by decide +kernel)⟩
theorem lw_p59 : lw_okq (⟨"QueryHandlesModel", "mix", "(J)V"⟩, 53) := ⟨⟨by decide +kernel, by decide +kernel⟩, List.mem_of_getElem? (i := 967) (by decide +kernel), List.mem_of_getElem? (i := 1534) (by decide +kernel), List.mem_of_getElem? (i := 1535) (by decide +kernel)⟩
def lw_privs_4 : List (MethodName × Nat) := [(⟨"QueryHandlesModel", "readBy", "(II)I"⟩, 53), (⟨"QueryHandlesModel", "reach", "(II)I"⟩, 53), (⟨"QueryHandlesModel", "isOf", "(II)Z"⟩, 53), (⟨"QueryHandlesModel", "work", "(II)I"⟩, 53), (⟨"QueryHandlesModel", "ends", "(III)I"⟩, 53), (⟨"QueryHandlesModel", "takeField", "(II)V"⟩, 53), (⟨"QueryHandlesModel", "placeIn", "(II)I"⟩, 53), (⟨"QueryHandlesModel", "comesTo", "(I)I"⟩, 53), (⟨"QueryHandlesModel", "isQuery", "(I)Z"⟩, 53), (⟨"QueryHandlesModel", "asks", "(II)I"⟩, 53), (⟨"QueryHandlesModel", "compares", "(I)Z"⟩, 53), (⟨"QueryHandlesModel", "mix", "(J)V"⟩, 53)]
theorem lw_r4 : ∀ q ∈ lw_privs_4, lw_okq q := List.forall_mem_cons.mpr ⟨lw_p48, List.forall_mem_cons.mpr ⟨lw_p49, List.forall_mem_cons.mpr ⟨lw_p50, List.forall_mem_cons.mpr ⟨lw_p51, List.forall_mem_cons.mpr ⟨lw_p52, List.forall_mem_cons.mpr ⟨lw_p53, List.forall_mem_cons.mpr ⟨lw_p54, List.forall_mem_cons.mpr ⟨lw_p55, List.forall_mem_cons.mpr ⟨lw_p56, List.forall_mem_cons.mpr ⟨lw_p57, List.forall_mem_cons.mpr ⟨lw_p58, List.forall_mem_cons.mpr ⟨lw_p59, fun _ h => absurd h List.not_mem_nil⟩⟩⟩⟩⟩⟩⟩⟩⟩⟩⟩⟩
def lw_privs : List (MethodName × Nat) := lw_privs_1 ++ (lw_privs_2 ++ (lw_privs_3 ++ (lw_privs_4)))
def lw_tbl : List Cond := k2_sels lw_privs ++ tables_1
theorem lw_privs_ok : ∀ q ∈ lw_privs, lw_okq q := by
  show ∀ q ∈ lw_privs_1 ++ (lw_privs_2 ++ (lw_privs_3 ++ (lw_privs_4))), lw_okq q
  exact List.forall_mem_append.mpr ⟨lw_r1, List.forall_mem_append.mpr ⟨lw_r2, List.forall_mem_append.mpr ⟨lw_r3, lw_r4⟩⟩⟩
/-- the streams that the claim lets the run draw from -/
abbrev lw_cs : List Choice := [Jvm.Choice.named "NaN.bits", Jvm.Choice.named "NaN.copy"]
theorem lw_bits : nanBits ∈ lw_cs := by first | decide | exact List.mem_cons_self | simp [lw_cs, nanBits]
def RX0 : String := "QueryHandles$Column"
def TX0 : u_T := fun k => match k with
  | 0 => ("QueryHandles$Column", "lane", "I", true)
  | _ => ("QueryHandles$Column", "cells", "[J", true)
def tyX0 : Nat → FieldType := fun k => match k with
  | 0 => .int
  | _ => .array .long
theorem nmX0 : ∀ a, a < 2 → ∀ b, b < 2 → a ≠ b → (TX0 a).2.1 ≠ (TX0 b).2.1 := by decide +kernel
theorem tyX0_ok : ∀ k, k < 2 → parseFieldDescriptor (TX0 k).2.2.1 = some (tyX0 k) := by decide +kernel
abbrev cX0_init : ByteArray := prog_2_method_1_code
def yX0_init : MethodName := ⟨RX0, "<init>", "(II)V"⟩
abbrev cX0_sumAsLong : ByteArray := prog_2_method_2_code
def yX0_sumAsLong : MethodName := ⟨RX0, "sumAsLong", "()J"⟩
abbrev cX0_sumAsDouble : ByteArray := prog_2_method_3_code
def yX0_sumAsDouble : MethodName := ⟨RX0, "sumAsDouble", "()J"⟩
def RX1 : String := "QueryHandles$Handle"
def TX1 : u_T := fun k => match k with
  | 0 => ("QueryHandles$Handle", "cls", "LQueryHandles$Type;", true)
  | 1 => ("QueryHandles$Handle", "field", "LQueryHandles$Member;", true)
  | _ => ("QueryHandles$Handle", "name", "I", true)
def tyX1 : Nat → FieldType := fun k => match k with
  | 0 => .object "QueryHandles$Type"
  | 1 => .object "QueryHandles$Member"
  | _ => .int
theorem nmX1 : ∀ a, a < 3 → ∀ b, b < 3 → a ≠ b → (TX1 a).2.1 ≠ (TX1 b).2.1 := by decide +kernel
theorem tyX1_ok : ∀ k, k < 3 → parseFieldDescriptor (TX1 k).2.2.1 = some (tyX1 k) := by decide +kernel
abbrev cX1_init : ByteArray := prog_3_method_1_code
def yX1_init : MethodName := ⟨RX1, "<init>", "(LQueryHandles$Type;LQueryHandles$Member;I)V"⟩
def RX2 : String := "QueryHandles$Lanes"
def TX2 : u_T := fun k => match k with
  | _ => ("", "", "", false)
def tyX2 : Nat → FieldType := fun k => match k with
  | _ => .int
theorem nmX2 : ∀ a, a < 0 → ∀ b, b < 0 → a ≠ b → (TX2 a).2.1 ≠ (TX2 b).2.1 := by decide +kernel
theorem tyX2_ok : ∀ k, k < 0 → parseFieldDescriptor (TX2 k).2.2.1 = some (tyX2 k) := by decide +kernel
abbrev cX2_widens : ByteArray := prog_4_method_2_code
def yX2_widens : MethodName := ⟨RX2, "widens", "(II)Z"⟩
abbrev cX2_fit : ByteArray := prog_4_method_3_code
def yX2_fit : MethodName := ⟨RX2, "fit", "(IJ)J"⟩
abbrev cX2_widened : ByteArray := prog_4_method_4_code
def yX2_widened : MethodName := ⟨RX2, "widened", "(JII)J"⟩
abbrev cX2_longAsFloat : ByteArray := prog_4_method_5_code
def yX2_longAsFloat : MethodName := ⟨RX2, "longAsFloat", "(J)J"⟩
abbrev cX2_longAsDouble : ByteArray := prog_4_method_6_code
def yX2_longAsDouble : MethodName := ⟨RX2, "longAsDouble", "(J)J"⟩
abbrev cX2_rounded : ByteArray := prog_4_method_7_code
def yX2_rounded : MethodName := ⟨RX2, "rounded", "(JII)J"⟩
abbrev cX2_floatAsDouble : ByteArray := prog_4_method_8_code
def yX2_floatAsDouble : MethodName := ⟨RX2, "floatAsDouble", "(J)J"⟩
abbrev cX2_isNoNumber : ByteArray := prog_4_method_9_code
def yX2_isNoNumber : MethodName := ⟨RX2, "isNoNumber", "(J)Z"⟩
abbrev cX2_hasEnd : ByteArray := prog_4_method_10_code
def yX2_hasEnd : MethodName := ⟨RX2, "hasEnd", "(J)Z"⟩
abbrev cX2_compares : ByteArray := prog_4_method_11_code
def yX2_compares : MethodName := ⟨RX2, "compares", "(JIIJ)Z"⟩
abbrev cX2_ordered : ByteArray := prog_4_method_12_code
def yX2_ordered : MethodName := ⟨RX2, "ordered", "(J)J"⟩
abbrev cX2_isSo : ByteArray := prog_4_method_13_code
def yX2_isSo : MethodName := ⟨RX2, "isSo", "(II)Z"⟩
abbrev cX2_added : ByteArray := prog_4_method_14_code
def yX2_added : MethodName := ⟨RX2, "added", "(JJ)J"⟩
abbrev cX2_exponent : ByteArray := prog_4_method_15_code
def yX2_exponent : MethodName := ⟨RX2, "exponent", "(J)I"⟩
abbrev cX2_significand : ByteArray := prog_4_method_16_code
def yX2_significand : MethodName := ⟨RX2, "significand", "(J)J"⟩
abbrev cX2_shiftedOut : ByteArray := prog_4_method_17_code
def yX2_shiftedOut : MethodName := ⟨RX2, "shiftedOut", "(JI)J"⟩
abbrev cX2_packed : ByteArray := prog_4_method_18_code
def yX2_packed : MethodName := ⟨RX2, "packed", "(JI)J"⟩
def RX3 : String := "QueryHandles$Member"
def TX3 : u_T := fun k => match k with
  | 0 => ("QueryHandles$Member", "owner", "LQueryHandles$Type;", true)
  | 1 => ("QueryHandles$Member", "number", "I", true)
  | 2 => ("QueryHandles$Member", "name", "I", true)
  | 3 => ("QueryHandles$Member", "type", "LQueryHandles$Type;", true)
  | 4 => ("QueryHandles$Member", "shared", "Z", true)
  | 5 => ("QueryHandles$Member", "placeNumber", "I", true)
  | 6 => ("QueryHandles$Member", "body", "I", true)
  | 7 => ("QueryHandles$Member", "a", "I", true)
  | _ => ("QueryHandles$Member", "place", "J", false)
def tyX3 : Nat → FieldType := fun k => match k with
  | 0 => .object "QueryHandles$Type"
  | 1 => .int
  | 2 => .int
  | 3 => .object "QueryHandles$Type"
  | 4 => .boolean
  | 5 => .int
  | 6 => .int
  | 7 => .int
  | _ => .long
theorem nmX3 : ∀ a, a < 9 → ∀ b, b < 9 → a ≠ b → (TX3 a).2.1 ≠ (TX3 b).2.1 := by decide +kernel
theorem tyX3_ok : ∀ k, k < 9 → parseFieldDescriptor (TX3 k).2.2.1 = some (tyX3 k) := by decide +kernel
abbrev cX3_init : ByteArray := prog_5_method_1_code
def yX3_init : MethodName := ⟨RX3, "<init>", "(LQueryHandles$Type;ILQueryHandles$Type;Z)V"⟩
abbrev cX3_init_ : ByteArray := prog_5_method_2_code
def yX3_init_ : MethodName := ⟨RX3, "<init>", "(LQueryHandles$Type;III)V"⟩
abbrev cX3_code : ByteArray := prog_5_method_3_code
def yX3_code : MethodName := ⟨RX3, "code", "()I"⟩
abbrev cX3_isField : ByteArray := prog_5_method_4_code
def yX3_isField : MethodName := ⟨RX3, "isField", "()Z"⟩
abbrev cX3_isPlaced : ByteArray := prog_5_method_5_code
def yX3_isPlaced : MethodName := ⟨RX3, "isPlaced", "()Z"⟩
abbrev cX3_firstHeld : ByteArray := prog_5_method_6_code
def yX3_firstHeld : MethodName := ⟨RX3, "firstHeld", "()J"⟩
def RX4 : String := "QueryHandles$Query"
def TX4 : u_T := fun k => match k with
  | 0 => ("QueryHandles$Query", "handles", "[LQueryHandles$Handle;", true)
  | 1 => ("QueryHandles$Query", "ops", "[I", true)
  | 2 => ("QueryHandles$Query", "numbers", "[J", true)
  | 3 => ("QueryHandles$Query", "ors", "[Z", true)
  | _ => ("QueryHandles$Query", "count", "I", false)
def tyX4 : Nat → FieldType := fun k => match k with
  | 0 => .array (.object "QueryHandles$Handle")
  | 1 => .array .int
  | 2 => .array .long
  | 3 => .array .boolean
  | _ => .int
theorem nmX4 : ∀ a, a < 5 → ∀ b, b < 5 → a ≠ b → (TX4 a).2.1 ≠ (TX4 b).2.1 := by decide +kernel
theorem tyX4_ok : ∀ k, k < 5 → parseFieldDescriptor (TX4 k).2.2.1 = some (tyX4 k) := by decide +kernel
abbrev cX4_init : ByteArray := prog_6_method_1_code
def yX4_init : MethodName := ⟨RX4, "<init>", "()V"⟩
abbrev cX4_addTest : ByteArray := prog_6_method_2_code
def yX4_addTest : MethodName := ⟨RX4, "addTest", "(LQueryHandles$Handle;IJZ)I"⟩
def RX5 : String := "QueryHandles$Reader"
def TX5 : u_T := fun k => match k with
  | 0 => ("QueryHandles$Reader", "types", "LQueryHandles$Types;", true)
  | 1 => ("QueryHandles$Reader", "things", "LQueryHandles$Things;", true)
  | 2 => ("QueryHandles$Reader", "handles", "[LQueryHandles$Handle;", true)
  | 3 => ("QueryHandles$Reader", "traced", "[I", true)
  | 4 => ("QueryHandles$Reader", "handleCount", "I", false)
  | 5 => ("QueryHandles$Reader", "traceCount", "I", false)
  | 6 => ("QueryHandles$Reader", "laneRead", "I", false)
  | _ => ("QueryHandles$Reader", "bitsRead", "J", false)
def tyX5 : Nat → FieldType := fun k => match k with
  | 0 => .object "QueryHandles$Types"
  | 1 => .object "QueryHandles$Things"
  | 2 => .array (.object "QueryHandles$Handle")
  | 3 => .array .int
  | 4 => .int
  | 5 => .int
  | 6 => .int
  | _ => .long
theorem nmX5 : ∀ a, a < 8 → ∀ b, b < 8 → a ≠ b → (TX5 a).2.1 ≠ (TX5 b).2.1 := by decide +kernel
theorem tyX5_ok : ∀ k, k < 8 → parseFieldDescriptor (TX5 k).2.2.1 = some (tyX5 k) := by decide +kernel
abbrev cX5_init : ByteArray := prog_7_method_1_code
def yX5_init : MethodName := ⟨RX5, "<init>", "(LQueryHandles$Types;LQueryHandles$Things;)V"⟩
abbrev cX5_handleAt : ByteArray := prog_7_method_2_code
def yX5_handleAt : MethodName := ⟨RX5, "handleAt", "(I)LQueryHandles$Handle;"⟩
abbrev cX5_addHandle : ByteArray := prog_7_method_3_code
def yX5_addHandle : MethodName := ⟨RX5, "addHandle", "(IIZ)I"⟩
abbrev cX5_whyNotOf : ByteArray := prog_7_method_4_code
def yX5_whyNotOf : MethodName := ⟨RX5, "whyNotOf", "(LQueryHandles$Handle;LQueryHandles$Thing;)I"⟩
abbrev cX5_readBy : ByteArray := prog_7_method_5_code
def yX5_readBy : MethodName := ⟨RX5, "readBy", "(LQueryHandles$Handle;LQueryHandles$Thing;)I"⟩
abbrev cX5_readField : ByteArray := prog_7_method_6_code
def yX5_readField : MethodName := ⟨RX5, "readField", "(LQueryHandles$Member;LQueryHandles$Thing;)I"⟩
abbrev cX5_readBody : ByteArray := prog_7_method_7_code
def yX5_readBody : MethodName := ⟨RX5, "readBody", "(ILQueryHandles$Thing;)I"⟩
abbrev cX5_readLast : ByteArray := prog_7_method_8_code
def yX5_readLast : MethodName := ⟨RX5, "readLast", "(LQueryHandles$Member;LQueryHandles$Thing;)I"⟩
abbrev cX5_addOnes : ByteArray := prog_7_method_9_code
def yX5_addOnes : MethodName := ⟨RX5, "addOnes", "(I)I"⟩
abbrev cX5_keepTrace : ByteArray := prog_7_method_10_code
def yX5_keepTrace : MethodName := ⟨RX5, "keepTrace", "(I)V"⟩
abbrev cX5_writeField : ByteArray := prog_7_method_11_code
def yX5_writeField : MethodName := ⟨RX5, "writeField", "(LQueryHandles$Handle;LQueryHandles$Thing;J)I"⟩
def RX6 : String := "QueryHandles$Thing"
def TX6 : u_T := fun k => match k with
  | 0 => ("QueryHandles$Thing", "cls", "LQueryHandles$Type;", true)
  | 1 => ("QueryHandles$Thing", "base", "I", true)
  | 2 => ("QueryHandles$Thing", "depth", "I", true)
  | _ => ("QueryHandles$Thing", "items", "[J", true)
def tyX6 : Nat → FieldType := fun k => match k with
  | 0 => .object "QueryHandles$Type"
  | 1 => .int
  | 2 => .int
  | _ => .array .long
theorem nmX6 : ∀ a, a < 4 → ∀ b, b < 4 → a ≠ b → (TX6 a).2.1 ≠ (TX6 b).2.1 := by decide +kernel
theorem tyX6_ok : ∀ k, k < 4 → parseFieldDescriptor (TX6 k).2.2.1 = some (tyX6 k) := by decide +kernel
abbrev cX6_init : ByteArray := prog_8_method_1_code
def yX6_init : MethodName := ⟨RX6, "<init>", "(LQueryHandles$Type;III)V"⟩
abbrev cX6_placeOf : ByteArray := prog_8_method_2_code
def yX6_placeOf : MethodName := ⟨RX6, "placeOf", "(LQueryHandles$Member;)I"⟩
def RX7 : String := "QueryHandles$Things"
def TX7 : u_T := fun k => match k with
  | 0 => ("QueryHandles$Things", "types", "LQueryHandles$Types;", true)
  | 1 => ("QueryHandles$Things", "all", "[LQueryHandles$Thing;", true)
  | _ => ("QueryHandles$Things", "count", "I", false)
def tyX7 : Nat → FieldType := fun k => match k with
  | 0 => .object "QueryHandles$Types"
  | 1 => .array (.object "QueryHandles$Thing")
  | _ => .int
theorem nmX7 : ∀ a, a < 3 → ∀ b, b < 3 → a ≠ b → (TX7 a).2.1 ≠ (TX7 b).2.1 := by decide +kernel
theorem tyX7_ok : ∀ k, k < 3 → parseFieldDescriptor (TX7 k).2.2.1 = some (tyX7 k) := by decide +kernel
abbrev cX7_init : ByteArray := prog_9_method_1_code
def yX7_init : MethodName := ⟨RX7, "<init>", "(LQueryHandles$Types;)V"⟩
abbrev cX7_at : ByteArray := prog_9_method_2_code
def yX7_at : MethodName := ⟨RX7, "at", "(I)LQueryHandles$Thing;"⟩
abbrev cX7_keep : ByteArray := prog_9_method_3_code
def yX7_keep : MethodName := ⟨RX7, "keep", "(LQueryHandles$Thing;)I"⟩
abbrev cX7_addOfClass : ByteArray := prog_9_method_4_code
def yX7_addOfClass : MethodName := ⟨RX7, "addOfClass", "(I)I"⟩
abbrev cX7_placeFields : ByteArray := prog_9_method_5_code
def yX7_placeFields : MethodName := ⟨RX7, "placeFields", "(LQueryHandles$Thing;LQueryHandles$Type;I)V"⟩
abbrev cX7_addRow : ByteArray := prog_9_method_6_code
def yX7_addRow : MethodName := ⟨RX7, "addRow", "(II)I"⟩
abbrev cX7_mayHold : ByteArray := prog_9_method_7_code
def yX7_mayHold : MethodName := ⟨RX7, "mayHold", "(IIJ)Z"⟩
abbrev cX7_mixedInto : ByteArray := prog_9_method_8_code
def yX7_mixedInto : MethodName := ⟨RX7, "mixedInto", "(J)J"⟩
def RX8 : String := "QueryHandles$Type"
def TX8 : u_T := fun k => match k with
  | 0 => ("QueryHandles$Type", "number", "I", true)
  | 1 => ("QueryHandles$Type", "sort", "I", true)
  | 2 => ("QueryHandles$Type", "from", "LQueryHandles$Type;", true)
  | 3 => ("QueryHandles$Type", "owner", "LQueryHandles$Type;", true)
  | 4 => ("QueryHandles$Type", "open", "Z", true)
  | 5 => ("QueryHandles$Type", "base", "I", true)
  | 6 => ("QueryHandles$Type", "depth", "I", true)
  | 7 => ("QueryHandles$Type", "uppers", "LQueryHandles$TypeSet;", true)
  | 8 => ("QueryHandles$Type", "facesTold", "LQueryHandles$TypeSet;", true)
  | 9 => ("QueryHandles$Type", "members", "[LQueryHandles$Member;", true)
  | 10 => ("QueryHandles$Type", "fieldsByName", "[LQueryHandles$Member;", true)
  | 11 => ("QueryHandles$Type", "methodsByName", "[LQueryHandles$Member;", true)
  | 12 => ("QueryHandles$Type", "memberCount", "I", false)
  | 13 => ("QueryHandles$Type", "placeCount", "I", false)
  | 14 => ("QueryHandles$Type", "closed", "Z", false)
  | _ => ("QueryHandles$Type", "row", "I", false)
def tyX8 : Nat → FieldType := fun k => match k with
  | 0 => .int
  | 1 => .int
  | 2 => .object "QueryHandles$Type"
  | 3 => .object "QueryHandles$Type"
  | 4 => .boolean
  | 5 => .int
  | 6 => .int
  | 7 => .object "QueryHandles$TypeSet"
  | 8 => .object "QueryHandles$TypeSet"
  | 9 => .array (.object "QueryHandles$Member")
  | 10 => .array (.object "QueryHandles$Member")
  | 11 => .array (.object "QueryHandles$Member")
  | 12 => .int
  | 13 => .int
  | 14 => .boolean
  | _ => .int
theorem nmX8 : ∀ a, a < 16 → ∀ b, b < 16 → a ≠ b → (TX8 a).2.1 ≠ (TX8 b).2.1 := by decide +kernel
theorem tyX8_ok : ∀ k, k < 16 → parseFieldDescriptor (TX8 k).2.2.1 = some (tyX8 k) := by decide +kernel
abbrev cX8_init : ByteArray := prog_10_method_1_code
def yX8_init : MethodName := ⟨RX8, "<init>", "(IILQueryHandles$Type;LQueryHandles$Type;Z)V"⟩
abbrev cX8_memberAt : ByteArray := prog_10_method_2_code
def yX8_memberAt : MethodName := ⟨RX8, "memberAt", "(I)LQueryHandles$Member;"⟩
abbrev cX8_fieldNamed : ByteArray := prog_10_method_3_code
def yX8_fieldNamed : MethodName := ⟨RX8, "fieldNamed", "(I)LQueryHandles$Member;"⟩
abbrev cX8_methodNamed : ByteArray := prog_10_method_4_code
def yX8_methodNamed : MethodName := ⟨RX8, "methodNamed", "(I)LQueryHandles$Member;"⟩
abbrev cX8_keepMember : ByteArray := prog_10_method_5_code
def yX8_keepMember : MethodName := ⟨RX8, "keepMember", "(LQueryHandles$Member;)I"⟩
def RX9 : String := "QueryHandles$TypeSet"
def TX9 : u_T := fun k => match k with
  | 0 => ("QueryHandles$TypeSet", "low", "J", false)
  | _ => ("QueryHandles$TypeSet", "high", "J", false)
def tyX9 : Nat → FieldType := fun k => match k with
  | 0 => .long
  | _ => .long
theorem nmX9 : ∀ a, a < 2 → ∀ b, b < 2 → a ≠ b → (TX9 a).2.1 ≠ (TX9 b).2.1 := by decide +kernel
theorem tyX9_ok : ∀ k, k < 2 → parseFieldDescriptor (TX9 k).2.2.1 = some (tyX9 k) := by decide +kernel
abbrev cX9_init : ByteArray := prog_11_method_1_code
def yX9_init : MethodName := ⟨RX9, "<init>", "()V"⟩
abbrev cX9_has : ByteArray := prog_11_method_2_code
def yX9_has : MethodName := ⟨RX9, "has", "(I)Z"⟩
abbrev cX9_add : ByteArray := prog_11_method_3_code
def yX9_add : MethodName := ⟨RX9, "add", "(I)V"⟩
abbrev cX9_addAll : ByteArray := prog_11_method_4_code
def yX9_addAll : MethodName := ⟨RX9, "addAll", "(LQueryHandles$TypeSet;)V"⟩
abbrev cX9_removeAll : ByteArray := prog_11_method_5_code
def yX9_removeAll : MethodName := ⟨RX9, "removeAll", "(LQueryHandles$TypeSet;)V"⟩
abbrev cX9_becomeBoth : ByteArray := prog_11_method_6_code
def yX9_becomeBoth : MethodName := ⟨RX9, "becomeBoth", "(LQueryHandles$TypeSet;LQueryHandles$TypeSet;)V"⟩
abbrev cX9_size : ByteArray := prog_11_method_7_code
def yX9_size : MethodName := ⟨RX9, "size", "()I"⟩
abbrev cX9_last : ByteArray := prog_11_method_8_code
def yX9_last : MethodName := ⟨RX9, "last", "()I"⟩
def RX10 : String := "QueryHandles$Types"
def TX10 : u_T := fun k => match k with
  | 0 => ("QueryHandles$Types", "all", "[LQueryHandles$Type;", true)
  | 1 => ("QueryHandles$Types", "lenders", "[LQueryHandles$TypeSet;", true)
  | 2 => ("QueryHandles$Types", "candidates", "LQueryHandles$TypeSet;", true)
  | 3 => ("QueryHandles$Types", "count", "I", false)
  | 4 => ("QueryHandles$Types", "classCount", "I", false)
  | _ => ("QueryHandles$Types", "closedCount", "I", false)
def tyX10 : Nat → FieldType := fun k => match k with
  | 0 => .array (.object "QueryHandles$Type")
  | 1 => .array (.object "QueryHandles$TypeSet")
  | 2 => .object "QueryHandles$TypeSet"
  | 3 => .int
  | 4 => .int
  | _ => .int
theorem nmX10 : ∀ a, a < 6 → ∀ b, b < 6 → a ≠ b → (TX10 a).2.1 ≠ (TX10 b).2.1 := by decide +kernel
theorem tyX10_ok : ∀ k, k < 6 → parseFieldDescriptor (TX10 k).2.2.1 = some (tyX10 k) := by decide +kernel
abbrev cX10_init : ByteArray := prog_12_method_1_code
def yX10_init : MethodName := ⟨RX10, "<init>", "()V"⟩
abbrev cX10_at : ByteArray := prog_12_method_2_code
def yX10_at : MethodName := ⟨RX10, "at", "(I)LQueryHandles$Type;"⟩
abbrev cX10_classAt : ByteArray := prog_12_method_3_code
def yX10_classAt : MethodName := ⟨RX10, "classAt", "(I)LQueryHandles$Type;"⟩
abbrev cX10_faceAt : ByteArray := prog_12_method_4_code
def yX10_faceAt : MethodName := ⟨RX10, "faceAt", "(I)LQueryHandles$Type;"⟩
abbrev cX10_ownClassAt : ByteArray := prog_12_method_5_code
def yX10_ownClassAt : MethodName := ⟨RX10, "ownClassAt", "(I)LQueryHandles$Type;"⟩
abbrev cX10_memberedAt : ByteArray := prog_12_method_6_code
def yX10_memberedAt : MethodName := ⟨RX10, "memberedAt", "(I)LQueryHandles$Type;"⟩
abbrev cX10_add : ByteArray := prog_12_method_7_code
def yX10_add : MethodName := ⟨RX10, "add", "(ILQueryHandles$Type;LQueryHandles$Type;Z)I"⟩
abbrev cX10_addClass : ByteArray := prog_12_method_8_code
def yX10_addClass : MethodName := ⟨RX10, "addClass", "(IZ)I"⟩
abbrev cX10_addFace : ByteArray := prog_12_method_9_code
def yX10_addFace : MethodName := ⟨RX10, "addFace", "()I"⟩
abbrev cX10_addVariable : ByteArray := prog_12_method_10_code
def yX10_addVariable : MethodName := ⟨RX10, "addVariable", "(II)I"⟩
abbrev cX10_rowOf : ByteArray := prog_12_method_11_code
def yX10_rowOf : MethodName := ⟨RX10, "rowOf", "(I)I"⟩
abbrev cX10_tellFace : ByteArray := prog_12_method_12_code
def yX10_tellFace : MethodName := ⟨RX10, "tellFace", "(II)I"⟩
abbrev cX10_isUnder : ByteArray := prog_12_method_13_code
def yX10_isUnder : MethodName := ⟨RX10, "isUnder", "(IIII)Z"⟩
abbrev cX10_isThingUnder : ByteArray := prog_12_method_14_code
def yX10_isThingUnder : MethodName := ⟨RX10, "isThingUnder", "(LQueryHandles$Thing;LQueryHandles$Type;)Z"⟩
abbrev cX10_addField : ByteArray := prog_12_method_15_code
def yX10_addField : MethodName := ⟨RX10, "addField", "(IIIZ)I"⟩
abbrev cX10_addMethod : ByteArray := prog_12_method_16_code
def yX10_addMethod : MethodName := ⟨RX10, "addMethod", "(IIII)I"⟩
abbrev cX10_mayHaveBody : ByteArray := prog_12_method_17_code
def yX10_mayHaveBody : MethodName := ⟨RX10, "mayHaveBody", "(LQueryHandles$Type;II)Z"⟩
abbrev cX10_bodyFor : ByteArray := prog_12_method_18_code
def yX10_bodyFor : MethodName := ⟨RX10, "bodyFor", "(LQueryHandles$Type;I)I"⟩
abbrev cX10_lentBodyFor : ByteArray := prog_12_method_19_code
def yX10_lentBodyFor : MethodName := ⟨RX10, "lentBodyFor", "(LQueryHandles$Type;I)I"⟩
abbrev cX10_fieldFrom : ByteArray := prog_12_method_20_code
def yX10_fieldFrom : MethodName := ⟨RX10, "fieldFrom", "(LQueryHandles$Type;I)LQueryHandles$Member;"⟩
abbrev cX10_anyMethodFor : ByteArray := prog_12_method_21_code
def yX10_anyMethodFor : MethodName := ⟨RX10, "anyMethodFor", "(LQueryHandles$Type;I)Z"⟩
abbrev cX10_memberOf : ByteArray := prog_12_method_22_code
def yX10_memberOf : MethodName := ⟨RX10, "memberOf", "(I)LQueryHandles$Member;"⟩
abbrev cX10_closeFor : ByteArray := prog_12_method_23_code
def yX10_closeFor : MethodName := ⟨RX10, "closeFor", "(LQueryHandles$Type;)V"⟩
abbrev cX10_sharedMixedInto : ByteArray := prog_12_method_24_code
def yX10_sharedMixedInto : MethodName := ⟨RX10, "sharedMixedInto", "(J)J"⟩
def RX11 : String := "QueryHandles"
def TX11 : u_T := fun k => match k with
  | 0 => ("QueryHandles", "types", "LQueryHandles$Types;", true)
  | 1 => ("QueryHandles", "things", "LQueryHandles$Things;", true)
  | 2 => ("QueryHandles", "reader", "LQueryHandles$Reader;", true)
  | 3 => ("QueryHandles", "columns", "[LQueryHandles$Column;", true)
  | 4 => ("QueryHandles", "queries", "[LQueryHandles$Query;", true)
  | 5 => ("QueryHandles", "hits", "[I", true)
  | 6 => ("QueryHandles", "queryCount", "I", false)
  | 7 => ("QueryHandles", "hitCount", "I", false)
  | 8 => ("QueryHandles", "failedAt", "I", false)
  | 9 => ("QueryHandles", "filledCount", "I", false)
  | 10 => ("QueryHandles", "laneTold", "I", false)
  | _ => ("QueryHandles", "refusal", "I", false)
def tyX11 : Nat → FieldType := fun k => match k with
  | 0 => .object "QueryHandles$Types"
  | 1 => .object "QueryHandles$Things"
  | 2 => .object "QueryHandles$Reader"
  | 3 => .array (.object "QueryHandles$Column")
  | 4 => .array (.object "QueryHandles$Query")
  | 5 => .array .int
  | 6 => .int
  | 7 => .int
  | 8 => .int
  | 9 => .int
  | 10 => .int
  | _ => .int
theorem nmX11 : ∀ a, a < 12 → ∀ b, b < 12 → a ≠ b → (TX11 a).2.1 ≠ (TX11 b).2.1 := by decide +kernel
theorem tyX11_ok : ∀ k, k < 12 → parseFieldDescriptor (TX11 k).2.2.1 = some (tyX11 k) := by decide +kernel
abbrev cX11_init : ByteArray := prog_1_method_1_code
def yX11_init : MethodName := ⟨RX11, "<init>", "()V"⟩
abbrev cX11_cls : ByteArray := prog_1_method_2_code
def yX11_cls : MethodName := ⟨RX11, "cls", "(IZ)I"⟩
abbrev cX11_face : ByteArray := prog_1_method_3_code
def yX11_face : MethodName := ⟨RX11, "face", "()I"⟩
abbrev cX11_under : ByteArray := prog_1_method_4_code
def yX11_under : MethodName := ⟨RX11, "under", "(II)I"⟩
abbrev cX11_variable : ByteArray := prog_1_method_5_code
def yX11_variable : MethodName := ⟨RX11, "variable", "(II)I"⟩
abbrev cX11_row : ByteArray := prog_1_method_6_code
def yX11_row : MethodName := ⟨RX11, "row", "(I)I"⟩
abbrev cX11_erased : ByteArray := prog_1_method_7_code
def yX11_erased : MethodName := ⟨RX11, "erased", "(II)I"⟩
abbrev cX11_is : ByteArray := prog_1_method_8_code
def yX11_is : MethodName := ⟨RX11, "is", "(II)I"⟩
abbrev cX11_field : ByteArray := prog_1_method_9_code
def yX11_field : MethodName := ⟨RX11, "field", "(IIIZ)I"⟩
abbrev cX11_method : ByteArray := prog_1_method_10_code
def yX11_method : MethodName := ⟨RX11, "method", "(IIII)I"⟩
abbrev cX11_found : ByteArray := prog_1_method_11_code
def yX11_found : MethodName := ⟨RX11, "found", "(II)I"⟩
abbrev cX11_seen : ByteArray := prog_1_method_12_code
def yX11_seen : MethodName := ⟨RX11, "seen", "(II)I"⟩
abbrev cX11_thing : ByteArray := prog_1_method_13_code
def yX11_thing : MethodName := ⟨RX11, "thing", "(I)I"⟩
abbrev cX11_things : ByteArray := prog_1_method_14_code
def yX11_things : MethodName := ⟨RX11, "things", "(II)I"⟩
abbrev cX11_kind : ByteArray := prog_1_method_15_code
def yX11_kind : MethodName := ⟨RX11, "kind", "(II)I"⟩
abbrev cX11_isA : ByteArray := prog_1_method_16_code
def yX11_isA : MethodName := ⟨RX11, "isA", "(II)I"⟩
abbrev cX11_read : ByteArray := prog_1_method_17_code
def yX11_read : MethodName := ⟨RX11, "read", "(II)J"⟩
abbrev cX11_write : ByteArray := prog_1_method_18_code
def yX11_write : MethodName := ⟨RX11, "write", "(IIJ)I"⟩
abbrev cX11_readAs : ByteArray := prog_1_method_19_code
def yX11_readAs : MethodName := ⟨RX11, "readAs", "(III)J"⟩
abbrev cX11_writeAs : ByteArray := prog_1_method_20_code
def yX11_writeAs : MethodName := ⟨RX11, "writeAs", "(IIIJ)I"⟩
abbrev cX11_handle : ByteArray := prog_1_method_21_code
def yX11_handle : MethodName := ⟨RX11, "handle", "(IIZ)I"⟩
abbrev cX11_get : ByteArray := prog_1_method_22_code
def yX11_get : MethodName := ⟨RX11, "get", "(II)J"⟩
abbrev cX11_lane : ByteArray := prog_1_method_23_code
def yX11_lane : MethodName := ⟨RX11, "lane", "()I"⟩
abbrev cX11_getAs : ByteArray := prog_1_method_24_code
def yX11_getAs : MethodName := ⟨RX11, "getAs", "(III)J"⟩
abbrev cX11_set : ByteArray := prog_1_method_25_code
def yX11_set : MethodName := ⟨RX11, "set", "(IIJ)I"⟩
abbrev cX11_column : ByteArray := prog_1_method_26_code
def yX11_column : MethodName := ⟨RX11, "column", "(III)I"⟩
abbrev cX11_fill : ByteArray := prog_1_method_27_code
def yX11_fill : MethodName := ⟨RX11, "fill", "(II)I"⟩
abbrev cX11_filled : ByteArray := prog_1_method_28_code
def yX11_filled : MethodName := ⟨RX11, "filled", "()I"⟩
abbrev cX11_cell : ByteArray := prog_1_method_29_code
def yX11_cell : MethodName := ⟨RX11, "cell", "(II)J"⟩
abbrev cX11_sum : ByteArray := prog_1_method_30_code
def yX11_sum : MethodName := ⟨RX11, "sum", "(I)J"⟩
abbrev cX11_query : ByteArray := prog_1_method_31_code
def yX11_query : MethodName := ⟨RX11, "query", "()I"⟩
abbrev cX11_test : ByteArray := prog_1_method_32_code
def yX11_test : MethodName := ⟨RX11, "test", "(IIIJZ)I"⟩
abbrev cX11_run : ByteArray := prog_1_method_33_code
def yX11_run : MethodName := ⟨RX11, "run", "(III)I"⟩
abbrev cX11_hit : ByteArray := prog_1_method_34_code
def yX11_hit : MethodName := ⟨RX11, "hit", "(I)I"⟩
abbrev cX11_failed : ByteArray := prog_1_method_35_code
def yX11_failed : MethodName := ⟨RX11, "failed", "()I"⟩
abbrev cX11_total : ByteArray := prog_1_method_36_code
def yX11_total : MethodName := ⟨RX11, "total", "(I)J"⟩
abbrev cX11_trace : ByteArray := prog_1_method_37_code
def yX11_trace : MethodName := ⟨RX11, "trace", "(I)I"⟩
abbrev cX11_told : ByteArray := prog_1_method_38_code
def yX11_told : MethodName := ⟨RX11, "told", "(I)I"⟩
abbrev cX11_status : ByteArray := prog_1_method_39_code
def yX11_status : MethodName := ⟨RX11, "status", "()I"⟩
abbrev cX11_digest : ByteArray := prog_1_method_40_code
def yX11_digest : MethodName := ⟨RX11, "digest", "()J"⟩
abbrev cX11_answered : ByteArray := prog_1_method_41_code
def yX11_answered : MethodName := ⟨RX11, "answered", "(I)I"⟩
abbrev cX11_lostOr : ByteArray := prog_1_method_42_code
def yX11_lostOr : MethodName := ⟨RX11, "lostOr", "(IJ)J"⟩
abbrev cX11_isName : ByteArray := prog_1_method_43_code
def yX11_isName : MethodName := ⟨RX11, "isName", "(I)Z"⟩
abbrev cX11_isLane : ByteArray := prog_1_method_44_code
def yX11_isLane : MethodName := ⟨RX11, "isLane", "(I)Z"⟩
abbrev cX11_isColumn : ByteArray := prog_1_method_45_code
def yX11_isColumn : MethodName := ⟨RX11, "isColumn", "(I)Z"⟩
abbrev cX11_isNoThing : ByteArray := prog_1_method_46_code
def yX11_isNoThing : MethodName := ⟨RX11, "isNoThing", "(ILQueryHandles$Thing;)Z"⟩
abbrev cX11_holdsValue : ByteArray := prog_1_method_47_code
def yX11_holdsValue : MethodName := ⟨RX11, "holdsValue", "(II)Z"⟩
abbrev cX11_held : ByteArray := prog_1_method_48_code
def yX11_held : MethodName := ⟨RX11, "held", "(IIJ)J"⟩
abbrev cX11_mixed : ByteArray := prog_1_method_49_code
def yX11_mixed : MethodName := ⟨RX11, "mixed", "(J[J)J"⟩
abbrev cX11_topBit : ByteArray := prog_1_method_50_code
def yX11_topBit : MethodName := ⟨RX11, "topBit", "(J)I"⟩
abbrev cX11_whyNoItem : ByteArray := prog_1_method_51_code
def yX11_whyNoItem : MethodName := ⟨RX11, "whyNoItem", "(LQueryHandles$Thing;I)I"⟩
abbrev cX11_whyNoLaneItem : ByteArray := prog_1_method_52_code
def yX11_whyNoLaneItem : MethodName := ⟨RX11, "whyNoLaneItem", "(LQueryHandles$Thing;I)I"⟩
abbrev cX11_fillNext : ByteArray := prog_1_method_53_code
def yX11_fillNext : MethodName := ⟨RX11, "fillNext", "(LQueryHandles$Column;LQueryHandles$Handle;LQueryHandles$Thing;)I"⟩
abbrev cX11_queryAt : ByteArray := prog_1_method_54_code
def yX11_queryAt : MethodName := ⟨RX11, "queryAt", "(I)LQueryHandles$Query;"⟩
abbrev cX11_holds : ByteArray := prog_1_method_55_code
def yX11_holds : MethodName := ⟨RX11, "holds", "(LQueryHandles$Query;LQueryHandles$Thing;)I"⟩
def RX12 : String := "QueryHandlesModel"
def TX12 : u_T := fun k => match k with
  | 0 => ("QueryHandlesModel", "status", "I", false)
  | 1 => ("QueryHandlesModel", "types", "I", false)
  | 2 => ("QueryHandlesModel", "sort", "[I", true)
  | 3 => ("QueryHandlesModel", "above", "[I", true)
  | 4 => ("QueryHandlesModel", "of", "[I", true)
  | 5 => ("QueryHandlesModel", "isOpen", "[Z", true)
  | 6 => ("QueryHandlesModel", "isClosed", "[Z", true)
  | 7 => ("QueryHandlesModel", "faces", "[I", true)
  | 8 => ("QueryHandlesModel", "face", "[I", true)
  | 9 => ("QueryHandlesModel", "members", "[I", true)
  | 10 => ("QueryHandlesModel", "isField", "[Z", true)
  | 11 => ("QueryHandlesModel", "nameOf", "[I", true)
  | 12 => ("QueryHandlesModel", "typeOf", "[I", true)
  | 13 => ("QueryHandlesModel", "isShared", "[Z", true)
  | 14 => ("QueryHandlesModel", "body", "[I", true)
  | 15 => ("QueryHandlesModel", "number", "[I", true)
  | 16 => ("QueryHandlesModel", "sharedPlace", "[J", true)
  | 17 => ("QueryHandlesModel", "listed", "[I", true)
  | 18 => ("QueryHandlesModel", "listMany", "I", false)
  | 19 => ("QueryHandlesModel", "isListed", "[Z", true)
  | 20 => ("QueryHandlesModel", "waits", "[I", true)
  | 21 => ("QueryHandlesModel", "having", "[I", true)
  | 22 => ("QueryHandlesModel", "things", "I", false)
  | 23 => ("QueryHandlesModel", "baseOf", "[I", true)
  | 24 => ("QueryHandlesModel", "depthOf", "[I", true)
  | 25 => ("QueryHandlesModel", "sizeOf", "[I", true)
  | 26 => ("QueryHandlesModel", "placeAt", "[I", true)
  | 27 => ("QueryHandlesModel", "place", "[J", true)
  | 28 => ("QueryHandlesModel", "ready", "J", false)
  | 29 => ("QueryHandlesModel", "handles", "I", false)
  | 30 => ("QueryHandlesModel", "handleClass", "[I", true)
  | 31 => ("QueryHandlesModel", "ofMethod", "[Z", true)
  | 32 => ("QueryHandlesModel", "handleAt", "[I", true)
  | 33 => ("QueryHandlesModel", "lane", "I", false)
  | 34 => ("QueryHandlesModel", "value", "J", false)
  | 35 => ("QueryHandlesModel", "laneTold", "I", false)
  | 36 => ("QueryHandlesModel", "traced", "I", false)
  | 37 => ("QueryHandlesModel", "trace", "[I", true)
  | 38 => ("QueryHandlesModel", "isColumn", "[Z", true)
  | 39 => ("QueryHandlesModel", "columnLane", "[I", true)
  | 40 => ("QueryHandlesModel", "cells", "[I", true)
  | 41 => ("QueryHandlesModel", "cell", "[J", true)
  | 42 => ("QueryHandlesModel", "filled", "I", false)
  | 43 => ("QueryHandlesModel", "queries", "I", false)
  | 44 => ("QueryHandlesModel", "tests", "[I", true)
  | 45 => ("QueryHandlesModel", "testHandle", "[I", true)
  | 46 => ("QueryHandlesModel", "testOp", "[I", true)
  | 47 => ("QueryHandlesModel", "testNumber", "[J", true)
  | 48 => ("QueryHandlesModel", "isOr", "[Z", true)
  | 49 => ("QueryHandlesModel", "hits", "I", false)
  | 50 => ("QueryHandlesModel", "hit", "[I", true)
  | 51 => ("QueryHandlesModel", "failedAt", "I", false)
  | _ => ("QueryHandlesModel", "mixed", "J", false)
def tyX12 : Nat → FieldType := fun k => match k with
  | 0 => .int
  | 1 => .int
  | 2 => .array .int
  | 3 => .array .int
  | 4 => .array .int
  | 5 => .array .boolean
  | 6 => .array .boolean
  | 7 => .array .int
  | 8 => .array .int
  | 9 => .array .int
  | 10 => .array .boolean
  | 11 => .array .int
  | 12 => .array .int
  | 13 => .array .boolean
  | 14 => .array .int
  | 15 => .array .int
  | 16 => .array .long
  | 17 => .array .int
  | 18 => .int
  | 19 => .array .boolean
  | 20 => .array .int
  | 21 => .array .int
  | 22 => .int
  | 23 => .array .int
  | 24 => .array .int
  | 25 => .array .int
  | 26 => .array .int
  | 27 => .array .long
  | 28 => .long
  | 29 => .int
  | 30 => .array .int
  | 31 => .array .boolean
  | 32 => .array .int
  | 33 => .int
  | 34 => .long
  | 35 => .int
  | 36 => .int
  | 37 => .array .int
  | 38 => .array .boolean
  | 39 => .array .int
  | 40 => .array .int
  | 41 => .array .long
  | 42 => .int
  | 43 => .int
  | 44 => .array .int
  | 45 => .array .int
  | 46 => .array .int
  | 47 => .array .long
  | 48 => .array .boolean
  | 49 => .int
  | 50 => .array .int
  | 51 => .int
  | _ => .long
theorem nmX12 : ∀ a, a < 53 → ∀ b, b < 53 → a ≠ b → (TX12 a).2.1 ≠ (TX12 b).2.1 := by decide +kernel
theorem tyX12_ok : ∀ k, k < 53 → parseFieldDescriptor (TX12 k).2.2.1 = some (tyX12 k) := by decide +kernel
abbrev cX12_init : ByteArray := prog_14_method_1_code
def yX12_init : MethodName := ⟨RX12, "<init>", "()V"⟩
abbrev cX12_fail : ByteArray := prog_14_method_2_code
def yX12_fail : MethodName := ⟨RX12, "fail", "(I)I"⟩
abbrev cX12_good : ByteArray := prog_14_method_3_code
def yX12_good : MethodName := ⟨RX12, "good", "(I)I"⟩
abbrev cX12_lost : ByteArray := prog_14_method_4_code
def yX12_lost : MethodName := ⟨RX12, "lost", "(I)J"⟩
abbrev cX12_told0 : ByteArray := prog_14_method_5_code
def yX12_told0 : MethodName := ⟨RX12, "told0", "(J)J"⟩
abbrev cX12_in : ByteArray := prog_14_method_6_code
def yX12_in : MethodName := ⟨RX12, "in", "(JJJ)Z"⟩
abbrev cX12_isType : ByteArray := prog_14_method_7_code
def yX12_isType : MethodName := ⟨RX12, "isType", "(I)Z"⟩
abbrev cX12_isClass : ByteArray := prog_14_method_8_code
def yX12_isClass : MethodName := ⟨RX12, "isClass", "(I)Z"⟩
abbrev cX12_isFace : ByteArray := prog_14_method_9_code
def yX12_isFace : MethodName := ⟨RX12, "isFace", "(I)Z"⟩
abbrev cX12_isLane : ByteArray := prog_14_method_10_code
def yX12_isLane : MethodName := ⟨RX12, "isLane", "(I)Z"⟩
abbrev cX12_isName : ByteArray := prog_14_method_11_code
def yX12_isName : MethodName := ⟨RX12, "isName", "(I)Z"⟩
abbrev cX12_make : ByteArray := prog_14_method_12_code
def yX12_make : MethodName := ⟨RX12, "make", "(I)I"⟩
abbrev cX12_cls : ByteArray := prog_14_method_13_code
def yX12_cls : MethodName := ⟨RX12, "cls", "(IZ)I"⟩
abbrev cX12_face : ByteArray := prog_14_method_14_code
def yX12_face : MethodName := ⟨RX12, "face", "()I"⟩
abbrev cX12_listFaces : ByteArray := prog_14_method_15_code
def yX12_listFaces : MethodName := ⟨RX12, "listFaces", "(I)V"⟩
abbrev cX12_facesOf : ByteArray := prog_14_method_16_code
def yX12_facesOf : MethodName := ⟨RX12, "facesOf", "(I)V"⟩
abbrev cX12_isFaceOf : ByteArray := prog_14_method_17_code
def yX12_isFaceOf : MethodName := ⟨RX12, "isFaceOf", "(II)Z"⟩
abbrev cX12_under : ByteArray := prog_14_method_18_code
def yX12_under : MethodName := ⟨RX12, "under", "(II)I"⟩
abbrev cX12_variable : ByteArray := prog_14_method_19_code
def yX12_variable : MethodName := ⟨RX12, "variable", "(II)I"⟩
abbrev cX12_row : ByteArray := prog_14_method_20_code
def yX12_row : MethodName := ⟨RX12, "row", "(I)I"⟩
abbrev cX12_base : ByteArray := prog_14_method_21_code
def yX12_base : MethodName := ⟨RX12, "base", "(I)I"⟩
abbrev cX12_depth : ByteArray := prog_14_method_22_code
def yX12_depth : MethodName := ⟨RX12, "depth", "(I)I"⟩
abbrev cX12_erased : ByteArray := prog_14_method_23_code
def yX12_erased : MethodName := ⟨RX12, "erased", "(II)I"⟩
abbrev cX12_isAbove : ByteArray := prog_14_method_24_code
def yX12_isAbove : MethodName := ⟨RX12, "isAbove", "(II)Z"⟩
abbrev cX12_isSo : ByteArray := prog_14_method_25_code
def yX12_isSo : MethodName := ⟨RX12, "isSo", "(IIII)Z"⟩
abbrev cX12_is : ByteArray := prog_14_method_26_code
def yX12_is : MethodName := ⟨RX12, "is", "(II)I"⟩
abbrev cX12_memberBy : ByteArray := prog_14_method_27_code
def yX12_memberBy : MethodName := ⟨RX12, "memberBy", "(IIZ)I"⟩
abbrev cX12_addMember : ByteArray := prog_14_method_28_code
def yX12_addMember : MethodName := ⟨RX12, "addMember", "(IIZ)I"⟩
abbrev cX12_isForeign : ByteArray := prog_14_method_29_code
def yX12_isForeign : MethodName := ⟨RX12, "isForeign", "(II)Z"⟩
abbrev cX12_field : ByteArray := prog_14_method_30_code
def yX12_field : MethodName := ⟨RX12, "field", "(IIIZ)I"⟩
abbrev cX12_method : ByteArray := prog_14_method_31_code
def yX12_method : MethodName := ⟨RX12, "method", "(IIII)I"⟩
abbrev cX12_find : ByteArray := prog_14_method_32_code
def yX12_find : MethodName := ⟨RX12, "find", "(II)I"⟩
abbrev cX12_toldBy : ByteArray := prog_14_method_33_code
def yX12_toldBy : MethodName := ⟨RX12, "toldBy", "(I)I"⟩
abbrev cX12_found : ByteArray := prog_14_method_34_code
def yX12_found : MethodName := ⟨RX12, "found", "(II)I"⟩
abbrev cX12_see : ByteArray := prog_14_method_35_code
def yX12_see : MethodName := ⟨RX12, "see", "(II)I"⟩
abbrev cX12_seen : ByteArray := prog_14_method_36_code
def yX12_seen : MethodName := ⟨RX12, "seen", "(II)I"⟩
abbrev cX12_isPlace : ByteArray := prog_14_method_37_code
def yX12_isPlace : MethodName := ⟨RX12, "isPlace", "(I)Z"⟩
abbrev cX12_thing : ByteArray := prog_14_method_38_code
def yX12_thing : MethodName := ⟨RX12, "thing", "(I)I"⟩
abbrev cX12_added : ByteArray := prog_14_method_39_code
def yX12_added : MethodName := ⟨RX12, "added", "(III)I"⟩
abbrev cX12_things : ByteArray := prog_14_method_40_code
def yX12_things : MethodName := ⟨RX12, "things", "(II)I"⟩
abbrev cX12_isThing : ByteArray := prog_14_method_41_code
def yX12_isThing : MethodName := ⟨RX12, "isThing", "(I)Z"⟩
abbrev cX12_isNoThing : ByteArray := prog_14_method_42_code
def yX12_isNoThing : MethodName := ⟨RX12, "isNoThing", "(I)Z"⟩
abbrev cX12_kind : ByteArray := prog_14_method_43_code
def yX12_kind : MethodName := ⟨RX12, "kind", "(II)I"⟩
abbrev cX12_isA : ByteArray := prog_14_method_44_code
def yX12_isA : MethodName := ⟨RX12, "isA", "(II)I"⟩
abbrev cX12_floatBits : ByteArray := prog_14_method_45_code
def yX12_floatBits : MethodName := ⟨RX12, "floatBits", "(F)I"⟩
abbrev cX12_doubleBits : ByteArray := prog_14_method_46_code
def yX12_doubleBits : MethodName := ⟨RX12, "doubleBits", "(D)J"⟩
abbrev cX12_kept : ByteArray := prog_14_method_47_code
def yX12_kept : MethodName := ⟨RX12, "kept", "(IJ)J"⟩
abbrev cX12_widens : ByteArray := prog_14_method_48_code
def yX12_widens : MethodName := ⟨RX12, "widens", "(II)Z"⟩
abbrev cX12_widened : ByteArray := prog_14_method_49_code
def yX12_widened : MethodName := ⟨RX12, "widened", "(IIJ)J"⟩
abbrev cX12_isFinite : ByteArray := prog_14_method_50_code
def yX12_isFinite : MethodName := ⟨RX12, "isFinite", "(D)Z"⟩
abbrev cX12_asDouble : ByteArray := prog_14_method_51_code
def yX12_asDouble : MethodName := ⟨RX12, "asDouble", "(IJ)D"⟩
abbrev cX12_mayBePut : ByteArray := prog_14_method_52_code
def yX12_mayBePut : MethodName := ⟨RX12, "mayBePut", "(IIJ)Z"⟩
abbrev cX12_hinders : ByteArray := prog_14_method_53_code
def yX12_hinders : MethodName := ⟨RX12, "hinders", "(III)I"⟩
abbrev cX12_read : ByteArray := prog_14_method_54_code
def yX12_read : MethodName := ⟨RX12, "read", "(II)J"⟩
abbrev cX12_write : ByteArray := prog_14_method_55_code
def yX12_write : MethodName := ⟨RX12, "write", "(IIJ)I"⟩
abbrev cX12_isOfLane : ByteArray := prog_14_method_56_code
def yX12_isOfLane : MethodName := ⟨RX12, "isOfLane", "(I)Z"⟩
abbrev cX12_hindersLane : ByteArray := prog_14_method_57_code
def yX12_hindersLane : MethodName := ⟨RX12, "hindersLane", "(II)I"⟩
abbrev cX12_readAs : ByteArray := prog_14_method_58_code
def yX12_readAs : MethodName := ⟨RX12, "readAs", "(III)J"⟩
abbrev cX12_writeAs : ByteArray := prog_14_method_59_code
def yX12_writeAs : MethodName := ⟨RX12, "writeAs", "(IIIJ)I"⟩
abbrev cX12_isHandle : ByteArray := prog_14_method_60_code
def yX12_isHandle : MethodName := ⟨RX12, "isHandle", "(I)Z"⟩
abbrev cX12_hasMethod : ByteArray := prog_14_method_61_code
def yX12_hasMethod : MethodName := ⟨RX12, "hasMethod", "(II)Z"⟩
abbrev cX12_handle : ByteArray := prog_14_method_62_code
def yX12_handle : MethodName := ⟨RX12, "handle", "(IIZ)I"⟩
abbrev cX12_placeIn : ByteArray := prog_14_method_63_code
def yX12_placeIn : MethodName := ⟨RX12, "placeIn", "(II)I"⟩
abbrev cX12_takeField : ByteArray := prog_14_method_64_code
def yX12_takeField : MethodName := ⟨RX12, "takeField", "(II)V"⟩
abbrev cX12_isOf : ByteArray := prog_14_method_65_code
def yX12_isOf : MethodName := ⟨RX12, "isOf", "(II)Z"⟩
abbrev cX12_reach : ByteArray := prog_14_method_66_code
def yX12_reach : MethodName := ⟨RX12, "reach", "(II)I"⟩
abbrev cX12_readBy : ByteArray := prog_14_method_67_code
def yX12_readBy : MethodName := ⟨RX12, "readBy", "(II)I"⟩
abbrev cX12_work : ByteArray := prog_14_method_68_code
def yX12_work : MethodName := ⟨RX12, "work", "(II)I"⟩
abbrev cX12_ends : ByteArray := prog_14_method_69_code
def yX12_ends : MethodName := ⟨RX12, "ends", "(III)I"⟩
abbrev cX12_get : ByteArray := prog_14_method_70_code
def yX12_get : MethodName := ⟨RX12, "get", "(II)J"⟩
abbrev cX12_lane : ByteArray := prog_14_method_71_code
def yX12_lane : MethodName := ⟨RX12, "lane", "()I"⟩
abbrev cX12_getAs : ByteArray := prog_14_method_72_code
def yX12_getAs : MethodName := ⟨RX12, "getAs", "(III)J"⟩
abbrev cX12_set : ByteArray := prog_14_method_73_code
def yX12_set : MethodName := ⟨RX12, "set", "(IIJ)I"⟩
abbrev cX12_column : ByteArray := prog_14_method_74_code
def yX12_column : MethodName := ⟨RX12, "column", "(III)I"⟩
abbrev cX12_comesTo : ByteArray := prog_14_method_75_code
def yX12_comesTo : MethodName := ⟨RX12, "comesTo", "(I)I"⟩
abbrev cX12_fill : ByteArray := prog_14_method_76_code
def yX12_fill : MethodName := ⟨RX12, "fill", "(II)I"⟩
abbrev cX12_filled : ByteArray := prog_14_method_77_code
def yX12_filled : MethodName := ⟨RX12, "filled", "()I"⟩
abbrev cX12_cell : ByteArray := prog_14_method_78_code
def yX12_cell : MethodName := ⟨RX12, "cell", "(II)J"⟩
abbrev cX12_sum : ByteArray := prog_14_method_79_code
def yX12_sum : MethodName := ⟨RX12, "sum", "(I)J"⟩
abbrev cX12_query : ByteArray := prog_14_method_80_code
def yX12_query : MethodName := ⟨RX12, "query", "()I"⟩
abbrev cX12_isQuery : ByteArray := prog_14_method_81_code
def yX12_isQuery : MethodName := ⟨RX12, "isQuery", "(I)Z"⟩
abbrev cX12_test : ByteArray := prog_14_method_82_code
def yX12_test : MethodName := ⟨RX12, "test", "(IIIJZ)I"⟩
abbrev cX12_holds : ByteArray := prog_14_method_83_code
def yX12_holds : MethodName := ⟨RX12, "holds", "(IZZZ)Z"⟩
abbrev cX12_compares : ByteArray := prog_14_method_84_code
def yX12_compares : MethodName := ⟨RX12, "compares", "(I)Z"⟩
abbrev cX12_asks : ByteArray := prog_14_method_85_code
def yX12_asks : MethodName := ⟨RX12, "asks", "(II)I"⟩
abbrev cX12_run : ByteArray := prog_14_method_86_code
def yX12_run : MethodName := ⟨RX12, "run", "(III)I"⟩
abbrev cX12_hit : ByteArray := prog_14_method_87_code
def yX12_hit : MethodName := ⟨RX12, "hit", "(I)I"⟩
abbrev cX12_failed : ByteArray := prog_14_method_88_code
def yX12_failed : MethodName := ⟨RX12, "failed", "()I"⟩
abbrev cX12_total : ByteArray := prog_14_method_89_code
def yX12_total : MethodName := ⟨RX12, "total", "(I)J"⟩
abbrev cX12_trace : ByteArray := prog_14_method_90_code
def yX12_trace : MethodName := ⟨RX12, "trace", "(I)I"⟩
abbrev cX12_told : ByteArray := prog_14_method_91_code
def yX12_told : MethodName := ⟨RX12, "told", "(I)I"⟩
abbrev cX12_status : ByteArray := prog_14_method_92_code
def yX12_status : MethodName := ⟨RX12, "status", "()I"⟩
abbrev cX12_mix : ByteArray := prog_14_method_93_code
def yX12_mix : MethodName := ⟨RX12, "mix", "(J)V"⟩
abbrev cX12_digest : ByteArray := prog_14_method_94_code
def yX12_digest : MethodName := ⟨RX12, "digest", "()J"⟩
def RJxe99ae : String := "java/lang/Double"
def TJxe99ae : u_T := fun k => match k with
  | _ => ("", "", "", false)
def tyJxe99ae : Nat → FieldType := fun k => match k with
  | _ => .int
abbrev cJxe99ae_isNaN_b9ae7 : ByteArray := prog_15_method_6_code
def yJxe99ae_isNaN_b9ae7 : MethodName := ⟨RJxe99ae, "isNaN", "(D)Z"⟩
abbrev cJxe99ae_doubleToLongBits_ccdee : ByteArray := prog_15_method_23_code
def yJxe99ae_doubleToLongBits_ccdee : MethodName := ⟨RJxe99ae, "doubleToLongBits", "(D)J"⟩
def RJxf58ca : String := "java/lang/Float"
def TJxf58ca : u_T := fun k => match k with
  | _ => ("", "", "", false)
def tyJxf58ca : Nat → FieldType := fun k => match k with
  | _ => .int
abbrev cJxf58ca_isNaN_12338 : ByteArray := prog_16_method_6_code
def yJxf58ca_isNaN_12338 : MethodName := ⟨RJxf58ca, "isNaN", "(F)Z"⟩
abbrev cJxf58ca_floatToIntBits_5c35a : ByteArray := prog_16_method_24_code
def yJxf58ca_floatToIntBits_5c35a : MethodName := ⟨RJxf58ca, "floatToIntBits", "(F)I"⟩
def RJ13 : String := "java/lang/Long"
def TJ13 : u_T := fun k => match k with
  | _ => ("", "", "", false)
def tyJ13 : Nat → FieldType := fun k => match k with
  | _ => .int
abbrev cJ13_compare_74951 : ByteArray := prog_17_method_42_code
def yJ13_compare_74951 : MethodName := ⟨RJ13, "compare", "(JJ)I"⟩
abbrev cJ13_bitCount_95d88 : ByteArray := prog_17_method_50_code
def yJ13_bitCount_95d88 : MethodName := ⟨RJ13, "bitCount", "(J)I"⟩
def RJ9 : String := "java/lang/Math"
def TJ9 : u_T := fun k => match k with
  | _ => ("", "", "", false)
def tyJ9 : Nat → FieldType := fun k => match k with
  | _ => .int
abbrev cJ9_max_7cf53 : ByteArray := prog_18_method_65_code
def yJ9_max_7cf53 : MethodName := ⟨RJ9, "max", "(II)I"⟩
abbrev cJ9_min_7cf53 : ByteArray := prog_18_method_69_code
def yJ9_min_7cf53 : MethodName := ⟨RJ9, "min", "(II)I"⟩
abbrev cJ9_min_f86c9 : ByteArray := prog_18_method_70_code
def yJ9_min_f86c9 : MethodName := ⟨RJ9, "min", "(JJ)J"⟩
def RL : String := "QueryHandlesLaw"
abbrev cL_law : ByteArray := code
abbrev vwCl : List vw_C := [(RX0, TX0, 2), (RX1, TX1, 3), (RX3, TX3, 9), (RX4, TX4, 5), (RX5, TX5, 8), (RX6, TX6, 4), (RX7, TX7, 3), (RX8, TX8, 16), (RX9, TX9, 2), (RX10, TX10, 6), (RX11, TX11, 12), (RX12, TX12, 53)]
