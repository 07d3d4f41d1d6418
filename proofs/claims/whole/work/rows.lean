section
-- ===== PART A: goes FIRST, ahead of the names: the tables' words, and 'selects' of the private methods out of them =====
/-- a private method of a class that the tables say can be made, by its rows of tables_1 -/
def lw_okq (q : MethodName × Nat) : Prop := (q.1.cls ≠ "java/lang/invoke/MethodHandle" ∧ q.1.cls ≠ "java/lang/invoke/VarHandle") ∧ Cond.instantiable q.1.cls q.2 ∈ tables_1 ∧ Cond.privateMethod q.1 ∈ tables_1 ∧ Cond.instanceMethod q.1 ∈ tables_1
theorem lw_p0 : lw_okq (⟨"FirstChimney$Tape", "readWord", "()V"⟩, 8) := ⟨⟨by decide +kernel, by decide +kernel⟩, List.mem_of_getElem? (i := 35) (by decide +kernel), List.mem_of_getElem? (i := 433) (by decide +kernel), List.mem_of_getElem? (i := 434) (by decide +kernel)⟩
theorem lw_p1 : lw_okq (⟨"FirstChimney$Tape", "readNumber", "()V"⟩, 8) := ⟨⟨by decide +kernel, by decide +kernel⟩, List.mem_of_getElem? (i := 35) (by decide +kernel), List.mem_of_getElem? (i := 491) (by decide +kernel), List.mem_of_getElem? (i := 492) (by decide +kernel)⟩
theorem lw_p2 : lw_okq (⟨"FirstChimney$LandReader", "readPlace", "(LFirstChimney$Tape;LFirstChimney$Land;)Z"⟩, 3) := ⟨⟨by decide +kernel, by decide +kernel⟩, List.mem_of_getElem? (i := 76) (by decide +kernel), List.mem_of_getElem? (i := 555) (by decide +kernel), List.mem_of_getElem? (i := 556) (by decide +kernel)⟩
theorem lw_p3 : lw_okq (⟨"FirstChimney$LandReader", "readPath", "(LFirstChimney$Tape;LFirstChimney$Land;)Z"⟩, 3) := ⟨⟨by decide +kernel, by decide +kernel⟩, List.mem_of_getElem? (i := 76) (by decide +kernel), List.mem_of_getElem? (i := 574) (by decide +kernel), List.mem_of_getElem? (i := 575) (by decide +kernel)⟩
theorem lw_p4 : lw_okq (⟨"FirstChimney$LandReader", "readPerson", "(LFirstChimney$Tape;LFirstChimney$Land;)Z"⟩, 3) := ⟨⟨by decide +kernel, by decide +kernel⟩, List.mem_of_getElem? (i := 76) (by decide +kernel), List.mem_of_getElem? (i := 587) (by decide +kernel), List.mem_of_getElem? (i := 588) (by decide +kernel)⟩
theorem lw_p5 : lw_okq (⟨"FirstChimney$LandReader", "readThing", "(LFirstChimney$Tape;LFirstChimney$Land;)Z"⟩, 3) := ⟨⟨by decide +kernel, by decide +kernel⟩, List.mem_of_getElem? (i := 76) (by decide +kernel), List.mem_of_getElem? (i := 600) (by decide +kernel), List.mem_of_getElem? (i := 601) (by decide +kernel)⟩
theorem lw_p6 : lw_okq (⟨"FirstChimney$LandReader", "readSmoke", "(LFirstChimney$Tape;LFirstChimney$Land;)Z"⟩, 3) := ⟨⟨by decide +kernel, by decide +kernel⟩, List.mem_of_getElem? (i := 76) (by decide +kernel), List.mem_of_getElem? (i := 604) (by decide +kernel), List.mem_of_getElem? (i := 605) (by decide +kernel)⟩
theorem lw_p7 : lw_okq (⟨"FirstChimney$LandReader", "readBinds", "(LFirstChimney$Tape;LFirstChimney$Land;)Z"⟩, 3) := ⟨⟨by decide +kernel, by decide +kernel⟩, List.mem_of_getElem? (i := 76) (by decide +kernel), List.mem_of_getElem? (i := 608) (by decide +kernel), List.mem_of_getElem? (i := 609) (by decide +kernel)⟩
theorem lw_p8 : lw_okq (⟨"FirstChimney$LawReader", "writeDown", "(LFirstChimney$Law;I)V"⟩, 4) := ⟨⟨by decide +kernel, by decide +kernel⟩, List.mem_of_getElem? (i := 82) (by decide +kernel), List.mem_of_getElem? (i := 617) (by decide +kernel), List.mem_of_getElem? (i := 618) (by decide +kernel)⟩
theorem lw_p9 : lw_okq (⟨"FirstChimney$LawReader", "readPart", "(LFirstChimney$Tape;LFirstChimney$Law;)Z"⟩, 4) := ⟨⟨by decide +kernel, by decide +kernel⟩, List.mem_of_getElem? (i := 82) (by decide +kernel), List.mem_of_getElem? (i := 628) (by decide +kernel), List.mem_of_getElem? (i := 629) (by decide +kernel)⟩
theorem lw_p10 : lw_okq (⟨"FirstChimney$LawReader", "await", "(I)V"⟩, 4) := ⟨⟨by decide +kernel, by decide +kernel⟩, List.mem_of_getElem? (i := 82) (by decide +kernel), List.mem_of_getElem? (i := 635) (by decide +kernel), List.mem_of_getElem? (i := 636) (by decide +kernel)⟩
theorem lw_p11 : lw_okq (⟨"FirstChimney$LawReader", "closeNots", "(LFirstChimney$Law;)V"⟩, 4) := ⟨⟨by decide +kernel, by decide +kernel⟩, List.mem_of_getElem? (i := 82) (by decide +kernel), List.mem_of_getElem? (i := 639) (by decide +kernel), List.mem_of_getElem? (i := 640) (by decide +kernel)⟩
theorem lw_p12 : lw_okq (⟨"FirstChimney$LawReader", "readBehind", "(LFirstChimney$Tape;LFirstChimney$Law;)Z"⟩, 4) := ⟨⟨by decide +kernel, by decide +kernel⟩, List.mem_of_getElem? (i := 82) (by decide +kernel), List.mem_of_getElem? (i := 643) (by decide +kernel), List.mem_of_getElem? (i := 644) (by decide +kernel)⟩
theorem lw_p13 : lw_okq (⟨"FirstChimney$Ways", "measureFrom", "(LFirstChimney$Land;I)V"⟩, 3) := ⟨⟨by decide +kernel, by decide +kernel⟩, List.mem_of_getElem? (i := 112) (by decide +kernel), List.mem_of_getElem? (i := 656) (by decide +kernel), List.mem_of_getElem? (i := 657) (by decide +kernel)⟩
theorem lw_p14 : lw_okq (⟨"FirstChimney$Script", "readLine", "(LFirstChimney$Tape;LFirstChimney$Land;)Z"⟩, 4) := ⟨⟨by decide +kernel, by decide +kernel⟩, List.mem_of_getElem? (i := 342) (by decide +kernel), List.mem_of_getElem? (i := 683) (by decide +kernel), List.mem_of_getElem? (i := 684) (by decide +kernel)⟩
theorem lw_p15 : lw_okq (⟨"FirstChimney$Script", "readNames", "(LFirstChimney$Tape;LFirstChimney$Land;I)Z"⟩, 4) := ⟨⟨by decide +kernel, by decide +kernel⟩, List.mem_of_getElem? (i := 342) (by decide +kernel), List.mem_of_getElem? (i := 690) (by decide +kernel), List.mem_of_getElem? (i := 691) (by decide +kernel)⟩
def lw_privs_1 : List (MethodName × Nat) := [(⟨"FirstChimney$Tape", "readWord", "()V"⟩, 8), (⟨"FirstChimney$Tape", "readNumber", "()V"⟩, 8), (⟨"FirstChimney$LandReader", "readPlace", "(LFirstChimney$Tape;LFirstChimney$Land;)Z"⟩, 3), (⟨"FirstChimney$LandReader", "readPath", "(LFirstChimney$Tape;LFirstChimney$Land;)Z"⟩, 3), (⟨"FirstChimney$LandReader", "readPerson", "(LFirstChimney$Tape;LFirstChimney$Land;)Z"⟩, 3), (⟨"FirstChimney$LandReader", "readThing", "(LFirstChimney$Tape;LFirstChimney$Land;)Z"⟩, 3), (⟨"FirstChimney$LandReader", "readSmoke", "(LFirstChimney$Tape;LFirstChimney$Land;)Z"⟩, 3), (⟨"FirstChimney$LandReader", "readBinds", "(LFirstChimney$Tape;LFirstChimney$Land;)Z"⟩, 3), (⟨"FirstChimney$LawReader", "writeDown", "(LFirstChimney$Law;I)V"⟩, 4), (⟨"FirstChimney$LawReader", "readPart", "(LFirstChimney$Tape;LFirstChimney$Law;)Z"⟩, 4), (⟨"FirstChimney$LawReader", "await", "(I)V"⟩, 4), (⟨"FirstChimney$LawReader", "closeNots", "(LFirstChimney$Law;)V"⟩, 4), (⟨"FirstChimney$LawReader", "readBehind", "(LFirstChimney$Tape;LFirstChimney$Law;)Z"⟩, 4), (⟨"FirstChimney$Ways", "measureFrom", "(LFirstChimney$Land;I)V"⟩, 3), (⟨"FirstChimney$Script", "readLine", "(LFirstChimney$Tape;LFirstChimney$Land;)Z"⟩, 4), (⟨"FirstChimney$Script", "readNames", "(LFirstChimney$Tape;LFirstChimney$Land;I)Z"⟩, 4)]
theorem lw_r1 : ∀ q ∈ lw_privs_1, lw_okq q := List.forall_mem_cons.mpr ⟨lw_p0, List.forall_mem_cons.mpr ⟨lw_p1, List.forall_mem_cons.mpr ⟨lw_p2, List.forall_mem_cons.mpr ⟨lw_p3, List.forall_mem_cons.mpr ⟨lw_p4, List.forall_mem_cons.mpr ⟨lw_p5, List.forall_mem_cons.mpr ⟨lw_p6, List.forall_mem_cons.mpr ⟨lw_p7, List.forall_mem_cons.mpr ⟨lw_p8, List.forall_mem_cons.mpr ⟨lw_p9, List.forall_mem_cons.mpr ⟨lw_p10, List.forall_mem_cons.mpr ⟨lw_p11, List.forall_mem_cons.mpr ⟨lw_p12, List.forall_mem_cons.mpr ⟨lw_p13, List.forall_mem_cons.mpr ⟨lw_p14, List.forall_mem_cons.mpr ⟨lw_p15, fun _ h => absurd h List.not_mem_nil⟩⟩⟩⟩⟩⟩⟩⟩⟩⟩⟩⟩⟩⟩⟩⟩
theorem lw_p16 : lw_okq (⟨"FirstChimney", "thingsOf", "([II)I"⟩, 12) := ⟨⟨by decide +kernel, by decide +kernel⟩, List.mem_of_getElem? (i := 27) (by decide +kernel), List.mem_of_getElem? (i := 730) (by decide +kernel), List.mem_of_getElem? (i := 731) (by decide +kernel)⟩
theorem lw_p17 : lw_okq (⟨"FirstChimney$State", "isBinding", "(LFirstChimney$Land;IIII)Z"⟩, 9) := ⟨⟨by decide +kernel, by decide +kernel⟩, List.mem_of_getElem? (i := 131) (by decide +kernel), List.mem_of_getElem? (i := 787) (by decide +kernel), List.mem_of_getElem? (i := 788) (by decide +kernel)⟩
theorem lw_p18 : lw_okq (⟨"FirstChimney$State", "shareNews", "(LFirstChimney$Land;I)V"⟩, 9) := ⟨⟨by decide +kernel, by decide +kernel⟩, List.mem_of_getElem? (i := 131) (by decide +kernel), List.mem_of_getElem? (i := 829) (by decide +kernel), List.mem_of_getElem? (i := 830) (by decide +kernel)⟩
theorem lw_p19 : lw_okq (⟨"FirstChimney$State", "riseSmoke", "(LFirstChimney$Land;)V"⟩, 9) := ⟨⟨by decide +kernel, by decide +kernel⟩, List.mem_of_getElem? (i := 131) (by decide +kernel), List.mem_of_getElem? (i := 834) (by decide +kernel), List.mem_of_getElem? (i := 835) (by decide +kernel)⟩
theorem lw_p20 : lw_okq (⟨"FirstChimney", "movedThings", "(LFirstChimney$State;)I"⟩, 12) := ⟨⟨by decide +kernel, by decide +kernel⟩, List.mem_of_getElem? (i := 27) (by decide +kernel), List.mem_of_getElem? (i := 862) (by decide +kernel), List.mem_of_getElem? (i := 863) (by decide +kernel)⟩
theorem lw_p21 : lw_okq (⟨"FirstChimney", "minutesTo", "(II)I"⟩, 12) := ⟨⟨by decide +kernel, by decide +kernel⟩, List.mem_of_getElem? (i := 27) (by decide +kernel), List.mem_of_getElem? (i := 870) (by decide +kernel), List.mem_of_getElem? (i := 871) (by decide +kernel)⟩
theorem lw_p22 : lw_okq (⟨"FirstChimney", "minutesOfAllTo", "(I)I"⟩, 12) := ⟨⟨by decide +kernel, by decide +kernel⟩, List.mem_of_getElem? (i := 27) (by decide +kernel), List.mem_of_getElem? (i := 896) (by decide +kernel), List.mem_of_getElem? (i := 897) (by decide +kernel)⟩
theorem lw_p23 : lw_okq (⟨"FirstChimney$Ways", "stepOn", "(LFirstChimney$Land;)V"⟩, 3) := ⟨⟨by decide +kernel, by decide +kernel⟩, List.mem_of_getElem? (i := 112) (by decide +kernel), List.mem_of_getElem? (i := 912) (by decide +kernel), List.mem_of_getElem? (i := 913) (by decide +kernel)⟩
theorem lw_p24 : lw_okq (⟨"FirstChimney", "isGift", "(II)Z"⟩, 12) := ⟨⟨by decide +kernel, by decide +kernel⟩, List.mem_of_getElem? (i := 27) (by decide +kernel), List.mem_of_getElem? (i := 936) (by decide +kernel), List.mem_of_getElem? (i := 937) (by decide +kernel)⟩
theorem lw_p25 : lw_okq (⟨"FirstChimney", "fitsSeen", "(I)Z"⟩, 12) := ⟨⟨by decide +kernel, by decide +kernel⟩, List.mem_of_getElem? (i := 27) (by decide +kernel), List.mem_of_getElem? (i := 1015) (by decide +kernel), List.mem_of_getElem? (i := 1016) (by decide +kernel)⟩
theorem lw_p26 : lw_okq (⟨"FirstChimney", "leftAtWorst", "(III)I"⟩, 12) := ⟨⟨by decide +kernel, by decide +kernel⟩, List.mem_of_getElem? (i := 27) (by decide +kernel), List.mem_of_getElem? (i := 1024) (by decide +kernel), List.mem_of_getElem? (i := 1025) (by decide +kernel)⟩
theorem lw_p27 : lw_okq (⟨"FirstChimney", "worthOf", "(IZ)I"⟩, 12) := ⟨⟨by decide +kernel, by decide +kernel⟩, List.mem_of_getElem? (i := 27) (by decide +kernel), List.mem_of_getElem? (i := 1036) (by decide +kernel), List.mem_of_getElem? (i := 1037) (by decide +kernel)⟩
theorem lw_p28 : lw_okq (⟨"FirstChimney", "playDrawn", "()Z"⟩, 12) := ⟨⟨by decide +kernel, by decide +kernel⟩, List.mem_of_getElem? (i := 27) (by decide +kernel), List.mem_of_getElem? (i := 1057) (by decide +kernel), List.mem_of_getElem? (i := 1058) (by decide +kernel)⟩
theorem lw_p29 : lw_okq (⟨"FirstChimney", "drawBelow", "(I)I"⟩, 12) := ⟨⟨by decide +kernel, by decide +kernel⟩, List.mem_of_getElem? (i := 27) (by decide +kernel), List.mem_of_getElem? (i := 1061) (by decide +kernel), List.mem_of_getElem? (i := 1062) (by decide +kernel)⟩
theorem lw_p30 : lw_okq (⟨"java/lang/Throwable", "fillInStackTrace", "(I)Ljava/lang/Throwable;"⟩, 6) := ⟨⟨by decide +kernel, by decide +kernel⟩, List.mem_of_getElem? (i := 1136) (by decide +kernel), List.mem_of_getElem? (i := 1134) (by decide +kernel), List.mem_of_getElem? (i := 1135) (by decide +kernel)⟩
theorem lw_p31 : lw_okq (⟨"FirstChimneyModel", "lay", "(J)V"⟩, 30) := ⟨⟨by decide +kernel, by decide +kernel⟩, List.mem_of_getElem? (i := 1182) (by decide +kernel), List.mem_of_getElem? (i := 1180) (by decide +kernel), List.mem_of_getElem? (i := 1181) (by decide +kernel)⟩
def lw_privs_2 : List (MethodName × Nat) := [(⟨"FirstChimney", "thingsOf", "([II)I"⟩, 12), (⟨"FirstChimney$State", "isBinding", "(LFirstChimney$Land;IIII)Z"⟩, 9), (⟨"FirstChimney$State", "shareNews", "(LFirstChimney$Land;I)V"⟩, 9), (⟨"FirstChimney$State", "riseSmoke", "(LFirstChimney$Land;)V"⟩, 9), (⟨"FirstChimney", "movedThings", "(LFirstChimney$State;)I"⟩, 12), (⟨"FirstChimney", "minutesTo", "(II)I"⟩, 12), (⟨"FirstChimney", "minutesOfAllTo", "(I)I"⟩, 12), (⟨"FirstChimney$Ways", "stepOn", "(LFirstChimney$Land;)V"⟩, 3), (⟨"FirstChimney", "isGift", "(II)Z"⟩, 12), (⟨"FirstChimney", "fitsSeen", "(I)Z"⟩, 12), (⟨"FirstChimney", "leftAtWorst", "(III)I"⟩, 12), (⟨"FirstChimney", "worthOf", "(IZ)I"⟩, 12), (⟨"FirstChimney", "playDrawn", "()Z"⟩, 12), (⟨"FirstChimney", "drawBelow", "(I)I"⟩, 12), (⟨"java/lang/Throwable", "fillInStackTrace", "(I)Ljava/lang/Throwable;"⟩, 6), (⟨"FirstChimneyModel", "lay", "(J)V"⟩, 30)]
theorem lw_r2 : ∀ q ∈ lw_privs_2, lw_okq q := List.forall_mem_cons.mpr ⟨lw_p16, List.forall_mem_cons.mpr ⟨lw_p17, List.forall_mem_cons.mpr ⟨lw_p18, List.forall_mem_cons.mpr ⟨lw_p19, List.forall_mem_cons.mpr ⟨lw_p20, List.forall_mem_cons.mpr ⟨lw_p21, List.forall_mem_cons.mpr ⟨lw_p22, List.forall_mem_cons.mpr ⟨lw_p23, List.forall_mem_cons.mpr ⟨lw_p24, List.forall_mem_cons.mpr ⟨lw_p25, List.forall_mem_cons.mpr ⟨lw_p26, List.forall_mem_cons.mpr ⟨lw_p27, List.forall_mem_cons.mpr ⟨lw_p28, List.forall_mem_cons.mpr ⟨lw_p29, List.forall_mem_cons.mpr ⟨lw_p30, List.forall_mem_cons.mpr ⟨lw_p31, fun _ h => absurd h List.not_mem_nil⟩⟩⟩⟩⟩⟩⟩⟩⟩⟩⟩⟩⟩⟩⟩⟩
theorem lw_p32 : lw_okq (⟨"FirstChimneyModel", "standsAsAlways", "(I)V"⟩, 30) := ⟨⟨by decide +kernel, by decide +kernel⟩, List.mem_of_getElem? (i := 1182) (by decide +kernel), List.mem_of_getElem? (i := 1215) (by decide +kernel), List.mem_of_getElem? (i := 1216) (by decide +kernel)⟩
theorem lw_p33 : lw_okq (⟨"FirstChimneyModel", "begins", "()V"⟩, 30) := ⟨⟨by decide +kernel, by decide +kernel⟩, List.mem_of_getElem? (i := 1182) (by decide +kernel), List.mem_of_getElem? (i := 1219) (by decide +kernel), List.mem_of_getElem? (i := 1220) (by decide +kernel)⟩
theorem lw_p34 : lw_okq (⟨"FirstChimneyModel", "starts", "(I)V"⟩, 30) := ⟨⟨by decide +kernel, by decide +kernel⟩, List.mem_of_getElem? (i := 1182) (by decide +kernel), List.mem_of_getElem? (i := 1223) (by decide +kernel), List.mem_of_getElem? (i := 1224) (by decide +kernel)⟩
theorem lw_p35 : lw_okq (⟨"FirstChimneyModel", "persons", "()I"⟩, 30) := ⟨⟨by decide +kernel, by decide +kernel⟩, List.mem_of_getElem? (i := 1182) (by decide +kernel), List.mem_of_getElem? (i := 1227) (by decide +kernel), List.mem_of_getElem? (i := 1228) (by decide +kernel)⟩
theorem lw_p36 : lw_okq (⟨"FirstChimneyModel", "personOf", "(II)I"⟩, 30) := ⟨⟨by decide +kernel, by decide +kernel⟩, List.mem_of_getElem? (i := 1182) (by decide +kernel), List.mem_of_getElem? (i := 1231) (by decide +kernel), List.mem_of_getElem? (i := 1232) (by decide +kernel)⟩
theorem lw_p37 : lw_okq (⟨"FirstChimneyModel", "things", "()I"⟩, 30) := ⟨⟨by decide +kernel, by decide +kernel⟩, List.mem_of_getElem? (i := 1182) (by decide +kernel), List.mem_of_getElem? (i := 1235) (by decide +kernel), List.mem_of_getElem? (i := 1236) (by decide +kernel)⟩
theorem lw_p38 : lw_okq (⟨"FirstChimneyModel", "thingOf", "(II)I"⟩, 30) := ⟨⟨by decide +kernel, by decide +kernel⟩, List.mem_of_getElem? (i := 1182) (by decide +kernel), List.mem_of_getElem? (i := 1239) (by decide +kernel), List.mem_of_getElem? (i := 1240) (by decide +kernel)⟩
theorem lw_p39 : lw_okq (⟨"FirstChimneyModel", "cutAll", "()V"⟩, 30) := ⟨⟨by decide +kernel, by decide +kernel⟩, List.mem_of_getElem? (i := 1182) (by decide +kernel), List.mem_of_getElem? (i := 1338) (by decide +kernel), List.mem_of_getElem? (i := 1339) (by decide +kernel)⟩
theorem lw_p40 : lw_okq (⟨"FirstChimneyModel", "readLine", "()V"⟩, 30) := ⟨⟨by decide +kernel, by decide +kernel⟩, List.mem_of_getElem? (i := 1182) (by decide +kernel), List.mem_of_getElem? (i := 1357) (by decide +kernel), List.mem_of_getElem? (i := 1358) (by decide +kernel)⟩
theorem lw_p41 : lw_okq (⟨"FirstChimneyModel", "isWord", "(I)Z"⟩, 30) := ⟨⟨by decide +kernel, by decide +kernel⟩, List.mem_of_getElem? (i := 1182) (by decide +kernel), List.mem_of_getElem? (i := 1361) (by decide +kernel), List.mem_of_getElem? (i := 1362) (by decide +kernel)⟩
theorem lw_p42 : lw_okq (⟨"FirstChimneyModel", "readName", "(III)V"⟩, 30) := ⟨⟨by decide +kernel, by decide +kernel⟩, List.mem_of_getElem? (i := 1182) (by decide +kernel), List.mem_of_getElem? (i := 1365) (by decide +kernel), List.mem_of_getElem? (i := 1366) (by decide +kernel)⟩
theorem lw_p43 : lw_okq (⟨"FirstChimneyModel", "wrong", "(I)V"⟩, 30) := ⟨⟨by decide +kernel, by decide +kernel⟩, List.mem_of_getElem? (i := 1182) (by decide +kernel), List.mem_of_getElem? (i := 1369) (by decide +kernel), List.mem_of_getElem? (i := 1370) (by decide +kernel)⟩
theorem lw_p44 : lw_okq (⟨"FirstChimneyModel", "isName", "()Z"⟩, 30) := ⟨⟨by decide +kernel, by decide +kernel⟩, List.mem_of_getElem? (i := 1182) (by decide +kernel), List.mem_of_getElem? (i := 1373) (by decide +kernel), List.mem_of_getElem? (i := 1374) (by decide +kernel)⟩
theorem lw_p45 : lw_okq (⟨"FirstChimneyModel", "wordHere", "(II)I"⟩, 30) := ⟨⟨by decide +kernel, by decide +kernel⟩, List.mem_of_getElem? (i := 1182) (by decide +kernel), List.mem_of_getElem? (i := 1377) (by decide +kernel), List.mem_of_getElem? (i := 1378) (by decide +kernel)⟩
theorem lw_p46 : lw_okq (⟨"FirstChimneyModel", "nameAt", "(Z)I"⟩, 30) := ⟨⟨by decide +kernel, by decide +kernel⟩, List.mem_of_getElem? (i := 1182) (by decide +kernel), List.mem_of_getElem? (i := 1381) (by decide +kernel), List.mem_of_getElem? (i := 1382) (by decide +kernel)⟩
theorem lw_p47 : lw_okq (⟨"FirstChimneyModel", "readPath", "()V"⟩, 30) := ⟨⟨by decide +kernel, by decide +kernel⟩, List.mem_of_getElem? (i := 1182) (by decide +kernel), List.mem_of_getElem? (i := 1385) (by decide +kernel), List.mem_of_getElem? (i := 1386) (by decide +kernel)⟩
def lw_privs_3 : List (MethodName × Nat) := [(⟨"FirstChimneyModel", "standsAsAlways", "(I)V"⟩, 30), (⟨"FirstChimneyModel", "begins", "()V"⟩, 30), (⟨"FirstChimneyModel", "starts", "(I)V"⟩, 30), (⟨"FirstChimneyModel", "persons", "()I"⟩, 30), (⟨"FirstChimneyModel", "personOf", "(II)I"⟩, 30), (⟨"FirstChimneyModel", "things", "()I"⟩, 30), (⟨"FirstChimneyModel", "thingOf", "(II)I"⟩, 30), (⟨"FirstChimneyModel", "cutAll", "()V"⟩, 30), (⟨"FirstChimneyModel", "readLine", "()V"⟩, 30), (⟨"FirstChimneyModel", "isWord", "(I)Z"⟩, 30), (⟨"FirstChimneyModel", "readName", "(III)V"⟩, 30), (⟨"FirstChimneyModel", "wrong", "(I)V"⟩, 30), (⟨"FirstChimneyModel", "isName", "()Z"⟩, 30), (⟨"FirstChimneyModel", "wordHere", "(II)I"⟩, 30), (⟨"FirstChimneyModel", "nameAt", "(Z)I"⟩, 30), (⟨"FirstChimneyModel", "readPath", "()V"⟩, 30)]
theorem lw_r3 : ∀ q ∈ lw_privs_3, lw_okq q := List.forall_mem_cons.mpr ⟨lw_p32, List.forall_mem_cons.mpr ⟨lw_p33, List.forall_mem_cons.mpr ⟨lw_p34, List.forall_mem_cons.mpr ⟨lw_p35, List.forall_mem_cons.mpr ⟨lw_p36, List.forall_mem_cons.mpr ⟨lw_p37, List.forall_mem_cons.mpr ⟨lw_p38, List.forall_mem_cons.mpr ⟨lw_p39, List.forall_mem_cons.mpr ⟨lw_p40, List.forall_mem_cons.mpr ⟨lw_p41, List.forall_mem_cons.mpr ⟨lw_p42, List.forall_mem_cons.mpr ⟨lw_p43, List.forall_mem_cons.mpr ⟨lw_p44, List.forall_mem_cons.mpr ⟨lw_p45, List.forall_mem_cons.mpr ⟨lw_p46, List.forall_mem_cons.mpr ⟨lw_p47, fun _ h => absurd h List.not_mem_nil⟩⟩⟩⟩⟩⟩⟩⟩⟩⟩⟩⟩⟩⟩⟩⟩
theorem lw_p48 : lw_okq (⟨"FirstChimneyModel", "takeTold", "(ZII)I"⟩, 30) := ⟨⟨by decide +kernel, by decide +kernel⟩, List.mem_of_getElem? (i := 1182) (by decide +kernel), List.mem_of_getElem? (i := 1389) (by decide +kernel), List.mem_of_getElem? (i := 1390) (by decide +kernel)⟩
theorem lw_p49 : lw_okq (⟨"FirstChimneyModel", "takeOne", "(II)I"⟩, 30) := ⟨⟨by decide +kernel, by decide +kernel⟩, List.mem_of_getElem? (i := 1182) (by decide +kernel), List.mem_of_getElem? (i := 1396) (by decide +kernel), List.mem_of_getElem? (i := 1397) (by decide +kernel)⟩
theorem lw_p50 : lw_okq (⟨"FirstChimneyModel", "takeWord", "(I)V"⟩, 30) := ⟨⟨by decide +kernel, by decide +kernel⟩, List.mem_of_getElem? (i := 1182) (by decide +kernel), List.mem_of_getElem? (i := 1400) (by decide +kernel), List.mem_of_getElem? (i := 1401) (by decide +kernel)⟩
theorem lw_p51 : lw_okq (⟨"FirstChimneyModel", "hasWord", "(I)Z"⟩, 30) := ⟨⟨by decide +kernel, by decide +kernel⟩, List.mem_of_getElem? (i := 1182) (by decide +kernel), List.mem_of_getElem? (i := 1404) (by decide +kernel), List.mem_of_getElem? (i := 1405) (by decide +kernel)⟩
theorem lw_p52 : lw_okq (⟨"FirstChimneyModel", "takeAfter", "(III)I"⟩, 30) := ⟨⟨by decide +kernel, by decide +kernel⟩, List.mem_of_getElem? (i := 1182) (by decide +kernel), List.mem_of_getElem? (i := 1408) (by decide +kernel), List.mem_of_getElem? (i := 1409) (by decide +kernel)⟩
theorem lw_p53 : lw_okq (⟨"FirstChimneyModel", "takeNumber", "(II)I"⟩, 30) := ⟨⟨by decide +kernel, by decide +kernel⟩, List.mem_of_getElem? (i := 1182) (by decide +kernel), List.mem_of_getElem? (i := 1412) (by decide +kernel), List.mem_of_getElem? (i := 1413) (by decide +kernel)⟩
theorem lw_p54 : lw_okq (⟨"FirstChimneyModel", "readOnce", "()V"⟩, 30) := ⟨⟨by decide +kernel, by decide +kernel⟩, List.mem_of_getElem? (i := 1182) (by decide +kernel), List.mem_of_getElem? (i := 1416) (by decide +kernel), List.mem_of_getElem? (i := 1417) (by decide +kernel)⟩
theorem lw_p55 : lw_okq (⟨"FirstChimneyModel", "whole", "(I)V"⟩, 30) := ⟨⟨by decide +kernel, by decide +kernel⟩, List.mem_of_getElem? (i := 1182) (by decide +kernel), List.mem_of_getElem? (i := 1420) (by decide +kernel), List.mem_of_getElem? (i := 1421) (by decide +kernel)⟩
theorem lw_p56 : lw_okq (⟨"FirstChimneyModel", "test", "(I)V"⟩, 30) := ⟨⟨by decide +kernel, by decide +kernel⟩, List.mem_of_getElem? (i := 1182) (by decide +kernel), List.mem_of_getElem? (i := 1424) (by decide +kernel), List.mem_of_getElem? (i := 1425) (by decide +kernel)⟩
theorem lw_p57 : lw_okq (⟨"FirstChimneyModel", "sums", "(I)V"⟩, 30) := ⟨⟨by decide +kernel, by decide +kernel⟩, List.mem_of_getElem? (i := 1182) (by decide +kernel), List.mem_of_getElem? (i := 1428) (by decide +kernel), List.mem_of_getElem? (i := 1429) (by decide +kernel)⟩
theorem lw_p58 : lw_okq (⟨"FirstChimneyModel", "products", "(I)V"⟩, 30) := ⟨⟨by decide +kernel, by decide +kernel⟩, List.mem_of_getElem? (i := 1182) (by decide +kernel), List.mem_of_getElem? (i := 1432) (by decide +kernel), List.mem_of_getElem? (i := 1433) (by decide +kernel)⟩
theorem lw_p59 : lw_okq (⟨"FirstChimneyModel", "takePart", "(I)V"⟩, 30) := ⟨⟨by decide +kernel, by decide +kernel⟩, List.mem_of_getElem? (i := 1182) (by decide +kernel), List.mem_of_getElem? (i := 1436) (by decide +kernel), List.mem_of_getElem? (i := 1437) (by decide +kernel)⟩
theorem lw_p60 : lw_okq (⟨"FirstChimneyModel", "isSign", "(I)Z"⟩, 30) := ⟨⟨by decide +kernel, by decide +kernel⟩, List.mem_of_getElem? (i := 1182) (by decide +kernel), List.mem_of_getElem? (i := 1440) (by decide +kernel), List.mem_of_getElem? (i := 1441) (by decide +kernel)⟩
theorem lw_p61 : lw_okq (⟨"FirstChimneyModel", "emit", "(II)V"⟩, 30) := ⟨⟨by decide +kernel, by decide +kernel⟩, List.mem_of_getElem? (i := 1182) (by decide +kernel), List.mem_of_getElem? (i := 1444) (by decide +kernel), List.mem_of_getElem? (i := 1445) (by decide +kernel)⟩
theorem lw_p62 : lw_okq (⟨"FirstChimneyModel", "hasSign", "(I)Z"⟩, 30) := ⟨⟨by decide +kernel, by decide +kernel⟩, List.mem_of_getElem? (i := 1182) (by decide +kernel), List.mem_of_getElem? (i := 1448) (by decide +kernel), List.mem_of_getElem? (i := 1449) (by decide +kernel)⟩
theorem lw_p63 : lw_okq (⟨"FirstChimneyModel", "takeSign", "(I)V"⟩, 30) := ⟨⟨by decide +kernel, by decide +kernel⟩, List.mem_of_getElem? (i := 1182) (by decide +kernel), List.mem_of_getElem? (i := 1452) (by decide +kernel), List.mem_of_getElem? (i := 1453) (by decide +kernel)⟩
def lw_privs_4 : List (MethodName × Nat) := [(⟨"FirstChimneyModel", "takeTold", "(ZII)I"⟩, 30), (⟨"FirstChimneyModel", "takeOne", "(II)I"⟩, 30), (⟨"FirstChimneyModel", "takeWord", "(I)V"⟩, 30), (⟨"FirstChimneyModel", "hasWord", "(I)Z"⟩, 30), (⟨"FirstChimneyModel", "takeAfter", "(III)I"⟩, 30), (⟨"FirstChimneyModel", "takeNumber", "(II)I"⟩, 30), (⟨"FirstChimneyModel", "readOnce", "()V"⟩, 30), (⟨"FirstChimneyModel", "whole", "(I)V"⟩, 30), (⟨"FirstChimneyModel", "test", "(I)V"⟩, 30), (⟨"FirstChimneyModel", "sums", "(I)V"⟩, 30), (⟨"FirstChimneyModel", "products", "(I)V"⟩, 30), (⟨"FirstChimneyModel", "takePart", "(I)V"⟩, 30), (⟨"FirstChimneyModel", "isSign", "(I)Z"⟩, 30), (⟨"FirstChimneyModel", "emit", "(II)V"⟩, 30), (⟨"FirstChimneyModel", "hasSign", "(I)Z"⟩, 30), (⟨"FirstChimneyModel", "takeSign", "(I)V"⟩, 30)]
theorem lw_r4 : ∀ q ∈ lw_privs_4, lw_okq q := List.forall_mem_cons.mpr ⟨lw_p48, List.forall_mem_cons.mpr ⟨lw_p49, List.forall_mem_cons.mpr ⟨lw_p50, List.forall_mem_cons.mpr ⟨lw_p51, List.forall_mem_cons.mpr ⟨lw_p52, List.forall_mem_cons.mpr ⟨lw_p53, List.forall_mem_cons.mpr ⟨lw_p54, List.forall_mem_cons.mpr ⟨lw_p55, List.forall_mem_cons.mpr ⟨lw_p56, List.forall_mem_cons.mpr ⟨lw_p57, List.forall_mem_cons.mpr ⟨lw_p58, List.forall_mem_cons.mpr ⟨lw_p59, List.forall_mem_cons.mpr ⟨lw_p60, List.forall_mem_cons.mpr ⟨lw_p61, List.forall_mem_cons.mpr ⟨lw_p62, List.forall_mem_cons.mpr ⟨lw_p63, fun _ h => absurd h List.not_mem_nil⟩⟩⟩⟩⟩⟩⟩⟩⟩⟩⟩⟩⟩⟩⟩⟩
theorem lw_p64 : lw_okq (⟨"FirstChimneyModel", "readMorning", "(II)V"⟩, 30) := ⟨⟨by decide +kernel, by decide +kernel⟩, List.mem_of_getElem? (i := 1182) (by decide +kernel), List.mem_of_getElem? (i := 1460) (by decide +kernel), List.mem_of_getElem? (i := 1461) (by decide +kernel)⟩
theorem lw_p65 : lw_okq (⟨"FirstChimneyModel", "isPlace", "(I)Z"⟩, 30) := ⟨⟨by decide +kernel, by decide +kernel⟩, List.mem_of_getElem? (i := 1182) (by decide +kernel), List.mem_of_getElem? (i := 1468) (by decide +kernel), List.mem_of_getElem? (i := 1469) (by decide +kernel)⟩
theorem lw_p66 : lw_okq (⟨"FirstChimneyModel", "places", "()I"⟩, 30) := ⟨⟨by decide +kernel, by decide +kernel⟩, List.mem_of_getElem? (i := 1182) (by decide +kernel), List.mem_of_getElem? (i := 1472) (by decide +kernel), List.mem_of_getElem? (i := 1473) (by decide +kernel)⟩
theorem lw_p67 : lw_okq (⟨"FirstChimneyModel", "pathsFrom", "(I)I"⟩, 30) := ⟨⟨by decide +kernel, by decide +kernel⟩, List.mem_of_getElem? (i := 1182) (by decide +kernel), List.mem_of_getElem? (i := 1476) (by decide +kernel), List.mem_of_getElem? (i := 1477) (by decide +kernel)⟩
theorem lw_p68 : lw_okq (⟨"FirstChimneyModel", "whoIn", "(II)I"⟩, 30) := ⟨⟨by decide +kernel, by decide +kernel⟩, List.mem_of_getElem? (i := 1182) (by decide +kernel), List.mem_of_getElem? (i := 1480) (by decide +kernel), List.mem_of_getElem? (i := 1481) (by decide +kernel)⟩
theorem lw_p69 : lw_okq (⟨"FirstChimneyModel", "awakeAt", "(I)I"⟩, 30) := ⟨⟨by decide +kernel, by decide +kernel⟩, List.mem_of_getElem? (i := 1182) (by decide +kernel), List.mem_of_getElem? (i := 1484) (by decide +kernel), List.mem_of_getElem? (i := 1485) (by decide +kernel)⟩
theorem lw_p70 : lw_okq (⟨"FirstChimneyModel", "isPerson", "(I)Z"⟩, 30) := ⟨⟨by decide +kernel, by decide +kernel⟩, List.mem_of_getElem? (i := 1182) (by decide +kernel), List.mem_of_getElem? (i := 1492) (by decide +kernel), List.mem_of_getElem? (i := 1493) (by decide +kernel)⟩
theorem lw_p71 : lw_okq (⟨"FirstChimneyModel", "isAwake", "(II)Z"⟩, 30) := ⟨⟨by decide +kernel, by decide +kernel⟩, List.mem_of_getElem? (i := 1182) (by decide +kernel), List.mem_of_getElem? (i := 1496) (by decide +kernel), List.mem_of_getElem? (i := 1497) (by decide +kernel)⟩
theorem lw_p72 : lw_okq (⟨"FirstChimneyModel", "isReady", "(II)Z"⟩, 30) := ⟨⟨by decide +kernel, by decide +kernel⟩, List.mem_of_getElem? (i := 1182) (by decide +kernel), List.mem_of_getElem? (i := 1500) (by decide +kernel), List.mem_of_getElem? (i := 1501) (by decide +kernel)⟩
theorem lw_p73 : lw_okq (⟨"FirstChimneyModel", "thingsWith", "(II)I"⟩, 30) := ⟨⟨by decide +kernel, by decide +kernel⟩, List.mem_of_getElem? (i := 1182) (by decide +kernel), List.mem_of_getElem? (i := 1504) (by decide +kernel), List.mem_of_getElem? (i := 1505) (by decide +kernel)⟩
theorem lw_p74 : lw_okq (⟨"FirstChimneyModel", "isThing", "(I)Z"⟩, 30) := ⟨⟨by decide +kernel, by decide +kernel⟩, List.mem_of_getElem? (i := 1182) (by decide +kernel), List.mem_of_getElem? (i := 1512) (by decide +kernel), List.mem_of_getElem? (i := 1513) (by decide +kernel)⟩
theorem lw_p75 : lw_okq (⟨"FirstChimneyModel", "mayWalk", "(III)Z"⟩, 30) := ⟨⟨by decide +kernel, by decide +kernel⟩, List.mem_of_getElem? (i := 1182) (by decide +kernel), List.mem_of_getElem? (i := 1520) (by decide +kernel), List.mem_of_getElem? (i := 1521) (by decide +kernel)⟩
theorem lw_p76 : lw_okq (⟨"FirstChimneyModel", "keeps", "()V"⟩, 30) := ⟨⟨by decide +kernel, by decide +kernel⟩, List.mem_of_getElem? (i := 1182) (by decide +kernel), List.mem_of_getElem? (i := 1524) (by decide +kernel), List.mem_of_getElem? (i := 1525) (by decide +kernel)⟩
theorem lw_p77 : lw_okq (⟨"FirstChimneyModel", "copies", "(III)V"⟩, 30) := ⟨⟨by decide +kernel, by decide +kernel⟩, List.mem_of_getElem? (i := 1182) (by decide +kernel), List.mem_of_getElem? (i := 1528) (by decide +kernel), List.mem_of_getElem? (i := 1529) (by decide +kernel)⟩
theorem lw_p78 : lw_okq (⟨"FirstChimneyModel", "walks", "(III)V"⟩, 30) := ⟨⟨by decide +kernel, by decide +kernel⟩, List.mem_of_getElem? (i := 1182) (by decide +kernel), List.mem_of_getElem? (i := 1532) (by decide +kernel), List.mem_of_getElem? (i := 1533) (by decide +kernel)⟩
theorem lw_p79 : lw_okq (⟨"FirstChimneyModel", "mayGive", "(III)Z"⟩, 30) := ⟨⟨by decide +kernel, by decide +kernel⟩, List.mem_of_getElem? (i := 1182) (by decide +kernel), List.mem_of_getElem? (i := 1540) (by decide +kernel), List.mem_of_getElem? (i := 1541) (by decide +kernel)⟩
def lw_privs_5 : List (MethodName × Nat) := [(⟨"FirstChimneyModel", "readMorning", "(II)V"⟩, 30), (⟨"FirstChimneyModel", "isPlace", "(I)Z"⟩, 30), (⟨"FirstChimneyModel", "places", "()I"⟩, 30), (⟨"FirstChimneyModel", "pathsFrom", "(I)I"⟩, 30), (⟨"FirstChimneyModel", "whoIn", "(II)I"⟩, 30), (⟨"FirstChimneyModel", "awakeAt", "(I)I"⟩, 30), (⟨"FirstChimneyModel", "isPerson", "(I)Z"⟩, 30), (⟨"FirstChimneyModel", "isAwake", "(II)Z"⟩, 30), (⟨"FirstChimneyModel", "isReady", "(II)Z"⟩, 30), (⟨"FirstChimneyModel", "thingsWith", "(II)I"⟩, 30), (⟨"FirstChimneyModel", "isThing", "(I)Z"⟩, 30), (⟨"FirstChimneyModel", "mayWalk", "(III)Z"⟩, 30), (⟨"FirstChimneyModel", "keeps", "()V"⟩, 30), (⟨"FirstChimneyModel", "copies", "(III)V"⟩, 30), (⟨"FirstChimneyModel", "walks", "(III)V"⟩, 30), (⟨"FirstChimneyModel", "mayGive", "(III)Z"⟩, 30)]
theorem lw_r5 : ∀ q ∈ lw_privs_5, lw_okq q := List.forall_mem_cons.mpr ⟨lw_p64, List.forall_mem_cons.mpr ⟨lw_p65, List.forall_mem_cons.mpr ⟨lw_p66, List.forall_mem_cons.mpr ⟨lw_p67, List.forall_mem_cons.mpr ⟨lw_p68, List.forall_mem_cons.mpr ⟨lw_p69, List.forall_mem_cons.mpr ⟨lw_p70, List.forall_mem_cons.mpr ⟨lw_p71, List.forall_mem_cons.mpr ⟨lw_p72, List.forall_mem_cons.mpr ⟨lw_p73, List.forall_mem_cons.mpr ⟨lw_p74, List.forall_mem_cons.mpr ⟨lw_p75, List.forall_mem_cons.mpr ⟨lw_p76, List.forall_mem_cons.mpr ⟨lw_p77, List.forall_mem_cons.mpr ⟨lw_p78, List.forall_mem_cons.mpr ⟨lw_p79, fun _ h => absurd h List.not_mem_nil⟩⟩⟩⟩⟩⟩⟩⟩⟩⟩⟩⟩⟩⟩⟩⟩
theorem lw_p80 : lw_okq (⟨"FirstChimneyModel", "gives", "(III)Z"⟩, 30) := ⟨⟨by decide +kernel, by decide +kernel⟩, List.mem_of_getElem? (i := 1182) (by decide +kernel), List.mem_of_getElem? (i := 1544) (by decide +kernel), List.mem_of_getElem? (i := 1545) (by decide +kernel)⟩
theorem lw_p81 : lw_okq (⟨"FirstChimneyModel", "doesBind", "(IIIII)Z"⟩, 30) := ⟨⟨by decide +kernel, by decide +kernel⟩, List.mem_of_getElem? (i := 1182) (by decide +kernel), List.mem_of_getElem? (i := 1548) (by decide +kernel), List.mem_of_getElem? (i := 1549) (by decide +kernel)⟩
theorem lw_p82 : lw_okq (⟨"FirstChimneyModel", "benches", "()I"⟩, 30) := ⟨⟨by decide +kernel, by decide +kernel⟩, List.mem_of_getElem? (i := 1182) (by decide +kernel), List.mem_of_getElem? (i := 1555) (by decide +kernel), List.mem_of_getElem? (i := 1556) (by decide +kernel)⟩
theorem lw_p83 : lw_okq (⟨"FirstChimneyModel", "worthAt", "(I)I"⟩, 30) := ⟨⟨by decide +kernel, by decide +kernel⟩, List.mem_of_getElem? (i := 1182) (by decide +kernel), List.mem_of_getElem? (i := 1559) (by decide +kernel), List.mem_of_getElem? (i := 1560) (by decide +kernel)⟩
theorem lw_p84 : lw_okq (⟨"FirstChimneyModel", "mayVow", "(III)Z"⟩, 30) := ⟨⟨by decide +kernel, by decide +kernel⟩, List.mem_of_getElem? (i := 1182) (by decide +kernel), List.mem_of_getElem? (i := 1570) (by decide +kernel), List.mem_of_getElem? (i := 1571) (by decide +kernel)⟩
theorem lw_p85 : lw_okq (⟨"FirstChimneyModel", "vowsBy", "(III)Z"⟩, 30) := ⟨⟨by decide +kernel, by decide +kernel⟩, List.mem_of_getElem? (i := 1182) (by decide +kernel), List.mem_of_getElem? (i := 1574) (by decide +kernel), List.mem_of_getElem? (i := 1575) (by decide +kernel)⟩
theorem lw_p86 : lw_okq (⟨"FirstChimneyModel", "passes", "(I)Z"⟩, 30) := ⟨⟨by decide +kernel, by decide +kernel⟩, List.mem_of_getElem? (i := 1182) (by decide +kernel), List.mem_of_getElem? (i := 1582) (by decide +kernel), List.mem_of_getElem? (i := 1583) (by decide +kernel)⟩
theorem lw_p87 : lw_okq (⟨"FirstChimneyModel", "smokeAt", "()I"⟩, 30) := ⟨⟨by decide +kernel, by decide +kernel⟩, List.mem_of_getElem? (i := 1182) (by decide +kernel), List.mem_of_getElem? (i := 1586) (by decide +kernel), List.mem_of_getElem? (i := 1587) (by decide +kernel)⟩
theorem lw_p88 : lw_okq (⟨"FirstChimneyModel", "smokes", "(I)V"⟩, 30) := ⟨⟨by decide +kernel, by decide +kernel⟩, List.mem_of_getElem? (i := 1182) (by decide +kernel), List.mem_of_getElem? (i := 1590) (by decide +kernel), List.mem_of_getElem? (i := 1591) (by decide +kernel)⟩
theorem lw_p89 : lw_okq (⟨"FirstChimneyModel", "reachBy", "(II)I"⟩, 30) := ⟨⟨by decide +kernel, by decide +kernel⟩, List.mem_of_getElem? (i := 1182) (by decide +kernel), List.mem_of_getElem? (i := 1606) (by decide +kernel), List.mem_of_getElem? (i := 1607) (by decide +kernel)⟩
theorem lw_p90 : lw_okq (⟨"FirstChimneyModel", "onFrom", "(II)I"⟩, 30) := ⟨⟨by decide +kernel, by decide +kernel⟩, List.mem_of_getElem? (i := 1182) (by decide +kernel), List.mem_of_getElem? (i := 1610) (by decide +kernel), List.mem_of_getElem? (i := 1611) (by decide +kernel)⟩
theorem lw_p91 : lw_okq (⟨"FirstChimneyModel", "farOf", "(II)I"⟩, 30) := ⟨⟨by decide +kernel, by decide +kernel⟩, List.mem_of_getElem? (i := 1182) (by decide +kernel), List.mem_of_getElem? (i := 1618) (by decide +kernel), List.mem_of_getElem? (i := 1619) (by decide +kernel)⟩
theorem lw_p92 : lw_okq (⟨"FirstChimneyModel", "soonOf", "(II)I"⟩, 30) := ⟨⟨by decide +kernel, by decide +kernel⟩, List.mem_of_getElem? (i := 1182) (by decide +kernel), List.mem_of_getElem? (i := 1642) (by decide +kernel), List.mem_of_getElem? (i := 1643) (by decide +kernel)⟩
theorem lw_p93 : lw_okq (⟨"FirstChimneyModel", "readyIn", "(I)I"⟩, 30) := ⟨⟨by decide +kernel, by decide +kernel⟩, List.mem_of_getElem? (i := 1182) (by decide +kernel), List.mem_of_getElem? (i := 1646) (by decide +kernel), List.mem_of_getElem? (i := 1647) (by decide +kernel)⟩
theorem lw_p94 : lw_okq (⟨"FirstChimneyModel", "paceOf", "(I)I"⟩, 30) := ⟨⟨by decide +kernel, by decide +kernel⟩, List.mem_of_getElem? (i := 1182) (by decide +kernel), List.mem_of_getElem? (i := 1650) (by decide +kernel), List.mem_of_getElem? (i := 1651) (by decide +kernel)⟩
theorem lw_p95 : lw_okq (⟨"FirstChimneyModel", "wrongThings", "(I)I"⟩, 30) := ⟨⟨by decide +kernel, by decide +kernel⟩, List.mem_of_getElem? (i := 1182) (by decide +kernel), List.mem_of_getElem? (i := 1677) (by decide +kernel), List.mem_of_getElem? (i := 1678) (by decide +kernel)⟩
def lw_privs_6 : List (MethodName × Nat) := [(⟨"FirstChimneyModel", "gives", "(III)Z"⟩, 30), (⟨"FirstChimneyModel", "doesBind", "(IIIII)Z"⟩, 30), (⟨"FirstChimneyModel", "benches", "()I"⟩, 30), (⟨"FirstChimneyModel", "worthAt", "(I)I"⟩, 30), (⟨"FirstChimneyModel", "mayVow", "(III)Z"⟩, 30), (⟨"FirstChimneyModel", "vowsBy", "(III)Z"⟩, 30), (⟨"FirstChimneyModel", "passes", "(I)Z"⟩, 30), (⟨"FirstChimneyModel", "smokeAt", "()I"⟩, 30), (⟨"FirstChimneyModel", "smokes", "(I)V"⟩, 30), (⟨"FirstChimneyModel", "reachBy", "(II)I"⟩, 30), (⟨"FirstChimneyModel", "onFrom", "(II)I"⟩, 30), (⟨"FirstChimneyModel", "farOf", "(II)I"⟩, 30), (⟨"FirstChimneyModel", "soonOf", "(II)I"⟩, 30), (⟨"FirstChimneyModel", "readyIn", "(I)I"⟩, 30), (⟨"FirstChimneyModel", "paceOf", "(I)I"⟩, 30), (⟨"FirstChimneyModel", "wrongThings", "(I)I"⟩, 30)]
theorem lw_r6 : ∀ q ∈ lw_privs_6, lw_okq q := List.forall_mem_cons.mpr ⟨lw_p80, List.forall_mem_cons.mpr ⟨lw_p81, List.forall_mem_cons.mpr ⟨lw_p82, List.forall_mem_cons.mpr ⟨lw_p83, List.forall_mem_cons.mpr ⟨lw_p84, List.forall_mem_cons.mpr ⟨lw_p85, List.forall_mem_cons.mpr ⟨lw_p86, List.forall_mem_cons.mpr ⟨lw_p87, List.forall_mem_cons.mpr ⟨lw_p88, List.forall_mem_cons.mpr ⟨lw_p89, List.forall_mem_cons.mpr ⟨lw_p90, List.forall_mem_cons.mpr ⟨lw_p91, List.forall_mem_cons.mpr ⟨lw_p92, List.forall_mem_cons.mpr ⟨lw_p93, List.forall_mem_cons.mpr ⟨lw_p94, List.forall_mem_cons.mpr ⟨lw_p95, fun _ h => absurd h List.not_mem_nil⟩⟩⟩⟩⟩⟩⟩⟩⟩⟩⟩⟩⟩⟩⟩⟩
theorem lw_p96 : lw_okq (⟨"FirstChimneyModel", "isGift", "(II)Z"⟩, 30) := ⟨⟨by decide +kernel, by decide +kernel⟩, List.mem_of_getElem? (i := 1182) (by decide +kernel), List.mem_of_getElem? (i := 1689) (by decide +kernel), List.mem_of_getElem? (i := 1690) (by decide +kernel)⟩
theorem lw_p97 : lw_okq (⟨"FirstChimneyModel", "wouldBind", "(III)Z"⟩, 30) := ⟨⟨by decide +kernel, by decide +kernel⟩, List.mem_of_getElem? (i := 1182) (by decide +kernel), List.mem_of_getElem? (i := 1693) (by decide +kernel), List.mem_of_getElem? (i := 1694) (by decide +kernel)⟩
theorem lw_p98 : lw_okq (⟨"FirstChimneyModel", "triesNow", "()V"⟩, 30) := ⟨⟨by decide +kernel, by decide +kernel⟩, List.mem_of_getElem? (i := 1182) (by decide +kernel), List.mem_of_getElem? (i := 1717) (by decide +kernel), List.mem_of_getElem? (i := 1718) (by decide +kernel)⟩
theorem lw_p99 : lw_okq (⟨"FirstChimneyModel", "heardOfAll", "(I)I"⟩, 30) := ⟨⟨by decide +kernel, by decide +kernel⟩, List.mem_of_getElem? (i := 1182) (by decide +kernel), List.mem_of_getElem? (i := 1721) (by decide +kernel), List.mem_of_getElem? (i := 1722) (by decide +kernel)⟩
theorem lw_p100 : lw_okq (⟨"FirstChimneyModel", "whoNow", "()I"⟩, 30) := ⟨⟨by decide +kernel, by decide +kernel⟩, List.mem_of_getElem? (i := 1182) (by decide +kernel), List.mem_of_getElem? (i := 1737) (by decide +kernel), List.mem_of_getElem? (i := 1738) (by decide +kernel)⟩
theorem lw_p101 : lw_okq (⟨"FirstChimneyModel", "worthOf", "(IZ)I"⟩, 30) := ⟨⟨by decide +kernel, by decide +kernel⟩, List.mem_of_getElem? (i := 1182) (by decide +kernel), List.mem_of_getElem? (i := 1749) (by decide +kernel), List.mem_of_getElem? (i := 1750) (by decide +kernel)⟩
theorem lw_p102 : lw_okq (⟨"FirstChimneyModel", "drawsDeed", "()Z"⟩, 30) := ⟨⟨by decide +kernel, by decide +kernel⟩, List.mem_of_getElem? (i := 1182) (by decide +kernel), List.mem_of_getElem? (i := 1777) (by decide +kernel), List.mem_of_getElem? (i := 1778) (by decide +kernel)⟩
theorem lw_p103 : lw_okq (⟨"FirstChimneyModel", "draw", "(I)I"⟩, 30) := ⟨⟨by decide +kernel, by decide +kernel⟩, List.mem_of_getElem? (i := 1182) (by decide +kernel), List.mem_of_getElem? (i := 1781) (by decide +kernel), List.mem_of_getElem? (i := 1782) (by decide +kernel)⟩
theorem lw_p104 : lw_okq (⟨"FirstChimneyModel", "pairsOf", "(I)I"⟩, 30) := ⟨⟨by decide +kernel, by decide +kernel⟩, List.mem_of_getElem? (i := 1182) (by decide +kernel), List.mem_of_getElem? (i := 1797) (by decide +kernel), List.mem_of_getElem? (i := 1798) (by decide +kernel)⟩
def lw_privs_7 : List (MethodName × Nat) := [(⟨"FirstChimneyModel", "isGift", "(II)Z"⟩, 30), (⟨"FirstChimneyModel", "wouldBind", "(III)Z"⟩, 30), (⟨"FirstChimneyModel", "triesNow", "()V"⟩, 30), (⟨"FirstChimneyModel", "heardOfAll", "(I)I"⟩, 30), (⟨"FirstChimneyModel", "whoNow", "()I"⟩, 30), (⟨"FirstChimneyModel", "worthOf", "(IZ)I"⟩, 30), (⟨"FirstChimneyModel", "drawsDeed", "()Z"⟩, 30), (⟨"FirstChimneyModel", "draw", "(I)I"⟩, 30), (⟨"FirstChimneyModel", "pairsOf", "(I)I"⟩, 30)]
theorem lw_r7 : ∀ q ∈ lw_privs_7, lw_okq q := List.forall_mem_cons.mpr ⟨lw_p96, List.forall_mem_cons.mpr ⟨lw_p97, List.forall_mem_cons.mpr ⟨lw_p98, List.forall_mem_cons.mpr ⟨lw_p99, List.forall_mem_cons.mpr ⟨lw_p100, List.forall_mem_cons.mpr ⟨lw_p101, List.forall_mem_cons.mpr ⟨lw_p102, List.forall_mem_cons.mpr ⟨lw_p103, List.forall_mem_cons.mpr ⟨lw_p104, fun _ h => absurd h List.not_mem_nil⟩⟩⟩⟩⟩⟩⟩⟩⟩
def lw_privs : List (MethodName × Nat) := lw_privs_1 ++ (lw_privs_2 ++ (lw_privs_3 ++ (lw_privs_4 ++ (lw_privs_5 ++ (lw_privs_6 ++ (lw_privs_7))))))
def lw_tbl : List Cond := k2_sels lw_privs ++ tables_1
theorem lw_privs_ok : ∀ q ∈ lw_privs, lw_okq q := by
  show ∀ q ∈ lw_privs_1 ++ (lw_privs_2 ++ (lw_privs_3 ++ (lw_privs_4 ++ (lw_privs_5 ++ (lw_privs_6 ++ (lw_privs_7)))))), lw_okq q
  exact List.forall_mem_append.mpr ⟨lw_r1, List.forall_mem_append.mpr ⟨lw_r2, List.forall_mem_append.mpr ⟨lw_r3, List.forall_mem_append.mpr ⟨lw_r4, List.forall_mem_append.mpr ⟨lw_r5, List.forall_mem_append.mpr ⟨lw_r6, lw_r7⟩⟩⟩⟩⟩⟩
-- ===== end of PART A; then your names; then what follows =====
end
section
def RX0 : String := "FirstChimney$Land"
def TX0 : u_T := fun k => match k with
  | 0 => ("FirstChimney$Land", "placeNames", "[J", true)
  | 1 => ("FirstChimney$Land", "personNames", "[J", true)
  | 2 => ("FirstChimney$Land", "thingNames", "[J", true)
  | 3 => ("FirstChimney$Land", "paths", "[I", true)
  | 4 => ("FirstChimney$Land", "kinds", "[I", true)
  | 5 => ("FirstChimney$Land", "houses", "[I", true)
  | 6 => ("FirstChimney$Land", "wakes", "[I", true)
  | 7 => ("FirstChimney$Land", "worths", "[I", true)
  | 8 => ("FirstChimney$Land", "givers", "[I", true)
  | 9 => ("FirstChimney$Land", "law", "LFirstChimney$Law;", true)
  | 10 => ("FirstChimney$Land", "places", "I", false)
  | 11 => ("FirstChimney$Land", "pathsTold", "I", false)
  | 12 => ("FirstChimney$Land", "persons", "I", false)
  | 13 => ("FirstChimney$Land", "things", "I", false)
  | _ => ("FirstChimney$Land", "smoke", "I", false)
def tyX0 : Nat → FieldType := fun k => match k with
  | 0 => .array .long
  | 1 => .array .long
  | 2 => .array .long
  | 3 => .array .int
  | 4 => .array .int
  | 5 => .array .int
  | 6 => .array .int
  | 7 => .array .int
  | 8 => .array .int
  | 9 => .object "FirstChimney$Law"
  | 10 => .int
  | 11 => .int
  | 12 => .int
  | 13 => .int
  | _ => .int
abbrev wsX00 : List Cond := u_ws RX0 TX0 15
theorem nmX0 : ∀ a, a < 15 → ∀ b, b < 15 → a ≠ b → (TX0 a).2.1 ≠ (TX0 b).2.1 := by decide +kernel
theorem tyX0_ok : ∀ k, k < 15 → parseFieldDescriptor (TX0 k).2.2.1 = some (tyX0 k) := by decide +kernel
abbrev cX0_init : ByteArray := prog_2_method_1_code
def yX0_init : MethodName := ⟨RX0, "<init>", "()V"⟩
abbrev cX0_clear : ByteArray := prog_2_method_2_code
def yX0_clear : MethodName := ⟨RX0, "clear", "()V"⟩
abbrev cX0_indexOf : ByteArray := prog_2_method_3_code
def yX0_indexOf : MethodName := ⟨RX0, "indexOf", "([JIJ)I"⟩
abbrev cX0_isTold : ByteArray := prog_2_method_4_code
def yX0_isTold : MethodName := ⟨RX0, "isTold", "(J)Z"⟩
abbrev cX0_hasPlace : ByteArray := prog_2_method_5_code
def yX0_hasPlace : MethodName := ⟨RX0, "hasPlace", "(I)Z"⟩
abbrev cX0_hasPerson : ByteArray := prog_2_method_6_code
def yX0_hasPerson : MethodName := ⟨RX0, "hasPerson", "(I)Z"⟩
abbrev cX0_hasThing : ByteArray := prog_2_method_7_code
def yX0_hasThing : MethodName := ⟨RX0, "hasThing", "(I)Z"⟩
abbrev cX0_isAwake : ByteArray := prog_2_method_8_code
def yX0_isAwake : MethodName := ⟨RX0, "isAwake", "(II)Z"⟩
abbrev cX0_sleepOf : ByteArray := prog_2_method_9_code
def yX0_sleepOf : MethodName := ⟨RX0, "sleepOf", "(II)I"⟩
abbrev cX0_awakeBits : ByteArray := prog_2_method_10_code
def yX0_awakeBits : MethodName := ⟨RX0, "awakeBits", "(I)I"⟩
def RX1 : String := "FirstChimney$LandReader"
def TX1 : u_T := fun k => match k with
  | 0 => ("FirstChimney$LandReader", "lawReader", "LFirstChimney$LawReader;", true)
  | 1 => ("FirstChimney$LandReader", "smokeTold", "Z", false)
  | _ => ("FirstChimney$LandReader", "bindsTold", "Z", false)
def tyX1 : Nat → FieldType := fun k => match k with
  | 0 => .object "FirstChimney$LawReader"
  | 1 => .boolean
  | _ => .boolean
abbrev wsX10 : List Cond := u_ws RX1 TX1 3
theorem nmX1 : ∀ a, a < 3 → ∀ b, b < 3 → a ≠ b → (TX1 a).2.1 ≠ (TX1 b).2.1 := by decide +kernel
theorem tyX1_ok : ∀ k, k < 3 → parseFieldDescriptor (TX1 k).2.2.1 = some (tyX1 k) := by decide +kernel
abbrev cX1_init : ByteArray := prog_3_method_1_code
def yX1_init : MethodName := ⟨RX1, "<init>", "()V"⟩
abbrev cX1_read : ByteArray := prog_3_method_2_code
def yX1_read : MethodName := ⟨RX1, "read", "(LFirstChimney$Tape;LFirstChimney$Land;)I"⟩
abbrev cX1_isNewName : ByteArray := prog_3_method_3_code
def yX1_isNewName : MethodName := ⟨RX1, "isNewName", "(LFirstChimney$Tape;LFirstChimney$Land;)Z"⟩
abbrev cX1_readPlace : ByteArray := prog_3_method_4_code
def yX1_readPlace : MethodName := ⟨RX1, "readPlace", "(LFirstChimney$Tape;LFirstChimney$Land;)Z"⟩
abbrev cX1_readPath : ByteArray := prog_3_method_5_code
def yX1_readPath : MethodName := ⟨RX1, "readPath", "(LFirstChimney$Tape;LFirstChimney$Land;)Z"⟩
abbrev cX1_readPerson : ByteArray := prog_3_method_6_code
def yX1_readPerson : MethodName := ⟨RX1, "readPerson", "(LFirstChimney$Tape;LFirstChimney$Land;)Z"⟩
abbrev cX1_readThing : ByteArray := prog_3_method_7_code
def yX1_readThing : MethodName := ⟨RX1, "readThing", "(LFirstChimney$Tape;LFirstChimney$Land;)Z"⟩
abbrev cX1_readSmoke : ByteArray := prog_3_method_8_code
def yX1_readSmoke : MethodName := ⟨RX1, "readSmoke", "(LFirstChimney$Tape;LFirstChimney$Land;)Z"⟩
abbrev cX1_readBinds : ByteArray := prog_3_method_9_code
def yX1_readBinds : MethodName := ⟨RX1, "readBinds", "(LFirstChimney$Tape;LFirstChimney$Land;)Z"⟩
def RX2 : String := "FirstChimney$Law"
def TX2 : u_T := fun k => match k with
  | 0 => ("FirstChimney$Law", "code", "[I", true)
  | 1 => ("FirstChimney$Law", "values", "[I", true)
  | _ => ("FirstChimney$Law", "length", "I", false)
def tyX2 : Nat → FieldType := fun k => match k with
  | 0 => .array .int
  | 1 => .array .int
  | _ => .int
abbrev wsX20 : List Cond := u_ws RX2 TX2 3
theorem nmX2 : ∀ a, a < 3 → ∀ b, b < 3 → a ≠ b → (TX2 a).2.1 ≠ (TX2 b).2.1 := by decide +kernel
theorem tyX2_ok : ∀ k, k < 3 → parseFieldDescriptor (TX2 k).2.2.1 = some (tyX2 k) := by decide +kernel
abbrev cX2_init : ByteArray := prog_4_method_1_code
def yX2_init : MethodName := ⟨RX2, "<init>", "()V"⟩
abbrev cX2_write : ByteArray := prog_4_method_2_code
def yX2_write : MethodName := ⟨RX2, "write", "(I)V"⟩
abbrev cX2_valueAt : ByteArray := prog_4_method_3_code
def yX2_valueAt : MethodName := ⟨RX2, "valueAt", "(IIII)I"⟩
abbrev cX2_operand : ByteArray := prog_4_method_4_code
def yX2_operand : MethodName := ⟨RX2, "operand", "(IIIII)I"⟩
abbrev cX2_joined : ByteArray := prog_4_method_5_code
def yX2_joined : MethodName := ⟨RX2, "joined", "(III)I"⟩
def RX3 : String := "FirstChimney$LawReader"
def TX3 : u_T := fun k => match k with
  | 0 => ("FirstChimney$LawReader", "waiting", "[I", true)
  | 1 => ("FirstChimney$LawReader", "top", "I", false)
  | 2 => ("FirstChimney$LawReader", "depth", "I", false)
  | _ => ("FirstChimney$LawReader", "partDue", "Z", false)
def tyX3 : Nat → FieldType := fun k => match k with
  | 0 => .array .int
  | 1 => .int
  | 2 => .int
  | _ => .boolean
abbrev wsX30 : List Cond := u_ws RX3 TX3 4
theorem nmX3 : ∀ a, a < 4 → ∀ b, b < 4 → a ≠ b → (TX3 a).2.1 ≠ (TX3 b).2.1 := by decide +kernel
theorem tyX3_ok : ∀ k, k < 4 → parseFieldDescriptor (TX3 k).2.2.1 = some (tyX3 k) := by decide +kernel
abbrev cX3_init : ByteArray := prog_5_method_1_code
def yX3_init : MethodName := ⟨RX3, "<init>", "()V"⟩
abbrev cX3_read : ByteArray := prog_5_method_2_code
def yX3_read : MethodName := ⟨RX3, "read", "(LFirstChimney$Tape;LFirstChimney$Law;)Z"⟩
abbrev cX3_readPart : ByteArray := prog_5_method_3_code
def yX3_readPart : MethodName := ⟨RX3, "readPart", "(LFirstChimney$Tape;LFirstChimney$Law;)Z"⟩
abbrev cX3_readBehind : ByteArray := prog_5_method_4_code
def yX3_readBehind : MethodName := ⟨RX3, "readBehind", "(LFirstChimney$Tape;LFirstChimney$Law;)Z"⟩
abbrev cX3_closeNots : ByteArray := prog_5_method_5_code
def yX3_closeNots : MethodName := ⟨RX3, "closeNots", "(LFirstChimney$Law;)V"⟩
abbrev cX3_await : ByteArray := prog_5_method_6_code
def yX3_await : MethodName := ⟨RX3, "await", "(I)V"⟩
abbrev cX3_writeDown : ByteArray := prog_5_method_7_code
def yX3_writeDown : MethodName := ⟨RX3, "writeDown", "(LFirstChimney$Law;I)V"⟩
abbrev cX3_rankOf : ByteArray := prog_5_method_8_code
def yX3_rankOf : MethodName := ⟨RX3, "rankOf", "(I)I"⟩
def RX4 : String := "FirstChimney$Past"
def TX4 : u_T := fun k => match k with
  | 0 => ("FirstChimney$Past", "ring", "[LFirstChimney$State;", true)
  | 1 => ("FirstChimney$Past", "marked", "[LFirstChimney$State;", true)
  | 2 => ("FirstChimney$Past", "markedSeen", "[LFirstChimney$Seen;", true)
  | 3 => ("FirstChimney$Past", "laid", "[Z", true)
  | 4 => ("FirstChimney$Past", "nextSlot", "I", false)
  | _ => ("FirstChimney$Past", "kept", "I", false)
def tyX4 : Nat → FieldType := fun k => match k with
  | 0 => .array (.object "FirstChimney$State")
  | 1 => .array (.object "FirstChimney$State")
  | 2 => .array (.object "FirstChimney$Seen")
  | 3 => .array .boolean
  | 4 => .int
  | _ => .int
abbrev wsX40 : List Cond := u_ws RX4 TX4 6
theorem nmX4 : ∀ a, a < 6 → ∀ b, b < 6 → a ≠ b → (TX4 a).2.1 ≠ (TX4 b).2.1 := by decide +kernel
theorem tyX4_ok : ∀ k, k < 6 → parseFieldDescriptor (TX4 k).2.2.1 = some (tyX4 k) := by decide +kernel
abbrev cX4_init : ByteArray := prog_6_method_1_code
def yX4_init : MethodName := ⟨RX4, "<init>", "()V"⟩
abbrev cX4_forget : ByteArray := prog_6_method_2_code
def yX4_forget : MethodName := ⟨RX4, "forget", "()V"⟩
abbrev cX4_keep : ByteArray := prog_6_method_3_code
def yX4_keep : MethodName := ⟨RX4, "keep", "(LFirstChimney$State;)V"⟩
abbrev cX4_bringBack : ByteArray := prog_6_method_4_code
def yX4_bringBack : MethodName := ⟨RX4, "bringBack", "(LFirstChimney$State;)Z"⟩
abbrev cX4_lay : ByteArray := prog_6_method_5_code
def yX4_lay : MethodName := ⟨RX4, "lay", "(ILFirstChimney$State;LFirstChimney$Seen;)V"⟩
abbrev cX4_goBack : ByteArray := prog_6_method_6_code
def yX4_goBack : MethodName := ⟨RX4, "goBack", "(ILFirstChimney$State;LFirstChimney$Seen;)Z"⟩
def RX5 : String := "FirstChimney$Script"
def TX5 : u_T := fun k => match k with
  | 0 => ("FirstChimney$Script", "deeds", "[I", true)
  | 1 => ("FirstChimney$Script", "ones", "[I", true)
  | 2 => ("FirstChimney$Script", "others", "[I", true)
  | _ => ("FirstChimney$Script", "lines", "I", false)
def tyX5 : Nat → FieldType := fun k => match k with
  | 0 => .array .int
  | 1 => .array .int
  | 2 => .array .int
  | _ => .int
abbrev wsX50 : List Cond := u_ws RX5 TX5 4
theorem nmX5 : ∀ a, a < 4 → ∀ b, b < 4 → a ≠ b → (TX5 a).2.1 ≠ (TX5 b).2.1 := by decide +kernel
theorem tyX5_ok : ∀ k, k < 4 → parseFieldDescriptor (TX5 k).2.2.1 = some (tyX5 k) := by decide +kernel
abbrev cX5_init : ByteArray := prog_7_method_1_code
def yX5_init : MethodName := ⟨RX5, "<init>", "()V"⟩
abbrev cX5_read : ByteArray := prog_7_method_2_code
def yX5_read : MethodName := ⟨RX5, "read", "(LFirstChimney$Tape;LFirstChimney$Land;)I"⟩
abbrev cX5_readLine : ByteArray := prog_7_method_3_code
def yX5_readLine : MethodName := ⟨RX5, "readLine", "(LFirstChimney$Tape;LFirstChimney$Land;)Z"⟩
abbrev cX5_readNames : ByteArray := prog_7_method_4_code
def yX5_readNames : MethodName := ⟨RX5, "readNames", "(LFirstChimney$Tape;LFirstChimney$Land;I)Z"⟩
abbrev cX5_play : ByteArray := prog_7_method_5_code
def yX5_play : MethodName := ⟨RX5, "play", "(ILFirstChimney$Land;LFirstChimney$State;)I"⟩
def RX6 : String := "FirstChimney$Seen"
def TX6 : u_T := fun k => match k with
  | 0 => ("FirstChimney$Seen", "places", "[I", true)
  | 1 => ("FirstChimney$Seen", "minutes", "[I", true)
  | 2 => ("FirstChimney$Seen", "can", "[Z", true)
  | _ => ("FirstChimney$Seen", "number", "I", false)
def tyX6 : Nat → FieldType := fun k => match k with
  | 0 => .array .int
  | 1 => .array .int
  | 2 => .array .boolean
  | _ => .int
abbrev wsX60 : List Cond := u_ws RX6 TX6 4
theorem nmX6 : ∀ a, a < 4 → ∀ b, b < 4 → a ≠ b → (TX6 a).2.1 ≠ (TX6 b).2.1 := by decide +kernel
theorem tyX6_ok : ∀ k, k < 4 → parseFieldDescriptor (TX6 k).2.2.1 = some (tyX6 k) := by decide +kernel
abbrev cX6_init : ByteArray := prog_8_method_1_code
def yX6_init : MethodName := ⟨RX6, "<init>", "()V"⟩
abbrev cX6_add : ByteArray := prog_8_method_2_code
def yX6_add : MethodName := ⟨RX6, "add", "(IIZ)Z"⟩
abbrev cX6_copy : ByteArray := prog_8_method_3_code
def yX6_copy : MethodName := ⟨RX6, "copy", "(LFirstChimney$Seen;)V"⟩
def RX7 : String := "FirstChimney$State"
def TX7 : u_T := fun k => match k with
  | 0 => ("FirstChimney$State", "morning", "I", false)
  | 1 => ("FirstChimney$State", "minute", "I", false)
  | 2 => ("FirstChimney$State", "where", "[I", true)
  | 3 => ("FirstChimney$State", "acted", "[I", true)
  | 4 => ("FirstChimney$State", "news", "[I", true)
  | 5 => ("FirstChimney$State", "vowed", "[I", true)
  | 6 => ("FirstChimney$State", "rightVows", "[I", true)
  | 7 => ("FirstChimney$State", "holders", "[I", true)
  | _ => ("FirstChimney$State", "owners", "[I", true)
def tyX7 : Nat → FieldType := fun k => match k with
  | 0 => .int
  | 1 => .int
  | 2 => .array .int
  | 3 => .array .int
  | 4 => .array .int
  | 5 => .array .int
  | 6 => .array .int
  | 7 => .array .int
  | _ => .array .int
abbrev wsX70 : List Cond := u_ws RX7 TX7 9
theorem nmX7 : ∀ a, a < 9 → ∀ b, b < 9 → a ≠ b → (TX7 a).2.1 ≠ (TX7 b).2.1 := by decide +kernel
theorem tyX7_ok : ∀ k, k < 9 → parseFieldDescriptor (TX7 k).2.2.1 = some (tyX7 k) := by decide +kernel
abbrev cX7_init : ByteArray := prog_9_method_1_code
def yX7_init : MethodName := ⟨RX7, "<init>", "()V"⟩
abbrev cX7_begin : ByteArray := prog_9_method_2_code
def yX7_begin : MethodName := ⟨RX7, "begin", "(LFirstChimney$Land;)V"⟩
abbrev cX7_copy : ByteArray := prog_9_method_3_code
def yX7_copy : MethodName := ⟨RX7, "copy", "(LFirstChimney$State;)V"⟩
abbrev cX7_bitsAt : ByteArray := prog_9_method_4_code
def yX7_bitsAt : MethodName := ⟨RX7, "bitsAt", "(LFirstChimney$Land;I)I"⟩
abbrev cX7_strayThings : ByteArray := prog_9_method_5_code
def yX7_strayThings : MethodName := ⟨RX7, "strayThings", "(LFirstChimney$Land;)I"⟩
abbrev cX7_newsOfAll : ByteArray := prog_9_method_6_code
def yX7_newsOfAll : MethodName := ⟨RX7, "newsOfAll", "(LFirstChimney$Land;)I"⟩
abbrev cX7_isReady : ByteArray := prog_9_method_7_code
def yX7_isReady : MethodName := ⟨RX7, "isReady", "(LFirstChimney$Land;I)Z"⟩
abbrev cX7_minutesOver : ByteArray := prog_9_method_8_code
def yX7_minutesOver : MethodName := ⟨RX7, "minutesOver", "(LFirstChimney$Land;II)I"⟩
abbrev cX7_canWalk : ByteArray := prog_9_method_9_code
def yX7_canWalk : MethodName := ⟨RX7, "canWalk", "(LFirstChimney$Land;II)Z"⟩
abbrev cX7_goTo : ByteArray := prog_9_method_10_code
def yX7_goTo : MethodName := ⟨RX7, "goTo", "(LFirstChimney$Land;II)V"⟩
abbrev cX7_canGive : ByteArray := prog_9_method_11_code
def yX7_canGive : MethodName := ⟨RX7, "canGive", "(LFirstChimney$Land;II)Z"⟩
abbrev cX7_handOver : ByteArray := prog_9_method_12_code
def yX7_handOver : MethodName := ⟨RX7, "handOver", "(LFirstChimney$Land;II)Z"⟩
abbrev cX7_canVow : ByteArray := prog_9_method_13_code
def yX7_canVow : MethodName := ⟨RX7, "canVow", "(LFirstChimney$Land;II)Z"⟩
abbrev cX7_pledge : ByteArray := prog_9_method_14_code
def yX7_pledge : MethodName := ⟨RX7, "pledge", "(LFirstChimney$Land;II)Z"⟩
abbrev cX7_giftBinds : ByteArray := prog_9_method_15_code
def yX7_giftBinds : MethodName := ⟨RX7, "giftBinds", "(LFirstChimney$Land;III)Z"⟩
abbrev cX7_isBinding : ByteArray := prog_9_method_16_code
def yX7_isBinding : MethodName := ⟨RX7, "isBinding", "(LFirstChimney$Land;IIII)Z"⟩
abbrev cX7_pass : ByteArray := prog_9_method_17_code
def yX7_pass : MethodName := ⟨RX7, "pass", "(LFirstChimney$Land;)Z"⟩
abbrev cX7_shareNews : ByteArray := prog_9_method_18_code
def yX7_shareNews : MethodName := ⟨RX7, "shareNews", "(LFirstChimney$Land;I)V"⟩
abbrev cX7_riseSmoke : ByteArray := prog_9_method_19_code
def yX7_riseSmoke : MethodName := ⟨RX7, "riseSmoke", "(LFirstChimney$Land;)V"⟩
def RX8 : String := "FirstChimney$Tape"
def TX8 : u_T := fun k => match k with
  | 0 => ("FirstChimney$Tape", "signs", "[C", true)
  | 1 => ("FirstChimney$Tape", "length", "I", false)
  | 2 => ("FirstChimney$Tape", "start", "I", false)
  | 3 => ("FirstChimney$Tape", "end", "I", false)
  | 4 => ("FirstChimney$Tape", "kind", "I", false)
  | 5 => ("FirstChimney$Tape", "number", "I", false)
  | 6 => ("FirstChimney$Tape", "word", "J", false)
  | _ => ("FirstChimney$Tape", "fault", "I", false)
def tyX8 : Nat → FieldType := fun k => match k with
  | 0 => .array .char
  | 1 => .int
  | 2 => .int
  | 3 => .int
  | 4 => .int
  | 5 => .int
  | 6 => .long
  | _ => .int
abbrev wsX80 : List Cond := u_ws RX8 TX8 8
theorem nmX8 : ∀ a, a < 8 → ∀ b, b < 8 → a ≠ b → (TX8 a).2.1 ≠ (TX8 b).2.1 := by decide +kernel
theorem tyX8_ok : ∀ k, k < 8 → parseFieldDescriptor (TX8 k).2.2.1 = some (tyX8 k) := by decide +kernel
abbrev cX8_init : ByteArray := prog_10_method_1_code
def yX8_init : MethodName := ⟨RX8, "<init>", "()V"⟩
abbrev cX8_put : ByteArray := prog_10_method_2_code
def yX8_put : MethodName := ⟨RX8, "put", "(J)V"⟩
abbrev cX8_clear : ByteArray := prog_10_method_3_code
def yX8_clear : MethodName := ⟨RX8, "clear", "()V"⟩
abbrev cX8_open : ByteArray := prog_10_method_4_code
def yX8_open : MethodName := ⟨RX8, "open", "()V"⟩
abbrev cX8_next : ByteArray := prog_10_method_5_code
def yX8_next : MethodName := ⟨RX8, "next", "()V"⟩
abbrev cX8_readWord : ByteArray := prog_10_method_6_code
def yX8_readWord : MethodName := ⟨RX8, "readWord", "()V"⟩
abbrev cX8_readNumber : ByteArray := prog_10_method_7_code
def yX8_readNumber : MethodName := ⟨RX8, "readNumber", "()V"⟩
abbrev cX8_cellIn : ByteArray := prog_10_method_8_code
def yX8_cellIn : MethodName := ⟨RX8, "cellIn", "(Ljava/lang/String;)I"⟩
abbrev cX8_fail : ByteArray := prog_10_method_9_code
def yX8_fail : MethodName := ⟨RX8, "fail", "(I)Z"⟩
abbrev cX8_take : ByteArray := prog_10_method_10_code
def yX8_take : MethodName := ⟨RX8, "take", "(I)Z"⟩
abbrev cX8_isNumber : ByteArray := prog_10_method_11_code
def yX8_isNumber : MethodName := ⟨RX8, "isNumber", "(II)Z"⟩
abbrev cX8_known : ByteArray := prog_10_method_12_code
def yX8_known : MethodName := ⟨RX8, "known", "([JI)I"⟩
def RX9 : String := "FirstChimney$Ways"
def TX9 : u_T := fun k => match k with
  | 0 => ("FirstChimney$Ways", "paths", "[[I", true)
  | 1 => ("FirstChimney$Ways", "ends", "[I", false)
  | _ => ("FirstChimney$Ways", "nextEnds", "[I", false)
def tyX9 : Nat → FieldType := fun k => match k with
  | 0 => .array (.array .int)
  | 1 => .array .int
  | _ => .array .int
abbrev wsX90 : List Cond := u_ws RX9 TX9 3
theorem nmX9 : ∀ a, a < 3 → ∀ b, b < 3 → a ≠ b → (TX9 a).2.1 ≠ (TX9 b).2.1 := by decide +kernel
theorem tyX9_ok : ∀ k, k < 3 → parseFieldDescriptor (TX9 k).2.2.1 = some (tyX9 k) := by decide +kernel
abbrev cX9_init : ByteArray := prog_11_method_1_code
def yX9_init : MethodName := ⟨RX9, "<init>", "()V"⟩
abbrev cX9_measure : ByteArray := prog_11_method_2_code
def yX9_measure : MethodName := ⟨RX9, "measure", "(LFirstChimney$Land;)V"⟩
abbrev cX9_measureFrom : ByteArray := prog_11_method_3_code
def yX9_measureFrom : MethodName := ⟨RX9, "measureFrom", "(LFirstChimney$Land;I)V"⟩
abbrev cX9_neighbours : ByteArray := prog_11_method_4_code
def yX9_neighbours : MethodName := ⟨RX9, "neighbours", "(LFirstChimney$Land;I)I"⟩
abbrev cX9_spread : ByteArray := prog_11_method_5_code
def yX9_spread : MethodName := ⟨RX9, "spread", "(LFirstChimney$Land;II)I"⟩
abbrev cX9_isCut : ByteArray := prog_11_method_6_code
def yX9_isCut : MethodName := ⟨RX9, "isCut", "(LFirstChimney$Land;I)Z"⟩
abbrev cX9_farthestFrom : ByteArray := prog_11_method_7_code
def yX9_farthestFrom : MethodName := ⟨RX9, "farthestFrom", "(LFirstChimney$Land;I)I"⟩
abbrev cX9_pathsOfTour : ByteArray := prog_11_method_8_code
def yX9_pathsOfTour : MethodName := ⟨RX9, "pathsOfTour", "(LFirstChimney$Land;I)I"⟩
abbrev cX9_stepOn : ByteArray := prog_11_method_9_code
def yX9_stepOn : MethodName := ⟨RX9, "stepOn", "(LFirstChimney$Land;)V"⟩
def RX10 : String := "FirstChimney"
def TX10 : u_T := fun k => match k with
  | 0 => ("FirstChimney", "tape", "LFirstChimney$Tape;", true)
  | 1 => ("FirstChimney", "landReader", "LFirstChimney$LandReader;", true)
  | 2 => ("FirstChimney", "ways", "LFirstChimney$Ways;", true)
  | 3 => ("FirstChimney", "now", "LFirstChimney$State;", true)
  | 4 => ("FirstChimney", "trial", "LFirstChimney$State;", true)
  | 5 => ("FirstChimney", "past", "LFirstChimney$Past;", true)
  | 6 => ("FirstChimney", "seen", "LFirstChimney$Seen;", true)
  | 7 => ("FirstChimney", "land", "LFirstChimney$Land;", false)
  | 8 => ("FirstChimney", "spareLand", "LFirstChimney$Land;", false)
  | 9 => ("FirstChimney", "script", "LFirstChimney$Script;", false)
  | 10 => ("FirstChimney", "spareScript", "LFirstChimney$Script;", false)
  | _ => ("FirstChimney", "drawn", "J", false)
def tyX10 : Nat → FieldType := fun k => match k with
  | 0 => .object "FirstChimney$Tape"
  | 1 => .object "FirstChimney$LandReader"
  | 2 => .object "FirstChimney$Ways"
  | 3 => .object "FirstChimney$State"
  | 4 => .object "FirstChimney$State"
  | 5 => .object "FirstChimney$Past"
  | 6 => .object "FirstChimney$Seen"
  | 7 => .object "FirstChimney$Land"
  | 8 => .object "FirstChimney$Land"
  | 9 => .object "FirstChimney$Script"
  | 10 => .object "FirstChimney$Script"
  | _ => .long
abbrev wsX100 : List Cond := u_ws RX10 TX10 12
theorem nmX10 : ∀ a, a < 12 → ∀ b, b < 12 → a ≠ b → (TX10 a).2.1 ≠ (TX10 b).2.1 := by decide +kernel
theorem tyX10_ok : ∀ k, k < 12 → parseFieldDescriptor (TX10 k).2.2.1 = some (tyX10 k) := by decide +kernel
abbrev cX10_init : ByteArray := prog_1_method_1_code
def yX10_init : MethodName := ⟨RX10, "<init>", "()V"⟩
abbrev cX10_feed : ByteArray := prog_1_method_2_code
def yX10_feed : MethodName := ⟨RX10, "feed", "(JJJ)I"⟩
abbrev cX10_land : ByteArray := prog_1_method_3_code
def yX10_land : MethodName := ⟨RX10, "land", "()I"⟩
abbrev cX10_morning : ByteArray := prog_1_method_4_code
def yX10_morning : MethodName := ⟨RX10, "morning", "()I"⟩
abbrev cX10_place : ByteArray := prog_1_method_5_code
def yX10_place : MethodName := ⟨RX10, "place", "(II)I"⟩
abbrev cX10_person : ByteArray := prog_1_method_6_code
def yX10_person : MethodName := ⟨RX10, "person", "(II)I"⟩
abbrev cX10_thing : ByteArray := prog_1_method_7_code
def yX10_thing : MethodName := ⟨RX10, "thing", "(II)I"⟩
abbrev cX10_walk : ByteArray := prog_1_method_8_code
def yX10_walk : MethodName := ⟨RX10, "walk", "(II)Z"⟩
abbrev cX10_give : ByteArray := prog_1_method_9_code
def yX10_give : MethodName := ⟨RX10, "give", "(II)I"⟩
abbrev cX10_vow : ByteArray := prog_1_method_10_code
def yX10_vow : MethodName := ⟨RX10, "vow", "(II)I"⟩
abbrev cX10_minute : ByteArray := prog_1_method_11_code
def yX10_minute : MethodName := ⟨RX10, "minute", "()Z"⟩
abbrev cX10_undo : ByteArray := prog_1_method_12_code
def yX10_undo : MethodName := ⟨RX10, "undo", "()Z"⟩
abbrev cX10_judged : ByteArray := prog_1_method_13_code
def yX10_judged : MethodName := ⟨RX10, "judged", "(I)I"⟩
abbrev cX10_soon : ByteArray := prog_1_method_14_code
def yX10_soon : MethodName := ⟨RX10, "soon", "(II)I"⟩
abbrev cX10_meet : ByteArray := prog_1_method_15_code
def yX10_meet : MethodName := ⟨RX10, "meet", "(II)I"⟩
abbrev cX10_all : ByteArray := prog_1_method_16_code
def yX10_all : MethodName := ⟨RX10, "all", "(I)I"⟩
abbrev cX10_tour : ByteArray := prog_1_method_17_code
def yX10_tour : MethodName := ⟨RX10, "tour", "(I)I"⟩
abbrev cX10_intime : ByteArray := prog_1_method_18_code
def yX10_intime : MethodName := ⟨RX10, "intime", "(II)Z"⟩
abbrev cX10_back : ByteArray := prog_1_method_19_code
def yX10_back : MethodName := ⟨RX10, "back", "()I"⟩
abbrev cX10_could : ByteArray := prog_1_method_20_code
def yX10_could : MethodName := ⟨RX10, "could", "(I)I"⟩
abbrev cX10_would : ByteArray := prog_1_method_21_code
def yX10_would : MethodName := ⟨RX10, "would", "(II)Z"⟩
abbrev cX10_when : ByteArray := prog_1_method_22_code
def yX10_when : MethodName := ⟨RX10, "when", "(II)I"⟩
abbrev cX10_vows : ByteArray := prog_1_method_23_code
def yX10_vows : MethodName := ⟨RX10, "vows", "(IZ)I"⟩
abbrev cX10_sees : ByteArray := prog_1_method_24_code
def yX10_sees : MethodName := ⟨RX10, "sees", "(I)I"⟩
abbrev cX10_heard : ByteArray := prog_1_method_25_code
def yX10_heard : MethodName := ⟨RX10, "heard", "(I)I"⟩
abbrev cX10_news : ByteArray := prog_1_method_26_code
def yX10_news : MethodName := ⟨RX10, "news", "()I"⟩
abbrev cX10_alone : ByteArray := prog_1_method_27_code
def yX10_alone : MethodName := ⟨RX10, "alone", "()I"⟩
abbrev cX10_reach : ByteArray := prog_1_method_28_code
def yX10_reach : MethodName := ⟨RX10, "reach", "(I)I"⟩
abbrev cX10_far : ByteArray := prog_1_method_29_code
def yX10_far : MethodName := ⟨RX10, "far", "(II)I"⟩
abbrev cX10_cuts : ByteArray := prog_1_method_30_code
def yX10_cuts : MethodName := ⟨RX10, "cuts", "()I"⟩
abbrev cX10_hub : ByteArray := prog_1_method_31_code
def yX10_hub : MethodName := ⟨RX10, "hub", "()I"⟩
abbrev cX10_links : ByteArray := prog_1_method_32_code
def yX10_links : MethodName := ⟨RX10, "links", "(I)I"⟩
abbrev cX10_see : ByteArray := prog_1_method_33_code
def yX10_see : MethodName := ⟨RX10, "see", "(IIZ)Z"⟩
abbrev cX10_who : ByteArray := prog_1_method_34_code
def yX10_who : MethodName := ⟨RX10, "who", "()I"⟩
abbrev cX10_ask : ByteArray := prog_1_method_35_code
def yX10_ask : MethodName := ⟨RX10, "ask", "()I"⟩
abbrev cX10_wide : ByteArray := prog_1_method_36_code
def yX10_wide : MethodName := ⟨RX10, "wide", "()I"⟩
abbrev cX10_has : ByteArray := prog_1_method_37_code
def yX10_has : MethodName := ⟨RX10, "has", "(IZ)I"⟩
abbrev cX10_sleeps : ByteArray := prog_1_method_38_code
def yX10_sleeps : MethodName := ⟨RX10, "sleeps", "(I)I"⟩
abbrev cX10_rich : ByteArray := prog_1_method_39_code
def yX10_rich : MethodName := ⟨RX10, "rich", "(Z)I"⟩
abbrev cX10_chance : ByteArray := prog_1_method_40_code
def yX10_chance : MethodName := ⟨RX10, "chance", "(II)I"⟩
abbrev cX10_rests : ByteArray := prog_1_method_41_code
def yX10_rests : MethodName := ⟨RX10, "rests", "(IIII)I"⟩
abbrev cX10_mornings : ByteArray := prog_1_method_42_code
def yX10_mornings : MethodName := ⟨RX10, "mornings", "(III)I"⟩
abbrev cX10_mark : ByteArray := prog_1_method_43_code
def yX10_mark : MethodName := ⟨RX10, "mark", "(IZ)Z"⟩
abbrev cX10_count : ByteArray := prog_1_method_44_code
def yX10_count : MethodName := ⟨RX10, "count", "(I)I"⟩
abbrev cX10_isFrom : ByteArray := prog_1_method_45_code
def yX10_isFrom : MethodName := ⟨RX10, "isFrom", "(III)Z"⟩
abbrev cX10_isIn : ByteArray := prog_1_method_46_code
def yX10_isIn : MethodName := ⟨RX10, "isIn", "(II)Z"⟩
abbrev cX10_orNone : ByteArray := prog_1_method_47_code
def yX10_orNone : MethodName := ⟨RX10, "orNone", "(I)I"⟩
abbrev cX10_pairsIn : ByteArray := prog_1_method_48_code
def yX10_pairsIn : MethodName := ⟨RX10, "pairsIn", "([I)I"⟩
abbrev cX10_thingsOf : ByteArray := prog_1_method_49_code
def yX10_thingsOf : MethodName := ⟨RX10, "thingsOf", "([II)I"⟩
abbrev cX10_worthOf : ByteArray := prog_1_method_50_code
def yX10_worthOf : MethodName := ⟨RX10, "worthOf", "(IZ)I"⟩
abbrev cX10_movedThings : ByteArray := prog_1_method_51_code
def yX10_movedThings : MethodName := ⟨RX10, "movedThings", "(LFirstChimney$State;)I"⟩
abbrev cX10_minutesTo : ByteArray := prog_1_method_52_code
def yX10_minutesTo : MethodName := ⟨RX10, "minutesTo", "(II)I"⟩
abbrev cX10_minutesOfAllTo : ByteArray := prog_1_method_53_code
def yX10_minutesOfAllTo : MethodName := ⟨RX10, "minutesOfAllTo", "(I)I"⟩
abbrev cX10_isGift : ByteArray := prog_1_method_54_code
def yX10_isGift : MethodName := ⟨RX10, "isGift", "(II)Z"⟩
abbrev cX10_fitsSeen : ByteArray := prog_1_method_55_code
def yX10_fitsSeen : MethodName := ⟨RX10, "fitsSeen", "(I)Z"⟩
abbrev cX10_leftAtWorst : ByteArray := prog_1_method_56_code
def yX10_leftAtWorst : MethodName := ⟨RX10, "leftAtWorst", "(III)I"⟩
abbrev cX10_isRest : ByteArray := prog_1_method_57_code
def yX10_isRest : MethodName := ⟨RX10, "isRest", "(IIII)Z"⟩
abbrev cX10_gets : ByteArray := prog_1_method_58_code
def yX10_gets : MethodName := ⟨RX10, "gets", "(IIIII)I"⟩
abbrev cX10_drawBelow : ByteArray := prog_1_method_59_code
def yX10_drawBelow : MethodName := ⟨RX10, "drawBelow", "(I)I"⟩
abbrev cX10_playDrawn : ByteArray := prog_1_method_60_code
def yX10_playDrawn : MethodName := ⟨RX10, "playDrawn", "()Z"⟩
def RX11 : String := "FirstChimneyModel"
def TX11 : u_T := fun k => match k with
  | 0 => ("FirstChimneyModel", "thrown", "I", false)
  | 1 => ("FirstChimneyModel", "tape", "[I", true)
  | 2 => ("FirstChimneyModel", "taped", "I", false)
  | 3 => ("FirstChimneyModel", "size", "I", false)
  | 4 => ("FirstChimneyModel", "sort", "[I", true)
  | 5 => ("FirstChimneyModel", "place", "[I", true)
  | 6 => ("FirstChimneyModel", "value", "[J", true)
  | 7 => ("FirstChimneyModel", "at", "I", false)
  | 8 => ("FirstChimneyModel", "fault", "I", false)
  | 9 => ("FirstChimneyModel", "words", "[J", true)
  | 10 => ("FirstChimneyModel", "lands", "[I", true)
  | 11 => ("FirstChimneyModel", "op", "[I", true)
  | 12 => ("FirstChimneyModel", "arg", "[I", true)
  | 13 => ("FirstChimneyModel", "codes", "I", false)
  | 14 => ("FirstChimneyModel", "names", "[J", true)
  | 15 => ("FirstChimneyModel", "readNames", "[J", true)
  | 16 => ("FirstChimneyModel", "nameOf", "[I", true)
  | 17 => ("FirstChimneyModel", "readNameOf", "[I", true)
  | 18 => ("FirstChimneyModel", "namesMany", "I", false)
  | 19 => ("FirstChimneyModel", "readMany", "I", false)
  | 20 => ("FirstChimneyModel", "once", "I", false)
  | 21 => ("FirstChimneyModel", "lines", "[I", true)
  | 22 => ("FirstChimneyModel", "facts", "[I", true)
  | 23 => ("FirstChimneyModel", "pile", "[I", true)
  | 24 => ("FirstChimneyModel", "state", "[I", true)
  | 25 => ("FirstChimneyModel", "undos", "I", false)
  | 26 => ("FirstChimneyModel", "isMarked", "[Z", true)
  | 27 => ("FirstChimneyModel", "told", "[I", true)
  | 28 => ("FirstChimneyModel", "can", "[Z", true)
  | _ => ("FirstChimneyModel", "g", "J", false)
def tyX11 : Nat → FieldType := fun k => match k with
  | 0 => .int
  | 1 => .array .int
  | 2 => .int
  | 3 => .int
  | 4 => .array .int
  | 5 => .array .int
  | 6 => .array .long
  | 7 => .int
  | 8 => .int
  | 9 => .array .long
  | 10 => .array .int
  | 11 => .array .int
  | 12 => .array .int
  | 13 => .int
  | 14 => .array .long
  | 15 => .array .long
  | 16 => .array .int
  | 17 => .array .int
  | 18 => .int
  | 19 => .int
  | 20 => .int
  | 21 => .array .int
  | 22 => .array .int
  | 23 => .array .int
  | 24 => .array .int
  | 25 => .int
  | 26 => .array .boolean
  | 27 => .array .int
  | 28 => .array .boolean
  | _ => .long
abbrev wsX110 : List Cond := u_ws RX11 TX11 30
theorem nmX11 : ∀ a, a < 30 → ∀ b, b < 30 → a ≠ b → (TX11 a).2.1 ≠ (TX11 b).2.1 := by decide +kernel
theorem tyX11_ok : ∀ k, k < 30 → parseFieldDescriptor (TX11 k).2.2.1 = some (tyX11 k) := by decide +kernel
abbrev cX11_thrown : ByteArray := prog_13_method_1_code
def yX11_thrown : MethodName := ⟨RX11, "thrown", "()I"⟩
abbrev cX11_feed : ByteArray := prog_13_method_2_code
def yX11_feed : MethodName := ⟨RX11, "feed", "(JJJ)I"⟩
abbrev cX11_lay : ByteArray := prog_13_method_3_code
def yX11_lay : MethodName := ⟨RX11, "lay", "(J)V"⟩
abbrev cX11_init : ByteArray := prog_13_method_4_code
def yX11_init : MethodName := ⟨RX11, "<init>", "()V"⟩
abbrev cX11_isLetter : ByteArray := prog_13_method_5_code
def yX11_isLetter : MethodName := ⟨RX11, "isLetter", "(I)Z"⟩
abbrev cX11_isDigit : ByteArray := prog_13_method_6_code
def yX11_isDigit : MethodName := ⟨RX11, "isDigit", "(I)Z"⟩
abbrev cX11_rank : ByteArray := prog_13_method_7_code
def yX11_rank : MethodName := ⟨RX11, "rank", "(I)I"⟩
abbrev cX11_isSignOf : ByteArray := prog_13_method_8_code
def yX11_isSignOf : MethodName := ⟨RX11, "isSignOf", "(I)Z"⟩
abbrev cX11_cutAll : ByteArray := prog_13_method_9_code
def yX11_cutAll : MethodName := ⟨RX11, "cutAll", "()V"⟩
abbrev cX11_wrong : ByteArray := prog_13_method_10_code
def yX11_wrong : MethodName := ⟨RX11, "wrong", "(I)V"⟩
abbrev cX11_isSign : ByteArray := prog_13_method_11_code
def yX11_isSign : MethodName := ⟨RX11, "isSign", "(I)Z"⟩
abbrev cX11_isWord : ByteArray := prog_13_method_12_code
def yX11_isWord : MethodName := ⟨RX11, "isWord", "(I)Z"⟩
abbrev cX11_takeSign : ByteArray := prog_13_method_13_code
def yX11_takeSign : MethodName := ⟨RX11, "takeSign", "(I)V"⟩
abbrev cX11_hasSign : ByteArray := prog_13_method_14_code
def yX11_hasSign : MethodName := ⟨RX11, "hasSign", "(I)Z"⟩
abbrev cX11_hasWord : ByteArray := prog_13_method_15_code
def yX11_hasWord : MethodName := ⟨RX11, "hasWord", "(I)Z"⟩
abbrev cX11_takeWord : ByteArray := prog_13_method_16_code
def yX11_takeWord : MethodName := ⟨RX11, "takeWord", "(I)V"⟩
abbrev cX11_within : ByteArray := prog_13_method_17_code
def yX11_within : MethodName := ⟨RX11, "within", "(III)Z"⟩
abbrev cX11_standsAsAlways : ByteArray := prog_13_method_18_code
def yX11_standsAsAlways : MethodName := ⟨RX11, "standsAsAlways", "(I)V"⟩
abbrev cX11_takeNumber : ByteArray := prog_13_method_19_code
def yX11_takeNumber : MethodName := ⟨RX11, "takeNumber", "(II)I"⟩
abbrev cX11_takeAfter : ByteArray := prog_13_method_20_code
def yX11_takeAfter : MethodName := ⟨RX11, "takeAfter", "(III)I"⟩
abbrev cX11_wordHere : ByteArray := prog_13_method_21_code
def yX11_wordHere : MethodName := ⟨RX11, "wordHere", "(II)I"⟩
abbrev cX11_takeOne : ByteArray := prog_13_method_22_code
def yX11_takeOne : MethodName := ⟨RX11, "takeOne", "(II)I"⟩
abbrev cX11_isName : ByteArray := prog_13_method_23_code
def yX11_isName : MethodName := ⟨RX11, "isName", "()Z"⟩
abbrev cX11_nameAt : ByteArray := prog_13_method_24_code
def yX11_nameAt : MethodName := ⟨RX11, "nameAt", "(Z)I"⟩
abbrev cX11_takeTold : ByteArray := prog_13_method_25_code
def yX11_takeTold : MethodName := ⟨RX11, "takeTold", "(ZII)I"⟩
abbrev cX11_land : ByteArray := prog_13_method_26_code
def yX11_land : MethodName := ⟨RX11, "land", "()I"⟩
abbrev cX11_readLine : ByteArray := prog_13_method_27_code
def yX11_readLine : MethodName := ⟨RX11, "readLine", "()V"⟩
abbrev cX11_readName : ByteArray := prog_13_method_28_code
def yX11_readName : MethodName := ⟨RX11, "readName", "(III)V"⟩
abbrev cX11_readPath : ByteArray := prog_13_method_29_code
def yX11_readPath : MethodName := ⟨RX11, "readPath", "()V"⟩
abbrev cX11_readOnce : ByteArray := prog_13_method_30_code
def yX11_readOnce : MethodName := ⟨RX11, "readOnce", "()V"⟩
abbrev cX11_morning : ByteArray := prog_13_method_31_code
def yX11_morning : MethodName := ⟨RX11, "morning", "()I"⟩
abbrev cX11_readMorning : ByteArray := prog_13_method_32_code
def yX11_readMorning : MethodName := ⟨RX11, "readMorning", "(II)V"⟩
abbrev cX11_emit : ByteArray := prog_13_method_33_code
def yX11_emit : MethodName := ⟨RX11, "emit", "(II)V"⟩
abbrev cX11_whole : ByteArray := prog_13_method_34_code
def yX11_whole : MethodName := ⟨RX11, "whole", "(I)V"⟩
abbrev cX11_test : ByteArray := prog_13_method_35_code
def yX11_test : MethodName := ⟨RX11, "test", "(I)V"⟩
abbrev cX11_sums : ByteArray := prog_13_method_36_code
def yX11_sums : MethodName := ⟨RX11, "sums", "(I)V"⟩
abbrev cX11_products : ByteArray := prog_13_method_37_code
def yX11_products : MethodName := ⟨RX11, "products", "(I)V"⟩
abbrev cX11_takePart : ByteArray := prog_13_method_38_code
def yX11_takePart : MethodName := ⟨RX11, "takePart", "(I)V"⟩
abbrev cX11_worthAt : ByteArray := prog_13_method_39_code
def yX11_worthAt : MethodName := ⟨RX11, "worthAt", "(I)I"⟩
abbrev cX11_both : ByteArray := prog_13_method_40_code
def yX11_both : MethodName := ⟨RX11, "both", "(III)I"⟩
abbrev cX11_copies : ByteArray := prog_13_method_41_code
def yX11_copies : MethodName := ⟨RX11, "copies", "(III)V"⟩
abbrev cX11_starts : ByteArray := prog_13_method_42_code
def yX11_starts : MethodName := ⟨RX11, "starts", "(I)V"⟩
abbrev cX11_begins : ByteArray := prog_13_method_43_code
def yX11_begins : MethodName := ⟨RX11, "begins", "()V"⟩
abbrev cX11_keeps : ByteArray := prog_13_method_44_code
def yX11_keeps : MethodName := ⟨RX11, "keeps", "()V"⟩
abbrev cX11_places : ByteArray := prog_13_method_45_code
def yX11_places : MethodName := ⟨RX11, "places", "()I"⟩
abbrev cX11_persons : ByteArray := prog_13_method_46_code
def yX11_persons : MethodName := ⟨RX11, "persons", "()I"⟩
abbrev cX11_things : ByteArray := prog_13_method_47_code
def yX11_things : MethodName := ⟨RX11, "things", "()I"⟩
abbrev cX11_smokeAt : ByteArray := prog_13_method_48_code
def yX11_smokeAt : MethodName := ⟨RX11, "smokeAt", "()I"⟩
abbrev cX11_pathsFrom : ByteArray := prog_13_method_49_code
def yX11_pathsFrom : MethodName := ⟨RX11, "pathsFrom", "(I)I"⟩
abbrev cX11_personOf : ByteArray := prog_13_method_50_code
def yX11_personOf : MethodName := ⟨RX11, "personOf", "(II)I"⟩
abbrev cX11_thingOf : ByteArray := prog_13_method_51_code
def yX11_thingOf : MethodName := ⟨RX11, "thingOf", "(II)I"⟩
abbrev cX11_isPlace : ByteArray := prog_13_method_52_code
def yX11_isPlace : MethodName := ⟨RX11, "isPlace", "(I)Z"⟩
abbrev cX11_isPerson : ByteArray := prog_13_method_53_code
def yX11_isPerson : MethodName := ⟨RX11, "isPerson", "(I)Z"⟩
abbrev cX11_isThing : ByteArray := prog_13_method_54_code
def yX11_isThing : MethodName := ⟨RX11, "isThing", "(I)Z"⟩
abbrev cX11_bits : ByteArray := prog_13_method_55_code
def yX11_bits : MethodName := ⟨RX11, "bits", "(I)I"⟩
abbrev cX11_awakeAt : ByteArray := prog_13_method_56_code
def yX11_awakeAt : MethodName := ⟨RX11, "awakeAt", "(I)I"⟩
abbrev cX11_isAwake : ByteArray := prog_13_method_57_code
def yX11_isAwake : MethodName := ⟨RX11, "isAwake", "(II)Z"⟩
abbrev cX11_isReady : ByteArray := prog_13_method_58_code
def yX11_isReady : MethodName := ⟨RX11, "isReady", "(II)Z"⟩
abbrev cX11_whoIn : ByteArray := prog_13_method_59_code
def yX11_whoIn : MethodName := ⟨RX11, "whoIn", "(II)I"⟩
abbrev cX11_benches : ByteArray := prog_13_method_60_code
def yX11_benches : MethodName := ⟨RX11, "benches", "()I"⟩
abbrev cX11_doesBind : ByteArray := prog_13_method_61_code
def yX11_doesBind : MethodName := ⟨RX11, "doesBind", "(IIIII)Z"⟩
abbrev cX11_mayWalk : ByteArray := prog_13_method_62_code
def yX11_mayWalk : MethodName := ⟨RX11, "mayWalk", "(III)Z"⟩
abbrev cX11_walks : ByteArray := prog_13_method_63_code
def yX11_walks : MethodName := ⟨RX11, "walks", "(III)V"⟩
abbrev cX11_mayGive : ByteArray := prog_13_method_64_code
def yX11_mayGive : MethodName := ⟨RX11, "mayGive", "(III)Z"⟩
abbrev cX11_gives : ByteArray := prog_13_method_65_code
def yX11_gives : MethodName := ⟨RX11, "gives", "(III)Z"⟩
abbrev cX11_mayVow : ByteArray := prog_13_method_66_code
def yX11_mayVow : MethodName := ⟨RX11, "mayVow", "(III)Z"⟩
abbrev cX11_vowsBy : ByteArray := prog_13_method_67_code
def yX11_vowsBy : MethodName := ⟨RX11, "vowsBy", "(III)Z"⟩
abbrev cX11_smokes : ByteArray := prog_13_method_68_code
def yX11_smokes : MethodName := ⟨RX11, "smokes", "(I)V"⟩
abbrev cX11_passes : ByteArray := prog_13_method_69_code
def yX11_passes : MethodName := ⟨RX11, "passes", "(I)Z"⟩
abbrev cX11_thingsWith : ByteArray := prog_13_method_70_code
def yX11_thingsWith : MethodName := ⟨RX11, "thingsWith", "(II)I"⟩
abbrev cX11_wrongThings : ByteArray := prog_13_method_71_code
def yX11_wrongThings : MethodName := ⟨RX11, "wrongThings", "(I)I"⟩
abbrev cX11_place : ByteArray := prog_13_method_72_code
def yX11_place : MethodName := ⟨RX11, "place", "(II)I"⟩
abbrev cX11_person : ByteArray := prog_13_method_73_code
def yX11_person : MethodName := ⟨RX11, "person", "(II)I"⟩
abbrev cX11_thing : ByteArray := prog_13_method_74_code
def yX11_thing : MethodName := ⟨RX11, "thing", "(II)I"⟩
abbrev cX11_walk : ByteArray := prog_13_method_75_code
def yX11_walk : MethodName := ⟨RX11, "walk", "(II)Z"⟩
abbrev cX11_give : ByteArray := prog_13_method_76_code
def yX11_give : MethodName := ⟨RX11, "give", "(II)I"⟩
abbrev cX11_vow : ByteArray := prog_13_method_77_code
def yX11_vow : MethodName := ⟨RX11, "vow", "(II)I"⟩
abbrev cX11_minute : ByteArray := prog_13_method_78_code
def yX11_minute : MethodName := ⟨RX11, "minute", "()Z"⟩
abbrev cX11_undo : ByteArray := prog_13_method_79_code
def yX11_undo : MethodName := ⟨RX11, "undo", "()Z"⟩
abbrev cX11_judged : ByteArray := prog_13_method_80_code
def yX11_judged : MethodName := ⟨RX11, "judged", "(I)I"⟩
abbrev cX11_onFrom : ByteArray := prog_13_method_81_code
def yX11_onFrom : MethodName := ⟨RX11, "onFrom", "(II)I"⟩
abbrev cX11_reachBy : ByteArray := prog_13_method_82_code
def yX11_reachBy : MethodName := ⟨RX11, "reachBy", "(II)I"⟩
abbrev cX11_farOf : ByteArray := prog_13_method_83_code
def yX11_farOf : MethodName := ⟨RX11, "farOf", "(II)I"⟩
abbrev cX11_reach : ByteArray := prog_13_method_84_code
def yX11_reach : MethodName := ⟨RX11, "reach", "(I)I"⟩
abbrev cX11_far : ByteArray := prog_13_method_85_code
def yX11_far : MethodName := ⟨RX11, "far", "(II)I"⟩
abbrev cX11_cuts : ByteArray := prog_13_method_86_code
def yX11_cuts : MethodName := ⟨RX11, "cuts", "()I"⟩
abbrev cX11_hub : ByteArray := prog_13_method_87_code
def yX11_hub : MethodName := ⟨RX11, "hub", "()I"⟩
abbrev cX11_links : ByteArray := prog_13_method_88_code
def yX11_links : MethodName := ⟨RX11, "links", "(I)I"⟩
abbrev cX11_wide : ByteArray := prog_13_method_89_code
def yX11_wide : MethodName := ⟨RX11, "wide", "()I"⟩
abbrev cX11_readyIn : ByteArray := prog_13_method_90_code
def yX11_readyIn : MethodName := ⟨RX11, "readyIn", "(I)I"⟩
abbrev cX11_paceOf : ByteArray := prog_13_method_91_code
def yX11_paceOf : MethodName := ⟨RX11, "paceOf", "(I)I"⟩
abbrev cX11_soonOf : ByteArray := prog_13_method_92_code
def yX11_soonOf : MethodName := ⟨RX11, "soonOf", "(II)I"⟩
abbrev cX11_told : ByteArray := prog_13_method_93_code
def yX11_told : MethodName := ⟨RX11, "told", "(I)I"⟩
abbrev cX11_soon : ByteArray := prog_13_method_94_code
def yX11_soon : MethodName := ⟨RX11, "soon", "(II)I"⟩
abbrev cX11_meet : ByteArray := prog_13_method_95_code
def yX11_meet : MethodName := ⟨RX11, "meet", "(II)I"⟩
abbrev cX11_all : ByteArray := prog_13_method_96_code
def yX11_all : MethodName := ⟨RX11, "all", "(I)I"⟩
abbrev cX11_tour : ByteArray := prog_13_method_97_code
def yX11_tour : MethodName := ⟨RX11, "tour", "(I)I"⟩
abbrev cX11_intime : ByteArray := prog_13_method_98_code
def yX11_intime : MethodName := ⟨RX11, "intime", "(II)Z"⟩
abbrev cX11_back : ByteArray := prog_13_method_99_code
def yX11_back : MethodName := ⟨RX11, "back", "()I"⟩
abbrev cX11_could : ByteArray := prog_13_method_100_code
def yX11_could : MethodName := ⟨RX11, "could", "(I)I"⟩
abbrev cX11_wouldBind : ByteArray := prog_13_method_101_code
def yX11_wouldBind : MethodName := ⟨RX11, "wouldBind", "(III)Z"⟩
abbrev cX11_isGift : ByteArray := prog_13_method_102_code
def yX11_isGift : MethodName := ⟨RX11, "isGift", "(II)Z"⟩
abbrev cX11_would : ByteArray := prog_13_method_103_code
def yX11_would : MethodName := ⟨RX11, "would", "(II)Z"⟩
abbrev cX11_when : ByteArray := prog_13_method_104_code
def yX11_when : MethodName := ⟨RX11, "when", "(II)I"⟩
abbrev cX11_vows : ByteArray := prog_13_method_105_code
def yX11_vows : MethodName := ⟨RX11, "vows", "(IZ)I"⟩
abbrev cX11_sees : ByteArray := prog_13_method_106_code
def yX11_sees : MethodName := ⟨RX11, "sees", "(I)I"⟩
abbrev cX11_heard : ByteArray := prog_13_method_107_code
def yX11_heard : MethodName := ⟨RX11, "heard", "(I)I"⟩
abbrev cX11_heardOfAll : ByteArray := prog_13_method_108_code
def yX11_heardOfAll : MethodName := ⟨RX11, "heardOfAll", "(I)I"⟩
abbrev cX11_triesNow : ByteArray := prog_13_method_109_code
def yX11_triesNow : MethodName := ⟨RX11, "triesNow", "()V"⟩
abbrev cX11_news : ByteArray := prog_13_method_110_code
def yX11_news : MethodName := ⟨RX11, "news", "()I"⟩
abbrev cX11_alone : ByteArray := prog_13_method_111_code
def yX11_alone : MethodName := ⟨RX11, "alone", "()I"⟩
abbrev cX11_see : ByteArray := prog_13_method_112_code
def yX11_see : MethodName := ⟨RX11, "see", "(IIZ)Z"⟩
abbrev cX11_whoNow : ByteArray := prog_13_method_113_code
def yX11_whoNow : MethodName := ⟨RX11, "whoNow", "()I"⟩
abbrev cX11_who : ByteArray := prog_13_method_114_code
def yX11_who : MethodName := ⟨RX11, "who", "()I"⟩
abbrev cX11_ask : ByteArray := prog_13_method_115_code
def yX11_ask : MethodName := ⟨RX11, "ask", "()I"⟩
abbrev cX11_worthOf : ByteArray := prog_13_method_116_code
def yX11_worthOf : MethodName := ⟨RX11, "worthOf", "(IZ)I"⟩
abbrev cX11_has : ByteArray := prog_13_method_117_code
def yX11_has : MethodName := ⟨RX11, "has", "(IZ)I"⟩
abbrev cX11_sleeps : ByteArray := prog_13_method_118_code
def yX11_sleeps : MethodName := ⟨RX11, "sleeps", "(I)I"⟩
abbrev cX11_rich : ByteArray := prog_13_method_119_code
def yX11_rich : MethodName := ⟨RX11, "rich", "(Z)I"⟩
abbrev cX11_chance : ByteArray := prog_13_method_120_code
def yX11_chance : MethodName := ⟨RX11, "chance", "(II)I"⟩
abbrev cX11_getsBy : ByteArray := prog_13_method_121_code
def yX11_getsBy : MethodName := ⟨RX11, "getsBy", "(IIIII)I"⟩
abbrev cX11_rests : ByteArray := prog_13_method_122_code
def yX11_rests : MethodName := ⟨RX11, "rests", "(IIII)I"⟩
abbrev cX11_draw : ByteArray := prog_13_method_123_code
def yX11_draw : MethodName := ⟨RX11, "draw", "(I)I"⟩
abbrev cX11_drawsDeed : ByteArray := prog_13_method_124_code
def yX11_drawsDeed : MethodName := ⟨RX11, "drawsDeed", "()Z"⟩
abbrev cX11_mornings : ByteArray := prog_13_method_125_code
def yX11_mornings : MethodName := ⟨RX11, "mornings", "(III)I"⟩
abbrev cX11_mark : ByteArray := prog_13_method_126_code
def yX11_mark : MethodName := ⟨RX11, "mark", "(IZ)Z"⟩
abbrev cX11_pairsOf : ByteArray := prog_13_method_127_code
def yX11_pairsOf : MethodName := ⟨RX11, "pairsOf", "(I)I"⟩
abbrev cX11_count : ByteArray := prog_13_method_128_code
def yX11_count : MethodName := ⟨RX11, "count", "(I)I"⟩
def TJx145de : u_T := fun k => match k with
  | _ => ("", "", "", false)
def tyJx145de : Nat → FieldType := fun k => match k with
  | _ => .int
theorem nmJx145de : ∀ a, a < 0 → ∀ b, b < 0 → a ≠ b → (TJx145de a).2.1 ≠ (TJx145de b).2.1 := by decide +kernel
def TJx9f9b0 : u_T := fun k => match k with
  | _ => ("", "", "", false)
def tyJx9f9b0 : Nat → FieldType := fun k => match k with
  | _ => .int
theorem nmJx9f9b0 : ∀ a, a < 0 → ∀ b, b < 0 → a ≠ b → (TJx9f9b0 a).2.1 ≠ (TJx9f9b0 b).2.1 := by decide +kernel
def RJ11 : String := "java/lang/Character"
def TJ11 : u_T := fun k => match k with
  | _ => ("", "", "", false)
def tyJ11 : Nat → FieldType := fun k => match k with
  | _ => .int
abbrev wsJ110 : List Cond := u_ws RJ11 TJ11 0
theorem nmJ11 : ∀ a, a < 0 → ∀ b, b < 0 → a ≠ b → (TJ11 a).2.1 ≠ (TJ11 b).2.1 := by decide +kernel
theorem tyJ11_ok : ∀ k, k < 0 → parseFieldDescriptor (TJ11 k).2.2.1 = some (tyJ11 k) := by decide +kernel
abbrev cJ11_isValidCodePoint_9a6ad : ByteArray := prog_16_method_11_code
def yJ11_isValidCodePoint_9a6ad : MethodName := ⟨RJ11, "isValidCodePoint", "(I)Z"⟩
abbrev cJ11_highSurrogate_5068e : ByteArray := prog_16_method_28_code
def yJ11_highSurrogate_5068e : MethodName := ⟨RJ11, "highSurrogate", "(I)C"⟩
abbrev cJ11_lowSurrogate_5068e : ByteArray := prog_16_method_29_code
def yJ11_lowSurrogate_5068e : MethodName := ⟨RJ11, "lowSurrogate", "(I)C"⟩
def RJ6 : String := "java/lang/Integer"
def TJ6 : u_T := fun k => match k with
  | _ => ("", "", "", false)
def tyJ6 : Nat → FieldType := fun k => match k with
  | _ => .int
abbrev wsJ60 : List Cond := u_ws RJ6 TJ6 0
theorem nmJ6 : ∀ a, a < 0 → ∀ b, b < 0 → a ≠ b → (TJ6 a).2.1 ≠ (TJ6 b).2.1 := by decide +kernel
theorem tyJ6_ok : ∀ k, k < 0 → parseFieldDescriptor (TJ6 k).2.2.1 = some (tyJ6 k) := by decide +kernel
abbrev cJ6_bitCount_0f7a4 : ByteArray := prog_19_method_49_code
def yJ6_bitCount_0f7a4 : MethodName := ⟨RJ6, "bitCount", "(I)I"⟩
def RJ9 : String := "java/lang/Math"
def TJ9 : u_T := fun k => match k with
  | _ => ("", "", "", false)
def tyJ9 : Nat → FieldType := fun k => match k with
  | _ => .int
abbrev wsJ90 : List Cond := u_ws RJ9 TJ9 0
theorem nmJ9 : ∀ a, a < 0 → ∀ b, b < 0 → a ≠ b → (TJ9 a).2.1 ≠ (TJ9 b).2.1 := by decide +kernel
theorem tyJ9_ok : ∀ k, k < 0 → parseFieldDescriptor (TJ9 k).2.2.1 = some (tyJ9 k) := by decide +kernel
abbrev cJ9_max_7cf53 : ByteArray := prog_20_method_65_code
def yJ9_max_7cf53 : MethodName := ⟨RJ9, "max", "(II)I"⟩
abbrev cJ9_min_7cf53 : ByteArray := prog_20_method_69_code
def yJ9_min_7cf53 : MethodName := ⟨RJ9, "min", "(II)I"⟩
def RJ0 : String := "java/lang/String"
def TJ0 : u_T := fun k => match k with
  | _ => ("", "", "", false)
def tyJ0 : Nat → FieldType := fun k => match k with
  | _ => .int
abbrev wsJ00 : List Cond := u_ws RJ0 TJ0 0
theorem nmJ0 : ∀ a, a < 0 → ∀ b, b < 0 → a ≠ b → (TJ0 a).2.1 ≠ (TJ0 b).2.1 := by decide +kernel
theorem tyJ0_ok : ∀ k, k < 0 → parseFieldDescriptor (TJ0 k).2.2.1 = some (tyJ0 k) := by decide +kernel
abbrev cJ0_length_8abf5 : ByteArray := prog_22_method_54_code
def yJ0_length_8abf5 : MethodName := ⟨RJ0, "length", "()I"⟩
abbrev cJ0_charAt_5068e : ByteArray := prog_22_method_56_code
def yJ0_charAt_5068e : MethodName := ⟨RJ0, "charAt", "(I)C"⟩
abbrev cJ0_indexOf_0f7a4 : ByteArray := prog_22_method_79_code
def yJ0_indexOf_0f7a4 : MethodName := ⟨RJ0, "indexOf", "(I)I"⟩
abbrev cJ0_indexOf_7cf53 : ByteArray := prog_22_method_80_code
def yJ0_indexOf_7cf53 : MethodName := ⟨RJ0, "indexOf", "(II)I"⟩
abbrev cJ0_coder_7d493 : ByteArray := prog_22_method_152_code
def yJ0_coder_7d493 : MethodName := ⟨RJ0, "coder", "()B"⟩
abbrev cJ0_isLatin1_aae02 : ByteArray := prog_22_method_154_code
def yJ0_isLatin1_aae02 : MethodName := ⟨RJ0, "isLatin1", "()Z"⟩
abbrev cJ0_checkIndex_df160 : ByteArray := prog_22_method_155_code
def yJ0_checkIndex_df160 : MethodName := ⟨RJ0, "checkIndex", "(II)V"⟩
abbrev cJ0_checkBoundsBeginEnd_23922 : ByteArray := prog_22_method_158_code
def yJ0_checkBoundsBeginEnd_23922 : MethodName := ⟨RJ0, "checkBoundsBeginEnd", "(III)V"⟩
def RJ1 : String := "java/lang/StringLatin1"
def TJ1 : u_T := fun k => match k with
  | _ => ("", "", "", false)
def tyJ1 : Nat → FieldType := fun k => match k with
  | _ => .int
abbrev wsJ10 : List Cond := u_ws RJ1 TJ1 0
theorem nmJ1 : ∀ a, a < 0 → ∀ b, b < 0 → a ≠ b → (TJ1 a).2.1 ≠ (TJ1 b).2.1 := by decide +kernel
theorem tyJ1_ok : ∀ k, k < 0 → parseFieldDescriptor (TJ1 k).2.2.1 = some (tyJ1 k) := by decide +kernel
abbrev cJ1_charAt_3b067 : ByteArray := prog_23_method_2_code
def yJ1_charAt_3b067 : MethodName := ⟨RJ1, "charAt", "([BI)C"⟩
abbrev cJ1_canEncode_9a6ad : ByteArray := prog_23_method_4_code
def yJ1_canEncode_9a6ad : MethodName := ⟨RJ1, "canEncode", "(I)Z"⟩
abbrev cJ1_indexOf_4cfef : ByteArray := prog_23_method_22_code
def yJ1_indexOf_4cfef : MethodName := ⟨RJ1, "indexOf", "([BIII)I"⟩
abbrev cJ1_indexOfChar_4cfef : ByteArray := prog_23_method_23_code
def yJ1_indexOfChar_4cfef : MethodName := ⟨RJ1, "indexOfChar", "([BIII)I"⟩
def RJ2 : String := "java/lang/StringUTF16"
def TJ2 : u_T := fun k => match k with
  | _ => ("", "", "", false)
def tyJ2 : Nat → FieldType := fun k => match k with
  | _ => .int
abbrev wsJ20 : List Cond := u_ws RJ2 TJ2 0
theorem nmJ2 : ∀ a, a < 0 → ∀ b, b < 0 → a ≠ b → (TJ2 a).2.1 ≠ (TJ2 b).2.1 := by decide +kernel
theorem tyJ2_ok : ∀ k, k < 0 → parseFieldDescriptor (TJ2 k).2.2.1 = some (tyJ2 k) := by decide +kernel
abbrev cJ2_getChar_3b067 : ByteArray := prog_24_method_5_code
def yJ2_getChar_3b067 : MethodName := ⟨RJ2, "getChar", "([BI)C"⟩
abbrev cJ2_length_9d52b : ByteArray := prog_24_method_6_code
def yJ2_length_9d52b : MethodName := ⟨RJ2, "length", "([B)I"⟩
abbrev cJ2_indexOf_4cfef : ByteArray := prog_24_method_40_code
def yJ2_indexOf_4cfef : MethodName := ⟨RJ2, "indexOf", "([BIII)I"⟩
abbrev cJ2_indexOfChar_4cfef : ByteArray := prog_24_method_47_code
def yJ2_indexOfChar_4cfef : MethodName := ⟨RJ2, "indexOfChar", "([BIII)I"⟩
abbrev cJ2_indexOfCharUnsafe_4cfef : ByteArray := prog_24_method_48_code
def yJ2_indexOfCharUnsafe_4cfef : MethodName := ⟨RJ2, "indexOfCharUnsafe", "([BIII)I"⟩
abbrev cJ2_indexOfSupplementary_4cfef : ByteArray := prog_24_method_49_code
def yJ2_indexOfSupplementary_4cfef : MethodName := ⟨RJ2, "indexOfSupplementary", "([BIII)I"⟩
abbrev cJ2_charAt_3b067 : ByteArray := prog_24_method_83_code
def yJ2_charAt_3b067 : MethodName := ⟨RJ2, "charAt", "([BI)C"⟩
abbrev cJ2_checkIndex_2214a : ByteArray := prog_24_method_91_code
def yJ2_checkIndex_2214a : MethodName := ⟨RJ2, "checkIndex", "(I[B)V"⟩
abbrev cJ2_checkBoundsBeginEnd_d044e : ByteArray := prog_24_method_93_code
def yJ2_checkBoundsBeginEnd_d044e : MethodName := ⟨RJ2, "checkBoundsBeginEnd", "(II[B)V"⟩
def RJ10 : String := "java/lang/System"
def TJ10 : u_T := fun k => match k with
  | _ => ("", "", "", false)
def tyJ10 : Nat → FieldType := fun k => match k with
  | _ => .int
abbrev wsJ100 : List Cond := u_ws RJ10 TJ10 0
theorem nmJ10 : ∀ a, a < 0 → ∀ b, b < 0 → a ≠ b → (TJ10 a).2.1 ≠ (TJ10 b).2.1 := by decide +kernel
theorem tyJ10_ok : ∀ k, k < 0 → parseFieldDescriptor (TJ10 k).2.2.1 = some (tyJ10 k) := by decide +kernel
def TJx3cf43 : u_T := fun k => match k with
  | _ => ("", "", "", false)
def tyJx3cf43 : Nat → FieldType := fun k => match k with
  | _ => .int
theorem nmJx3cf43 : ∀ a, a < 0 → ∀ b, b < 0 → a ≠ b → (TJx3cf43 a).2.1 ≠ (TJx3cf43 b).2.1 := by decide +kernel
def RJ7 : String := "java/util/Arrays"
def TJ7 : u_T := fun k => match k with
  | _ => ("", "", "", false)
def tyJ7 : Nat → FieldType := fun k => match k with
  | _ => .int
abbrev wsJ70 : List Cond := u_ws RJ7 TJ7 0
theorem nmJ7 : ∀ a, a < 0 → ∀ b, b < 0 → a ≠ b → (TJ7 a).2.1 ≠ (TJ7 b).2.1 := by decide +kernel
theorem tyJ7_ok : ∀ k, k < 0 → parseFieldDescriptor (TJ7 k).2.2.1 = some (tyJ7 k) := by decide +kernel
abbrev cJ7_fill_53178 : ByteArray := prog_29_method_103_code
def yJ7_fill_53178 : MethodName := ⟨RJ7, "fill", "([II)V"⟩
def RJ3 : String := "jdk/internal/util/Preconditions"
def TJ3 : u_T := fun k => match k with
  | _ => ("", "", "", false)
def tyJ3 : Nat → FieldType := fun k => match k with
  | _ => .int
abbrev wsJ30 : List Cond := u_ws RJ3 TJ3 0
theorem nmJ3 : ∀ a, a < 0 → ∀ b, b < 0 → a ≠ b → (TJ3 a).2.1 ≠ (TJ3 b).2.1 := by decide +kernel
theorem tyJ3_ok : ∀ k, k < 0 → parseFieldDescriptor (TJ3 k).2.2.1 = some (tyJ3 k) := by decide +kernel
abbrev cJ3_checkIndex_8e157 : ByteArray := prog_31_method_11_code
def yJ3_checkIndex_8e157 : MethodName := ⟨RJ3, "checkIndex", "(IILjava/util/function/BiFunction;)I"⟩
abbrev cJ3_checkFromToIndex_8c36e : ByteArray := prog_31_method_12_code
def yJ3_checkFromToIndex_8c36e : MethodName := ⟨RJ3, "checkFromToIndex", "(IIILjava/util/function/BiFunction;)I"⟩
def RL : String := "FirstChimneyLaw"
abbrev cL_rests : ByteArray := method_3_code
def yL_rests : MethodName := ⟨RL, "rests", "(LFirstChimney;IIII[J)I"⟩
abbrev cL_law : ByteArray := code
def yL_law : MethodName := ⟨RL, "law", "([I)Z"⟩
abbrev vwCl : List vw_C := [(RX0, TX0, 15), (RX1, TX1, 3), (RX2, TX2, 3), (RX3, TX3, 4), (RX4, TX4, 6), (RX5, TX5, 4), (RX6, TX6, 4), (RX7, TX7, 9), (RX8, TX8, 8), (RX9, TX9, 3), (RX10, TX10, 12), (RX11, TX11, 30)]
end
