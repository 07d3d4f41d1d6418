section
-- ===== PART A: goes FIRST, ahead of the names: the tables' words, and 'selects' of the private methods out of them =====
/-- a private method of a class that the tables say can be made, by its rows of tables_1 -/
def lw_okq (q : MethodName × Nat) : Prop := (q.1.cls ≠ "java/lang/invoke/MethodHandle" ∧ q.1.cls ≠ "java/lang/invoke/VarHandle") ∧ Cond.instantiable q.1.cls q.2 ∈ tables_1 ∧ Cond.privateMethod q.1 ∈ tables_1 ∧ Cond.instanceMethod q.1 ∈ tables_1
theorem lw_p0 : lw_okq (⟨"FirstChimney$Tape", "readWord", "()V"⟩, 8) := ⟨⟨by decide +kernel, by decide +kernel⟩, List.mem_of_getElem? (i := 35) (by decide +kernel), List.mem_of_getElem? (i := 433) (by decide +kernel), List.mem_of_getElem? (i := 434) (by decide +kernel)⟩
theorem lw_p1 : lw_okq (⟨"FirstChimney$Tape", "readNumber", "()V"⟩, 8) := ⟨⟨by decide +kernel, by decide +kernel⟩, List.mem_of_getElem? (i := 35) (by decide +kernel), List.mem_of_getElem? (i := 491) (by decide +kernel), List.mem_of_getElem? (i := 492) (by decide +kernel)⟩
theorem lw_p2 : lw_okq (⟨"FirstChimney$LandReader", "readPlace", "(LFirstChimney$Tape;LFirstChimney$Land;)Z"⟩, 3) := ⟨⟨by decide +kernel, by decide +kernel⟩, List.mem_of_getElem? (i := 76) (by decide +kernel), List.mem_of_getElem? (i := 555) (by decide +kernel), List.mem_of_getElem? (i := 556) (by decide +kernel)⟩
theorem lw_p3 : lw_okq (⟨"FirstChimney$LandReader", "readPath", "(LFirstChimney$Tape;LFirstChimney$Land;)Z"⟩, 3) := ⟨⟨by decide +kernel, by decide +kernel⟩, List.mem_of_getElem? (i := 76) (by decide +kernel), List.mem_of_getElem? (i := 574) (by decide +kernel), List.mem_of_getElem? (i := 575) (by decide +kernel)⟩
theorem lw_p4 : lw_okq (⟨"FirstChimney$LandReader", "readPerson", "(LFirstChimney$Tape;LFirstChimney$Land;)Z"⟩, 3) := ⟨⟨by decide +kernel, by decide +kernel⟩, List.mem_of_getElem? (i := 76) (by decide +kernel), List.mem_of_getElem? (i := 587) (by decide +kernel), List.mem_of_getElem? (i := 588) (by decide +kernel)⟩
theorem lw_p5 : lw_okq (⟨"FirstChimney$LandReader", "readThing", "(LFirstChimney$Tape;LFirstChimney$Land;)Z"⟩, 3) := ⟨⟨by decide +kernel, by decide +kernel⟩, List.mem_of_getElem? (i := 76) (by decide +kernel), List.mem_of_getElem? (i := 600) (by decide +kernel), List.mem_of_getElem? (i := 601) (by decide +kernel)⟩
theorem lw_p6 : lw_okq (⟨"FirstChimney$LandReader", "readSmoke", "(LFirstChimney$Tape;LFirstChimney$Land;)Z"⟩, 3) := ⟨⟨by decide +kernel, by decide +kernel⟩, List.mem_of_getElem? (i := 76) (by decide +kernel), List.mem_of_getElem? (i := 604) (by decide +kernel), List.mem_of_getElem? (i := 605) (by decide +kernel)⟩
theorem lw_p7 : lw_okq (⟨"FirstChimney$LandReader", "readBinds", "(LFirstChimney$Tape;LFirstChimney$Land;)Z"⟩, 3) := ⟨⟨by decide +kernel, by decide +kernel⟩, List.mem_of_getElem? (i := 76) (by decide +kernel), List.mem_of_getElem? (i := 608) (by decide +kernel), List.mem_of_getElem? (i := 609) (by decide +kernel)⟩
theorem lw_p8 : lw_okq (⟨"FirstChimney$LawReader", "writeDown", "(LFirstChimney$Law;I)V"⟩, 4) := ⟨⟨by decide +kernel, by decide +kernel⟩, List.mem_of_getElem? (i := 82) (by decide +kernel), List.mem_of_getElem? (i := 617) (by decide +kernel), List.mem_of_getElem? (i := 618) (by decide +kernel)⟩
theorem lw_p9 : lw_okq (⟨"FirstChimney$LawReader", "readPart", "(LFirstChimney$Tape;LFirstChimney$Law;)Z"⟩, 4) := ⟨⟨by decide +kernel, by decide +kernel⟩, List.mem_of_getElem? (i := 82) (by decide +kernel), List.mem_of_getElem? (i := 628) (by decide +kernel), List.mem_of_getElem? (i := 629) (by decide +kernel)⟩
theorem lw_p10 : lw_okq (⟨"FirstChimney$LawReader", "await", "(I)V"⟩, 4) := ⟨⟨by decide +kernel, by decide +kernel⟩, List.mem_of_getElem? (i := 82) (by decide +kernel), List.mem_of_getElem? (i := 635) (by decide +kernel), List.mem_of_getElem? (i := 636) (by decide +kernel)⟩
theorem lw_p11 : lw_okq (⟨"FirstChimney$LawReader", "closeNots", "(LFirstChimney$Law;)V"⟩, 4) := ⟨⟨by decide +kernel, by decide +kernel⟩, List.mem_of_getElem? (i := 82) (by decide +kernel), List.mem_of_getElem? (i := 639) (by decide +kernel), List.mem_of_getElem? (i := 640) (by decide +kernel)⟩
theorem lw_p12 : lw_okq (⟨"FirstChimney$LawReader", "readBehind", "(LFirstChimney$Tape;LFirstChimney$Law;)Z"⟩, 4) := ⟨⟨by decide +kernel, by decide +kernel⟩, List.mem_of_getElem? (i := 82) (by decide +kernel), List.mem_of_getElem? (i := 643) (by decide +kernel), List.mem_of_getElem? (i := 644) (by decide +kernel)⟩
theorem lw_p13 : lw_okq (⟨"FirstChimney$Ways", "measureFrom", "(LFirstChimney$Land;I)V"⟩, 3) := ⟨⟨by decide +kernel, by decide +kernel⟩, List.mem_of_getElem? (i := 112) (by decide +kernel), List.mem_of_getElem? (i := 656) (by decide +kernel), List.mem_of_getElem? (i := 657) (by decide +kernel)⟩
theorem lw_p14 : lw_okq (⟨"FirstChimney$Script", "readLine", "(LFirstChimney$Tape;LFirstChimney$Land;)Z"⟩, 4) := ⟨⟨by decide +kernel, by decide +kernel⟩, List.mem_of_getElem? (i := 342) (by decide +kernel), List.mem_of_getElem? (i := 683) (by decide +kernel), List.mem_of_getElem? (i := 684) (by decide +kernel)⟩
theorem lw_p15 : lw_okq (⟨"FirstChimney$Script", "readNames", "(LFirstChimney$Tape;LFirstChimney$Land;I)Z"⟩, 4) := ⟨⟨by decide +kernel, by decide +kernel⟩, List.mem_of_getElem? (i := 342) (by decide +kernel), List.mem_of_getElem? (i := 690) (by decide +kernel), List.mem_of_getElem? (i := 691) (by decide +kernel)⟩
def lw_privs_1 : List (MethodName × Nat) := [(⟨"FirstChimney$Tape", "readWord", "()V"⟩, 8), (⟨"FirstChimney$Tape", "readNumber", "()V"⟩, 8), (⟨"FirstChimney$LandReader", "readPlace", "(LFirstChimney$Tape;LFirstChimney$Land;)Z"⟩, 3), (⟨"FirstChimney$LandReader", "readPath", "(LFirstChimney$Tape;LFirstChimney$Land;)Z"⟩, 3), (⟨"FirstChimney$LandReader", "readPerson", "(LFirstChimney$Tape;LFirstChimney$Land;)Z"⟩, 3), (⟨"FirstChimney$LandReader", "readThing", "(LFirstChimney$Tape;LFirstChimney$Land;)Z"⟩, 3), (⟨"FirstChimney$LandReader", "readSmoke", "(LFirstChimney$Tape;LFirstChimney$Land;)Z"⟩, 3), (⟨"FirstChimney$LandReader", "readBinds", "(LFirstChimney$Tape;LFirstChimney$Land;)Z"⟩, 3), (⟨"FirstChimney$LawReader", "writeDown", "(LFirstChimney$Law;I)V"⟩, 4), (⟨"FirstChimney$LawReader", "readPart", "(LFirstChimney$Tape;LFirstChimney$Law;)Z"⟩, 4), (⟨"FirstChimney$LawReader", "await", "(I)V"⟩, 4), (⟨"FirstChimney$LawReader", "closeNots", "(LFirstChimney$Law;)V"⟩, 4), (⟨"FirstChimney$LawReader", "readBehind", "(LFirstChimney$Tape;LFirstChimney$Law;)Z"⟩, 4), (⟨"FirstChimney$Ways", "measureFrom", "(LFirstChimney$Land;I)V"⟩, 3), (⟨"FirstChimney$Script", "readLine", "(LFirstChimney$Tape;LFirstChimney$Land;)Z"⟩, 4), (⟨"FirstChimney$Script", "readNames", "(LFirstChimney$Tape;LFirstChimney$Land;I)Z"⟩, 4)]
theorem lw_r1 : ∀ q ∈ lw_privs_1, lw_okq q := List.forall_mem_cons.mpr ⟨lw_p0, List.forall_mem_cons.mpr ⟨lw_p1, List.forall_mem_cons.mpr ⟨lw_p2, List.forall_mem_cons.mpr ⟨lw_p3, List.forall_mem_cons.mpr ⟨lw_p4, List.forall_mem_cons.mpr ⟨lw_p5, List.forall_mem_cons.mpr ⟨lw_p6, List.forall_mem_cons.mpr ⟨lw_p7, List.forall_mem_cons.mpr ⟨lw_p8, List.forall_mem_cons.mpr ⟨lw_p9, List.forall_mem_cons.mpr ⟨lw_p10, List.forall_mem_cons.mpr ⟨lw_p11, List.forall_mem_cons.mpr ⟨lw_p12, List.forall_mem_cons.mpr ⟨lw_p13, List.forall_mem_cons.mpr ⟨lw_p14, List.forall_mem_cons.mpr ⟨lw_p15, fun _ h => absurd h List.not_mem_nil⟩⟩⟩⟩⟩⟩⟩⟩⟩⟩⟩⟩⟩⟩⟩⟩
theorem lw_p16 : lw_okq (⟨"FirstChimney", "thingsOf", "([II)I"⟩, 12) := ⟨⟨by decide +kernel, by decide +kernel⟩, List.mem_of_getElem? (i := 27) (by decide +kernel), List.mem_of_getElem? (i := 730) (by decide +kernel), List.mem_of_getElem? (i := 731) (by decide +kernel)⟩
theorem lw_p17 : lw_okq (⟨"FirstChimney$State", "isBinding", "(LFirstChimney$Land;IIII)Z"⟩, 9) := ⟨⟨by decide +kernel, by decide +kernel⟩, List.mem_of_getElem? (i := 131) (by decide +kernel), List.mem_of_getElem? (i := 787) (by decide +kernel), List.mem_of_getElem? (i := 788) (by decide +kernel)⟩
theorem lw_p18 : lw_okq (⟨"FirstChimney$State", "shareNews", "(LFirstChimney$Land;I)V"⟩, 9) := ⟨⟨by decide +kernel, by decide +kernel⟩, List.mem_of_getElem? (i := 131) (by decide +kernel), List.mem_of_getElem? (i := 829) (by decide +kernel), List.mem_of_getElem? (i := 830) (by decide +kernel)⟩
theorem lw_p19 : lw_okq (⟨"FirstChimney$State", "riseSmoke", "(LFirstChimney$Land;)V"⟩, 9) := ⟨⟨by decide +kernel, by decide +kernel⟩, List.mem_of_getElem? (i := 131) (by decide +kernel), List.mem_of_getElem? (i := 834) (by decide +kernel), List.mem_of_getElem? (i := 835) (by decide +kernel)⟩
theorem lw_p20 : lw_okq (⟨"FirstChimney", "movedThings", "(LFirstChimney$State;)I"⟩, 12) := ⟨⟨by decide +kernel, by decide +kernel⟩, List.mem_of_getElem? (i := 27) (by decide +kernel), List.mem_of_getElem? (i := 862) (by decide +kernel), List.mem_of_getElem? (i := 863) (by decide +kernel)⟩
theorem lw_p21 : lw_okq (⟨"FirstChimney", "minutesTo", "(II)I"⟩, 12) := ⟨⟨by decide +kernel, by decide +kernel⟩, List.mem_of_getElem? (i := 27) (by decide +kernel), List.mem_of_getElem? (i := 870) (by decide +kernel), List.mem_of_getElem? (i := 871) (by decide +kernel)⟩
theorem lw_p22 : lw_okq (⟨"FirstChimney", "minutesOfAllTo", "(I)I"⟩, 12) := ⟨⟨by decide +kernel, by decide +kernel⟩, List.mem_of_getElem? (i := 27) (by decide +kernel), List.mem_of_getElem? (i := 896) (by decide +kernel), List.mem_of_getElem? (i := 897) (by decide +kernel)⟩
theorem lw_p23 : lw_okq (⟨"FirstChimney$Ways", "stepOn", "(LFirstChimney$Land;)V"⟩, 3) := ⟨⟨by decide +kernel, by decide +kernel⟩, List.mem_of_getElem? (i := 112) (by decide +kernel), List.mem_of_getElem? (i := 912) (by decide +kernel), List.mem_of_getElem? (i := 913) (by decide +kernel)⟩
theorem lw_p24 : lw_okq (⟨"FirstChimney", "isGift", "(II)Z"⟩, 12) := ⟨⟨by decide +kernel, by decide +kernel⟩, List.mem_of_getElem? (i := 27) (by decide +kernel), List.mem_of_getElem? (i := 936) (by decide +kernel), List.mem_of_getElem? (i := 937) (by decide +kernel)⟩
theorem lw_p25 : lw_okq (⟨"FirstChimney", "fitsSeen", "(I)Z"⟩, 12) := ⟨⟨by decide +kernel, by decide +kernel⟩, List.mem_of_getElem? (i := 27) (by decide +kernel), List.mem_of_getElem? (i := 1015) (by decide +kernel), List.mem_of_getElem? (i := 1016) (by decide +kernel)⟩
theorem lw_p26 : lw_okq (⟨"FirstChimney", "leftAtWorst", "(III)I"⟩, 12) := ⟨⟨by decide +kernel, by decide +kernel⟩, List.mem_of_getElem? (i := 27) (by decide +kernel), List.mem_of_getElem? (i := 1024) (by decide +kernel), List.mem_of_getElem? (i := 1025) (by decide +kernel)⟩
theorem lw_p27 : lw_okq (⟨"FirstChimney", "worthOf", "(IZ)I"⟩, 12) := ⟨⟨by decide +kernel, by decide +kernel⟩, List.mem_of_getElem? (i := 27) (by decide +kernel), List.mem_of_getElem? (i := 1036) (by decide +kernel), List.mem_of_getElem? (i := 1037) (by decide +kernel)⟩
theorem lw_p28 : lw_okq (⟨"FirstChimney", "playDrawn", "()Z"⟩, 12) := ⟨⟨by decide +kernel, by decide +kernel⟩, List.mem_of_getElem? (i := 27) (by decide +kernel), List.mem_of_getElem? (i := 1057) (by decide +kernel), List.mem_of_getElem? (i := 1058) (by decide +kernel)⟩
theorem lw_p29 : lw_okq (⟨"FirstChimney", "drawBelow", "(I)I"⟩, 12) := ⟨⟨by decide +kernel, by decide +kernel⟩, List.mem_of_getElem? (i := 27) (by decide +kernel), List.mem_of_getElem? (i := 1061) (by decide +kernel), List.mem_of_getElem? (i := 1062) (by decide +kernel)⟩
theorem lw_p30 : lw_okq (⟨"java/lang/Throwable", "fillInStackTrace", "(I)Ljava/lang/Throwable;"⟩, 6) := ⟨⟨by decide +kernel, by decide +kernel⟩, List.mem_of_getElem? (i := 1136) (by decide +kernel), List.mem_of_getElem? (i := 1134) (by decide +kernel), List.mem_of_getElem? (i := 1135) (by decide +kernel)⟩
theorem lw_p31 : lw_okq (⟨"FirstChimneyModel", "lay", "(J)V"⟩, 30) := ⟨⟨by decide +kernel, by decide +kernel⟩, List.mem_of_getElem? (i := 1182) (by decide +kernel), List.mem_of_getElem? (i := 1180) (by decide +kernel), List.mem_of_getElem? (i := 1181) (by decide +kernel)⟩
def lw_privs_2 : List (MethodName × Nat) := [(⟨"FirstChimney", "thingsOf", "([II)I"⟩, 12), (⟨"FirstChimney$State", "isBinding", "(LFirstChimney$Land;IIII)Z"⟩, 9), (⟨"FirstChimney$State", "shareNews", "(LFirstChimney$Land;I)V"⟩, 9), (⟨"FirstChimney$State", "riseSmoke", "(LFirstChimney$Land;)V"⟩, 9), (⟨"FirstChimney", "movedThings", "(LFirstChimney$State;)I"⟩, 12), (⟨"FirstChimney", "minutesTo", "(II)I"⟩, 12), (⟨"FirstChimney", "minutesOfAllTo", "(I)I"⟩, 12), (⟨"FirstChimney$Ways", "stepOn", "(LFirstChimney$Land;)V"⟩, 3), (⟨"FirstChimney", "isGift", "(II)Z"⟩, 12), (⟨"FirstChimney", "fitsSeen", "(I)Z"⟩, 12), (⟨"FirstChimney", "leftAtWorst", "(III)I"⟩, 12), (⟨"FirstChimney", "worthOf", "(IZ)I"⟩, 12), (⟨"FirstChimney", "playDrawn", "()Z"⟩, 12), (⟨"FirstChimney", "drawBelow", "(I)I"⟩, 12), (⟨"java/lang/Throwable", "fillInStackTrace", "(I)Ljava/lang/Throwable;"⟩, 6), (⟨"FirstChimneyModel", "lay", "(J)V"⟩, 30)]
theorem lw_r2 : ∀ q ∈ lw_privs_2, lw_okq q := List.forall_mem_cons.mpr ⟨lw_p16, List.forall_mem_cons.mpr ⟨lw_p17, List.forall_mem_cons.mpr ⟨lw_p18, List.forall_mem_cons.mpr ⟨lw_p19, List.forall_mem_cons.mpr ⟨lw_p20, List.forall_mem_cons.mpr ⟨lw_p21, List.forall_mem_cons.mpr ⟨lw_p22, List.forall_mem_cons.mpr ⟨lw_p23, List.forall_mem_cons.mpr ⟨lw_p24, List.forall_mem_cons.mpr ⟨lw_p25, List.forall_mem_cons.mpr ⟨lw_p26, List.forall_mem_cons.mpr ⟨lw_p27, List.forall_mem_cons.mpr ⟨lw_p28, List.forall_mem_cons.mpr ⟨lw_p29, List.forall_mem_cons.mpr ⟨lw_p30, List.forall_mem_cons.mpr ⟨lw_p31, fun _ h => absurd h List.not_mem_nil⟩⟩⟩⟩⟩⟩⟩⟩⟩⟩⟩⟩⟩⟩⟩⟩
theorem lw_p32 : lw_okq (⟨"FirstChimneyModel", "standsAsAlways", "(I)V"⟩, 30) := ⟨⟨by decide +kernel, by decide +kernel⟩, List.mem_of_getElem? (i := 1182) (by decide +kernel), List.mem_of_getElem? (i := 1215) (by decide +kernel), List.mem_of_getElem? (i := 1216) (by decide +kernel)⟩
theorem lw_p33 : lw_okq (⟨"FirstChimneyModel", "begins", "()V"⟩, 30) := ⟨⟨by decide +kernel, by decide +kernel⟩, List.mem_of_getElem? (i := 1182) (by decide +kernel), List.mem_of_getElem? (i := 1219) (by decide +kernel), List.mem_of_getElem? (i := 1220) (by decide +kernel)⟩
theorem lw_p34 : lw_okq (⟨"FirstChimneyModel", "starts", "(I)V"⟩, 30) := ⟨⟨by decide +kernel, by decide +kernel⟩, List.mem_of_getElem? (i := 1182) (by decide +kernel), List.mem_of_getElem? (i := 1223) (by decide +kernel), List.mem_of_getElem? (i := 1224) (by decide +kernel)⟩
theorem lw_p35 : lw_okq (⟨"FirstChimneyModel", "persons", "()I"⟩, 30) := ⟨⟨by decide +kernel, by decide +kernel⟩, List.mem_of_getElem? (i := 1182) (by decide +kernel), List.mem_of_getElem? (i := 1227) (by decide +kernel), List.mem_of_getElem? (i := 1228) (by decide +kernel)⟩
theorem lw_p36 : lw_okq (⟨"FirstChimneyModel", "personOf", "(II)I"⟩, 30) := ⟨⟨by decide +kernel, by decide +kernel⟩, List.mem_of_getElem? (i := 1182) (by decide +kernel), List.mem_of_getElem? (i := 1231) (by decide +kernel), List.mem_of_getElem? (i := 1232) (by decide +kernel)⟩
theorem lw_p37 : lw_okq (⟨"FirstChimneyModel", "things", "()I"⟩, 30) := ⟨⟨by decide +kernel, by decide +kernel⟩, List.mem_of_getElem? (i := 1182) (by decide +kernel), List.mem_of_getElem? (i := 1235) (by decide +kernel), List.mem_of_getElem? (i := 1236) (by decide +kernel)⟩
theorem lw_p38 : lw_okq (⟨"FirstChimneyModel", "thingOf", "(II)I"⟩, 30) := ⟨⟨by decide +kernel, by decide +kernel⟩, List.mem_of_getElem? (i := 1182) (by decide +kernel), List.mem_of_getElem? (i := 1239) (by decide +kernel), List.mem_of_getElem? (i := 1240) (by decide +kernel)⟩
theorem lw_p39 : lw_okq (⟨"FirstChimneyModel", "cutAll", "()V"⟩, 30) := ⟨⟨by decide +kernel, by decide +kernel⟩, List.mem_of_getElem? (i := 1182) (by decide +kernel), List.mem_of_getElem? (i := 1338) (by decide +kernel), List.mem_of_getElem? (i := 1339) (by decide +kernel)⟩
theorem lw_p40 : lw_okq (⟨"FirstChimneyModel", "readLine", "()V"⟩, 30) := ⟨⟨by decide +kernel, by decide +kernel⟩, List.mem_of_getElem? (i := 1182) (by decide +kernel), List.mem_of_getElem? (i := 1357) (by decide +kernel), List.mem_of_getElem? (i := 1358) (by decide +kernel)⟩
theorem lw_p41 : lw_okq (⟨"FirstChimneyModel", "isWord", "(I)Z"⟩, 30) := ⟨⟨by decide +kernel, by decide +kernel⟩, List.mem_of_getElem? (i := 1182) (by decide +kernel), List.mem_of_getElem? (i := 1361) (by decide +kernel), List.mem_of_getElem? (i := 1362) (by decide +kernel)⟩
theorem lw_p42 : lw_okq (⟨"FirstChimneyModel", "readName", "(III)V"⟩, 30) := ⟨⟨by decide +kernel, by decide +kernel⟩, List.mem_of_getElem? (i := 1182) (by decide +kernel), List.mem_of_getElem? (i := 1365) (by decide +kernel), List.mem_of_getElem? (i := 1366) (by decide +kernel)⟩
theorem lw_p43 : lw_okq (⟨"FirstChimneyModel", "wrong", "(I)V"⟩, 30) := ⟨⟨by decide +kernel, by decide +kernel⟩, List.mem_of_getElem? (i := 1182) (by decide +kernel), List.mem_of_getElem? (i := 1369) (by decide +kernel), List.mem_of_getElem? (i := 1370) (by decide +kernel)⟩
theorem lw_p44 : lw_okq (⟨"FirstChimneyModel", "isName", "()Z"⟩, 30) := ⟨⟨by decide +kernel, by decide +kernel⟩, List.mem_of_getElem? (i := 1182) (by decide +kernel), List.mem_of_getElem? (i := 1373) (by decide +kernel), List.mem_of_getElem? (i := 1374) (by decide +kernel)⟩
theorem lw_p45 : lw_okq (⟨"FirstChimneyModel", "wordHere", "(II)I"⟩, 30) := ⟨⟨by decide +kernel, by decide +kernel⟩, List.mem_of_getElem? (i := 1182) (by decide +kernel), List.mem_of_getElem? (i := 1377) (by decide +kernel), List.mem_of_getElem? (i := 1378) (by decide +kernel)⟩
theorem lw_p46 : lw_okq (⟨"FirstChimneyModel", "nameAt", "(Z)I"⟩, 30) := ⟨⟨by decide +kernel, by decide +kernel⟩, List.mem_of_getElem? (i := 1182) (by decide +kernel), List.mem_of_getElem? (i := 1381) (by decide +kernel), List.mem_of_getElem? (i := 1382) (by decide +kernel)⟩
theorem lw_p47 : lw_okq (⟨"FirstChimneyModel", "readPath", "()V"⟩, 30) := ⟨⟨by decide +kernel, by decide +kernel⟩, List.mem_of_getElem? (i := 1182) (by decide +kernel), List.mem_of_getElem? (i := 1385) (by decide +kernel), List.mem_of_getElem? (i := 1386) (by decide +kernel)⟩
def lw_privs_3 : List (MethodName × Nat) := [(⟨"FirstChimneyModel", "standsAsAlways", "(I)V"⟩, 30), (⟨"FirstChimneyModel", "begins", "()V"⟩, 30), (⟨"FirstChimneyModel", "starts", "(I)V"⟩, 30), (⟨"FirstChimneyModel", "persons", "()I"⟩, 30), (⟨"FirstChimneyModel", "personOf", "(II)I"⟩, 30), (⟨"FirstChimneyModel", "things", "()I"⟩, 30), (⟨"FirstChimneyModel", "thingOf", "(II)I"⟩, 30), (⟨"FirstChimneyModel", "cutAll", "()V"⟩, 30), (⟨"FirstChimneyModel", "readLine", "()V"⟩, 30), (⟨"FirstChimneyModel", "isWord", "(I)Z"⟩, 30), (⟨"FirstChimneyModel", "readName", "(III)V"⟩, 30), (⟨"FirstChimneyModel", "wrong", "(I)V"⟩, 30), (⟨"FirstChimneyModel", "isName", "()Z"⟩, 30), (⟨"FirstChimneyModel", "wordHere", "(II)I"⟩, 30), (⟨"FirstChimneyModel", "nameAt", "(Z)I"⟩, 30), (⟨"FirstChimneyModel", "readPath", "()V"⟩, 30)]
theorem lw_r3 : ∀ q ∈ lw_privs_3, lw_okq q := List.forall_mem_cons.mpr ⟨lw_p32, List.forall_mem_cons.mpr ⟨lw_p33, List.forall_mem_cons.mpr ⟨lw_p34, List.forall_mem_cons.mpr ⟨lw_p35, List.forall_mem_cons.mpr ⟨lw_p36, List.forall_mem_cons.mpr ⟨lw_p37, List.forall_mem_cons.mpr ⟨lw_p38, List.forall_mem_cons.mpr ⟨lw_p39, List.forall_mem_cons.mpr ⟨lw_p40, List.forall_mem_cons.mpr ⟨lw_p41, List.forall_mem_cons.mpr ⟨lw_p42, List.forall_mem_cons.mpr ⟨lw_p43, List.forall_mem_cons.mpr ⟨lw_p44, List.forall_mem_cons.mpr ⟨lw_p45, List.forall_mem_cons.mpr ⟨lw_p46, List.forall_mem_cons.mpr ⟨lw_p47, fun _ h => absurd h List.not_mem_nil⟩⟩⟩⟩⟩⟩⟩⟩⟩⟩⟩⟩⟩⟩⟩⟩
theorem lw_p48 : lw_okq (⟨"FirstChimneyModel", "takeTold", "(ZII)I"⟩, 30) := ⟨⟨by decide +kernel, by decide +kernel⟩, List.mem_of_getElem? (i := 1182) (by decide +kernel), List.mem_of_getElem? (i := 1389) (by decide +kernel), List.mem_of_getElem? (i := 1390) (by decide +kernel)⟩
theorem lw_p49 : lw_okq (⟨"FirstChimneyModel", "takeOne", "(II)I"⟩, 30) := ⟨⟨by decide +kernel, by decide +kernel⟩, List.mem_of_getElem? (i := 1182) (by decide +kernel), List.mem_of_getElem? (i := 1396) (by decide +kernel), List.mem_of_getElem? (i := 1397) (by decide +kernel)⟩
theorem lw_p50 : lw_okq (⟨"FirstChimneyModel", "takeWord", "(I)V"⟩, 30) := ⟨⟨by decide +kernel, by decide +kernel⟩, List.mem_of_getElem? (i := 1182) (by decide +kernel), List.mem_of_getElem? (i := 1400) (by decide +kernel), List.mem_of_getElem? (i := 1401) (by decide +kernel)⟩
theorem lw_p51 : lw_okq (⟨"FirstChimneyModel", "hasWord", "(I)Z"⟩, 30) := ⟨⟨by decide +kernel, by decide +kernel⟩, List.mem_of_getElem? (i := 1182) (by decide +kernel), List.mem_of_getElem? (i := 1404) (by decide +kernel), List.mem_of_getElem? (i := 1405) (by decide +kernel)⟩
theorem lw_p52 : lw_okq (⟨"FirstChimneyModel", "takeAfter", "(III)I"⟩, 30) := ⟨⟨by decide +kernel, by decide +kernel⟩, List.mem_of_getElem? (i := 1182) (by decide +kernel), List.mem_of_getElem? (i := 1408) (by decide +kernel), List.mem_of_getElem? (i := 1409) (by decide +kernel)⟩
theorem lw_p53 : lw_okq (⟨"FirstChimneyModel", "takeNumber", "(II)I"⟩, 30) := ⟨⟨by decide +kernel, by decide +kernel⟩, List.mem_of_getElem? (i := 1182) (by decide +kernel), List.mem_of_getElem? (i := 1412) (by decide +kernel), List.mem_of_getElem? (i := 1413) (by decide +kernel)⟩
theorem lw_p54 : lw_okq (⟨"FirstChimneyModel", "readOnce", "()V"⟩, 30) := ⟨⟨by decide +kernel, by decide +kernel⟩, List.mem_of_getElem? (i := 1182) (by decide +kernel), List.mem_of_getElem? (i := 1416) (by decide +kernel), List.mem_of_getElem? (i := 1417) (by decide +kernel)⟩
theorem lw_p55 : lw_okq (⟨"FirstChimneyModel", "whole", "(I)V"⟩, 30) := ⟨⟨by decide +kernel, by decide +kernel⟩, List.mem_of_getElem? (i := 1182) (by decide +kernel), List.mem_of_getElem? (i := 1420) (by decide +kernel), List.mem_of_getElem? (i := 1421) (by decide +kernel)⟩
theorem lw_p56 : lw_okq (⟨"FirstChimneyModel", "test", "(I)V"⟩, 30) := ⟨⟨by decide +kernel, by decide +kernel⟩, List.mem_of_getElem? (i := 1182) (by decide +kernel), List.mem_of_getElem? (i := 1424) (by decide +kernel), List.mem_of_getElem? (i := 1425) (by decide +kernel)⟩
theorem lw_p57 : lw_okq (⟨"FirstChimneyModel", "sums", "(I)V"⟩, 30) := ⟨⟨by decide +kernel, by decide +kernel⟩, List.mem_of_getElem? (i := 1182) (by decide +kernel), List.mem_of_getElem? (i := 1428) (by decide +kernel), List.mem_of_getElem? (i := 1429) (by decide +kernel)⟩
theorem lw_p58 : lw_okq (⟨"FirstChimneyModel", "products", "(I)V"⟩, 30) := ⟨⟨by decide +kernel, by decide +kernel⟩, List.mem_of_getElem? (i := 1182) (by decide +kernel), List.mem_of_getElem? (i := 1432) (by decide +kernel), List.mem_of_getElem? (i := 1433) (by decide +kernel)⟩
theorem lw_p59 : lw_okq (⟨"FirstChimneyModel", "takePart", "(I)V"⟩, 30) := ⟨⟨by decide +kernel, by decide +kernel⟩, List.mem_of_getElem? (i := 1182) (by decide +kernel), List.mem_of_getElem? (i := 1436) (by decide +kernel), List.mem_of_getElem? (i := 1437) (by decide +kernel)⟩
theorem lw_p60 : lw_okq (⟨"FirstChimneyModel", "isSign", "(I)Z"⟩, 30) := ⟨⟨by decide +kernel, by decide +kernel⟩, List.mem_of_getElem? (i := 1182) (by decide +kernel), List.mem_of_getElem? (i := 1440) (by decide +kernel), List.mem_of_getElem? (i := 1441) (by decide +kernel)⟩
theorem lw_p61 : lw_okq (⟨"FirstChimneyModel", "emit", "(II)V"⟩, 30) := ⟨⟨by decide +kernel, by decide +kernel⟩, List.mem_of_getElem? (i := 1182) (by decide +kernel), List.mem_of_getElem? (i := 1444) (by decide +kernel), List.mem_of_getElem? (i := 1445) (by decide +kernel)⟩
theorem lw_p62 : lw_okq (⟨"FirstChimneyModel", "hasSign", "(I)Z"⟩, 30) := ⟨⟨by decide +kernel, by decide +kernel⟩, List.mem_of_getElem? (i := 1182) (by decide +kernel), List.mem_of_getElem? (i := 1448) (by decide +kernel), List.mem_of_getElem? (i := 1449) (by decide +kernel)⟩
theorem lw_p63 : lw_okq (⟨"FirstChimneyModel", "takeSign", "(I)V"⟩, 30) := ⟨⟨by decide +kernel, by decide +kernel⟩, List.mem_of_getElem? (i := 1182) (by decide +kernel), List.mem_of_getElem? (i := 1452) (by decide +kernel), List.mem_of_getElem? (i := 1453) (by decide +kernel)⟩
def lw_privs_4 : List (MethodName × Nat) := [(⟨"FirstChimneyModel", "takeTold", "(ZII)I"⟩, 30), (⟨"FirstChimneyModel", "takeOne", "(II)I"⟩, 30), (⟨"FirstChimneyModel", "takeWord", "(I)V"⟩, 30), (⟨"FirstChimneyModel", "hasWord", "(I)Z"⟩, 30), (⟨"FirstChimneyModel", "takeAfter", "(III)I"⟩, 30), (⟨"FirstChimneyModel", "takeNumber", "(II)I"⟩, 30), (⟨"FirstChimneyModel", "readOnce", "()V"⟩, 30), (⟨"FirstChimneyModel", "whole", "(I)V"⟩, 30), (⟨"FirstChimneyModel", "test", "(I)V"⟩, 30), (⟨"FirstChimneyModel", "sums", "(I)V"⟩, 30), (⟨"FirstChimneyModel", "products", "(I)V"⟩, 30), (⟨"FirstChimneyModel", "takePart", "(I)V"⟩, 30), (⟨"FirstChimneyModel", "isSign", "(I)Z"⟩, 30), (⟨"FirstChimneyModel", "emit", "(II)V"⟩, 30), (⟨"FirstChimneyModel", "hasSign", "(I)Z"⟩, 30), (⟨"FirstChimneyModel", "takeSign", "(I)V"⟩, 30)]
theorem lw_r4 : ∀ q ∈ lw_privs_4, lw_okq q := List.forall_mem_cons.mpr ⟨lw_p48, List.forall_mem_cons.mpr ⟨lw_p49, List.forall_mem_cons.mpr ⟨lw_p50, List.forall_mem_cons.mpr ⟨lw_p51, List.forall_mem_cons.mpr ⟨lw_p52, List.forall_mem_cons.mpr ⟨lw_p53, List.forall_mem_cons.mpr ⟨lw_p54, List.forall_mem_cons.mpr ⟨lw_p55, List.forall_mem_cons.mpr ⟨lw_p56, List.forall_mem_cons.mpr ⟨lw_p57, List.forall_mem_cons.mpr ⟨lw_p58, List.forall_mem_cons.mpr ⟨lw_p59, List.forall_mem_cons.mpr ⟨lw_p60, List.forall_mem_cons.mpr ⟨lw_p61, List.forall_mem_cons.mpr ⟨lw_p62, List.forall_mem_cons.mpr ⟨lw_p63, fun _ h => absurd h List.not_mem_nil⟩⟩⟩⟩⟩⟩⟩⟩⟩⟩⟩⟩⟩⟩⟩⟩
theorem lw_p64 : lw_okq (⟨"FirstChimneyModel", "readMorning", "(II)V"⟩, 30) := ⟨⟨by decide +kernel, by decide +kernel⟩, List.mem_of_getElem? (i := 1182) (by decide +kernel), List.mem_of_getElem? (i := 1460) (by decide +kernel), List.mem_of_getElem? (i := 1461) (by decide +kernel)⟩
theorem lw_p65 : lw_okq (⟨"FirstChimneyModel", "isPlace", "(I)Z"⟩, 30) := ⟨⟨by decide +kernel, by decide +kernel⟩, List.mem_of_getElem? (i := 1182) (by decide +kernel), List.mem_of_getElem? (i := 1468) (by decide +kernel), List.mem_of_getElem? (i := 1469) (by decide +kernel)⟩
theorem lw_p66 : lw_okq (⟨"FirstChimneyModel", "places", "()I"⟩, 30) := ⟨⟨by decide +kernel, by decide +kernel⟩, List.mem_of_getElem? (i := 1182) (by decide +kernel), List.mem_of_getElem? (i := 1472) (by decide +kernel), List.mem_of_getElem? (i := 1473) (by decide +kernel)⟩
theorem lw_p67 : lw_okq (⟨"FirstChimneyModel", "pathsFrom", "(I)I"⟩, 30) := ⟨⟨by decide +kernel, by decide +kernel⟩, List.mem_of_getElem? (i := 1182) (by decide +kernel), List.mem_of_getElem? (i := 1476) (by decide +kernel), List.mem_of_getElem? (i := 1477) (by decide +kernel)⟩
theorem lw_p68 : lw_okq (⟨"FirstChimneyModel", "whoIn", "(II)I"⟩, 30) := ⟨⟨by decide +kernel, by decide +kernel⟩, List.mem_of_getElem? (i := 1182) (by decide +kernel), List.mem_of_getElem? (i := 1480) (by decide +kernel), List.mem_of_getElem? (i := 1481) (by decide +kernel)⟩
theorem lw_p69 : lw_okq (⟨"FirstChimneyModel", "awakeAt", "(I)I"⟩, 30) := ⟨⟨by decide +kernel, by decide +kernel⟩, List.mem_of_getElem? (i := 1182) (by decide +kernel), List.mem_of_getElem? (i := 1484) (by decide +kernel), List.mem_of_getElem? (i := 1485) (by decide +kernel)⟩
theorem lw_p70 : lw_okq (⟨"FirstChimneyModel", "isPerson", "(I)Z"⟩, 30) := ⟨⟨by decide +kernel, by decide +kernel⟩, List.mem_of_getElem? (i := 1182) (by decide +kernel), List.mem_of_getElem? (i := 1492) (by decide +kernel), List.mem_of_getElem? (i := 1493) (by decide +kernel)⟩
theorem lw_p71 : lw_okq (⟨"FirstChimneyModel", "isAwake", "(II)Z"⟩, 30) := ⟨⟨by decide +kernel, by decide +kernel⟩, List.mem_of_getElem? (i := 1182) (by decide +kernel), List.mem_of_getElem? (i := 1496) (by decide +kernel), List.mem_of_getElem? (i := 1497) (by decide +kernel)⟩
theorem lw_p72 : lw_okq (⟨"FirstChimneyModel", "isReady", "(II)Z"⟩, 30) := ⟨⟨by decide +kernel, by decide +kernel⟩, List.mem_of_getElem? (i := 1182) (by decide +kernel), List.mem_of_getElem? (i := 1500) (by decide +kernel), List.mem_of_getElem? (i := 1501) (by decide +kernel)⟩
theorem lw_p73 : lw_okq (⟨"FirstChimneyModel", "thingsWith", "(II)I"⟩, 30) := ⟨⟨by decide +kernel, by decide +kernel⟩, List.mem_of_getElem? (i := 1182) (by decide +kernel), List.mem_of_getElem? (i := 1504) (by decide +kernel), List.mem_of_getElem? (i := 1505) (by decide +kernel)⟩
theorem lw_p74 : lw_okq (⟨"FirstChimneyModel", "isThing", "(I)Z"⟩, 30) := ⟨⟨by decide +kernel, by decide +kernel⟩, List.mem_of_getElem? (i := 1182) (by decide +kernel), List.mem_of_getElem? (i := 1512) (by decide +kernel), List.mem_of_getElem? (i := 1513) (by decide +kernel)⟩
theorem lw_p75 : lw_okq (⟨"FirstChimneyModel", "mayWalk", "(III)Z"⟩, 30) := ⟨⟨by decide +kernel, by decide +kernel⟩, List.mem_of_getElem? (i := 1182) (by decide +kernel), List.mem_of_getElem? (i := 1520) (by decide +kernel), List.mem_of_getElem? (i := 1521) (by decide +kernel)⟩
theorem lw_p76 : lw_okq (⟨"FirstChimneyModel", "keeps", "()V"⟩, 30) := ⟨⟨by decide +kernel, by decide +kernel⟩, List.mem_of_getElem? (i := 1182) (by decide +kernel), List.mem_of_getElem? (i := 1524) (by decide +kernel), List.mem_of_getElem? (i := 1525) (by decide +kernel)⟩
theorem lw_p77 : lw_okq (⟨"FirstChimneyModel", "copies", "(III)V"⟩, 30) := ⟨⟨by decide +kernel, by decide +kernel⟩, List.mem_of_getElem? (i := 1182) (by decide +kernel), List.mem_of_getElem? (i := 1528) (by decide +kernel), List.mem_of_getElem? (i := 1529) (by decide +kernel)⟩
theorem lw_p78 : lw_okq (⟨"FirstChimneyModel", "walks", "(III)V"⟩, 30) := ⟨⟨by decide +kernel, by decide +kernel⟩, List.mem_of_getElem? (i := 1182) (by decide +kernel), List.mem_of_getElem? (i := 1532) (by decide +kernel), List.mem_of_getElem? (i := 1533) (by decide +kernel)⟩
theorem lw_p79 : lw_okq (⟨"FirstChimneyModel", "mayGive", "(III)Z"⟩, 30) := ⟨⟨by decide +kernel, by decide +kernel⟩, List.mem_of_getElem? (i := 1182) (by decide +kernel), List.mem_of_getElem? (i := 1540) (by decide +kernel), List.mem_of_getElem? (i := 1541) (by decide +kernel)⟩
def lw_privs_5 : List (MethodName × Nat) := [(⟨"FirstChimneyModel", "readMorning", "(II)V"⟩, 30), (⟨"FirstChimneyModel", "isPlace", "(I)Z"⟩, 30), (⟨"FirstChimneyModel", "places", "()I"⟩, 30), (⟨"FirstChimneyModel", "pathsFrom", "(I)I"⟩, 30), (⟨"FirstChimneyModel", "whoIn", "(II)I"⟩, 30), (⟨"FirstChimneyModel", "awakeAt", "(I)I"⟩, 30), (⟨"FirstChimneyModel", "isPerson", "(I)Z"⟩, 30), (⟨"FirstChimneyModel", "isAwake", "(II)Z"⟩, 30), (⟨"FirstChimneyModel", "isReady", "(II)Z"⟩, 30), (⟨"FirstChimneyModel", "thingsWith", "(II)I"⟩, 30), (⟨"FirstChimneyModel", "isThing", "(I)Z"⟩, 30), (⟨"FirstChimneyModel", "mayWalk", "(III)Z"⟩, 30), (⟨"FirstChimneyModel", "keeps", "()V"⟩, 30), (⟨"FirstChimneyModel", "copies", "(III)V"⟩, 30), (⟨"FirstChimneyModel", "walks", "(III)V"⟩, 30), (⟨"FirstChimneyModel", "mayGive", "(III)Z"⟩, 30)]
theorem lw_r5 : ∀ q ∈ lw_privs_5, lw_okq q := List.forall_mem_cons.mpr ⟨lw_p64, List.forall_mem_cons.mpr ⟨lw_p65, List.forall_mem_cons.mpr ⟨lw_p66, List.forall_mem_cons.mpr ⟨lw_p67, List.forall_mem_cons.mpr ⟨lw_p68, List.forall_mem_cons.mpr ⟨lw_p69, List.forall_mem_cons.mpr ⟨lw_p70, List.forall_mem_cons.mpr ⟨lw_p71, List.forall_mem_cons.mpr ⟨lw_p72, List.forall_mem_cons.mpr ⟨lw_p73, List.forall_mem_cons.mpr ⟨lw_p74, List.forall_mem_cons.mpr ⟨lw_p75, List.forall_mem_cons.mpr ⟨lw_p76, List.forall_mem_cons.mpr ⟨lw_p77, List.forall_mem_cons.mpr ⟨lw_p78, List.forall_mem_cons.mpr ⟨lw_p79, fun _ h => absurd h List.not_mem_nil⟩⟩⟩⟩⟩⟩⟩⟩⟩⟩⟩⟩⟩⟩⟩⟩
theorem lw_p80 : lw_okq (⟨"FirstChimneyModel", "gives", "(III)Z"⟩, 30) := ⟨⟨by decide +kernel, by decide +kernel⟩, List.mem_of_getElem? (i := 1182) (by decide +kernel), List.mem_of_getElem? (i := 1544) (by decide +kernel), List.mem_of_getElem? (i := 1545) (by decide +kernel)⟩
theorem lw_p81 : lw_okq (⟨"FirstChimneyModel", "doesBind", "(IIIII)Z"⟩, 30) := ⟨⟨by decide +kernel, by decide +kernel⟩, List.mem_of_getElem? (i := 1182) (by decide +kernel), List.mem_of_getElem? (i := 1548) (by decide +kernel), List.mem_of_getElem? (i := 1549) (by decide +kernel)⟩
theorem lw_p82 : lw_okq (⟨"FirstChimneyModel", "benches", "()I"⟩, 30) := ⟨⟨by decide +kernel, by decide +kernel⟩, List.mem_of_getElem? (i := 1182) (by decide +kernel), List.mem_of_getElem? (i := 1555) (by decide +kernel), List.mem_of_getElem? (i := 1556) (by decide +kernel)⟩
theorem lw_p83 : lw_okq (⟨"FirstChimneyModel", "worthAt", "(I)I"⟩, 30) := ⟨⟨by decide +kernel, by decide +kernel⟩, List.mem_of_getElem? (i := 1182) (by decide +kernel), List.mem_of_getElem? (i := 1559) (by decide +kernel), List.mem_of_getElem? (i := 1560) (by decide +kernel)⟩
theorem lw_p84 : lw_okq (⟨"FirstChimneyModel", "mayVow", "(III)Z"⟩, 30) := ⟨⟨by decide +kernel, by decide +kernel⟩, List.mem_of_getElem? (i := 1182) (by decide +kernel), List.mem_of_getElem? (i := 1570) (by decide +kernel), List.mem_of_getElem? (i := 1571) (by decide +kernel)⟩
theorem lw_p85 : lw_okq (⟨"FirstChimneyModel", "vowsBy", "(III)Z"⟩, 30) := ⟨⟨by decide +kernel, by decide +kernel⟩, List.mem_of_getElem? (i := 1182) (by decide +kernel), List.mem_of_getElem? (i := 1574) (by decide +kernel), List.mem_of_getElem? (i := 1575) (by decide +kernel)⟩
theorem lw_p86 : lw_okq (⟨"FirstChimneyModel", "passes", "(I)Z"⟩, 30) := ⟨⟨by decide +kernel, by decide +kernel⟩, List.mem_of_getElem? (i := 1182) (by decide +kernel), List.mem_of_getElem? (i := 1582) (by decide +kernel), List.mem_of_getElem? (i := 1583) (by decide +kernel)⟩
theorem lw_p87 : lw_okq (⟨"FirstChimneyModel", "smokeAt", "()I"⟩, 30) := ⟨⟨by decide +kernel, by decide +kernel⟩, List.mem_of_getElem? (i := 1182) (by decide +kernel), List.mem_of_getElem? (i := 1586) (by decide +kernel), List.mem_of_getElem? (i := 1587) (by decide +kernel)⟩
theorem lw_p88 : lw_okq (⟨"FirstChimneyModel", "smokes", "(I)V"⟩, 30) := ⟨⟨by decide +kernel, by decide +kernel⟩, List.mem_of_getElem? (i := 1182) (by decide +kernel), List.mem_of_getElem? (i := 1590) (by decide +kernel), List.mem_of_getElem? (i := 1591) (by decide +kernel)⟩
theorem lw_p89 : lw_okq (⟨"FirstChimneyModel", "reachBy", "(II)I"⟩, 30) := ⟨⟨by decide +kernel, by decide +kernel⟩, List.mem_of_getElem? (i := 1182) (by decide +kernel), List.mem_of_getElem? (i := 1606) (by decide +kernel), List.mem_of_getElem? (i := 1607) (by decide +kernel)⟩
theorem lw_p90 : lw_okq (⟨"FirstChimneyModel", "onFrom", "(II)I"⟩, 30) := ⟨⟨by decide +kernel, by decide +kernel⟩, List.mem_of_getElem? (i := 1182) (by decide +kernel), List.mem_of_getElem? (i := 1610) (by decide +kernel), List.mem_of_getElem? (i := 1611) (by decide +kernel)⟩
theorem lw_p91 : lw_okq (⟨"FirstChimneyModel", "farOf", "(II)I"⟩, 30) := ⟨⟨by decide +kernel, by decide +kernel⟩, List.mem_of_getElem? (i := 1182) (by decide +kernel), List.mem_of_getElem? (i := 1618) (by decide +kernel), List.mem_of_getElem? (i := 1619) (by decide +kernel)⟩
theorem lw_p92 : lw_okq (⟨"FirstChimneyModel", "soonOf", "(II)I"⟩, 30) := ⟨⟨by decide +kernel, by decide +kernel⟩, List.mem_of_getElem? (i := 1182) (by decide +kernel), List.mem_of_getElem? (i := 1642) (by decide +kernel), List.mem_of_getElem? (i := 1643) (by decide +kernel)⟩
theorem lw_p93 : lw_okq (⟨"FirstChimneyModel", "readyIn", "(I)I"⟩, 30) := ⟨⟨by decide +kernel, by decide +kernel⟩, List.mem_of_getElem? (i := 1182) (by decide +kernel), List.mem_of_getElem? (i := 1646) (by decide +kernel), List.mem_of_getElem? (i := 1647) (by decide +kernel)⟩
theorem lw_p94 : lw_okq (⟨"FirstChimneyModel", "paceOf", "(I)I"⟩, 30) := ⟨⟨by decide +kernel, by decide +kernel⟩, List.mem_of_getElem? (i := 1182) (by decide +kernel), List.mem_of_getElem? (i := 1650) (by decide +kernel), List.mem_of_getElem? (i := 1651) (by decide +kernel)⟩
theorem lw_p95 : lw_okq (⟨"FirstChimneyModel", "wrongThings", "(I)I"⟩, 30) := ⟨⟨by decide +kernel, by decide +kernel⟩, List.mem_of_getElem? (i := 1182) (by decide +kernel), List.mem_of_getElem? (i := 1677) (by decide +kernel), List.mem_of_getElem? (i := 1678) (by decide +kernel)⟩
def lw_privs_6 : List (MethodName × Nat) := [(⟨"FirstChimneyModel", "gives", "(III)Z"⟩, 30), (⟨"FirstChimneyModel", "doesBind", "(IIIII)Z"⟩, 30), (⟨"FirstChimneyModel", "benches", "()I"⟩, 30), (⟨"FirstChimneyModel", "worthAt", "(I)I"⟩, 30), (⟨"FirstChimneyModel", "mayVow", "(III)Z"⟩, 30), (⟨"FirstChimneyModel", "vowsBy", "(III)Z"⟩, 30), (⟨"FirstChimneyModel", "passes", "(I)Z"⟩, 30), (⟨"FirstChimneyModel", "smokeAt", "()I"⟩, 30), (⟨"FirstChimneyModel", "smokes", "(I)V"⟩, 30), (⟨"FirstChimneyModel", "reachBy", "(II)I"⟩, 30), (⟨"FirstChimneyModel", "onFrom", "(II)I"⟩, 30), (⟨"FirstChimneyModel", "farOf", "(II)I"⟩, 30), (⟨"FirstChimneyModel", "soonOf", "(II)I"⟩, 30), (⟨"FirstChimneyModel", "readyIn", "(I)I"⟩, 30), (⟨"FirstChimneyModel", "paceOf", "(I)I"⟩, 30), (⟨"FirstChimneyModel", "wrongThings", "(I)I"⟩, 30)]
theorem lw_r6 : ∀ q ∈ lw_privs_6, lw_okq q := List.forall_mem_cons.mpr ⟨lw_p80, List.forall_mem_cons.mpr ⟨lw_p81, List.forall_mem_cons.mpr ⟨lw_p82, List.forall_mem_cons.mpr ⟨lw_p83, List.forall_mem_cons.mpr ⟨lw_p84, List.forall_mem_cons.mpr ⟨lw_p85, List.forall_mem_cons.mpr ⟨lw_p86, List.forall_mem_cons.mpr ⟨lw_p87, List.forall_mem_cons.mpr ⟨lw_p88, List.forall_mem_cons.mpr ⟨lw_p89, List.forall_mem_cons.mpr ⟨lw_p90, List.forall_mem_cons.mpr ⟨lw_p91, List.forall_mem_cons.mpr ⟨lw_p92, List.forall_mem_cons.mpr ⟨lw_p93, List.forall_mem_cons.mpr ⟨lw_p94, List.forall_mem_cons.mpr ⟨lw_p95, fun _ h => absurd h List.not_mem_nil⟩⟩⟩⟩⟩⟩⟩⟩⟩⟩⟩⟩⟩⟩⟩⟩
theorem lw_p96 : lw_okq (⟨"FirstChimneyModel", "isGift", "(II)Z"⟩, 30) := ⟨⟨by decide +kernel, by decide +kernel⟩, List.mem_of_getElem? (i := 1182) (by decide +kernel), List.mem_of_getElem? (i := 1689) (by decide +kernel), List.mem_of_getElem? (i := 1690) (by decide +kernel)⟩
theorem lw_p97 : lw_okq (⟨"FirstChimneyModel", "wouldBind", "(III)Z"⟩, 30) := ⟨⟨by decide +kernel, by decide +kernel⟩, List.mem_of_getElem? (i := 1182) (by decide +kernel), List.mem_of_getElem? (i := 1693) (by decide +kernel), List.mem_of_getElem? (i := 1694) (by decide +kernel)⟩
theorem lw_p98 : lw_okq (⟨"FirstChimneyModel", "triesNow", "()V"⟩, 30) := ⟨⟨by decide +kernel, by decide +kernel⟩, List.mem_of_getElem? (i := 1182) (by decide +kernel), List.mem_of_getElem? (i := 1717) (by decide +kernel), List.mem_of_getElem? (i := 1718) (by decide +kernel)⟩
theorem lw_p99 : lw_okq (⟨"FirstChimneyModel", "heardOfAll", "(I)I"⟩, 30) := ⟨⟨by decide +kernel, by decide +kernel⟩, List.mem_of_getElem? (i := 1182) (by decide +kernel), List.mem_of_getElem? (i := 1721) (by decide +kernel), List.mem_of_getElem? (i := 1722) (by decide +kernel)⟩
theorem lw_p100 : lw_okq (⟨"FirstChimneyModel", "whoNow", "()I"⟩, 30) := ⟨⟨by decide +kernel, by decide +kernel⟩, List.mem_of_getElem? (i := 1182) (by decide +kernel), List.mem_of_getElem? (i := 1737) (by decide +kernel), List.mem_of_getElem? (i := 1738) (by decide +kernel)⟩
theorem lw_p101 : lw_okq (⟨"FirstChimneyModel", "worthOf", "(IZ)I"⟩, 30) := ⟨⟨by decide +kernel, by decide +kernel⟩, List.mem_of_getElem? (i := 1182) (by decide +kernel), List.mem_of_getElem? (i := 1749) (by decide +kernel), List.mem_of_getElem? (i := 1750) (by decide +kernel)⟩
theorem lw_p102 : lw_okq (⟨"FirstChimneyModel", "drawsDeed", "()Z"⟩, 30) := ⟨⟨by decide +kernel, by decide +kernel⟩, List.mem_of_getElem? (i := 1182) (by decide +kernel), List.mem_of_getElem? (i := 1777) (by decide +kernel), List.mem_of_getElem? (i := 1778) (by decide +kernel)⟩
theorem lw_p103 : lw_okq (⟨"FirstChimneyModel", "draw", "(I)I"⟩, 30) := ⟨⟨by decide +kernel, by decide +kernel⟩, List.mem_of_getElem? (i := 1182) (by decide +kernel), List.mem_of_getElem? (i := 1781) (by decide +kernel), List.mem_of_getElem? (i := 1782) (by decide +kernel)⟩
theorem lw_p104 : lw_okq (⟨"FirstChimneyModel", "pairsOf", "(I)I"⟩, 30) := ⟨⟨by decide +kernel, by decide +kernel⟩, List.mem_of_getElem? (i := 1182) (by decide +kernel), List.mem_of_getElem? (i := 1797) (by decide +kernel), List.mem_of_getElem? (i := 1798) (by decide +kernel)⟩
def lw_privs_7 : List (MethodName × Nat) := [(⟨"FirstChimneyModel", "isGift", "(II)Z"⟩, 30), (⟨"FirstChimneyModel", "wouldBind", "(III)Z"⟩, 30), (⟨"FirstChimneyModel", "triesNow", "()V"⟩, 30), (⟨"FirstChimneyModel", "heardOfAll", "(I)I"⟩, 30), (⟨"FirstChimneyModel", "whoNow", "()I"⟩, 30), (⟨"FirstChimneyModel", "worthOf", "(IZ)I"⟩, 30), (⟨"FirstChimneyModel", "drawsDeed", "()Z"⟩, 30), (⟨"FirstChimneyModel", "draw", "(I)I"⟩, 30), (⟨"FirstChimneyModel", "pairsOf", "(I)I"⟩, 30)]
theorem lw_r7 : ∀ q ∈ lw_privs_7, lw_okq q := List.forall_mem_cons.mpr ⟨lw_p96, List.forall_mem_cons.mpr ⟨lw_p97, List.forall_mem_cons.mpr ⟨lw_p98, List.forall_mem_cons.mpr ⟨lw_p99, List.forall_mem_cons.mpr ⟨lw_p100, List.forall_mem_cons.mpr ⟨lw_p101, List.forall_mem_cons.mpr ⟨lw_p102, List.forall_mem_cons.mpr ⟨lw_p103, List.forall_mem_cons.mpr ⟨lw_p104, fun _ h => absurd h List.not_mem_nil⟩⟩⟩⟩⟩⟩⟩⟩⟩
def lw_privs : List (MethodName × Nat) := lw_privs_1 ++ (lw_privs_2 ++ (lw_privs_3 ++ (lw_privs_4 ++ (lw_privs_5 ++ (lw_privs_6 ++ (lw_privs_7))))))
def lw_tbl : List Cond := k2_sels lw_privs ++ tables_1
theorem lw_privs_ok : ∀ q ∈ lw_privs, lw_okq q := by
  show ∀ q ∈ lw_privs_1 ++ (lw_privs_2 ++ (lw_privs_3 ++ (lw_privs_4 ++ (lw_privs_5 ++ (lw_privs_6 ++ (lw_privs_7)))))), lw_okq q
  exact List.forall_mem_append.mpr ⟨lw_r1, List.forall_mem_append.mpr ⟨lw_r2, List.forall_mem_append.mpr ⟨lw_r3, List.forall_mem_append.mpr ⟨lw_r4, List.forall_mem_append.mpr ⟨lw_r5, List.forall_mem_append.mpr ⟨lw_r6, lw_r7⟩⟩⟩⟩⟩⟩
-- ===== end of PART A; then your names; then what follows =====
end
section
def RX0 : String := "FirstChimney$Land"
def TX0 : u_T := fun k => match k with
  | 0 => ("FirstChimney$Land", "placeNames", "[J", true)
  | 1 => ("FirstChimney$Land", "personNames", "[J", true)
  | 2 => ("FirstChimney$Land", "thingNames", "[J", true)
  | 3 => ("FirstChimney$Land", "paths", "[I", true)
  | 4 => ("FirstChimney$Land", "kinds", "[I", true)
  | 5 => ("FirstChimney$Land", "houses", "[I", true)
  | 6 => ("FirstChimney$Land", "wakes", "[I", true)
  | 7 => ("FirstChimney$Land", "worths", "[I", true)
  | 8 => ("FirstChimney$Land", "givers", "[I", true)
  | 9 => ("FirstChimney$Land", "law", "LFirstChimney$Law;", true)
  | 10 => ("FirstChimney$Land", "places", "I", false)
  | 11 => ("FirstChimney$Land", "pathsTold", "I", false)
  | 12 => ("FirstChimney$Land", "persons", "I", false)
  | 13 => ("FirstChimney$Land", "things", "I", false)
  | _ => ("FirstChimney$Land", "smoke", "I", false)
def tyX0 : Nat → FieldType := fun k => match k with
  | 0 => .array .long
  | 1 => .array .long
  | 2 => .array .long
  | 3 => .array .int
  | 4 => .array .int
  | 5 => .array .int
  | 6 => .array .int
  | 7 => .array .int
  | 8 => .array .int
  | 9 => .object "FirstChimney$Law"
  | 10 => .int
  | 11 => .int
  | 12 => .int
  | 13 => .int
  | _ => .int
abbrev wsX00 : List Cond := u_ws RX0 TX0 15
theorem nmX0 : ∀ a, a < 15 → ∀ b, b < 15 → a ≠ b → (TX0 a).2.1 ≠ (TX0 b).2.1 := by decide +kernel
theorem tyX0_ok : ∀ k, k < 15 → parseFieldDescriptor (TX0 k).2.2.1 = some (tyX0 k) := by decide +kernel
abbrev cX0_init : ByteArray := prog_2_method_1_code
def yX0_init : MethodName := ⟨RX0, "<init>", "()V"⟩
abbrev cX0_clear : ByteArray := prog_2_method_2_code
def yX0_clear : MethodName := ⟨RX0, "clear", "()V"⟩
abbrev cX0_indexOf : ByteArray := prog_2_method_3_code
def yX0_indexOf : MethodName := ⟨RX0, "indexOf", "([JIJ)I"⟩
abbrev cX0_isTold : ByteArray := prog_2_method_4_code
def yX0_isTold : MethodName := ⟨RX0, "isTold", "(J)Z"⟩
abbrev cX0_hasPlace : ByteArray := prog_2_method_5_code
def yX0_hasPlace : MethodName := ⟨RX0, "hasPlace", "(I)Z"⟩
abbrev cX0_hasPerson : ByteArray := prog_2_method_6_code
def yX0_hasPerson : MethodName := ⟨RX0, "hasPerson", "(I)Z"⟩
abbrev cX0_hasThing : ByteArray := prog_2_method_7_code
def yX0_hasThing : MethodName := ⟨RX0, "hasThing", "(I)Z"⟩
abbrev cX0_isAwake : ByteArray := prog_2_method_8_code
def yX0_isAwake : MethodName := ⟨RX0, "isAwake", "(II)Z"⟩
abbrev cX0_sleepOf : ByteArray := prog_2_method_9_code
def yX0_sleepOf : MethodName := ⟨RX0, "sleepOf", "(II)I"⟩
abbrev cX0_awakeBits : ByteArray := prog_2_method_10_code
def yX0_awakeBits : MethodName := ⟨RX0, "awakeBits", "(I)I"⟩
def RX1 : String := "FirstChimney$LandReader"
def TX1 : u_T := fun k => match k with
  | 0 => ("FirstChimney$LandReader", "lawReader", "LFirstChimney$LawReader;", true)
  | 1 => ("FirstChimney$LandReader", "smokeTold", "Z", false)
  | _ => ("FirstChimney$LandReader", "bindsTold", "Z", false)
def tyX1 : Nat → FieldType := fun k => match k with
  | 0 => .object "FirstChimney$LawReader"
  | 1 => .boolean
  | _ => .boolean
abbrev wsX10 : List Cond := u_ws RX1 TX1 3
theorem nmX1 : ∀ a, a < 3 → ∀ b, b < 3 → a ≠ b → (TX1 a).2.1 ≠ (TX1 b).2.1 := by decide +kernel
theorem tyX1_ok : ∀ k, k < 3 → parseFieldDescriptor (TX1 k).2.2.1 = some (tyX1 k) := by decide +kernel
abbrev cX1_init : ByteArray := prog_3_method_1_code
def yX1_init : MethodName := ⟨RX1, "<init>", "()V"⟩
abbrev cX1_read : ByteArray := prog_3_method_2_code
def yX1_read : MethodName := ⟨RX1, "read", "(LFirstChimney$Tape;LFirstChimney$Land;)I"⟩
abbrev cX1_isNewName : ByteArray := prog_3_method_3_code
def yX1_isNewName : MethodName := ⟨RX1, "isNewName", "(LFirstChimney$Tape;LFirstChimney$Land;)Z"⟩
abbrev cX1_readPlace : ByteArray := prog_3_method_4_code
def yX1_readPlace : MethodName := ⟨RX1, "readPlace", "(LFirstChimney$Tape;LFirstChimney$Land;)Z"⟩
abbrev cX1_readPath : ByteArray := prog_3_method_5_code
def yX1_readPath : MethodName := ⟨RX1, "readPath", "(LFirstChimney$Tape;LFirstChimney$Land;)Z"⟩
abbrev cX1_readPerson : ByteArray := prog_3_method_6_code
def yX1_readPerson : MethodName := ⟨RX1, "readPerson", "(LFirstChimney$Tape;LFirstChimney$Land;)Z"⟩
abbrev cX1_readThing : ByteArray := prog_3_method_7_code
def yX1_readThing : MethodName := ⟨RX1, "readThing", "(LFirstChimney$Tape;LFirstChimney$Land;)Z"⟩
abbrev cX1_readSmoke : ByteArray := prog_3_method_8_code
def yX1_readSmoke : MethodName := ⟨RX1, "readSmoke", "(LFirstChimney$Tape;LFirstChimney$Land;)Z"⟩
abbrev cX1_readBinds : ByteArray := prog_3_method_9_code
def yX1_readBinds : MethodName := ⟨RX1, "readBinds", "(LFirstChimney$Tape;LFirstChimney$Land;)Z"⟩
def RX2 : String := "FirstChimney$Law"
def TX2 : u_T := fun k => match k with
  | 0 => ("FirstChimney$Law", "code", "[I", true)
  | 1 => ("FirstChimney$Law", "values", "[I", true)
  | _ => ("FirstChimney$Law", "length", "I", false)
def tyX2 : Nat → FieldType := fun k => match k with
  | 0 => .array .int
  | 1 => .array .int
  | _ => .int
abbrev wsX20 : List Cond := u_ws RX2 TX2 3
theorem nmX2 : ∀ a, a < 3 → ∀ b, b < 3 → a ≠ b → (TX2 a).2.1 ≠ (TX2 b).2.1 := by decide +kernel
theorem tyX2_ok : ∀ k, k < 3 → parseFieldDescriptor (TX2 k).2.2.1 = some (tyX2 k) := by decide +kernel
abbrev cX2_init : ByteArray := prog_4_method_1_code
def yX2_init : MethodName := ⟨RX2, "<init>", "()V"⟩
abbrev cX2_write : ByteArray := prog_4_method_2_code
def yX2_write : MethodName := ⟨RX2, "write", "(I)V"⟩
abbrev cX2_valueAt : ByteArray := prog_4_method_3_code
def yX2_valueAt : MethodName := ⟨RX2, "valueAt", "(IIII)I"⟩
abbrev cX2_operand : ByteArray := prog_4_method_4_code
def yX2_operand : MethodName := ⟨RX2, "operand", "(IIIII)I"⟩
abbrev cX2_joined : ByteArray := prog_4_method_5_code
def yX2_joined : MethodName := ⟨RX2, "joined", "(III)I"⟩
def RX3 : String := "FirstChimney$LawReader"
def TX3 : u_T := fun k => match k with
  | 0 => ("FirstChimney$LawReader", "waiting", "[I", true)
  | 1 => ("FirstChimney$LawReader", "top", "I", false)
  | 2 => ("FirstChimney$LawReader", "depth", "I", false)
  | _ => ("FirstChimney$LawReader", "partDue", "Z", false)
def tyX3 : Nat → FieldType := fun k => match k with
  | 0 => .array .int
  | 1 => .int
  | 2 => .int
  | _ => .boolean
abbrev wsX30 : List Cond := u_ws RX3 TX3 4
theorem nmX3 : ∀ a, a < 4 → ∀ b, b < 4 → a ≠ b → (TX3 a).2.1 ≠ (TX3 b).2.1 := by decide +kernel
theorem tyX3_ok : ∀ k, k < 4 → parseFieldDescriptor (TX3 k).2.2.1 = some (tyX3 k) := by decide +kernel
abbrev cX3_init : ByteArray := prog_5_method_1_code
def yX3_init : MethodName := ⟨RX3, "<init>", "()V"⟩
abbrev cX3_read : ByteArray := prog_5_method_2_code
def yX3_read : MethodName := ⟨RX3, "read", "(LFirstChimney$Tape;LFirstChimney$Law;)Z"⟩
abbrev cX3_readPart : ByteArray := prog_5_method_3_code
def yX3_readPart : MethodName := ⟨RX3, "readPart", "(LFirstChimney$Tape;LFirstChimney$Law;)Z"⟩
abbrev cX3_readBehind : ByteArray := prog_5_method_4_code
def yX3_readBehind : MethodName := ⟨RX3, "readBehind", "(LFirstChimney$Tape;LFirstChimney$Law;)Z"⟩
abbrev cX3_closeNots : ByteArray := prog_5_method_5_code
def yX3_closeNots : MethodName := ⟨RX3, "closeNots", "(LFirstChimney$Law;)V"⟩
abbrev cX3_await : ByteArray := prog_5_method_6_code
def yX3_await : MethodName := ⟨RX3, "await", "(I)V"⟩
abbrev cX3_writeDown : ByteArray := prog_5_method_7_code
def yX3_writeDown : MethodName := ⟨RX3, "writeDown", "(LFirstChimney$Law;I)V"⟩
abbrev cX3_rankOf : ByteArray := prog_5_method_8_code
def yX3_rankOf : MethodName := ⟨RX3, "rankOf", "(I)I"⟩
def RX4 : String := "FirstChimney$Past"
def TX4 : u_T := fun k => match k with
  | 0 => ("FirstChimney$Past", "ring", "[LFirstChimney$State;", true)
  | 1 => ("FirstChimney$Past", "marked", "[LFirstChimney$State;", true)
  | 2 => ("FirstChimney$Past", "markedSeen", "[LFirstChimney$Seen;", true)
  | 3 => ("FirstChimney$Past", "laid", "[Z", true)
  | 4 => ("FirstChimney$Past", "nextSlot", "I", false)
  | _ => ("FirstChimney$Past", "kept", "I", false)
def tyX4 : Nat → FieldType := fun k => match k with
  | 0 => .array (.object "FirstChimney$State")
  | 1 => .array (.object "FirstChimney$State")
  | 2 => .array (.object "FirstChimney$Seen")
  | 3 => .array .boolean
  | 4 => .int
  | _ => .int
abbrev wsX40 : List Cond := u_ws RX4 TX4 6
theorem nmX4 : ∀ a, a < 6 → ∀ b, b < 6 → a ≠ b → (TX4 a).2.1 ≠ (TX4 b).2.1 := by decide +kernel
theorem tyX4_ok : ∀ k, k < 6 → parseFieldDescriptor (TX4 k).2.2.1 = some (tyX4 k) := by decide +kernel
abbrev cX4_init : ByteArray := prog_6_method_1_code
def yX4_init : MethodName := ⟨RX4, "<init>", "()V"⟩
abbrev cX4_forget : ByteArray := prog_6_method_2_code
def yX4_forget : MethodName := ⟨RX4, "forget", "()V"⟩
abbrev cX4_keep : ByteArray := prog_6_method_3_code
def yX4_keep : MethodName := ⟨RX4, "keep", "(LFirstChimney$State;)V"⟩
abbrev cX4_bringBack : ByteArray := prog_6_method_4_code
def yX4_bringBack : MethodName := ⟨RX4, "bringBack", "(LFirstChimney$State;)Z"⟩
abbrev cX4_lay : ByteArray := prog_6_method_5_code
def yX4_lay : MethodName := ⟨RX4, "lay", "(ILFirstChimney$State;LFirstChimney$Seen;)V"⟩
abbrev cX4_goBack : ByteArray := prog_6_method_6_code
def yX4_goBack : MethodName := ⟨RX4, "goBack", "(ILFirstChimney$State;LFirstChimney$Seen;)Z"⟩
def RX5 : String := "FirstChimney$Script"
def TX5 : u_T := fun k => match k with
  | 0 => ("FirstChimney$Script", "deeds", "[I", true)
  | 1 => ("FirstChimney$Script", "ones", "[I", true)
  | 2 => ("FirstChimney$Script", "others", "[I", true)
  | _ => ("FirstChimney$Script", "lines", "I", false)
def tyX5 : Nat → FieldType := fun k => match k with
  | 0 => .array .int
  | 1 => .array .int
  | 2 => .array .int
  | _ => .int
abbrev wsX50 : List Cond := u_ws RX5 TX5 4
theorem nmX5 : ∀ a, a < 4 → ∀ b, b < 4 → a ≠ b → (TX5 a).2.1 ≠ (TX5 b).2.1 := by decide +kernel
theorem tyX5_ok : ∀ k, k < 4 → parseFieldDescriptor (TX5 k).2.2.1 = some (tyX5 k) := by decide +kernel
abbrev cX5_init : ByteArray := prog_7_method_1_code
def yX5_init : MethodName := ⟨RX5, "<init>", "()V"⟩
abbrev cX5_read : ByteArray := prog_7_method_2_code
def yX5_read : MethodName := ⟨RX5, "read", "(LFirstChimney$Tape;LFirstChimney$Land;)I"⟩
abbrev cX5_readLine : ByteArray := prog_7_method_3_code
def yX5_readLine : MethodName := ⟨RX5, "readLine", "(LFirstChimney$Tape;LFirstChimney$Land;)Z"⟩
abbrev cX5_readNames : ByteArray := prog_7_method_4_code
def yX5_readNames : MethodName := ⟨RX5, "readNames", "(LFirstChimney$Tape;LFirstChimney$Land;I)Z"⟩
abbrev cX5_play : ByteArray := prog_7_method_5_code
def yX5_play : MethodName := ⟨RX5, "play", "(ILFirstChimney$Land;LFirstChimney$State;)I"⟩
def RX6 : String := "FirstChimney$Seen"
def TX6 : u_T := fun k => match k with
  | 0 => ("FirstChimney$Seen", "places", "[I", true)
  | 1 => ("FirstChimney$Seen", "minutes", "[I", true)
  | 2 => ("FirstChimney$Seen", "can", "[Z", true)
  | _ => ("FirstChimney$Seen", "number", "I", false)
def tyX6 : Nat → FieldType := fun k => match k with
  | 0 => .array .int
  | 1 => .array .int
  | 2 => .array .boolean
  | _ => .int
abbrev wsX60 : List Cond := u_ws RX6 TX6 4
theorem nmX6 : ∀ a, a < 4 → ∀ b, b < 4 → a ≠ b → (TX6 a).2.1 ≠ (TX6 b).2.1 := by decide +kernel
theorem tyX6_ok : ∀ k, k < 4 → parseFieldDescriptor (TX6 k).2.2.1 = some (tyX6 k) := by decide +kernel
abbrev cX6_init : ByteArray := prog_8_method_1_code
def yX6_init : MethodName := ⟨RX6, "<init>", "()V"⟩
abbrev cX6_add : ByteArray := prog_8_method_2_code
def yX6_add : MethodName := ⟨RX6, "add", "(IIZ)Z"⟩
abbrev cX6_copy : ByteArray := prog_8_method_3_code
def yX6_copy : MethodName := ⟨RX6, "copy", "(LFirstChimney$Seen;)V"⟩
def RX7 : String := "FirstChimney$State"
def TX7 : u_T := fun k => match k with
  | 0 => ("FirstChimney$State", "morning", "I", false)
  | 1 => ("FirstChimney$State", "minute", "I", false)
  | 2 => ("FirstChimney$State", "where", "[I", true)
  | 3 => ("FirstChimney$State", "acted", "[I", true)
  | 4 => ("FirstChimney$State", "news", "[I", true)
  | 5 => ("FirstChimney$State", "vowed", "[I", true)
  | 6 => ("FirstChimney$State", "rightVows", "[I", true)
  | 7 => ("FirstChimney$State", "holders", "[I", true)
  | _ => ("FirstChimney$State", "owners", "[I", true)
def tyX7 : Nat → FieldType := fun k => match k with
  | 0 => .int
  | 1 => .int
  | 2 => .array .int
  | 3 => .array .int
  | 4 => .array .int
  | 5 => .array .int
  | 6 => .array .int
  | 7 => .array .int
  | _ => .array .int
abbrev wsX70 : List Cond := u_ws RX7 TX7 9
theorem nmX7 : ∀ a, a < 9 → ∀ b, b < 9 → a ≠ b → (TX7 a).2.1 ≠ (TX7 b).2.1 := by decide +kernel
theorem tyX7_ok : ∀ k, k < 9 → parseFieldDescriptor (TX7 k).2.2.1 = some (tyX7 k) := by decide +kernel
abbrev cX7_init : ByteArray := prog_9_method_1_code
def yX7_init : MethodName := ⟨RX7, "<init>", "()V"⟩
abbrev cX7_begin : ByteArray := prog_9_method_2_code
def yX7_begin : MethodName := ⟨RX7, "begin", "(LFirstChimney$Land;)V"⟩
abbrev cX7_copy : ByteArray := prog_9_method_3_code
def yX7_copy : MethodName := ⟨RX7, "copy", "(LFirstChimney$State;)V"⟩
abbrev cX7_bitsAt : ByteArray := prog_9_method_4_code
def yX7_bitsAt : MethodName := ⟨RX7, "bitsAt", "(LFirstChimney$Land;I)I"⟩
abbrev cX7_strayThings : ByteArray := prog_9_method_5_code
def yX7_strayThings : MethodName := ⟨RX7, "strayThings", "(LFirstChimney$Land;)I"⟩
abbrev cX7_newsOfAll : ByteArray := prog_9_method_6_code
def yX7_newsOfAll : MethodName := ⟨RX7, "newsOfAll", "(LFirstChimney$Land;)I"⟩
abbrev cX7_isReady : ByteArray := prog_9_method_7_code
def yX7_isReady : MethodName := ⟨RX7, "isReady", "(LFirstChimney$Land;I)Z"⟩
abbrev cX7_minutesOver : ByteArray := prog_9_method_8_code
def yX7_minutesOver : MethodName := ⟨RX7, "minutesOver", "(LFirstChimney$Land;II)I"⟩
abbrev cX7_canWalk : ByteArray := prog_9_method_9_code
def yX7_canWalk : MethodName := ⟨RX7, "canWalk", "(LFirstChimney$Land;II)Z"⟩
abbrev cX7_goTo : ByteArray := prog_9_method_10_code
def yX7_goTo : MethodName := ⟨RX7, "goTo", "(LFirstChimney$Land;II)V"⟩
abbrev cX7_canGive : ByteArray := prog_9_method_11_code
def yX7_canGive : MethodName := ⟨RX7, "canGive", "(LFirstChimney$Land;II)Z"⟩
abbrev cX7_handOver : ByteArray := prog_9_method_12_code
def yX7_handOver : MethodName := ⟨RX7, "handOver", "(LFirstChimney$Land;II)Z"⟩
abbrev cX7_canVow : ByteArray := prog_9_method_13_code
def yX7_canVow : MethodName := ⟨RX7, "canVow", "(LFirstChimney$Land;II)Z"⟩
abbrev cX7_pledge : ByteArray := prog_9_method_14_code
def yX7_pledge : MethodName := ⟨RX7, "pledge", "(LFirstChimney$Land;II)Z"⟩
abbrev cX7_giftBinds : ByteArray := prog_9_method_15_code
def yX7_giftBinds : MethodName := ⟨RX7, "giftBinds", "(LFirstChimney$Land;III)Z"⟩
abbrev cX7_isBinding : ByteArray := prog_9_method_16_code
def yX7_isBinding : MethodName := ⟨RX7, "isBinding", "(LFirstChimney$Land;IIII)Z"⟩
abbrev cX7_pass : ByteArray := prog_9_method_17_code
def yX7_pass : MethodName := ⟨RX7, "pass", "(LFirstChimney$Land;)Z"⟩
abbrev cX7_shareNews : ByteArray := prog_9_method_18_code
def yX7_shareNews : MethodName := ⟨RX7, "shareNews", "(LFirstChimney$Land;I)V"⟩
abbrev cX7_riseSmoke : ByteArray := prog_9_method_19_code
def yX7_riseSmoke : MethodName := ⟨RX7, "riseSmoke", "(LFirstChimney$Land;)V"⟩
def RX8 : String := "FirstChimney$Tape"
def TX8 : u_T := fun k => match k with
  | 0 => ("FirstChimney$Tape", "signs", "[C", true)
  | 1 => ("FirstChimney$Tape", "length", "I", false)
  | 2 => ("FirstChimney$Tape", "start", "I", false)
  | 3 => ("FirstChimney$Tape", "end", "I", false)
  | 4 => ("FirstChimney$Tape", "kind", "I", false)
  | 5 => ("FirstChimney$Tape", "number", "I", false)
  | 6 => ("FirstChimney$Tape", "word", "J", false)
  | _ => ("FirstChimney$Tape", "fault", "I", false)
def tyX8 : Nat → FieldType := fun k => match k with
  | 0 => .array .char
  | 1 => .int
  | 2 => .int
  | 3 => .int
  | 4 => .int
  | 5 => .int
  | 6 => .long
  | _ => .int
abbrev wsX80 : List Cond := u_ws RX8 TX8 8
theorem nmX8 : ∀ a, a < 8 → ∀ b, b < 8 → a ≠ b → (TX8 a).2.1 ≠ (TX8 b).2.1 := by decide +kernel
theorem tyX8_ok : ∀ k, k < 8 → parseFieldDescriptor (TX8 k).2.2.1 = some (tyX8 k) := by decide +kernel
abbrev cX8_init : ByteArray := prog_10_method_1_code
def yX8_init : MethodName := ⟨RX8, "<init>", "()V"⟩
abbrev cX8_put : ByteArray := prog_10_method_2_code
def yX8_put : MethodName := ⟨RX8, "put", "(J)V"⟩
abbrev cX8_clear : ByteArray := prog_10_method_3_code
def yX8_clear : MethodName := ⟨RX8, "clear", "()V"⟩
abbrev cX8_open : ByteArray := prog_10_method_4_code
def yX8_open : MethodName := ⟨RX8, "open", "()V"⟩
abbrev cX8_next : ByteArray := prog_10_method_5_code
def yX8_next : MethodName := ⟨RX8, "next", "()V"⟩
abbrev cX8_readWord : ByteArray := prog_10_method_6_code
def yX8_readWord : MethodName := ⟨RX8, "readWord", "()V"⟩
abbrev cX8_readNumber : ByteArray := prog_10_method_7_code
def yX8_readNumber : MethodName := ⟨RX8, "readNumber", "()V"⟩
abbrev cX8_cellIn : ByteArray := prog_10_method_8_code
def yX8_cellIn : MethodName := ⟨RX8, "cellIn", "(Ljava/lang/String;)I"⟩
abbrev cX8_fail : ByteArray := prog_10_method_9_code
def yX8_fail : MethodName := ⟨RX8, "fail", "(I)Z"⟩
abbrev cX8_take : ByteArray := prog_10_method_10_code
def yX8_take : MethodName := ⟨RX8, "take", "(I)Z"⟩
abbrev cX8_isNumber : ByteArray := prog_10_method_11_code
def yX8_isNumber : MethodName := ⟨RX8, "isNumber", "(II)Z"⟩
abbrev cX8_known : ByteArray := prog_10_method_12_code
def yX8_known : MethodName := ⟨RX8, "known", "([JI)I"⟩
def RX9 : String := "FirstChimney$Ways"
def TX9 : u_T := fun k => match k with
  | 0 => ("FirstChimney$Ways", "paths", "[[I", true)
  | 1 => ("FirstChimney$Ways", "ends", "[I", false)
  | _ => ("FirstChimney$Ways", "nextEnds", "[I", false)
def tyX9 : Nat → FieldType := fun k => match k with
  | 0 => .array (.array .int)
  | 1 => .array .int
  | _ => .array .int
abbrev wsX90 : List Cond := u_ws RX9 TX9 3
theorem nmX9 : ∀ a, a < 3 → ∀ b, b < 3 → a ≠ b → (TX9 a).2.1 ≠ (TX9 b).2.1 := by decide +kernel
theorem tyX9_ok : ∀ k, k < 3 → parseFieldDescriptor (TX9 k).2.2.1 = some (tyX9 k) := by decide +kernel
abbrev cX9_init : ByteArray := prog_11_method_1_code
def yX9_init : MethodName := ⟨RX9, "<init>", "()V"⟩
abbrev cX9_measure : ByteArray := prog_11_method_2_code
def yX9_measure : MethodName := ⟨RX9, "measure", "(LFirstChimney$Land;)V"⟩
abbrev cX9_measureFrom : ByteArray := prog_11_method_3_code
def yX9_measureFrom : MethodName := ⟨RX9, "measureFrom", "(LFirstChimney$Land;I)V"⟩
abbrev cX9_neighbours : ByteArray := prog_11_method_4_code
def yX9_neighbours : MethodName := ⟨RX9, "neighbours", "(LFirstChimney$Land;I)I"⟩
abbrev cX9_spread : ByteArray := prog_11_method_5_code
def yX9_spread : MethodName := ⟨RX9, "spread", "(LFirstChimney$Land;II)I"⟩
abbrev cX9_isCut : ByteArray := prog_11_method_6_code
def yX9_isCut : MethodName := ⟨RX9, "isCut", "(LFirstChimney$Land;I)Z"⟩
abbrev cX9_farthestFrom : ByteArray := prog_11_method_7_code
def yX9_farthestFrom : MethodName := ⟨RX9, "farthestFrom", "(LFirstChimney$Land;I)I"⟩
abbrev cX9_pathsOfTour : ByteArray := prog_11_method_8_code
def yX9_pathsOfTour : MethodName := ⟨RX9, "pathsOfTour", "(LFirstChimney$Land;I)I"⟩
abbrev cX9_stepOn : ByteArray := prog_11_method_9_code
def yX9_stepOn : MethodName := ⟨RX9, "stepOn", "(LFirstChimney$Land;)V"⟩
def RX10 : String := "FirstChimney"
def TX10 : u_T := fun k => match k with
  | 0 => ("FirstChimney", "tape", "LFirstChimney$Tape;", true)
  | 1 => ("FirstChimney", "landReader", "LFirstChimney$LandReader;", true)
  | 2 => ("FirstChimney", "ways", "LFirstChimney$Ways;", true)
  | 3 => ("FirstChimney", "now", "LFirstChimney$State;", true)
  | 4 => ("FirstChimney", "trial", "LFirstChimney$State;", true)
  | 5 => ("FirstChimney", "past", "LFirstChimney$Past;", true)
  | 6 => ("FirstChimney", "seen", "LFirstChimney$Seen;", true)
  | 7 => ("FirstChimney", "land", "LFirstChimney$Land;", false)
  | 8 => ("FirstChimney", "spareLand", "LFirstChimney$Land;", false)
  | 9 => ("FirstChimney", "script", "LFirstChimney$Script;", false)
  | 10 => ("FirstChimney", "spareScript", "LFirstChimney$Script;", false)
  | _ => ("FirstChimney", "drawn", "J", false)
def tyX10 : Nat → FieldType := fun k => match k with
  | 0 => .object "FirstChimney$Tape"
  | 1 => .object "FirstChimney$LandReader"
  | 2 => .object "FirstChimney$Ways"
  | 3 => .object "FirstChimney$State"
  | 4 => .object "FirstChimney$State"
  | 5 => .object "FirstChimney$Past"
  | 6 => .object "FirstChimney$Seen"
  | 7 => .object "FirstChimney$Land"
  | 8 => .object "FirstChimney$Land"
  | 9 => .object "FirstChimney$Script"
  | 10 => .object "FirstChimney$Script"
  | _ => .long
abbrev wsX100 : List Cond := u_ws RX10 TX10 12
theorem nmX10 : ∀ a, a < 12 → ∀ b, b < 12 → a ≠ b → (TX10 a).2.1 ≠ (TX10 b).2.1 := by decide +kernel
theorem tyX10_ok : ∀ k, k < 12 → parseFieldDescriptor (TX10 k).2.2.1 = some (tyX10 k) := by decide +kernel
abbrev cX10_init : ByteArray := prog_1_method_1_code
def yX10_init : MethodName := ⟨RX10, "<init>", "()V"⟩
abbrev cX10_feed : ByteArray := prog_1_method_2_code
def yX10_feed : MethodName := ⟨RX10, "feed", "(JJJ)I"⟩
abbrev cX10_land : ByteArray := prog_1_method_3_code
def yX10_land : MethodName := ⟨RX10, "land", "()I"⟩
abbrev cX10_morning : ByteArray := prog_1_method_4_code
def yX10_morning : MethodName := ⟨RX10, "morning", "()I"⟩
abbrev cX10_place : ByteArray := prog_1_method_5_code
def yX10_place : MethodName := ⟨RX10, "place", "(II)I"⟩
abbrev cX10_person : ByteArray := prog_1_method_6_code
def yX10_person : MethodName := ⟨RX10, "person", "(II)I"⟩
abbrev cX10_thing : ByteArray := prog_1_method_7_code
def yX10_thing : MethodName := ⟨RX10, "thing", "(II)I"⟩
abbrev cX10_walk : ByteArray := prog_1_method_8_code
def yX10_walk : MethodName := ⟨RX10, "walk", "(II)Z"⟩
abbrev cX10_give : ByteArray := prog_1_method_9_code
def yX10_give : MethodName := ⟨RX10, "give", "(II)I"⟩
abbrev cX10_vow : ByteArray := prog_1_method_10_code
def yX10_vow : MethodName := ⟨RX10, "vow", "(II)I"⟩
abbrev cX10_minute : ByteArray := prog_1_method_11_code
def yX10_minute : MethodName := ⟨RX10, "minute", "()Z"⟩
abbrev cX10_undo : ByteArray := prog_1_method_12_code
def yX10_undo : MethodName := ⟨RX10, "undo", "()Z"⟩
abbrev cX10_judged : ByteArray := prog_1_method_13_code
def yX10_judged : MethodName := ⟨RX10, "judged", "(I)I"⟩
abbrev cX10_soon : ByteArray := prog_1_method_14_code
def yX10_soon : MethodName := ⟨RX10, "soon", "(II)I"⟩
abbrev cX10_meet : ByteArray := prog_1_method_15_code
def yX10_meet : MethodName := ⟨RX10, "meet", "(II)I"⟩
abbrev cX10_all : ByteArray := prog_1_method_16_code
def yX10_all : MethodName := ⟨RX10, "all", "(I)I"⟩
abbrev cX10_tour : ByteArray := prog_1_method_17_code
def yX10_tour : MethodName := ⟨RX10, "tour", "(I)I"⟩
abbrev cX10_intime : ByteArray := prog_1_method_18_code
def yX10_intime : MethodName := ⟨RX10, "intime", "(II)Z"⟩
abbrev cX10_back : ByteArray := prog_1_method_19_code
def yX10_back : MethodName := ⟨RX10, "back", "()I"⟩
abbrev cX10_could : ByteArray := prog_1_method_20_code
def yX10_could : MethodName := ⟨RX10, "could", "(I)I"⟩
abbrev cX10_would : ByteArray := prog_1_method_21_code
def yX10_would : MethodName := ⟨RX10, "would", "(II)Z"⟩
abbrev cX10_when : ByteArray := prog_1_method_22_code
def yX10_when : MethodName := ⟨RX10, "when", "(II)I"⟩
abbrev cX10_vows : ByteArray := prog_1_method_23_code
def yX10_vows : MethodName := ⟨RX10, "vows", "(IZ)I"⟩
abbrev cX10_sees : ByteArray := prog_1_method_24_code
def yX10_sees : MethodName := ⟨RX10, "sees", "(I)I"⟩
abbrev cX10_heard : ByteArray := prog_1_method_25_code
def yX10_heard : MethodName := ⟨RX10, "heard", "(I)I"⟩
abbrev cX10_news : ByteArray := prog_1_method_26_code
def yX10_news : MethodName := ⟨RX10, "news", "()I"⟩
abbrev cX10_alone : ByteArray := prog_1_method_27_code
def yX10_alone : MethodName := ⟨RX10, "alone", "()I"⟩
abbrev cX10_reach : ByteArray := prog_1_method_28_code
def yX10_reach : MethodName := ⟨RX10, "reach", "(I)I"⟩
abbrev cX10_far : ByteArray := prog_1_method_29_code
def yX10_far : MethodName := ⟨RX10, "far", "(II)I"⟩
abbrev cX10_cuts : ByteArray := prog_1_method_30_code
def yX10_cuts : MethodName := ⟨RX10, "cuts", "()I"⟩
abbrev cX10_hub : ByteArray := prog_1_method_31_code
def yX10_hub : MethodName := ⟨RX10, "hub", "()I"⟩
abbrev cX10_links : ByteArray := prog_1_method_32_code
def yX10_links : MethodName := ⟨RX10, "links", "(I)I"⟩
abbrev cX10_see : ByteArray := prog_1_method_33_code
def yX10_see : MethodName := ⟨RX10, "see", "(IIZ)Z"⟩
abbrev cX10_who : ByteArray := prog_1_method_34_code
def yX10_who : MethodName := ⟨RX10, "who", "()I"⟩
abbrev cX10_ask : ByteArray := prog_1_method_35_code
def yX10_ask : MethodName := ⟨RX10, "ask", "()I"⟩
abbrev cX10_wide : ByteArray := prog_1_method_36_code
def yX10_wide : MethodName := ⟨RX10, "wide", "()I"⟩
abbrev cX10_has : ByteArray := prog_1_method_37_code
def yX10_has : MethodName := ⟨RX10, "has", "(IZ)I"⟩
abbrev cX10_sleeps : ByteArray := prog_1_method_38_code
def yX10_sleeps : MethodName := ⟨RX10, "sleeps", "(I)I"⟩
abbrev cX10_rich : ByteArray := prog_1_method_39_code
def yX10_rich : MethodName := ⟨RX10, "rich", "(Z)I"⟩
abbrev cX10_chance : ByteArray := prog_1_method_40_code
def yX10_chance : MethodName := ⟨RX10, "chance", "(II)I"⟩
abbrev cX10_rests : ByteArray := prog_1_method_41_code
def yX10_rests : MethodName := ⟨RX10, "rests", "(IIII)I"⟩
abbrev cX10_mornings : ByteArray := prog_1_method_42_code
def yX10_mornings : MethodName := ⟨RX10, "mornings", "(III)I"⟩
abbrev cX10_mark : ByteArray := prog_1_method_43_code
def yX10_mark : MethodName := ⟨RX10, "mark", "(IZ)Z"⟩
abbrev cX10_count : ByteArray := prog_1_method_44_code
def yX10_count : MethodName := ⟨RX10, "count", "(I)I"⟩
abbrev cX10_isFrom : ByteArray := prog_1_method_45_code
def yX10_isFrom : MethodName := ⟨RX10, "isFrom", "(III)Z"⟩
abbrev cX10_isIn : ByteArray := prog_1_method_46_code
def yX10_isIn : MethodName := ⟨RX10, "isIn", "(II)Z"⟩
abbrev cX10_orNone : ByteArray := prog_1_method_47_code
def yX10_orNone : MethodName := ⟨RX10, "orNone", "(I)I"⟩
abbrev cX10_pairsIn : ByteArray := prog_1_method_48_code
def yX10_pairsIn : MethodName := ⟨RX10, "pairsIn", "([I)I"⟩
abbrev cX10_thingsOf : ByteArray := prog_1_method_49_code
def yX10_thingsOf : MethodName := ⟨RX10, "thingsOf", "([II)I"⟩
abbrev cX10_worthOf : ByteArray := prog_1_method_50_code
def yX10_worthOf : MethodName := ⟨RX10, "worthOf", "(IZ)I"⟩
abbrev cX10_movedThings : ByteArray := prog_1_method_51_code
def yX10_movedThings : MethodName := ⟨RX10, "movedThings", "(LFirstChimney$State;)I"⟩
abbrev cX10_minutesTo : ByteArray := prog_1_method_52_code
def yX10_minutesTo : MethodName := ⟨RX10, "minutesTo", "(II)I"⟩
abbrev cX10_minutesOfAllTo : ByteArray := prog_1_method_53_code
def yX10_minutesOfAllTo : MethodName := ⟨RX10, "minutesOfAllTo", "(I)I"⟩
abbrev cX10_isGift : ByteArray := prog_1_method_54_code
def yX10_isGift : MethodName := ⟨RX10, "isGift", "(II)Z"⟩
abbrev cX10_fitsSeen : ByteArray := prog_1_method_55_code
def yX10_fitsSeen : MethodName := ⟨RX10, "fitsSeen", "(I)Z"⟩
abbrev cX10_leftAtWorst : ByteArray := prog_1_method_56_code
def yX10_leftAtWorst : MethodName := ⟨RX10, "leftAtWorst", "(III)I"⟩
abbrev cX10_isRest : ByteArray := prog_1_method_57_code
def yX10_isRest : MethodName := ⟨RX10, "isRest", "(IIII)Z"⟩
abbrev cX10_gets : ByteArray := prog_1_method_58_code
def yX10_gets : MethodName := ⟨RX10, "gets", "(IIIII)I"⟩
abbrev cX10_drawBelow : ByteArray := prog_1_method_59_code
def yX10_drawBelow : MethodName := ⟨RX10, "drawBelow", "(I)I"⟩
abbrev cX10_playDrawn : ByteArray := prog_1_method_60_code
def yX10_playDrawn : MethodName := ⟨RX10, "playDrawn", "()Z"⟩
def RX11 : String := "FirstChimneyModel"
def TX11 : u_T := fun k => match k with
  | 0 => ("FirstChimneyModel", "thrown", "I", false)
  | 1 => ("FirstChimneyModel", "tape", "[I", true)
  | 2 => ("FirstChimneyModel", "taped", "I", false)
  | 3 => ("FirstChimneyModel", "size", "I", false)
  | 4 => ("FirstChimneyModel", "sort", "[I", true)
  | 5 => ("FirstChimneyModel", "place", "[I", true)
  | 6 => ("FirstChimneyModel", "value", "[J", true)
  | 7 => ("FirstChimneyModel", "at", "I", false)
  | 8 => ("FirstChimneyModel", "fault", "I", false)
  | 9 => ("FirstChimneyModel", "words", "[J", true)
  | 10 => ("FirstChimneyModel", "lands", "[I", true)
  | 11 => ("FirstChimneyModel", "op", "[I", true)
  | 12 => ("FirstChimneyModel", "arg", "[I", true)
  | 13 => ("FirstChimneyModel", "codes", "I", false)
  | 14 => ("FirstChimneyModel", "names", "[J", true)
  | 15 => ("FirstChimneyModel", "readNames", "[J", true)
  | 16 => ("FirstChimneyModel", "nameOf", "[I", true)
  | 17 => ("FirstChimneyModel", "readNameOf", "[I", true)
  | 18 => ("FirstChimneyModel", "namesMany", "I", false)
  | 19 => ("FirstChimneyModel", "readMany", "I", false)
  | 20 => ("FirstChimneyModel", "once", "I", false)
  | 21 => ("FirstChimneyModel", "lines", "[I", true)
  | 22 => ("FirstChimneyModel", "facts", "[I", true)
  | 23 => ("FirstChimneyModel", "pile", "[I", true)
  | 24 => ("FirstChimneyModel", "state", "[I", true)
  | 25 => ("FirstChimneyModel", "undos", "I", false)
  | 26 => ("FirstChimneyModel", "isMarked", "[Z", true)
  | 27 => ("FirstChimneyModel", "told", "[I", true)
  | 28 => ("FirstChimneyModel", "can", "[Z", true)
  | _ => ("FirstChimneyModel", "g", "J", false)
def tyX11 : Nat → FieldType := fun k => match k with
  | 0 => .int
  | 1 => .array .int
  | 2 => .int
  | 3 => .int
  | 4 => .array .int
  | 5 => .array .int
  | 6 => .array .long
  | 7 => .int
  | 8 => .int
  | 9 => .array .long
  | 10 => .array .int
  | 11 => .array .int
  | 12 => .array .int
  | 13 => .int
  | 14 => .array .long
  | 15 => .array .long
  | 16 => .array .int
  | 17 => .array .int
  | 18 => .int
  | 19 => .int
  | 20 => .int
  | 21 => .array .int
  | 22 => .array .int
  | 23 => .array .int
  | 24 => .array .int
  | 25 => .int
  | 26 => .array .boolean
  | 27 => .array .int
  | 28 => .array .boolean
  | _ => .long
abbrev wsX110 : List Cond := u_ws RX11 TX11 30
theorem nmX11 : ∀ a, a < 30 → ∀ b, b < 30 → a ≠ b → (TX11 a).2.1 ≠ (TX11 b).2.1 := by decide +kernel
theorem tyX11_ok : ∀ k, k < 30 → parseFieldDescriptor (TX11 k).2.2.1 = some (tyX11 k) := by decide +kernel
abbrev cX11_thrown : ByteArray := prog_13_method_1_code
def yX11_thrown : MethodName := ⟨RX11, "thrown", "()I"⟩
abbrev cX11_feed : ByteArray := prog_13_method_2_code
def yX11_feed : MethodName := ⟨RX11, "feed", "(JJJ)I"⟩
abbrev cX11_lay : ByteArray := prog_13_method_3_code
def yX11_lay : MethodName := ⟨RX11, "lay", "(J)V"⟩
abbrev cX11_init : ByteArray := prog_13_method_4_code
def yX11_init : MethodName := ⟨RX11, "<init>", "()V"⟩
abbrev cX11_isLetter : ByteArray := prog_13_method_5_code
def yX11_isLetter : MethodName := ⟨RX11, "isLetter", "(I)Z"⟩
abbrev cX11_isDigit : ByteArray := prog_13_method_6_code
def yX11_isDigit : MethodName := ⟨RX11, "isDigit", "(I)Z"⟩
abbrev cX11_rank : ByteArray := prog_13_method_7_code
def yX11_rank : MethodName := ⟨RX11, "rank", "(I)I"⟩
abbrev cX11_isSignOf : ByteArray := prog_13_method_8_code
def yX11_isSignOf : MethodName := ⟨RX11, "isSignOf", "(I)Z"⟩
abbrev cX11_cutAll : ByteArray := prog_13_method_9_code
def yX11_cutAll : MethodName := ⟨RX11, "cutAll", "()V"⟩
abbrev cX11_wrong : ByteArray := prog_13_method_10_code
def yX11_wrong : MethodName := ⟨RX11, "wrong", "(I)V"⟩
abbrev cX11_isSign : ByteArray := prog_13_method_11_code
def yX11_isSign : MethodName := ⟨RX11, "isSign", "(I)Z"⟩
abbrev cX11_isWord : ByteArray := prog_13_method_12_code
def yX11_isWord : MethodName := ⟨RX11, "isWord", "(I)Z"⟩
abbrev cX11_takeSign : ByteArray := prog_13_method_13_code
def yX11_takeSign : MethodName := ⟨RX11, "takeSign", "(I)V"⟩
abbrev cX11_hasSign : ByteArray := prog_13_method_14_code
def yX11_hasSign : MethodName := ⟨RX11, "hasSign", "(I)Z"⟩
abbrev cX11_hasWord : ByteArray := prog_13_method_15_code
def yX11_hasWord : MethodName := ⟨RX11, "hasWord", "(I)Z"⟩
abbrev cX11_takeWord : ByteArray := prog_13_method_16_code
def yX11_takeWord : MethodName := ⟨RX11, "takeWord", "(I)V"⟩
abbrev cX11_within : ByteArray := prog_13_method_17_code
def yX11_within : MethodName := ⟨RX11, "within", "(III)Z"⟩
abbrev cX11_standsAsAlways : ByteArray := prog_13_method_18_code
def yX11_standsAsAlways : MethodName := ⟨RX11, "standsAsAlways", "(I)V"⟩
abbrev cX11_takeNumber : ByteArray := prog_13_method_19_code
def yX11_takeNumber : MethodName := ⟨RX11, "takeNumber", "(II)I"⟩
abbrev cX11_takeAfter : ByteArray := prog_13_method_20_code
def yX11_takeAfter : MethodName := ⟨RX11, "takeAfter", "(III)I"⟩
abbrev cX11_wordHere : ByteArray := prog_13_method_21_code
def yX11_wordHere : MethodName := ⟨RX11, "wordHere", "(II)I"⟩
abbrev cX11_takeOne : ByteArray := prog_13_method_22_code
def yX11_takeOne : MethodName := ⟨RX11, "takeOne", "(II)I"⟩
abbrev cX11_isName : ByteArray := prog_13_method_23_code
def yX11_isName : MethodName := ⟨RX11, "isName", "()Z"⟩
abbrev cX11_nameAt : ByteArray := prog_13_method_24_code
def yX11_nameAt : MethodName := ⟨RX11, "nameAt", "(Z)I"⟩
abbrev cX11_takeTold : ByteArray := prog_13_method_25_code
def yX11_takeTold : MethodName := ⟨RX11, "takeTold", "(ZII)I"⟩
abbrev cX11_land : ByteArray := prog_13_method_26_code
def yX11_land : MethodName := ⟨RX11, "land", "()I"⟩
abbrev cX11_readLine : ByteArray := prog_13_method_27_code
def yX11_readLine : MethodName := ⟨RX11, "readLine", "()V"⟩
abbrev cX11_readName : ByteArray := prog_13_method_28_code
def yX11_readName : MethodName := ⟨RX11, "readName", "(III)V"⟩
abbrev cX11_readPath : ByteArray := prog_13_method_29_code
def yX11_readPath : MethodName := ⟨RX11, "readPath", "()V"⟩
abbrev cX11_readOnce : ByteArray := prog_13_method_30_code
def yX11_readOnce : MethodName := ⟨RX11, "readOnce", "()V"⟩
abbrev cX11_morning : ByteArray := prog_13_method_31_code
def yX11_morning : MethodName := ⟨RX11, "morning", "()I"⟩
abbrev cX11_readMorning : ByteArray := prog_13_method_32_code
def yX11_readMorning : MethodName := ⟨RX11, "readMorning", "(II)V"⟩
abbrev cX11_emit : ByteArray := prog_13_method_33_code
def yX11_emit : MethodName := ⟨RX11, "emit", "(II)V"⟩
abbrev cX11_whole : ByteArray := prog_13_method_34_code
def yX11_whole : MethodName := ⟨RX11, "whole", "(I)V"⟩
abbrev cX11_test : ByteArray := prog_13_method_35_code
def yX11_test : MethodName := ⟨RX11, "test", "(I)V"⟩
abbrev cX11_sums : ByteArray := prog_13_method_36_code
def yX11_sums : MethodName := ⟨RX11, "sums", "(I)V"⟩
abbrev cX11_products : ByteArray := prog_13_method_37_code
def yX11_products : MethodName := ⟨RX11, "products", "(I)V"⟩
abbrev cX11_takePart : ByteArray := prog_13_method_38_code
def yX11_takePart : MethodName := ⟨RX11, "takePart", "(I)V"⟩
abbrev cX11_worthAt : ByteArray := prog_13_method_39_code
def yX11_worthAt : MethodName := ⟨RX11, "worthAt", "(I)I"⟩
abbrev cX11_both : ByteArray := prog_13_method_40_code
def yX11_both : MethodName := ⟨RX11, "both", "(III)I"⟩
abbrev cX11_copies : ByteArray := prog_13_method_41_code
def yX11_copies : MethodName := ⟨RX11, "copies", "(III)V"⟩
abbrev cX11_starts : ByteArray := prog_13_method_42_code
def yX11_starts : MethodName := ⟨RX11, "starts", "(I)V"⟩
abbrev cX11_begins : ByteArray := prog_13_method_43_code
def yX11_begins : MethodName := ⟨RX11, "begins", "()V"⟩
abbrev cX11_keeps : ByteArray := prog_13_method_44_code
def yX11_keeps : MethodName := ⟨RX11, "keeps", "()V"⟩
abbrev cX11_places : ByteArray := prog_13_method_45_code
def yX11_places : MethodName := ⟨RX11, "places", "()I"⟩
abbrev cX11_persons : ByteArray := prog_13_method_46_code
def yX11_persons : MethodName := ⟨RX11, "persons", "()I"⟩
abbrev cX11_things : ByteArray := prog_13_method_47_code
def yX11_things : MethodName := ⟨RX11, "things", "()I"⟩
abbrev cX11_smokeAt : ByteArray := prog_13_method_48_code
def yX11_smokeAt : MethodName := ⟨RX11, "smokeAt", "()I"⟩
abbrev cX11_pathsFrom : ByteArray := prog_13_method_49_code
def yX11_pathsFrom : MethodName := ⟨RX11, "pathsFrom", "(I)I"⟩
abbrev cX11_personOf : ByteArray := prog_13_method_50_code
def yX11_personOf : MethodName := ⟨RX11, "personOf", "(II)I"⟩
abbrev cX11_thingOf : ByteArray := prog_13_method_51_code
def yX11_thingOf : MethodName := ⟨RX11, "thingOf", "(II)I"⟩
abbrev cX11_isPlace : ByteArray := prog_13_method_52_code
def yX11_isPlace : MethodName := ⟨RX11, "isPlace", "(I)Z"⟩
abbrev cX11_isPerson : ByteArray := prog_13_method_53_code
def yX11_isPerson : MethodName := ⟨RX11, "isPerson", "(I)Z"⟩
abbrev cX11_isThing : ByteArray := prog_13_method_54_code
def yX11_isThing : MethodName := ⟨RX11, "isThing", "(I)Z"⟩
abbrev cX11_bits : ByteArray := prog_13_method_55_code
def yX11_bits : MethodName := ⟨RX11, "bits", "(I)I"⟩
abbrev cX11_awakeAt : ByteArray := prog_13_method_56_code
def yX11_awakeAt : MethodName := ⟨RX11, "awakeAt", "(I)I"⟩
abbrev cX11_isAwake : ByteArray := prog_13_method_57_code
def yX11_isAwake : MethodName := ⟨RX11, "isAwake", "(II)Z"⟩
abbrev cX11_isReady : ByteArray := prog_13_method_58_code
def yX11_isReady : MethodName := ⟨RX11, "isReady", "(II)Z"⟩
abbrev cX11_whoIn : ByteArray := prog_13_method_59_code
def yX11_whoIn : MethodName := ⟨RX11, "whoIn", "(II)I"⟩
abbrev cX11_benches : ByteArray := prog_13_method_60_code
def yX11_benches : MethodName := ⟨RX11, "benches", "()I"⟩
abbrev cX11_doesBind : ByteArray := prog_13_method_61_code
def yX11_doesBind : MethodName := ⟨RX11, "doesBind", "(IIIII)Z"⟩
abbrev cX11_mayWalk : ByteArray := prog_13_method_62_code
def yX11_mayWalk : MethodName := ⟨RX11, "mayWalk", "(III)Z"⟩
abbrev cX11_walks : ByteArray := prog_13_method_63_code
def yX11_walks : MethodName := ⟨RX11, "walks", "(III)V"⟩
abbrev cX11_mayGive : ByteArray := prog_13_method_64_code
def yX11_mayGive : MethodName := ⟨RX11, "mayGive", "(III)Z"⟩
abbrev cX11_gives : ByteArray := prog_13_method_65_code
def yX11_gives : MethodName := ⟨RX11, "gives", "(III)Z"⟩
abbrev cX11_mayVow : ByteArray := prog_13_method_66_code
def yX11_mayVow : MethodName := ⟨RX11, "mayVow", "(III)Z"⟩
abbrev cX11_vowsBy : ByteArray := prog_13_method_67_code
def yX11_vowsBy : MethodName := ⟨RX11, "vowsBy", "(III)Z"⟩
abbrev cX11_smokes : ByteArray := prog_13_method_68_code
def yX11_smokes : MethodName := ⟨RX11, "smokes", "(I)V"⟩
abbrev cX11_passes : ByteArray := prog_13_method_69_code
def yX11_passes : MethodName := ⟨RX11, "passes", "(I)Z"⟩
abbrev cX11_thingsWith : ByteArray := prog_13_method_70_code
def yX11_thingsWith : MethodName := ⟨RX11, "thingsWith", "(II)I"⟩
abbrev cX11_wrongThings : ByteArray := prog_13_method_71_code
def yX11_wrongThings : MethodName := ⟨RX11, "wrongThings", "(I)I"⟩
abbrev cX11_place : ByteArray := prog_13_method_72_code
def yX11_place : MethodName := ⟨RX11, "place", "(II)I"⟩
abbrev cX11_person : ByteArray := prog_13_method_73_code
def yX11_person : MethodName := ⟨RX11, "person", "(II)I"⟩
abbrev cX11_thing : ByteArray := prog_13_method_74_code
def yX11_thing : MethodName := ⟨RX11, "thing", "(II)I"⟩
abbrev cX11_walk : ByteArray := prog_13_method_75_code
def yX11_walk : MethodName := ⟨RX11, "walk", "(II)Z"⟩
abbrev cX11_give : ByteArray := prog_13_method_76_code
def yX11_give : MethodName := ⟨RX11, "give", "(II)I"⟩
abbrev cX11_vow : ByteArray := prog_13_method_77_code
def yX11_vow : MethodName := ⟨RX11, "vow", "(II)I"⟩
abbrev cX11_minute : ByteArray := prog_13_method_78_code
def yX11_minute : MethodName := ⟨RX11, "minute", "()Z"⟩
abbrev cX11_undo : ByteArray := prog_13_method_79_code
def yX11_undo : MethodName := ⟨RX11, "undo", "()Z"⟩
abbrev cX11_judged : ByteArray := prog_13_method_80_code
def yX11_judged : MethodName := ⟨RX11, "judged", "(I)I"⟩
abbrev cX11_onFrom : ByteArray := prog_13_method_81_code
def yX11_onFrom : MethodName := ⟨RX11, "onFrom", "(II)I"⟩
abbrev cX11_reachBy : ByteArray := prog_13_method_82_code
def yX11_reachBy : MethodName := ⟨RX11, "reachBy", "(II)I"⟩
abbrev cX11_farOf : ByteArray := prog_13_method_83_code
def yX11_farOf : MethodName := ⟨RX11, "farOf", "(II)I"⟩
abbrev cX11_reach : ByteArray := prog_13_method_84_code
def yX11_reach : MethodName := ⟨RX11, "reach", "(I)I"⟩
abbrev cX11_far : ByteArray := prog_13_method_85_code
def yX11_far : MethodName := ⟨RX11, "far", "(II)I"⟩
abbrev cX11_cuts : ByteArray := prog_13_method_86_code
def yX11_cuts : MethodName := ⟨RX11, "cuts", "()I"⟩
abbrev cX11_hub : ByteArray := prog_13_method_87_code
def yX11_hub : MethodName := ⟨RX11, "hub", "()I"⟩
abbrev cX11_links : ByteArray := prog_13_method_88_code
def yX11_links : MethodName := ⟨RX11, "links", "(I)I"⟩
abbrev cX11_wide : ByteArray := prog_13_method_89_code
def yX11_wide : MethodName := ⟨RX11, "wide", "()I"⟩
abbrev cX11_readyIn : ByteArray := prog_13_method_90_code
def yX11_readyIn : MethodName := ⟨RX11, "readyIn", "(I)I"⟩
abbrev cX11_paceOf : ByteArray := prog_13_method_91_code
def yX11_paceOf : MethodName := ⟨RX11, "paceOf", "(I)I"⟩
abbrev cX11_soonOf : ByteArray := prog_13_method_92_code
def yX11_soonOf : MethodName := ⟨RX11, "soonOf", "(II)I"⟩
abbrev cX11_told : ByteArray := prog_13_method_93_code
def yX11_told : MethodName := ⟨RX11, "told", "(I)I"⟩
abbrev cX11_soon : ByteArray := prog_13_method_94_code
def yX11_soon : MethodName := ⟨RX11, "soon", "(II)I"⟩
abbrev cX11_meet : ByteArray := prog_13_method_95_code
def yX11_meet : MethodName := ⟨RX11, "meet", "(II)I"⟩
abbrev cX11_all : ByteArray := prog_13_method_96_code
def yX11_all : MethodName := ⟨RX11, "all", "(I)I"⟩
abbrev cX11_tour : ByteArray := prog_13_method_97_code
def yX11_tour : MethodName := ⟨RX11, "tour", "(I)I"⟩
abbrev cX11_intime : ByteArray := prog_13_method_98_code
def yX11_intime : MethodName := ⟨RX11, "intime", "(II)Z"⟩
abbrev cX11_back : ByteArray := prog_13_method_99_code
def yX11_back : MethodName := ⟨RX11, "back", "()I"⟩
abbrev cX11_could : ByteArray := prog_13_method_100_code
def yX11_could : MethodName := ⟨RX11, "could", "(I)I"⟩
abbrev cX11_wouldBind : ByteArray := prog_13_method_101_code
def yX11_wouldBind : MethodName := ⟨RX11, "wouldBind", "(III)Z"⟩
abbrev cX11_isGift : ByteArray := prog_13_method_102_code
def yX11_isGift : MethodName := ⟨RX11, "isGift", "(II)Z"⟩
abbrev cX11_would : ByteArray := prog_13_method_103_code
def yX11_would : MethodName := ⟨RX11, "would", "(II)Z"⟩
abbrev cX11_when : ByteArray := prog_13_method_104_code
def yX11_when : MethodName := ⟨RX11, "when", "(II)I"⟩
abbrev cX11_vows : ByteArray := prog_13_method_105_code
def yX11_vows : MethodName := ⟨RX11, "vows", "(IZ)I"⟩
abbrev cX11_sees : ByteArray := prog_13_method_106_code
def yX11_sees : MethodName := ⟨RX11, "sees", "(I)I"⟩
abbrev cX11_heard : ByteArray := prog_13_method_107_code
def yX11_heard : MethodName := ⟨RX11, "heard", "(I)I"⟩
abbrev cX11_heardOfAll : ByteArray := prog_13_method_108_code
def yX11_heardOfAll : MethodName := ⟨RX11, "heardOfAll", "(I)I"⟩
abbrev cX11_triesNow : ByteArray := prog_13_method_109_code
def yX11_triesNow : MethodName := ⟨RX11, "triesNow", "()V"⟩
abbrev cX11_news : ByteArray := prog_13_method_110_code
def yX11_news : MethodName := ⟨RX11, "news", "()I"⟩
abbrev cX11_alone : ByteArray := prog_13_method_111_code
def yX11_alone : MethodName := ⟨RX11, "alone", "()I"⟩
abbrev cX11_see : ByteArray := prog_13_method_112_code
def yX11_see : MethodName := ⟨RX11, "see", "(IIZ)Z"⟩
abbrev cX11_whoNow : ByteArray := prog_13_method_113_code
def yX11_whoNow : MethodName := ⟨RX11, "whoNow", "()I"⟩
abbrev cX11_who : ByteArray := prog_13_method_114_code
def yX11_who : MethodName := ⟨RX11, "who", "()I"⟩
abbrev cX11_ask : ByteArray := prog_13_method_115_code
def yX11_ask : MethodName := ⟨RX11, "ask", "()I"⟩
abbrev cX11_worthOf : ByteArray := prog_13_method_116_code
def yX11_worthOf : MethodName := ⟨RX11, "worthOf", "(IZ)I"⟩
abbrev cX11_has : ByteArray := prog_13_method_117_code
def yX11_has : MethodName := ⟨RX11, "has", "(IZ)I"⟩
abbrev cX11_sleeps : ByteArray := prog_13_method_118_code
def yX11_sleeps : MethodName := ⟨RX11, "sleeps", "(I)I"⟩
abbrev cX11_rich : ByteArray := prog_13_method_119_code
def yX11_rich : MethodName := ⟨RX11, "rich", "(Z)I"⟩
abbrev cX11_chance : ByteArray := prog_13_method_120_code
def yX11_chance : MethodName := ⟨RX11, "chance", "(II)I"⟩
abbrev cX11_getsBy : ByteArray := prog_13_method_121_code
def yX11_getsBy : MethodName := ⟨RX11, "getsBy", "(IIIII)I"⟩
abbrev cX11_rests : ByteArray := prog_13_method_122_code
def yX11_rests : MethodName := ⟨RX11, "rests", "(IIII)I"⟩
abbrev cX11_draw : ByteArray := prog_13_method_123_code
def yX11_draw : MethodName := ⟨RX11, "draw", "(I)I"⟩
abbrev cX11_drawsDeed : ByteArray := prog_13_method_124_code
def yX11_drawsDeed : MethodName := ⟨RX11, "drawsDeed", "()Z"⟩
abbrev cX11_mornings : ByteArray := prog_13_method_125_code
def yX11_mornings : MethodName := ⟨RX11, "mornings", "(III)I"⟩
abbrev cX11_mark : ByteArray := prog_13_method_126_code
def yX11_mark : MethodName := ⟨RX11, "mark", "(IZ)Z"⟩
abbrev cX11_pairsOf : ByteArray := prog_13_method_127_code
def yX11_pairsOf : MethodName := ⟨RX11, "pairsOf", "(I)I"⟩
abbrev cX11_count : ByteArray := prog_13_method_128_code
def yX11_count : MethodName := ⟨RX11, "count", "(I)I"⟩
def TJx145de : u_T := fun k => match k with
  | _ => ("", "", "", false)
def tyJx145de : Nat → FieldType := fun k => match k with
  | _ => .int
theorem nmJx145de : ∀ a, a < 0 → ∀ b, b < 0 → a ≠ b → (TJx145de a).2.1 ≠ (TJx145de b).2.1 := by decide +kernel
def TJx9f9b0 : u_T := fun k => match k with
  | _ => ("", "", "", false)
def tyJx9f9b0 : Nat → FieldType := fun k => match k with
  | _ => .int
theorem nmJx9f9b0 : ∀ a, a < 0 → ∀ b, b < 0 → a ≠ b → (TJx9f9b0 a).2.1 ≠ (TJx9f9b0 b).2.1 := by decide +kernel
def RJ11 : String := "java/lang/Character"
def TJ11 : u_T := fun k => match k with
  | _ => ("", "", "", false)
def tyJ11 : Nat → FieldType := fun k => match k with
  | _ => .int
abbrev wsJ110 : List Cond := u_ws RJ11 TJ11 0
theorem nmJ11 : ∀ a, a < 0 → ∀ b, b < 0 → a ≠ b → (TJ11 a).2.1 ≠ (TJ11 b).2.1 := by decide +kernel
theorem tyJ11_ok : ∀ k, k < 0 → parseFieldDescriptor (TJ11 k).2.2.1 = some (tyJ11 k) := by decide +kernel
abbrev cJ11_isValidCodePoint_9a6ad : ByteArray := prog_16_method_11_code
def yJ11_isValidCodePoint_9a6ad : MethodName := ⟨RJ11, "isValidCodePoint", "(I)Z"⟩
abbrev cJ11_highSurrogate_5068e : ByteArray := prog_16_method_28_code
def yJ11_highSurrogate_5068e : MethodName := ⟨RJ11, "highSurrogate", "(I)C"⟩
abbrev cJ11_lowSurrogate_5068e : ByteArray := prog_16_method_29_code
def yJ11_lowSurrogate_5068e : MethodName := ⟨RJ11, "lowSurrogate", "(I)C"⟩
def RJ6 : String := "java/lang/Integer"
def TJ6 : u_T := fun k => match k with
  | _ => ("", "", "", false)
def tyJ6 : Nat → FieldType := fun k => match k with
  | _ => .int
abbrev wsJ60 : List Cond := u_ws RJ6 TJ6 0
theorem nmJ6 : ∀ a, a < 0 → ∀ b, b < 0 → a ≠ b → (TJ6 a).2.1 ≠ (TJ6 b).2.1 := by decide +kernel
theorem tyJ6_ok : ∀ k, k < 0 → parseFieldDescriptor (TJ6 k).2.2.1 = some (tyJ6 k) := by decide +kernel
abbrev cJ6_bitCount_0f7a4 : ByteArray := prog_19_method_49_code
def yJ6_bitCount_0f7a4 : MethodName := ⟨RJ6, "bitCount", "(I)I"⟩
def RJ9 : String := "java/lang/Math"
def TJ9 : u_T := fun k => match k with
  | _ => ("", "", "", false)
def tyJ9 : Nat → FieldType := fun k => match k with
  | _ => .int
abbrev wsJ90 : List Cond := u_ws RJ9 TJ9 0
theorem nmJ9 : ∀ a, a < 0 → ∀ b, b < 0 → a ≠ b → (TJ9 a).2.1 ≠ (TJ9 b).2.1 := by decide +kernel
theorem tyJ9_ok : ∀ k, k < 0 → parseFieldDescriptor (TJ9 k).2.2.1 = some (tyJ9 k) := by decide +kernel
abbrev cJ9_max_7cf53 : ByteArray := prog_20_method_65_code
def yJ9_max_7cf53 : MethodName := ⟨RJ9, "max", "(II)I"⟩
abbrev cJ9_min_7cf53 : ByteArray := prog_20_method_69_code
def yJ9_min_7cf53 : MethodName := ⟨RJ9, "min", "(II)I"⟩
def RJ0 : String := "java/lang/String"
def TJ0 : u_T := fun k => match k with
  | _ => ("", "", "", false)
def tyJ0 : Nat → FieldType := fun k => match k with
  | _ => .int
abbrev wsJ00 : List Cond := u_ws RJ0 TJ0 0
theorem nmJ0 : ∀ a, a < 0 → ∀ b, b < 0 → a ≠ b → (TJ0 a).2.1 ≠ (TJ0 b).2.1 := by decide +kernel
theorem tyJ0_ok : ∀ k, k < 0 → parseFieldDescriptor (TJ0 k).2.2.1 = some (tyJ0 k) := by decide +kernel
abbrev cJ0_length_8abf5 : ByteArray := prog_22_method_54_code
def yJ0_length_8abf5 : MethodName := ⟨RJ0, "length", "()I"⟩
abbrev cJ0_charAt_5068e : ByteArray := prog_22_method_56_code
def yJ0_charAt_5068e : MethodName := ⟨RJ0, "charAt", "(I)C"⟩
abbrev cJ0_indexOf_0f7a4 : ByteArray := prog_22_method_79_code
def yJ0_indexOf_0f7a4 : MethodName := ⟨RJ0, "indexOf", "(I)I"⟩
abbrev cJ0_indexOf_7cf53 : ByteArray := prog_22_method_80_code
def yJ0_indexOf_7cf53 : MethodName := ⟨RJ0, "indexOf", "(II)I"⟩
abbrev cJ0_coder_7d493 : ByteArray := prog_22_method_152_code
def yJ0_coder_7d493 : MethodName := ⟨RJ0, "coder", "()B"⟩
abbrev cJ0_isLatin1_aae02 : ByteArray := prog_22_method_154_code
def yJ0_isLatin1_aae02 : MethodName := ⟨RJ0, "isLatin1", "()Z"⟩
abbrev cJ0_checkIndex_df160 : ByteArray := prog_22_method_155_code
def yJ0_checkIndex_df160 : MethodName := ⟨RJ0, "checkIndex", "(II)V"⟩
abbrev cJ0_checkBoundsBeginEnd_23922 : ByteArray := prog_22_method_158_code
def yJ0_checkBoundsBeginEnd_23922 : MethodName := ⟨RJ0, "checkBoundsBeginEnd", "(III)V"⟩
def RJ1 : String := "java/lang/StringLatin1"
def TJ1 : u_T := fun k => match k with
  | _ => ("", "", "", false)
def tyJ1 : Nat → FieldType := fun k => match k with
  | _ => .int
abbrev wsJ10 : List Cond := u_ws RJ1 TJ1 0
theorem nmJ1 : ∀ a, a < 0 → ∀ b, b < 0 → a ≠ b → (TJ1 a).2.1 ≠ (TJ1 b).2.1 := by decide +kernel
theorem tyJ1_ok : ∀ k, k < 0 → parseFieldDescriptor (TJ1 k).2.2.1 = some (tyJ1 k) := by decide +kernel
abbrev cJ1_charAt_3b067 : ByteArray := prog_23_method_2_code
def yJ1_charAt_3b067 : MethodName := ⟨RJ1, "charAt", "([BI)C"⟩
abbrev cJ1_canEncode_9a6ad : ByteArray := prog_23_method_4_code
def yJ1_canEncode_9a6ad : MethodName := ⟨RJ1, "canEncode", "(I)Z"⟩
abbrev cJ1_indexOf_4cfef : ByteArray := prog_23_method_22_code
def yJ1_indexOf_4cfef : MethodName := ⟨RJ1, "indexOf", "([BIII)I"⟩
abbrev cJ1_indexOfChar_4cfef : ByteArray := prog_23_method_23_code
def yJ1_indexOfChar_4cfef : MethodName := ⟨RJ1, "indexOfChar", "([BIII)I"⟩
def RJ2 : String := "java/lang/StringUTF16"
def TJ2 : u_T := fun k => match k with
  | _ => ("", "", "", false)
def tyJ2 : Nat → FieldType := fun k => match k with
  | _ => .int
abbrev wsJ20 : List Cond := u_ws RJ2 TJ2 0
theorem nmJ2 : ∀ a, a < 0 → ∀ b, b < 0 → a ≠ b → (TJ2 a).2.1 ≠ (TJ2 b).2.1 := by decide +kernel
theorem tyJ2_ok : ∀ k, k < 0 → parseFieldDescriptor (TJ2 k).2.2.1 = some (tyJ2 k) := by decide +kernel
abbrev cJ2_getChar_3b067 : ByteArray := prog_24_method_5_code
def yJ2_getChar_3b067 : MethodName := ⟨RJ2, "getChar", "([BI)C"⟩
abbrev cJ2_length_9d52b : ByteArray := prog_24_method_6_code
def yJ2_length_9d52b : MethodName := ⟨RJ2, "length", "([B)I"⟩
abbrev cJ2_indexOf_4cfef : ByteArray := prog_24_method_40_code
def yJ2_indexOf_4cfef : MethodName := ⟨RJ2, "indexOf", "([BIII)I"⟩
abbrev cJ2_indexOfChar_4cfef : ByteArray := prog_24_method_47_code
def yJ2_indexOfChar_4cfef : MethodName := ⟨RJ2, "indexOfChar", "([BIII)I"⟩
abbrev cJ2_indexOfCharUnsafe_4cfef : ByteArray := prog_24_method_48_code
def yJ2_indexOfCharUnsafe_4cfef : MethodName := ⟨RJ2, "indexOfCharUnsafe", "([BIII)I"⟩
abbrev cJ2_indexOfSupplementary_4cfef : ByteArray := prog_24_method_49_code
def yJ2_indexOfSupplementary_4cfef : MethodName := ⟨RJ2, "indexOfSupplementary", "([BIII)I"⟩
abbrev cJ2_charAt_3b067 : ByteArray := prog_24_method_83_code
def yJ2_charAt_3b067 : MethodName := ⟨RJ2, "charAt", "([BI)C"⟩
abbrev cJ2_checkIndex_2214a : ByteArray := prog_24_method_91_code
def yJ2_checkIndex_2214a : MethodName := ⟨RJ2, "checkIndex", "(I[B)V"⟩
abbrev cJ2_checkBoundsBeginEnd_d044e : ByteArray := prog_24_method_93_code
def yJ2_checkBoundsBeginEnd_d044e : MethodName := ⟨RJ2, "checkBoundsBeginEnd", "(II[B)V"⟩
def RJ10 : String := "java/lang/System"
def TJ10 : u_T := fun k => match k with
  | _ => ("", "", "", false)
def tyJ10 : Nat → FieldType := fun k => match k with
  | _ => .int
abbrev wsJ100 : List Cond := u_ws RJ10 TJ10 0
theorem nmJ10 : ∀ a, a < 0 → ∀ b, b < 0 → a ≠ b → (TJ10 a).2.1 ≠ (TJ10 b).2.1 := by decide +kernel
theorem tyJ10_ok : ∀ k, k < 0 → parseFieldDescriptor (TJ10 k).2.2.1 = some (tyJ10 k) := by decide +kernel
def TJx3cf43 : u_T := fun k => match k with
  | _ => ("", "", "", false)
def tyJx3cf43 : Nat → FieldType := fun k => match k with
  | _ => .int
theorem nmJx3cf43 : ∀ a, a < 0 → ∀ b, b < 0 → a ≠ b → (TJx3cf43 a).2.1 ≠ (TJx3cf43 b).2.1 := by decide +kernel
def RJ7 : String := "java/util/Arrays"
def TJ7 : u_T := fun k => match k with
  | _ => ("", "", "", false)
def tyJ7 : Nat → FieldType := fun k => match k with
  | _ => .int
abbrev wsJ70 : List Cond := u_ws RJ7 TJ7 0
theorem nmJ7 : ∀ a, a < 0 → ∀ b, b < 0 → a ≠ b → (TJ7 a).2.1 ≠ (TJ7 b).2.1 := by decide +kernel
theorem tyJ7_ok : ∀ k, k < 0 → parseFieldDescriptor (TJ7 k).2.2.1 = some (tyJ7 k) := by decide +kernel
abbrev cJ7_fill_53178 : ByteArray := prog_29_method_103_code
def yJ7_fill_53178 : MethodName := ⟨RJ7, "fill", "([II)V"⟩
def RJ3 : String := "jdk/internal/util/Preconditions"
def TJ3 : u_T := fun k => match k with
  | _ => ("", "", "", false)
def tyJ3 : Nat → FieldType := fun k => match k with
  | _ => .int
abbrev wsJ30 : List Cond := u_ws RJ3 TJ3 0
theorem nmJ3 : ∀ a, a < 0 → ∀ b, b < 0 → a ≠ b → (TJ3 a).2.1 ≠ (TJ3 b).2.1 := by decide +kernel
theorem tyJ3_ok : ∀ k, k < 0 → parseFieldDescriptor (TJ3 k).2.2.1 = some (tyJ3 k) := by decide +kernel
abbrev cJ3_checkIndex_8e157 : ByteArray := prog_31_method_11_code
def yJ3_checkIndex_8e157 : MethodName := ⟨RJ3, "checkIndex", "(IILjava/util/function/BiFunction;)I"⟩
abbrev cJ3_checkFromToIndex_8c36e : ByteArray := prog_31_method_12_code
def yJ3_checkFromToIndex_8c36e : MethodName := ⟨RJ3, "checkFromToIndex", "(IIILjava/util/function/BiFunction;)I"⟩
def RL : String := "FirstChimneyLaw"
abbrev cL_rests : ByteArray := method_3_code
def yL_rests : MethodName := ⟨RL, "rests", "(LFirstChimney;IIII[J)I"⟩
abbrev cL_law : ByteArray := code
def yL_law : MethodName := ⟨RL, "law", "([I)Z"⟩
abbrev vwCl : List vw_C := [(RX0, TX0, 15), (RX1, TX1, 3), (RX2, TX2, 3), (RX3, TX3, 4), (RX4, TX4, 6), (RX5, TX5, 4), (RX6, TX6, 4), (RX7, TX7, 9), (RX8, TX8, 8), (RX9, TX9, 3), (RX10, TX10, 12), (RX11, TX11, 30)]
end
section
/-! ===== the methods, and what the tables say of each ===== -/
/-- the tables' words that hold everywhere -/
def fc_G : List Cond := lw_tbl.filter goodWord
theorem fc_G_of {w : Cond} (i : Nat) (h : lw_tbl[i]? = some w) (hg : goodWord w = true) : w ∈ fc_G := List.mem_filter.mpr ⟨List.mem_of_getElem? h, hg⟩
/-- a method: name, code, locals, kind of answer -/
abbrev fc_M : Type := MethodName × ByteArray × Nat × Option FieldType
/-- what the tables say of a callee of n parameters -/
def fc_mw (z : fc_M) (n : Nat) : Prop := Cond.code z.1 z.2.1 z.2.2.1 z.2.2.2 ∈ fc_G ∧ Cond.initialized z.1.cls ∈ fc_G ∧ (z.1.cls ≠ "java/lang/invoke/MethodHandle" ∧ z.1.cls ≠ "java/lang/invoke/VarHandle" ∧ (parseMethodDescriptor z.1.desc).map (fun d => d.parameters.length) = some n) ∧ z.2.2.1 ≤ 45
def mX0_clear : fc_M := (yX0_clear, cX0_clear, 1, none)
def mX0_indexOf : fc_M := (yX0_indexOf, cX0_indexOf, 5, some .int)
def mX0_isTold : fc_M := (yX0_isTold, cX0_isTold, 3, some .boolean)
def mX0_hasPlace : fc_M := (yX0_hasPlace, cX0_hasPlace, 2, some .boolean)
def mX0_hasPerson : fc_M := (yX0_hasPerson, cX0_hasPerson, 2, some .boolean)
def mX0_hasThing : fc_M := (yX0_hasThing, cX0_hasThing, 2, some .boolean)
def mX0_isAwake : fc_M := (yX0_isAwake, cX0_isAwake, 3, some .boolean)
def mX0_sleepOf : fc_M := (yX0_sleepOf, cX0_sleepOf, 3, some .int)
def mX0_awakeBits : fc_M := (yX0_awakeBits, cX0_awakeBits, 4, some .int)
def mX1_read : fc_M := (yX1_read, cX1_read, 5, some .int)
def mX1_isNewName : fc_M := (yX1_isNewName, cX1_isNewName, 2, some .boolean)
def mX1_readPlace : fc_M := (yX1_readPlace, cX1_readPlace, 3, some .boolean)
def mX1_readPath : fc_M := (yX1_readPath, cX1_readPath, 5, some .boolean)
def mX1_readPerson : fc_M := (yX1_readPerson, cX1_readPerson, 5, some .boolean)
def mX1_readThing : fc_M := (yX1_readThing, cX1_readThing, 5, some .boolean)
def mX1_readSmoke : fc_M := (yX1_readSmoke, cX1_readSmoke, 3, some .boolean)
def mX1_readBinds : fc_M := (yX1_readBinds, cX1_readBinds, 3, some .boolean)
def mX2_write : fc_M := (yX2_write, cX2_write, 2, none)
def mX2_valueAt : fc_M := (yX2_valueAt, cX2_valueAt, 8, some .int)
def mX2_operand : fc_M := (yX2_operand, cX2_operand, 5, some .int)
def mX2_joined : fc_M := (yX2_joined, cX2_joined, 3, some .int)
def mX3_read : fc_M := (yX3_read, cX3_read, 4, some .boolean)
def mX3_readPart : fc_M := (yX3_readPart, cX3_readPart, 5, some .boolean)
def mX3_readBehind : fc_M := (yX3_readBehind, cX3_readBehind, 5, some .boolean)
def mX3_closeNots : fc_M := (yX3_closeNots, cX3_closeNots, 2, none)
def mX3_await : fc_M := (yX3_await, cX3_await, 2, none)
def mX3_writeDown : fc_M := (yX3_writeDown, cX3_writeDown, 3, none)
def mX3_rankOf : fc_M := (yX3_rankOf, cX3_rankOf, 1, some .int)
def mX4_forget : fc_M := (yX4_forget, cX4_forget, 2, none)
def mX4_keep : fc_M := (yX4_keep, cX4_keep, 2, none)
def mX4_bringBack : fc_M := (yX4_bringBack, cX4_bringBack, 2, some .boolean)
def mX4_lay : fc_M := (yX4_lay, cX4_lay, 4, none)
def mX4_goBack : fc_M := (yX4_goBack, cX4_goBack, 4, some .boolean)
def mX5_read : fc_M := (yX5_read, cX5_read, 4, some .int)
def mX5_readLine : fc_M := (yX5_readLine, cX5_readLine, 4, some .boolean)
def mX5_readNames : fc_M := (yX5_readNames, cX5_readNames, 6, some .boolean)
def mX5_play : fc_M := (yX5_play, cX5_play, 6, some .int)
def mX6_add : fc_M := (yX6_add, cX6_add, 4, some .boolean)
def mX6_copy : fc_M := (yX6_copy, cX6_copy, 3, none)
def mX7_begin : fc_M := (yX7_begin, cX7_begin, 3, none)
def mX7_copy : fc_M := (yX7_copy, cX7_copy, 2, none)
def mX7_bitsAt : fc_M := (yX7_bitsAt, cX7_bitsAt, 5, some .int)
def mX7_strayThings : fc_M := (yX7_strayThings, cX7_strayThings, 4, some .int)
def mX7_newsOfAll : fc_M := (yX7_newsOfAll, cX7_newsOfAll, 4, some .int)
def mX7_isReady : fc_M := (yX7_isReady, cX7_isReady, 3, some .boolean)
def mX7_minutesOver : fc_M := (yX7_minutesOver, cX7_minutesOver, 5, some .int)
def mX7_canWalk : fc_M := (yX7_canWalk, cX7_canWalk, 4, some .boolean)
def mX7_goTo : fc_M := (yX7_goTo, cX7_goTo, 4, none)
def mX7_canGive : fc_M := (yX7_canGive, cX7_canGive, 5, some .boolean)
def mX7_handOver : fc_M := (yX7_handOver, cX7_handOver, 5, some .boolean)
def mX7_canVow : fc_M := (yX7_canVow, cX7_canVow, 4, some .boolean)
def mX7_pledge : fc_M := (yX7_pledge, cX7_pledge, 5, some .boolean)
def mX7_giftBinds : fc_M := (yX7_giftBinds, cX7_giftBinds, 5, some .boolean)
def mX7_isBinding : fc_M := (yX7_isBinding, cX7_isBinding, 9, some .boolean)
def mX7_pass : fc_M := (yX7_pass, cX7_pass, 3, some .boolean)
def mX7_shareNews : fc_M := (yX7_shareNews, cX7_shareNews, 5, none)
def mX7_riseSmoke : fc_M := (yX7_riseSmoke, cX7_riseSmoke, 2, none)
def mX8_put : fc_M := (yX8_put, cX8_put, 5, none)
def mX8_clear : fc_M := (yX8_clear, cX8_clear, 1, none)
def mX8_open : fc_M := (yX8_open, cX8_open, 1, none)
def mX8_next : fc_M := (yX8_next, cX8_next, 1, none)
def mX8_readWord : fc_M := (yX8_readWord, cX8_readWord, 2, none)
def mX8_readNumber : fc_M := (yX8_readNumber, cX8_readNumber, 1, none)
def mX8_cellIn : fc_M := (yX8_cellIn, cX8_cellIn, 7, some .int)
def mX8_fail : fc_M := (yX8_fail, cX8_fail, 2, some .boolean)
def mX8_take : fc_M := (yX8_take, cX8_take, 2, some .boolean)
def mX8_isNumber : fc_M := (yX8_isNumber, cX8_isNumber, 3, some .boolean)
def mX8_known : fc_M := (yX8_known, cX8_known, 4, some .int)
def mX9_measure : fc_M := (yX9_measure, cX9_measure, 3, none)
def mX9_measureFrom : fc_M := (yX9_measureFrom, cX9_measureFrom, 7, none)
def mX9_neighbours : fc_M := (yX9_neighbours, cX9_neighbours, 4, some .int)
def mX9_spread : fc_M := (yX9_spread, cX9_spread, 6, some .int)
def mX9_isCut : fc_M := (yX9_isCut, cX9_isCut, 5, some .boolean)
def mX9_farthestFrom : fc_M := (yX9_farthestFrom, cX9_farthestFrom, 5, some .int)
def mX9_pathsOfTour : fc_M := (yX9_pathsOfTour, cX9_pathsOfTour, 5, some .int)
def mX9_stepOn : fc_M := (yX9_stepOn, cX9_stepOn, 5, none)
def mX10_feed : fc_M := (yX10_feed, cX10_feed, 7, some .int)
def mX10_land : fc_M := (yX10_land, cX10_land, 3, some .int)
def mX10_morning : fc_M := (yX10_morning, cX10_morning, 3, some .int)
def mX10_place : fc_M := (yX10_place, cX10_place, 3, some .int)
def mX10_person : fc_M := (yX10_person, cX10_person, 3, some .int)
def mX10_thing : fc_M := (yX10_thing, cX10_thing, 3, some .int)
def mX10_walk : fc_M := (yX10_walk, cX10_walk, 3, some .boolean)
def mX10_give : fc_M := (yX10_give, cX10_give, 3, some .int)
def mX10_vow : fc_M := (yX10_vow, cX10_vow, 3, some .int)
def mX10_minute : fc_M := (yX10_minute, cX10_minute, 1, some .boolean)
def mX10_undo : fc_M := (yX10_undo, cX10_undo, 1, some .boolean)
def mX10_judged : fc_M := (yX10_judged, cX10_judged, 6, some .int)
def mX10_soon : fc_M := (yX10_soon, cX10_soon, 3, some .int)
def mX10_meet : fc_M := (yX10_meet, cX10_meet, 5, some .int)
def mX10_all : fc_M := (yX10_all, cX10_all, 6, some .int)
def mX10_tour : fc_M := (yX10_tour, cX10_tour, 3, some .int)
def mX10_intime : fc_M := (yX10_intime, cX10_intime, 4, some .boolean)
def mX10_back : fc_M := (yX10_back, cX10_back, 1, some .int)
def mX10_could : fc_M := (yX10_could, cX10_could, 4, some .int)
def mX10_would : fc_M := (yX10_would, cX10_would, 3, some .boolean)
def mX10_when : fc_M := (yX10_when, cX10_when, 4, some .int)
def mX10_vows : fc_M := (yX10_vows, cX10_vows, 3, some .int)
def mX10_sees : fc_M := (yX10_sees, cX10_sees, 5, some .int)
def mX10_heard : fc_M := (yX10_heard, cX10_heard, 2, some .int)
def mX10_news : fc_M := (yX10_news, cX10_news, 2, some .int)
def mX10_alone : fc_M := (yX10_alone, cX10_alone, 5, some .int)
def mX10_reach : fc_M := (yX10_reach, cX10_reach, 2, some .int)
def mX10_far : fc_M := (yX10_far, cX10_far, 3, some .int)
def mX10_cuts : fc_M := (yX10_cuts, cX10_cuts, 3, some .int)
def mX10_hub : fc_M := (yX10_hub, cX10_hub, 5, some .int)
def mX10_links : fc_M := (yX10_links, cX10_links, 2, some .int)
def mX10_see : fc_M := (yX10_see, cX10_see, 4, some .boolean)
def mX10_who : fc_M := (yX10_who, cX10_who, 3, some .int)
def mX10_ask : fc_M := (yX10_ask, cX10_ask, 7, some .int)
def mX10_wide : fc_M := (yX10_wide, cX10_wide, 6, some .int)
def mX10_has : fc_M := (yX10_has, cX10_has, 3, some .int)
def mX10_sleeps : fc_M := (yX10_sleeps, cX10_sleeps, 2, some .int)
def mX10_rich : fc_M := (yX10_rich, cX10_rich, 6, some .int)
def mX10_chance : fc_M := (yX10_chance, cX10_chance, 6, some .int)
def mX10_rests : fc_M := (yX10_rests, cX10_rests, 7, some .int)
def mX10_mornings : fc_M := (yX10_mornings, cX10_mornings, 6, some .int)
def mX10_mark : fc_M := (yX10_mark, cX10_mark, 3, some .boolean)
def mX10_count : fc_M := (yX10_count, cX10_count, 2, some .int)
def mX10_isFrom : fc_M := (yX10_isFrom, cX10_isFrom, 3, some .boolean)
def mX10_isIn : fc_M := (yX10_isIn, cX10_isIn, 2, some .boolean)
def mX10_orNone : fc_M := (yX10_orNone, cX10_orNone, 1, some .int)
def mX10_pairsIn : fc_M := (yX10_pairsIn, cX10_pairsIn, 3, some .int)
def mX10_thingsOf : fc_M := (yX10_thingsOf, cX10_thingsOf, 5, some .int)
def mX10_worthOf : fc_M := (yX10_worthOf, cX10_worthOf, 6, some .int)
def mX10_movedThings : fc_M := (yX10_movedThings, cX10_movedThings, 4, some .int)
def mX10_minutesTo : fc_M := (yX10_minutesTo, cX10_minutesTo, 3, some .int)
def mX10_minutesOfAllTo : fc_M := (yX10_minutesOfAllTo, cX10_minutesOfAllTo, 4, some .int)
def mX10_isGift : fc_M := (yX10_isGift, cX10_isGift, 3, some .boolean)
def mX10_fitsSeen : fc_M := (yX10_fitsSeen, cX10_fitsSeen, 4, some .boolean)
def mX10_leftAtWorst : fc_M := (yX10_leftAtWorst, cX10_leftAtWorst, 6, some .int)
def mX10_isRest : fc_M := (yX10_isRest, cX10_isRest, 6, some .boolean)
def mX10_gets : fc_M := (yX10_gets, cX10_gets, 5, some .int)
def mX10_drawBelow : fc_M := (yX10_drawBelow, cX10_drawBelow, 2, some .int)
def mX10_playDrawn : fc_M := (yX10_playDrawn, cX10_playDrawn, 5, some .boolean)
def mX11_thrown : fc_M := (yX11_thrown, cX11_thrown, 1, some .int)
def mX11_feed : fc_M := (yX11_feed, cX11_feed, 7, some .int)
def mX11_lay : fc_M := (yX11_lay, cX11_lay, 5, none)
def mX11_isLetter : fc_M := (yX11_isLetter, cX11_isLetter, 1, some .boolean)
def mX11_isDigit : fc_M := (yX11_isDigit, cX11_isDigit, 1, some .boolean)
def mX11_rank : fc_M := (yX11_rank, cX11_rank, 1, some .int)
def mX11_isSignOf : fc_M := (yX11_isSignOf, cX11_isSignOf, 1, some .boolean)
def mX11_cutAll : fc_M := (yX11_cutAll, cX11_cutAll, 7, none)
def mX11_wrong : fc_M := (yX11_wrong, cX11_wrong, 2, none)
def mX11_isSign : fc_M := (yX11_isSign, cX11_isSign, 2, some .boolean)
def mX11_isWord : fc_M := (yX11_isWord, cX11_isWord, 2, some .boolean)
def mX11_takeSign : fc_M := (yX11_takeSign, cX11_takeSign, 2, none)
def mX11_hasSign : fc_M := (yX11_hasSign, cX11_hasSign, 3, some .boolean)
def mX11_hasWord : fc_M := (yX11_hasWord, cX11_hasWord, 3, some .boolean)
def mX11_takeWord : fc_M := (yX11_takeWord, cX11_takeWord, 2, none)
def mX11_within : fc_M := (yX11_within, cX11_within, 3, some .boolean)
def mX11_standsAsAlways : fc_M := (yX11_standsAsAlways, cX11_standsAsAlways, 3, none)
def mX11_takeNumber : fc_M := (yX11_takeNumber, cX11_takeNumber, 3, some .int)
def mX11_takeAfter : fc_M := (yX11_takeAfter, cX11_takeAfter, 4, some .int)
def mX11_wordHere : fc_M := (yX11_wordHere, cX11_wordHere, 5, some .int)
def mX11_takeOne : fc_M := (yX11_takeOne, cX11_takeOne, 4, some .int)
def mX11_isName : fc_M := (yX11_isName, cX11_isName, 1, some .boolean)
def mX11_nameAt : fc_M := (yX11_nameAt, cX11_nameAt, 3, some .int)
def mX11_takeTold : fc_M := (yX11_takeTold, cX11_takeTold, 5, some .int)
def mX11_land : fc_M := (yX11_land, cX11_land, 2, some .int)
def mX11_readLine : fc_M := (yX11_readLine, cX11_readLine, 5, none)
def mX11_readName : fc_M := (yX11_readName, cX11_readName, 5, none)
def mX11_readPath : fc_M := (yX11_readPath, cX11_readPath, 3, none)
def mX11_readOnce : fc_M := (yX11_readOnce, cX11_readOnce, 2, none)
def mX11_morning : fc_M := (yX11_morning, cX11_morning, 3, some .int)
def mX11_readMorning : fc_M := (yX11_readMorning, cX11_readMorning, 3, none)
def mX11_emit : fc_M := (yX11_emit, cX11_emit, 3, none)
def mX11_whole : fc_M := (yX11_whole, cX11_whole, 3, none)
def mX11_test : fc_M := (yX11_test, cX11_test, 3, none)
def mX11_sums : fc_M := (yX11_sums, cX11_sums, 3, none)
def mX11_products : fc_M := (yX11_products, cX11_products, 2, none)
def mX11_takePart : fc_M := (yX11_takePart, cX11_takePart, 4, none)
def mX11_worthAt : fc_M := (yX11_worthAt, cX11_worthAt, 5, some .int)
def mX11_both : fc_M := (yX11_both, cX11_both, 3, some .int)
def mX11_copies : fc_M := (yX11_copies, cX11_copies, 5, none)
def mX11_starts : fc_M := (yX11_starts, cX11_starts, 3, none)
def mX11_begins : fc_M := (yX11_begins, cX11_begins, 2, none)
def mX11_keeps : fc_M := (yX11_keeps, cX11_keeps, 2, none)
def mX11_places : fc_M := (yX11_places, cX11_places, 1, some .int)
def mX11_persons : fc_M := (yX11_persons, cX11_persons, 1, some .int)
def mX11_things : fc_M := (yX11_things, cX11_things, 1, some .int)
def mX11_smokeAt : fc_M := (yX11_smokeAt, cX11_smokeAt, 1, some .int)
def mX11_pathsFrom : fc_M := (yX11_pathsFrom, cX11_pathsFrom, 2, some .int)
def mX11_personOf : fc_M := (yX11_personOf, cX11_personOf, 3, some .int)
def mX11_thingOf : fc_M := (yX11_thingOf, cX11_thingOf, 3, some .int)
def mX11_isPlace : fc_M := (yX11_isPlace, cX11_isPlace, 2, some .boolean)
def mX11_isPerson : fc_M := (yX11_isPerson, cX11_isPerson, 2, some .boolean)
def mX11_isThing : fc_M := (yX11_isThing, cX11_isThing, 2, some .boolean)
def mX11_bits : fc_M := (yX11_bits, cX11_bits, 3, some .int)
def mX11_awakeAt : fc_M := (yX11_awakeAt, cX11_awakeAt, 4, some .int)
def mX11_isAwake : fc_M := (yX11_isAwake, cX11_isAwake, 3, some .boolean)
def mX11_isReady : fc_M := (yX11_isReady, cX11_isReady, 3, some .boolean)
def mX11_whoIn : fc_M := (yX11_whoIn, cX11_whoIn, 5, some .int)
def mX11_benches : fc_M := (yX11_benches, cX11_benches, 3, some .int)
def mX11_doesBind : fc_M := (yX11_doesBind, cX11_doesBind, 7, some .boolean)
def mX11_mayWalk : fc_M := (yX11_mayWalk, cX11_mayWalk, 4, some .boolean)
def mX11_walks : fc_M := (yX11_walks, cX11_walks, 4, none)
def mX11_mayGive : fc_M := (yX11_mayGive, cX11_mayGive, 5, some .boolean)
def mX11_gives : fc_M := (yX11_gives, cX11_gives, 6, some .boolean)
def mX11_mayVow : fc_M := (yX11_mayVow, cX11_mayVow, 5, some .boolean)
def mX11_vowsBy : fc_M := (yX11_vowsBy, cX11_vowsBy, 5, some .boolean)
def mX11_smokes : fc_M := (yX11_smokes, cX11_smokes, 3, none)
def mX11_passes : fc_M := (yX11_passes, cX11_passes, 4, some .boolean)
def mX11_thingsWith : fc_M := (yX11_thingsWith, cX11_thingsWith, 5, some .int)
def mX11_wrongThings : fc_M := (yX11_wrongThings, cX11_wrongThings, 4, some .int)
def mX11_place : fc_M := (yX11_place, cX11_place, 3, some .int)
def mX11_person : fc_M := (yX11_person, cX11_person, 3, some .int)
def mX11_thing : fc_M := (yX11_thing, cX11_thing, 3, some .int)
def mX11_walk : fc_M := (yX11_walk, cX11_walk, 3, some .boolean)
def mX11_give : fc_M := (yX11_give, cX11_give, 3, some .int)
def mX11_vow : fc_M := (yX11_vow, cX11_vow, 3, some .int)
def mX11_minute : fc_M := (yX11_minute, cX11_minute, 1, some .boolean)
def mX11_undo : fc_M := (yX11_undo, cX11_undo, 1, some .boolean)
def mX11_judged : fc_M := (yX11_judged, cX11_judged, 10, some .int)
def mX11_onFrom : fc_M := (yX11_onFrom, cX11_onFrom, 5, some .int)
def mX11_reachBy : fc_M := (yX11_reachBy, cX11_reachBy, 5, some .int)
def mX11_farOf : fc_M := (yX11_farOf, cX11_farOf, 5, some .int)
def mX11_reach : fc_M := (yX11_reach, cX11_reach, 2, some .int)
def mX11_far : fc_M := (yX11_far, cX11_far, 4, some .int)
def mX11_cuts : fc_M := (yX11_cuts, cX11_cuts, 6, some .int)
def mX11_hub : fc_M := (yX11_hub, cX11_hub, 7, some .int)
def mX11_links : fc_M := (yX11_links, cX11_links, 2, some .int)
def mX11_wide : fc_M := (yX11_wide, cX11_wide, 7, some .int)
def mX11_readyIn : fc_M := (yX11_readyIn, cX11_readyIn, 4, some .int)
def mX11_paceOf : fc_M := (yX11_paceOf, cX11_paceOf, 2, some .int)
def mX11_soonOf : fc_M := (yX11_soonOf, cX11_soonOf, 4, some .int)
def mX11_told : fc_M := (yX11_told, cX11_told, 1, some .int)
def mX11_soon : fc_M := (yX11_soon, cX11_soon, 3, some .int)
def mX11_meet : fc_M := (yX11_meet, cX11_meet, 8, some .int)
def mX11_all : fc_M := (yX11_all, cX11_all, 8, some .int)
def mX11_tour : fc_M := (yX11_tour, cX11_tour, 8, some .int)
def mX11_intime : fc_M := (yX11_intime, cX11_intime, 3, some .boolean)
def mX11_back : fc_M := (yX11_back, cX11_back, 1, some .int)
def mX11_could : fc_M := (yX11_could, cX11_could, 4, some .int)
def mX11_wouldBind : fc_M := (yX11_wouldBind, cX11_wouldBind, 4, some .boolean)
def mX11_isGift : fc_M := (yX11_isGift, cX11_isGift, 3, some .boolean)
def mX11_would : fc_M := (yX11_would, cX11_would, 3, some .boolean)
def mX11_when : fc_M := (yX11_when, cX11_when, 4, some .int)
def mX11_vows : fc_M := (yX11_vows, cX11_vows, 3, some .int)
def mX11_sees : fc_M := (yX11_sees, cX11_sees, 5, some .int)
def mX11_heard : fc_M := (yX11_heard, cX11_heard, 2, some .int)
def mX11_heardOfAll : fc_M := (yX11_heardOfAll, cX11_heardOfAll, 4, some .int)
def mX11_triesNow : fc_M := (yX11_triesNow, cX11_triesNow, 1, none)
def mX11_news : fc_M := (yX11_news, cX11_news, 2, some .int)
def mX11_alone : fc_M := (yX11_alone, cX11_alone, 4, some .int)
def mX11_see : fc_M := (yX11_see, cX11_see, 5, some .boolean)
def mX11_whoNow : fc_M := (yX11_whoNow, cX11_whoNow, 6, some .int)
def mX11_who : fc_M := (yX11_who, cX11_who, 1, some .int)
def mX11_ask : fc_M := (yX11_ask, cX11_ask, 9, some .int)
def mX11_worthOf : fc_M := (yX11_worthOf, cX11_worthOf, 5, some .int)
def mX11_has : fc_M := (yX11_has, cX11_has, 3, some .int)
def mX11_sleeps : fc_M := (yX11_sleeps, cX11_sleeps, 3, some .int)
def mX11_rich : fc_M := (yX11_rich, cX11_rich, 4, some .int)
def mX11_chance : fc_M := (yX11_chance, cX11_chance, 8, some .int)
def mX11_getsBy : fc_M := (yX11_getsBy, cX11_getsBy, 5, some .int)
def mX11_rests : fc_M := (yX11_rests, cX11_rests, 12, some .int)
def mX11_draw : fc_M := (yX11_draw, cX11_draw, 2, some .int)
def mX11_drawsDeed : fc_M := (yX11_drawsDeed, cX11_drawsDeed, 5, some .boolean)
def mX11_mornings : fc_M := (yX11_mornings, cX11_mornings, 6, some .int)
def mX11_mark : fc_M := (yX11_mark, cX11_mark, 3, some .boolean)
def mX11_pairsOf : fc_M := (yX11_pairsOf, cX11_pairsOf, 4, some .int)
def mX11_count : fc_M := (yX11_count, cX11_count, 2, some .int)
def mJ11_isValidCodePoint_9a6ad : fc_M := (yJ11_isValidCodePoint_9a6ad, cJ11_isValidCodePoint_9a6ad, 2, some .boolean)
def mJ11_highSurrogate_5068e : fc_M := (yJ11_highSurrogate_5068e, cJ11_highSurrogate_5068e, 1, some .char)
def mJ11_lowSurrogate_5068e : fc_M := (yJ11_lowSurrogate_5068e, cJ11_lowSurrogate_5068e, 1, some .char)
def mJ6_bitCount_0f7a4 : fc_M := (yJ6_bitCount_0f7a4, cJ6_bitCount_0f7a4, 1, some .int)
def mJ9_max_7cf53 : fc_M := (yJ9_max_7cf53, cJ9_max_7cf53, 2, some .int)
def mJ9_min_7cf53 : fc_M := (yJ9_min_7cf53, cJ9_min_7cf53, 2, some .int)
def mJ0_length_8abf5 : fc_M := (yJ0_length_8abf5, cJ0_length_8abf5, 1, some .int)
def mJ0_charAt_5068e : fc_M := (yJ0_charAt_5068e, cJ0_charAt_5068e, 2, some .char)
def mJ0_indexOf_0f7a4 : fc_M := (yJ0_indexOf_0f7a4, cJ0_indexOf_0f7a4, 2, some .int)
def mJ0_indexOf_7cf53 : fc_M := (yJ0_indexOf_7cf53, cJ0_indexOf_7cf53, 3, some .int)
def mJ0_isLatin1_aae02 : fc_M := (yJ0_isLatin1_aae02, cJ0_isLatin1_aae02, 1, some .boolean)
def mJ0_checkIndex_df160 : fc_M := (yJ0_checkIndex_df160, cJ0_checkIndex_df160, 2, none)
def mJ0_checkBoundsBeginEnd_23922 : fc_M := (yJ0_checkBoundsBeginEnd_23922, cJ0_checkBoundsBeginEnd_23922, 3, none)
def mJ1_charAt_3b067 : fc_M := (yJ1_charAt_3b067, cJ1_charAt_3b067, 2, some .char)
def mJ1_canEncode_9a6ad : fc_M := (yJ1_canEncode_9a6ad, cJ1_canEncode_9a6ad, 1, some .boolean)
def mJ1_indexOf_4cfef : fc_M := (yJ1_indexOf_4cfef, cJ1_indexOf_4cfef, 4, some .int)
def mJ1_indexOfChar_4cfef : fc_M := (yJ1_indexOfChar_4cfef, cJ1_indexOfChar_4cfef, 6, some .int)
def mJ2_getChar_3b067 : fc_M := (yJ2_getChar_3b067, cJ2_getChar_3b067, 2, some .char)
def mJ2_length_9d52b : fc_M := (yJ2_length_9d52b, cJ2_length_9d52b, 1, some .int)
def mJ2_indexOf_4cfef : fc_M := (yJ2_indexOf_4cfef, cJ2_indexOf_4cfef, 4, some .int)
def mJ2_indexOfChar_4cfef : fc_M := (yJ2_indexOfChar_4cfef, cJ2_indexOfChar_4cfef, 4, some .int)
def mJ2_indexOfCharUnsafe_4cfef : fc_M := (yJ2_indexOfCharUnsafe_4cfef, cJ2_indexOfCharUnsafe_4cfef, 5, some .int)
def mJ2_indexOfSupplementary_4cfef : fc_M := (yJ2_indexOfSupplementary_4cfef, cJ2_indexOfSupplementary_4cfef, 7, some .int)
def mJ2_charAt_3b067 : fc_M := (yJ2_charAt_3b067, cJ2_charAt_3b067, 2, some .char)
def mJ2_checkIndex_2214a : fc_M := (yJ2_checkIndex_2214a, cJ2_checkIndex_2214a, 2, none)
def mJ2_checkBoundsBeginEnd_d044e : fc_M := (yJ2_checkBoundsBeginEnd_d044e, cJ2_checkBoundsBeginEnd_d044e, 3, none)
def mJ7_fill_53178 : fc_M := (yJ7_fill_53178, cJ7_fill_53178, 4, none)
def mJ3_checkIndex_8e157 : fc_M := (yJ3_checkIndex_8e157, cJ3_checkIndex_8e157, 3, some .int)
def mJ3_checkFromToIndex_8c36e : fc_M := (yJ3_checkFromToIndex_8c36e, cJ3_checkFromToIndex_8c36e, 4, some .int)
def fc_mp (t : fc_M × Nat × Nat) : Prop := fc_mw t.1 t.2.1 ∧ (t.2.2 = 0 → Cond.instanceMethod t.1.1 ∈ fc_G ∧ Cond.selects t.1.1.cls t.1.1 t.1.1 ∈ fc_G) ∧ (t.2.2 = 1 → Cond.static t.1.1 ∈ fc_G)
theorem kX0_clear : fc_mp (mX0_clear, 0, 0) := ⟨⟨fc_G_of 525 (by decide +kernel) rfl, fc_G_of 114 (by decide +kernel) rfl, by decide +kernel, by decide⟩, fun _ => ⟨fc_G_of 523 (by decide +kernel) rfl, fc_G_of 524 (by decide +kernel) rfl⟩, fun h => absurd h (by decide)⟩
theorem kX0_indexOf : fc_mp (mX0_indexOf, 3, 1) := ⟨⟨fc_G_of 677 (by decide +kernel) rfl, fc_G_of 114 (by decide +kernel) rfl, by decide +kernel, by decide⟩, fun h => absurd h (by decide), fun _ => fc_G_of 676 (by decide +kernel) rfl⟩
theorem kX0_isTold : fc_mp (mX0_isTold, 1, 0) := ⟨⟨fc_G_of 674 (by decide +kernel) rfl, fc_G_of 114 (by decide +kernel) rfl, by decide +kernel, by decide⟩, fun _ => ⟨fc_G_of 672 (by decide +kernel) rfl, fc_G_of 673 (by decide +kernel) rfl⟩, fun h => absurd h (by decide)⟩
theorem kX0_hasPlace : fc_mp (mX0_hasPlace, 1, 0) := ⟨⟨fc_G_of 807 (by decide +kernel) rfl, fc_G_of 114 (by decide +kernel) rfl, by decide +kernel, by decide⟩, fun _ => ⟨fc_G_of 805 (by decide +kernel) rfl, fc_G_of 806 (by decide +kernel) rfl⟩, fun h => absurd h (by decide)⟩
theorem kX0_hasPerson : fc_mp (mX0_hasPerson, 1, 0) := ⟨⟨fc_G_of 827 (by decide +kernel) rfl, fc_G_of 114 (by decide +kernel) rfl, by decide +kernel, by decide⟩, fun _ => ⟨fc_G_of 825 (by decide +kernel) rfl, fc_G_of 826 (by decide +kernel) rfl⟩, fun h => absurd h (by decide)⟩
theorem kX0_hasThing : fc_mp (mX0_hasThing, 1, 0) := ⟨⟨fc_G_of 845 (by decide +kernel) rfl, fc_G_of 114 (by decide +kernel) rfl, by decide +kernel, by decide⟩, fun _ => ⟨fc_G_of 843 (by decide +kernel) rfl, fc_G_of 844 (by decide +kernel) rfl⟩, fun h => absurd h (by decide)⟩
theorem kX0_isAwake : fc_mp (mX0_isAwake, 2, 0) := ⟨⟨fc_G_of 819 (by decide +kernel) rfl, fc_G_of 114 (by decide +kernel) rfl, by decide +kernel, by decide⟩, fun _ => ⟨fc_G_of 817 (by decide +kernel) rfl, fc_G_of 818 (by decide +kernel) rfl⟩, fun h => absurd h (by decide)⟩
theorem kX0_sleepOf : fc_mp (mX0_sleepOf, 2, 0) := ⟨⟨fc_G_of 985 (by decide +kernel) rfl, fc_G_of 114 (by decide +kernel) rfl, by decide +kernel, by decide⟩, fun _ => ⟨fc_G_of 983 (by decide +kernel) rfl, fc_G_of 984 (by decide +kernel) rfl⟩, fun h => absurd h (by decide)⟩
theorem kX0_awakeBits : fc_mp (mX0_awakeBits, 1, 0) := ⟨⟨fc_G_of 815 (by decide +kernel) rfl, fc_G_of 114 (by decide +kernel) rfl, by decide +kernel, by decide⟩, fun _ => ⟨fc_G_of 813 (by decide +kernel) rfl, fc_G_of 814 (by decide +kernel) rfl⟩, fun h => absurd h (by decide)⟩
theorem kX1_read : fc_mp (mX1_read, 2, 0) := ⟨⟨fc_G_of 521 (by decide +kernel) rfl, fc_G_of 108 (by decide +kernel) rfl, by decide +kernel, by decide⟩, fun _ => ⟨fc_G_of 519 (by decide +kernel) rfl, fc_G_of 520 (by decide +kernel) rfl⟩, fun h => absurd h (by decide)⟩
theorem kX1_isNewName : fc_mp (mX1_isNewName, 2, 1) := ⟨⟨fc_G_of 670 (by decide +kernel) rfl, fc_G_of 108 (by decide +kernel) rfl, by decide +kernel, by decide⟩, fun h => absurd h (by decide), fun _ => fc_G_of 669 (by decide +kernel) rfl⟩
theorem kX1_readPlace : fc_mp (mX1_readPlace, 2, 0) := ⟨⟨fc_G_of 662 (by decide +kernel) rfl, fc_G_of 108 (by decide +kernel) rfl, by decide +kernel, by decide⟩, fun _ => ⟨fc_G_of 661 (by decide +kernel) rfl, fc_G_of 2 (by decide +kernel) rfl⟩, fun h => absurd h (by decide)⟩
theorem kX1_readPath : fc_mp (mX1_readPath, 2, 0) := ⟨⟨fc_G_of 681 (by decide +kernel) rfl, fc_G_of 108 (by decide +kernel) rfl, by decide +kernel, by decide⟩, fun _ => ⟨fc_G_of 680 (by decide +kernel) rfl, fc_G_of 3 (by decide +kernel) rfl⟩, fun h => absurd h (by decide)⟩
theorem kX1_readPerson : fc_mp (mX1_readPerson, 2, 0) := ⟨⟨fc_G_of 694 (by decide +kernel) rfl, fc_G_of 108 (by decide +kernel) rfl, by decide +kernel, by decide⟩, fun _ => ⟨fc_G_of 693 (by decide +kernel) rfl, fc_G_of 4 (by decide +kernel) rfl⟩, fun h => absurd h (by decide)⟩
theorem kX1_readThing : fc_mp (mX1_readThing, 2, 0) := ⟨⟨fc_G_of 707 (by decide +kernel) rfl, fc_G_of 108 (by decide +kernel) rfl, by decide +kernel, by decide⟩, fun _ => ⟨fc_G_of 706 (by decide +kernel) rfl, fc_G_of 5 (by decide +kernel) rfl⟩, fun h => absurd h (by decide)⟩
theorem kX1_readSmoke : fc_mp (mX1_readSmoke, 2, 0) := ⟨⟨fc_G_of 711 (by decide +kernel) rfl, fc_G_of 108 (by decide +kernel) rfl, by decide +kernel, by decide⟩, fun _ => ⟨fc_G_of 710 (by decide +kernel) rfl, fc_G_of 6 (by decide +kernel) rfl⟩, fun h => absurd h (by decide)⟩
theorem kX1_readBinds : fc_mp (mX1_readBinds, 2, 0) := ⟨⟨fc_G_of 715 (by decide +kernel) rfl, fc_G_of 108 (by decide +kernel) rfl, by decide +kernel, by decide⟩, fun _ => ⟨fc_G_of 714 (by decide +kernel) rfl, fc_G_of 7 (by decide +kernel) rfl⟩, fun h => absurd h (by decide)⟩
theorem kX2_write : fc_mp (mX2_write, 1, 0) := ⟨⟨fc_G_of 731 (by decide +kernel) rfl, fc_G_of 115 (by decide +kernel) rfl, by decide +kernel, by decide⟩, fun _ => ⟨fc_G_of 729 (by decide +kernel) rfl, fc_G_of 730 (by decide +kernel) rfl⟩, fun h => absurd h (by decide)⟩
theorem kX2_valueAt : fc_mp (mX2_valueAt, 4, 0) := ⟨⟨fc_G_of 906 (by decide +kernel) rfl, fc_G_of 115 (by decide +kernel) rfl, by decide +kernel, by decide⟩, fun _ => ⟨fc_G_of 904 (by decide +kernel) rfl, fc_G_of 905 (by decide +kernel) rfl⟩, fun h => absurd h (by decide)⟩
theorem kX2_operand : fc_mp (mX2_operand, 5, 1) := ⟨⟨fc_G_of 909 (by decide +kernel) rfl, fc_G_of 115 (by decide +kernel) rfl, by decide +kernel, by decide⟩, fun h => absurd h (by decide), fun _ => fc_G_of 908 (by decide +kernel) rfl⟩
theorem kX2_joined : fc_mp (mX2_joined, 3, 1) := ⟨⟨fc_G_of 912 (by decide +kernel) rfl, fc_G_of 115 (by decide +kernel) rfl, by decide +kernel, by decide⟩, fun h => absurd h (by decide), fun _ => fc_G_of 911 (by decide +kernel) rfl⟩
theorem kX3_read : fc_mp (mX3_read, 2, 0) := ⟨⟨fc_G_of 719 (by decide +kernel) rfl, fc_G_of 109 (by decide +kernel) rfl, by decide +kernel, by decide⟩, fun _ => ⟨fc_G_of 717 (by decide +kernel) rfl, fc_G_of 718 (by decide +kernel) rfl⟩, fun h => absurd h (by decide)⟩
theorem kX3_readPart : fc_mp (mX3_readPart, 2, 0) := ⟨⟨fc_G_of 735 (by decide +kernel) rfl, fc_G_of 109 (by decide +kernel) rfl, by decide +kernel, by decide⟩, fun _ => ⟨fc_G_of 734 (by decide +kernel) rfl, fc_G_of 9 (by decide +kernel) rfl⟩, fun h => absurd h (by decide)⟩
theorem kX3_readBehind : fc_mp (mX3_readBehind, 2, 0) := ⟨⟨fc_G_of 750 (by decide +kernel) rfl, fc_G_of 109 (by decide +kernel) rfl, by decide +kernel, by decide⟩, fun _ => ⟨fc_G_of 749 (by decide +kernel) rfl, fc_G_of 12 (by decide +kernel) rfl⟩, fun h => absurd h (by decide)⟩
theorem kX3_closeNots : fc_mp (mX3_closeNots, 1, 0) := ⟨⟨fc_G_of 746 (by decide +kernel) rfl, fc_G_of 109 (by decide +kernel) rfl, by decide +kernel, by decide⟩, fun _ => ⟨fc_G_of 745 (by decide +kernel) rfl, fc_G_of 11 (by decide +kernel) rfl⟩, fun h => absurd h (by decide)⟩
theorem kX3_await : fc_mp (mX3_await, 1, 0) := ⟨⟨fc_G_of 742 (by decide +kernel) rfl, fc_G_of 109 (by decide +kernel) rfl, by decide +kernel, by decide⟩, fun _ => ⟨fc_G_of 741 (by decide +kernel) rfl, fc_G_of 10 (by decide +kernel) rfl⟩, fun h => absurd h (by decide)⟩
theorem kX3_writeDown : fc_mp (mX3_writeDown, 2, 0) := ⟨⟨fc_G_of 724 (by decide +kernel) rfl, fc_G_of 109 (by decide +kernel) rfl, by decide +kernel, by decide⟩, fun _ => ⟨fc_G_of 723 (by decide +kernel) rfl, fc_G_of 8 (by decide +kernel) rfl⟩, fun h => absurd h (by decide)⟩
theorem kX3_rankOf : fc_mp (mX3_rankOf, 1, 1) := ⟨⟨fc_G_of 727 (by decide +kernel) rfl, fc_G_of 109 (by decide +kernel) rfl, by decide +kernel, by decide⟩, fun h => absurd h (by decide), fun _ => fc_G_of 726 (by decide +kernel) rfl⟩
theorem kX4_forget : fc_mp (mX4_forget, 0, 0) := ⟨⟨fc_G_of 776 (by decide +kernel) rfl, fc_G_of 112 (by decide +kernel) rfl, by decide +kernel, by decide⟩, fun _ => ⟨fc_G_of 774 (by decide +kernel) rfl, fc_G_of 775 (by decide +kernel) rfl⟩, fun h => absurd h (by decide)⟩
theorem kX4_keep : fc_mp (mX4_keep, 1, 0) := ⟨⟨fc_G_of 861 (by decide +kernel) rfl, fc_G_of 112 (by decide +kernel) rfl, by decide +kernel, by decide⟩, fun _ => ⟨fc_G_of 859 (by decide +kernel) rfl, fc_G_of 860 (by decide +kernel) rfl⟩, fun h => absurd h (by decide)⟩
theorem kX4_bringBack : fc_mp (mX4_bringBack, 1, 0) := ⟨⟨fc_G_of 950 (by decide +kernel) rfl, fc_G_of 112 (by decide +kernel) rfl, by decide +kernel, by decide⟩, fun _ => ⟨fc_G_of 948 (by decide +kernel) rfl, fc_G_of 949 (by decide +kernel) rfl⟩, fun h => absurd h (by decide)⟩
theorem kX4_lay : fc_mp (mX4_lay, 3, 0) := ⟨⟨fc_G_of 1188 (by decide +kernel) rfl, fc_G_of 112 (by decide +kernel) rfl, by decide +kernel, by decide⟩, fun _ => ⟨fc_G_of 1186 (by decide +kernel) rfl, fc_G_of 1187 (by decide +kernel) rfl⟩, fun h => absurd h (by decide)⟩
theorem kX4_goBack : fc_mp (mX4_goBack, 3, 0) := ⟨⟨fc_G_of 1180 (by decide +kernel) rfl, fc_G_of 112 (by decide +kernel) rfl, by decide +kernel, by decide⟩, fun _ => ⟨fc_G_of 1178 (by decide +kernel) rfl, fc_G_of 1179 (by decide +kernel) rfl⟩, fun h => absurd h (by decide)⟩
theorem kX5_read : fc_mp (mX5_read, 2, 0) := ⟨⟨fc_G_of 785 (by decide +kernel) rfl, fc_G_of 116 (by decide +kernel) rfl, by decide +kernel, by decide⟩, fun _ => ⟨fc_G_of 783 (by decide +kernel) rfl, fc_G_of 784 (by decide +kernel) rfl⟩, fun h => absurd h (by decide)⟩
theorem kX5_readLine : fc_mp (mX5_readLine, 2, 0) := ⟨⟨fc_G_of 790 (by decide +kernel) rfl, fc_G_of 116 (by decide +kernel) rfl, by decide +kernel, by decide⟩, fun _ => ⟨fc_G_of 789 (by decide +kernel) rfl, fc_G_of 14 (by decide +kernel) rfl⟩, fun h => absurd h (by decide)⟩
theorem kX5_readNames : fc_mp (mX5_readNames, 3, 0) := ⟨⟨fc_G_of 797 (by decide +kernel) rfl, fc_G_of 116 (by decide +kernel) rfl, by decide +kernel, by decide⟩, fun _ => ⟨fc_G_of 796 (by decide +kernel) rfl, fc_G_of 15 (by decide +kernel) rfl⟩, fun h => absurd h (by decide)⟩
theorem kX5_play : fc_mp (mX5_play, 3, 0) := ⟨⟨fc_G_of 958 (by decide +kernel) rfl, fc_G_of 116 (by decide +kernel) rfl, by decide +kernel, by decide⟩, fun _ => ⟨fc_G_of 956 (by decide +kernel) rfl, fc_G_of 957 (by decide +kernel) rfl⟩, fun h => absurd h (by decide)⟩
theorem kX6_add : fc_mp (mX6_add, 3, 0) := ⟨⟨fc_G_of 1114 (by decide +kernel) rfl, fc_G_of 113 (by decide +kernel) rfl, by decide +kernel, by decide⟩, fun _ => ⟨fc_G_of 1112 (by decide +kernel) rfl, fc_G_of 1113 (by decide +kernel) rfl⟩, fun h => absurd h (by decide)⟩
theorem kX6_copy : fc_mp (mX6_copy, 1, 0) := ⟨⟨fc_G_of 1184 (by decide +kernel) rfl, fc_G_of 113 (by decide +kernel) rfl, by decide +kernel, by decide⟩, fun _ => ⟨fc_G_of 1182 (by decide +kernel) rfl, fc_G_of 1183 (by decide +kernel) rfl⟩, fun h => absurd h (by decide)⟩
theorem kX7_begin : fc_mp (mX7_begin, 1, 0) := ⟨⟨fc_G_of 772 (by decide +kernel) rfl, fc_G_of 111 (by decide +kernel) rfl, by decide +kernel, by decide⟩, fun _ => ⟨fc_G_of 770 (by decide +kernel) rfl, fc_G_of 771 (by decide +kernel) rfl⟩, fun h => absurd h (by decide)⟩
theorem kX7_copy : fc_mp (mX7_copy, 1, 0) := ⟨⟨fc_G_of 865 (by decide +kernel) rfl, fc_G_of 111 (by decide +kernel) rfl, by decide +kernel, by decide⟩, fun _ => ⟨fc_G_of 863 (by decide +kernel) rfl, fc_G_of 864 (by decide +kernel) rfl⟩, fun h => absurd h (by decide)⟩
theorem kX7_bitsAt : fc_mp (mX7_bitsAt, 2, 0) := ⟨⟨fc_G_of 811 (by decide +kernel) rfl, fc_G_of 111 (by decide +kernel) rfl, by decide +kernel, by decide⟩, fun _ => ⟨fc_G_of 809 (by decide +kernel) rfl, fc_G_of 810 (by decide +kernel) rfl⟩, fun h => absurd h (by decide)⟩
theorem kX7_strayThings : fc_mp (mX7_strayThings, 1, 0) := ⟨⟨fc_G_of 1031 (by decide +kernel) rfl, fc_G_of 111 (by decide +kernel) rfl, by decide +kernel, by decide⟩, fun _ => ⟨fc_G_of 1029 (by decide +kernel) rfl, fc_G_of 1030 (by decide +kernel) rfl⟩, fun h => absurd h (by decide)⟩
theorem kX7_newsOfAll : fc_mp (mX7_newsOfAll, 1, 0) := ⟨⟨fc_G_of 1070 (by decide +kernel) rfl, fc_G_of 111 (by decide +kernel) rfl, by decide +kernel, by decide⟩, fun _ => ⟨fc_G_of 1068 (by decide +kernel) rfl, fc_G_of 1069 (by decide +kernel) rfl⟩, fun h => absurd h (by decide)⟩
theorem kX7_isReady : fc_mp (mX7_isReady, 2, 0) := ⟨⟨fc_G_of 832 (by decide +kernel) rfl, fc_G_of 111 (by decide +kernel) rfl, by decide +kernel, by decide⟩, fun _ => ⟨fc_G_of 830 (by decide +kernel) rfl, fc_G_of 831 (by decide +kernel) rfl⟩, fun h => absurd h (by decide)⟩
theorem kX7_minutesOver : fc_mp (mX7_minutesOver, 3, 0) := ⟨⟨fc_G_of 981 (by decide +kernel) rfl, fc_G_of 111 (by decide +kernel) rfl, by decide +kernel, by decide⟩, fun _ => ⟨fc_G_of 979 (by decide +kernel) rfl, fc_G_of 980 (by decide +kernel) rfl⟩, fun h => absurd h (by decide)⟩
theorem kX7_canWalk : fc_mp (mX7_canWalk, 3, 0) := ⟨⟨fc_G_of 853 (by decide +kernel) rfl, fc_G_of 111 (by decide +kernel) rfl, by decide +kernel, by decide⟩, fun _ => ⟨fc_G_of 851 (by decide +kernel) rfl, fc_G_of 852 (by decide +kernel) rfl⟩, fun h => absurd h (by decide)⟩
theorem kX7_goTo : fc_mp (mX7_goTo, 3, 0) := ⟨⟨fc_G_of 873 (by decide +kernel) rfl, fc_G_of 111 (by decide +kernel) rfl, by decide +kernel, by decide⟩, fun _ => ⟨fc_G_of 871 (by decide +kernel) rfl, fc_G_of 872 (by decide +kernel) rfl⟩, fun h => absurd h (by decide)⟩
theorem kX7_canGive : fc_mp (mX7_canGive, 3, 0) := ⟨⟨fc_G_of 881 (by decide +kernel) rfl, fc_G_of 111 (by decide +kernel) rfl, by decide +kernel, by decide⟩, fun _ => ⟨fc_G_of 879 (by decide +kernel) rfl, fc_G_of 880 (by decide +kernel) rfl⟩, fun h => absurd h (by decide)⟩
theorem kX7_handOver : fc_mp (mX7_handOver, 3, 0) := ⟨⟨fc_G_of 886 (by decide +kernel) rfl, fc_G_of 111 (by decide +kernel) rfl, by decide +kernel, by decide⟩, fun _ => ⟨fc_G_of 884 (by decide +kernel) rfl, fc_G_of 885 (by decide +kernel) rfl⟩, fun h => absurd h (by decide)⟩
theorem kX7_canVow : fc_mp (mX7_canVow, 3, 0) := ⟨⟨fc_G_of 920 (by decide +kernel) rfl, fc_G_of 111 (by decide +kernel) rfl, by decide +kernel, by decide⟩, fun _ => ⟨fc_G_of 918 (by decide +kernel) rfl, fc_G_of 919 (by decide +kernel) rfl⟩, fun h => absurd h (by decide)⟩
theorem kX7_pledge : fc_mp (mX7_pledge, 3, 0) := ⟨⟨fc_G_of 924 (by decide +kernel) rfl, fc_G_of 111 (by decide +kernel) rfl, by decide +kernel, by decide⟩, fun _ => ⟨fc_G_of 922 (by decide +kernel) rfl, fc_G_of 923 (by decide +kernel) rfl⟩, fun h => absurd h (by decide)⟩
theorem kX7_giftBinds : fc_mp (mX7_giftBinds, 4, 0) := ⟨⟨fc_G_of 890 (by decide +kernel) rfl, fc_G_of 111 (by decide +kernel) rfl, by decide +kernel, by decide⟩, fun _ => ⟨fc_G_of 888 (by decide +kernel) rfl, fc_G_of 889 (by decide +kernel) rfl⟩, fun h => absurd h (by decide)⟩
theorem kX7_isBinding : fc_mp (mX7_isBinding, 5, 0) := ⟨⟨fc_G_of 894 (by decide +kernel) rfl, fc_G_of 111 (by decide +kernel) rfl, by decide +kernel, by decide⟩, fun _ => ⟨fc_G_of 893 (by decide +kernel) rfl, fc_G_of 17 (by decide +kernel) rfl⟩, fun h => absurd h (by decide)⟩
theorem kX7_pass : fc_mp (mX7_pass, 1, 0) := ⟨⟨fc_G_of 932 (by decide +kernel) rfl, fc_G_of 111 (by decide +kernel) rfl, by decide +kernel, by decide⟩, fun _ => ⟨fc_G_of 930 (by decide +kernel) rfl, fc_G_of 931 (by decide +kernel) rfl⟩, fun h => absurd h (by decide)⟩
theorem kX7_shareNews : fc_mp (mX7_shareNews, 2, 0) := ⟨⟨fc_G_of 936 (by decide +kernel) rfl, fc_G_of 111 (by decide +kernel) rfl, by decide +kernel, by decide⟩, fun _ => ⟨fc_G_of 935 (by decide +kernel) rfl, fc_G_of 18 (by decide +kernel) rfl⟩, fun h => absurd h (by decide)⟩
theorem kX7_riseSmoke : fc_mp (mX7_riseSmoke, 1, 0) := ⟨⟨fc_G_of 941 (by decide +kernel) rfl, fc_G_of 111 (by decide +kernel) rfl, by decide +kernel, by decide⟩, fun _ => ⟨fc_G_of 940 (by decide +kernel) rfl, fc_G_of 19 (by decide +kernel) rfl⟩, fun h => absurd h (by decide)⟩
theorem kX8_put : fc_mp (mX8_put, 1, 0) := ⟨⟨fc_G_of 510 (by decide +kernel) rfl, fc_G_of 107 (by decide +kernel) rfl, by decide +kernel, by decide⟩, fun _ => ⟨fc_G_of 508 (by decide +kernel) rfl, fc_G_of 509 (by decide +kernel) rfl⟩, fun h => absurd h (by decide)⟩
theorem kX8_clear : fc_mp (mX8_clear, 0, 0) := ⟨⟨fc_G_of 755 (by decide +kernel) rfl, fc_G_of 107 (by decide +kernel) rfl, by decide +kernel, by decide⟩, fun _ => ⟨fc_G_of 753 (by decide +kernel) rfl, fc_G_of 754 (by decide +kernel) rfl⟩, fun h => absurd h (by decide)⟩
theorem kX8_open : fc_mp (mX8_open, 0, 0) := ⟨⟨fc_G_of 532 (by decide +kernel) rfl, fc_G_of 107 (by decide +kernel) rfl, by decide +kernel, by decide⟩, fun _ => ⟨fc_G_of 530 (by decide +kernel) rfl, fc_G_of 531 (by decide +kernel) rfl⟩, fun h => absurd h (by decide)⟩
theorem kX8_next : fc_mp (mX8_next, 0, 0) := ⟨⟨fc_G_of 536 (by decide +kernel) rfl, fc_G_of 107 (by decide +kernel) rfl, by decide +kernel, by decide⟩, fun _ => ⟨fc_G_of 534 (by decide +kernel) rfl, fc_G_of 535 (by decide +kernel) rfl⟩, fun h => absurd h (by decide)⟩
theorem kX8_readWord : fc_mp (mX8_readWord, 0, 0) := ⟨⟨fc_G_of 540 (by decide +kernel) rfl, fc_G_of 107 (by decide +kernel) rfl, by decide +kernel, by decide⟩, fun _ => ⟨fc_G_of 539 (by decide +kernel) rfl, fc_G_of 0 (by decide +kernel) rfl⟩, fun h => absurd h (by decide)⟩
theorem kX8_readNumber : fc_mp (mX8_readNumber, 0, 0) := ⟨⟨fc_G_of 598 (by decide +kernel) rfl, fc_G_of 107 (by decide +kernel) rfl, by decide +kernel, by decide⟩, fun _ => ⟨fc_G_of 597 (by decide +kernel) rfl, fc_G_of 1 (by decide +kernel) rfl⟩, fun h => absurd h (by decide)⟩
theorem kX8_cellIn : fc_mp (mX8_cellIn, 1, 0) := ⟨⟨fc_G_of 546 (by decide +kernel) rfl, fc_G_of 107 (by decide +kernel) rfl, by decide +kernel, by decide⟩, fun _ => ⟨fc_G_of 544 (by decide +kernel) rfl, fc_G_of 545 (by decide +kernel) rfl⟩, fun h => absurd h (by decide)⟩
theorem kX8_fail : fc_mp (mX8_fail, 1, 0) := ⟨⟨fc_G_of 666 (by decide +kernel) rfl, fc_G_of 107 (by decide +kernel) rfl, by decide +kernel, by decide⟩, fun _ => ⟨fc_G_of 664 (by decide +kernel) rfl, fc_G_of 665 (by decide +kernel) rfl⟩, fun h => absurd h (by decide)⟩
theorem kX8_take : fc_mp (mX8_take, 1, 0) := ⟨⟨fc_G_of 699 (by decide +kernel) rfl, fc_G_of 107 (by decide +kernel) rfl, by decide +kernel, by decide⟩, fun _ => ⟨fc_G_of 697 (by decide +kernel) rfl, fc_G_of 698 (by decide +kernel) rfl⟩, fun h => absurd h (by decide)⟩
theorem kX8_isNumber : fc_mp (mX8_isNumber, 2, 0) := ⟨⟨fc_G_of 703 (by decide +kernel) rfl, fc_G_of 107 (by decide +kernel) rfl, by decide +kernel, by decide⟩, fun _ => ⟨fc_G_of 701 (by decide +kernel) rfl, fc_G_of 702 (by decide +kernel) rfl⟩, fun h => absurd h (by decide)⟩
theorem kX8_known : fc_mp (mX8_known, 2, 0) := ⟨⟨fc_G_of 685 (by decide +kernel) rfl, fc_G_of 107 (by decide +kernel) rfl, by decide +kernel, by decide⟩, fun _ => ⟨fc_G_of 683 (by decide +kernel) rfl, fc_G_of 684 (by decide +kernel) rfl⟩, fun h => absurd h (by decide)⟩
theorem kX9_measure : fc_mp (mX9_measure, 1, 0) := ⟨⟨fc_G_of 759 (by decide +kernel) rfl, fc_G_of 110 (by decide +kernel) rfl, by decide +kernel, by decide⟩, fun _ => ⟨fc_G_of 757 (by decide +kernel) rfl, fc_G_of 758 (by decide +kernel) rfl⟩, fun h => absurd h (by decide)⟩
theorem kX9_measureFrom : fc_mp (mX9_measureFrom, 2, 0) := ⟨⟨fc_G_of 763 (by decide +kernel) rfl, fc_G_of 110 (by decide +kernel) rfl, by decide +kernel, by decide⟩, fun _ => ⟨fc_G_of 762 (by decide +kernel) rfl, fc_G_of 13 (by decide +kernel) rfl⟩, fun h => absurd h (by decide)⟩
theorem kX9_neighbours : fc_mp (mX9_neighbours, 2, 1) := ⟨⟨fc_G_of 768 (by decide +kernel) rfl, fc_G_of 110 (by decide +kernel) rfl, by decide +kernel, by decide⟩, fun h => absurd h (by decide), fun _ => fc_G_of 767 (by decide +kernel) rfl⟩
theorem kX9_spread : fc_mp (mX9_spread, 3, 0) := ⟨⟨fc_G_of 1015 (by decide +kernel) rfl, fc_G_of 110 (by decide +kernel) rfl, by decide +kernel, by decide⟩, fun _ => ⟨fc_G_of 1013 (by decide +kernel) rfl, fc_G_of 1014 (by decide +kernel) rfl⟩, fun h => absurd h (by decide)⟩
theorem kX9_isCut : fc_mp (mX9_isCut, 2, 0) := ⟨⟨fc_G_of 1092 (by decide +kernel) rfl, fc_G_of 110 (by decide +kernel) rfl, by decide +kernel, by decide⟩, fun _ => ⟨fc_G_of 1090 (by decide +kernel) rfl, fc_G_of 1091 (by decide +kernel) rfl⟩, fun h => absurd h (by decide)⟩
theorem kX9_farthestFrom : fc_mp (mX9_farthestFrom, 2, 0) := ⟨⟨fc_G_of 1100 (by decide +kernel) rfl, fc_G_of 110 (by decide +kernel) rfl, by decide +kernel, by decide⟩, fun _ => ⟨fc_G_of 1098 (by decide +kernel) rfl, fc_G_of 1099 (by decide +kernel) rfl⟩, fun h => absurd h (by decide)⟩
theorem kX9_pathsOfTour : fc_mp (mX9_pathsOfTour, 2, 0) := ⟨⟨fc_G_of 1011 (by decide +kernel) rfl, fc_G_of 110 (by decide +kernel) rfl, by decide +kernel, by decide⟩, fun _ => ⟨fc_G_of 1009 (by decide +kernel) rfl, fc_G_of 1010 (by decide +kernel) rfl⟩, fun h => absurd h (by decide)⟩
theorem kX9_stepOn : fc_mp (mX9_stepOn, 1, 0) := ⟨⟨fc_G_of 1019 (by decide +kernel) rfl, fc_G_of 110 (by decide +kernel) rfl, by decide +kernel, by decide⟩, fun _ => ⟨fc_G_of 1018 (by decide +kernel) rfl, fc_G_of 23 (by decide +kernel) rfl⟩, fun h => absurd h (by decide)⟩
theorem kX10_feed : fc_mp (mX10_feed, 3, 0) := ⟨⟨fc_G_of 506 (by decide +kernel) rfl, fc_G_of 106 (by decide +kernel) rfl, by decide +kernel, by decide⟩, fun _ => ⟨fc_G_of 504 (by decide +kernel) rfl, fc_G_of 505 (by decide +kernel) rfl⟩, fun h => absurd h (by decide)⟩
theorem kX10_land : fc_mp (mX10_land, 0, 0) := ⟨⟨fc_G_of 517 (by decide +kernel) rfl, fc_G_of 106 (by decide +kernel) rfl, by decide +kernel, by decide⟩, fun _ => ⟨fc_G_of 515 (by decide +kernel) rfl, fc_G_of 516 (by decide +kernel) rfl⟩, fun h => absurd h (by decide)⟩
theorem kX10_morning : fc_mp (mX10_morning, 0, 0) := ⟨⟨fc_G_of 781 (by decide +kernel) rfl, fc_G_of 106 (by decide +kernel) rfl, by decide +kernel, by decide⟩, fun _ => ⟨fc_G_of 779 (by decide +kernel) rfl, fc_G_of 780 (by decide +kernel) rfl⟩, fun h => absurd h (by decide)⟩
theorem kX10_place : fc_mp (mX10_place, 2, 0) := ⟨⟨fc_G_of 803 (by decide +kernel) rfl, fc_G_of 106 (by decide +kernel) rfl, by decide +kernel, by decide⟩, fun _ => ⟨fc_G_of 801 (by decide +kernel) rfl, fc_G_of 802 (by decide +kernel) rfl⟩, fun h => absurd h (by decide)⟩
theorem kX10_person : fc_mp (mX10_person, 2, 0) := ⟨⟨fc_G_of 823 (by decide +kernel) rfl, fc_G_of 106 (by decide +kernel) rfl, by decide +kernel, by decide⟩, fun _ => ⟨fc_G_of 821 (by decide +kernel) rfl, fc_G_of 822 (by decide +kernel) rfl⟩, fun h => absurd h (by decide)⟩
theorem kX10_thing : fc_mp (mX10_thing, 2, 0) := ⟨⟨fc_G_of 841 (by decide +kernel) rfl, fc_G_of 106 (by decide +kernel) rfl, by decide +kernel, by decide⟩, fun _ => ⟨fc_G_of 839 (by decide +kernel) rfl, fc_G_of 840 (by decide +kernel) rfl⟩, fun h => absurd h (by decide)⟩
theorem kX10_walk : fc_mp (mX10_walk, 2, 0) := ⟨⟨fc_G_of 849 (by decide +kernel) rfl, fc_G_of 106 (by decide +kernel) rfl, by decide +kernel, by decide⟩, fun _ => ⟨fc_G_of 847 (by decide +kernel) rfl, fc_G_of 848 (by decide +kernel) rfl⟩, fun h => absurd h (by decide)⟩
theorem kX10_give : fc_mp (mX10_give, 2, 0) := ⟨⟨fc_G_of 877 (by decide +kernel) rfl, fc_G_of 106 (by decide +kernel) rfl, by decide +kernel, by decide⟩, fun _ => ⟨fc_G_of 875 (by decide +kernel) rfl, fc_G_of 876 (by decide +kernel) rfl⟩, fun h => absurd h (by decide)⟩
theorem kX10_vow : fc_mp (mX10_vow, 2, 0) := ⟨⟨fc_G_of 916 (by decide +kernel) rfl, fc_G_of 106 (by decide +kernel) rfl, by decide +kernel, by decide⟩, fun _ => ⟨fc_G_of 914 (by decide +kernel) rfl, fc_G_of 915 (by decide +kernel) rfl⟩, fun h => absurd h (by decide)⟩
theorem kX10_minute : fc_mp (mX10_minute, 0, 0) := ⟨⟨fc_G_of 928 (by decide +kernel) rfl, fc_G_of 106 (by decide +kernel) rfl, by decide +kernel, by decide⟩, fun _ => ⟨fc_G_of 926 (by decide +kernel) rfl, fc_G_of 927 (by decide +kernel) rfl⟩, fun h => absurd h (by decide)⟩
theorem kX10_undo : fc_mp (mX10_undo, 0, 0) := ⟨⟨fc_G_of 946 (by decide +kernel) rfl, fc_G_of 106 (by decide +kernel) rfl, by decide +kernel, by decide⟩, fun _ => ⟨fc_G_of 944 (by decide +kernel) rfl, fc_G_of 945 (by decide +kernel) rfl⟩, fun h => absurd h (by decide)⟩
theorem kX10_judged : fc_mp (mX10_judged, 1, 0) := ⟨⟨fc_G_of 954 (by decide +kernel) rfl, fc_G_of 106 (by decide +kernel) rfl, by decide +kernel, by decide⟩, fun _ => ⟨fc_G_of 952 (by decide +kernel) rfl, fc_G_of 953 (by decide +kernel) rfl⟩, fun h => absurd h (by decide)⟩
theorem kX10_soon : fc_mp (mX10_soon, 2, 0) := ⟨⟨fc_G_of 973 (by decide +kernel) rfl, fc_G_of 106 (by decide +kernel) rfl, by decide +kernel, by decide⟩, fun _ => ⟨fc_G_of 971 (by decide +kernel) rfl, fc_G_of 972 (by decide +kernel) rfl⟩, fun h => absurd h (by decide)⟩
theorem kX10_meet : fc_mp (mX10_meet, 2, 0) := ⟨⟨fc_G_of 993 (by decide +kernel) rfl, fc_G_of 106 (by decide +kernel) rfl, by decide +kernel, by decide⟩, fun _ => ⟨fc_G_of 991 (by decide +kernel) rfl, fc_G_of 992 (by decide +kernel) rfl⟩, fun h => absurd h (by decide)⟩
theorem kX10_all : fc_mp (mX10_all, 1, 0) := ⟨⟨fc_G_of 999 (by decide +kernel) rfl, fc_G_of 106 (by decide +kernel) rfl, by decide +kernel, by decide⟩, fun _ => ⟨fc_G_of 997 (by decide +kernel) rfl, fc_G_of 998 (by decide +kernel) rfl⟩, fun h => absurd h (by decide)⟩
theorem kX10_tour : fc_mp (mX10_tour, 1, 0) := ⟨⟨fc_G_of 1007 (by decide +kernel) rfl, fc_G_of 106 (by decide +kernel) rfl, by decide +kernel, by decide⟩, fun _ => ⟨fc_G_of 1005 (by decide +kernel) rfl, fc_G_of 1006 (by decide +kernel) rfl⟩, fun h => absurd h (by decide)⟩
theorem kX10_intime : fc_mp (mX10_intime, 2, 0) := ⟨⟨fc_G_of 1023 (by decide +kernel) rfl, fc_G_of 106 (by decide +kernel) rfl, by decide +kernel, by decide⟩, fun _ => ⟨fc_G_of 1021 (by decide +kernel) rfl, fc_G_of 1022 (by decide +kernel) rfl⟩, fun h => absurd h (by decide)⟩
theorem kX10_back : fc_mp (mX10_back, 0, 0) := ⟨⟨fc_G_of 1027 (by decide +kernel) rfl, fc_G_of 106 (by decide +kernel) rfl, by decide +kernel, by decide⟩, fun _ => ⟨fc_G_of 1025 (by decide +kernel) rfl, fc_G_of 1026 (by decide +kernel) rfl⟩, fun h => absurd h (by decide)⟩
theorem kX10_could : fc_mp (mX10_could, 1, 0) := ⟨⟨fc_G_of 1035 (by decide +kernel) rfl, fc_G_of 106 (by decide +kernel) rfl, by decide +kernel, by decide⟩, fun _ => ⟨fc_G_of 1033 (by decide +kernel) rfl, fc_G_of 1034 (by decide +kernel) rfl⟩, fun h => absurd h (by decide)⟩
theorem kX10_would : fc_mp (mX10_would, 2, 0) := ⟨⟨fc_G_of 1039 (by decide +kernel) rfl, fc_G_of 106 (by decide +kernel) rfl, by decide +kernel, by decide⟩, fun _ => ⟨fc_G_of 1037 (by decide +kernel) rfl, fc_G_of 1038 (by decide +kernel) rfl⟩, fun h => absurd h (by decide)⟩
theorem kX10_when : fc_mp (mX10_when, 2, 0) := ⟨⟨fc_G_of 1048 (by decide +kernel) rfl, fc_G_of 106 (by decide +kernel) rfl, by decide +kernel, by decide⟩, fun _ => ⟨fc_G_of 1046 (by decide +kernel) rfl, fc_G_of 1047 (by decide +kernel) rfl⟩, fun h => absurd h (by decide)⟩
theorem kX10_vows : fc_mp (mX10_vows, 2, 0) := ⟨⟨fc_G_of 1052 (by decide +kernel) rfl, fc_G_of 106 (by decide +kernel) rfl, by decide +kernel, by decide⟩, fun _ => ⟨fc_G_of 1050 (by decide +kernel) rfl, fc_G_of 1051 (by decide +kernel) rfl⟩, fun h => absurd h (by decide)⟩
theorem kX10_sees : fc_mp (mX10_sees, 1, 0) := ⟨⟨fc_G_of 1056 (by decide +kernel) rfl, fc_G_of 106 (by decide +kernel) rfl, by decide +kernel, by decide⟩, fun _ => ⟨fc_G_of 1054 (by decide +kernel) rfl, fc_G_of 1055 (by decide +kernel) rfl⟩, fun h => absurd h (by decide)⟩
theorem kX10_heard : fc_mp (mX10_heard, 1, 0) := ⟨⟨fc_G_of 1061 (by decide +kernel) rfl, fc_G_of 106 (by decide +kernel) rfl, by decide +kernel, by decide⟩, fun _ => ⟨fc_G_of 1059 (by decide +kernel) rfl, fc_G_of 1060 (by decide +kernel) rfl⟩, fun h => absurd h (by decide)⟩
theorem kX10_news : fc_mp (mX10_news, 0, 0) := ⟨⟨fc_G_of 1065 (by decide +kernel) rfl, fc_G_of 106 (by decide +kernel) rfl, by decide +kernel, by decide⟩, fun _ => ⟨fc_G_of 1063 (by decide +kernel) rfl, fc_G_of 1064 (by decide +kernel) rfl⟩, fun h => absurd h (by decide)⟩
theorem kX10_alone : fc_mp (mX10_alone, 0, 0) := ⟨⟨fc_G_of 1074 (by decide +kernel) rfl, fc_G_of 106 (by decide +kernel) rfl, by decide +kernel, by decide⟩, fun _ => ⟨fc_G_of 1072 (by decide +kernel) rfl, fc_G_of 1073 (by decide +kernel) rfl⟩, fun h => absurd h (by decide)⟩
theorem kX10_reach : fc_mp (mX10_reach, 1, 0) := ⟨⟨fc_G_of 1079 (by decide +kernel) rfl, fc_G_of 106 (by decide +kernel) rfl, by decide +kernel, by decide⟩, fun _ => ⟨fc_G_of 1077 (by decide +kernel) rfl, fc_G_of 1078 (by decide +kernel) rfl⟩, fun h => absurd h (by decide)⟩
theorem kX10_far : fc_mp (mX10_far, 2, 0) := ⟨⟨fc_G_of 1084 (by decide +kernel) rfl, fc_G_of 106 (by decide +kernel) rfl, by decide +kernel, by decide⟩, fun _ => ⟨fc_G_of 1082 (by decide +kernel) rfl, fc_G_of 1083 (by decide +kernel) rfl⟩, fun h => absurd h (by decide)⟩
theorem kX10_cuts : fc_mp (mX10_cuts, 0, 0) := ⟨⟨fc_G_of 1088 (by decide +kernel) rfl, fc_G_of 106 (by decide +kernel) rfl, by decide +kernel, by decide⟩, fun _ => ⟨fc_G_of 1086 (by decide +kernel) rfl, fc_G_of 1087 (by decide +kernel) rfl⟩, fun h => absurd h (by decide)⟩
theorem kX10_hub : fc_mp (mX10_hub, 0, 0) := ⟨⟨fc_G_of 1096 (by decide +kernel) rfl, fc_G_of 106 (by decide +kernel) rfl, by decide +kernel, by decide⟩, fun _ => ⟨fc_G_of 1094 (by decide +kernel) rfl, fc_G_of 1095 (by decide +kernel) rfl⟩, fun h => absurd h (by decide)⟩
theorem kX10_links : fc_mp (mX10_links, 1, 0) := ⟨⟨fc_G_of 1105 (by decide +kernel) rfl, fc_G_of 106 (by decide +kernel) rfl, by decide +kernel, by decide⟩, fun _ => ⟨fc_G_of 1103 (by decide +kernel) rfl, fc_G_of 1104 (by decide +kernel) rfl⟩, fun h => absurd h (by decide)⟩
theorem kX10_see : fc_mp (mX10_see, 3, 0) := ⟨⟨fc_G_of 1109 (by decide +kernel) rfl, fc_G_of 106 (by decide +kernel) rfl, by decide +kernel, by decide⟩, fun _ => ⟨fc_G_of 1107 (by decide +kernel) rfl, fc_G_of 1108 (by decide +kernel) rfl⟩, fun h => absurd h (by decide)⟩
theorem kX10_who : fc_mp (mX10_who, 0, 0) := ⟨⟨fc_G_of 1118 (by decide +kernel) rfl, fc_G_of 106 (by decide +kernel) rfl, by decide +kernel, by decide⟩, fun _ => ⟨fc_G_of 1116 (by decide +kernel) rfl, fc_G_of 1117 (by decide +kernel) rfl⟩, fun h => absurd h (by decide)⟩
theorem kX10_ask : fc_mp (mX10_ask, 0, 0) := ⟨⟨fc_G_of 1126 (by decide +kernel) rfl, fc_G_of 106 (by decide +kernel) rfl, by decide +kernel, by decide⟩, fun _ => ⟨fc_G_of 1124 (by decide +kernel) rfl, fc_G_of 1125 (by decide +kernel) rfl⟩, fun h => absurd h (by decide)⟩
theorem kX10_wide : fc_mp (mX10_wide, 0, 0) := ⟨⟨fc_G_of 1135 (by decide +kernel) rfl, fc_G_of 106 (by decide +kernel) rfl, by decide +kernel, by decide⟩, fun _ => ⟨fc_G_of 1133 (by decide +kernel) rfl, fc_G_of 1134 (by decide +kernel) rfl⟩, fun h => absurd h (by decide)⟩
theorem kX10_has : fc_mp (mX10_has, 2, 0) := ⟨⟨fc_G_of 1139 (by decide +kernel) rfl, fc_G_of 106 (by decide +kernel) rfl, by decide +kernel, by decide⟩, fun _ => ⟨fc_G_of 1137 (by decide +kernel) rfl, fc_G_of 1138 (by decide +kernel) rfl⟩, fun h => absurd h (by decide)⟩
theorem kX10_sleeps : fc_mp (mX10_sleeps, 1, 0) := ⟨⟨fc_G_of 1147 (by decide +kernel) rfl, fc_G_of 106 (by decide +kernel) rfl, by decide +kernel, by decide⟩, fun _ => ⟨fc_G_of 1145 (by decide +kernel) rfl, fc_G_of 1146 (by decide +kernel) rfl⟩, fun h => absurd h (by decide)⟩
theorem kX10_rich : fc_mp (mX10_rich, 1, 0) := ⟨⟨fc_G_of 1152 (by decide +kernel) rfl, fc_G_of 106 (by decide +kernel) rfl, by decide +kernel, by decide⟩, fun _ => ⟨fc_G_of 1150 (by decide +kernel) rfl, fc_G_of 1151 (by decide +kernel) rfl⟩, fun h => absurd h (by decide)⟩
theorem kX10_chance : fc_mp (mX10_chance, 2, 0) := ⟨⟨fc_G_of 1156 (by decide +kernel) rfl, fc_G_of 106 (by decide +kernel) rfl, by decide +kernel, by decide⟩, fun _ => ⟨fc_G_of 1154 (by decide +kernel) rfl, fc_G_of 1155 (by decide +kernel) rfl⟩, fun h => absurd h (by decide)⟩
theorem kX10_rests : fc_mp (mX10_rests, 4, 0) := ⟨⟨fc_G_of 1203 (by decide +kernel) rfl, fc_G_of 106 (by decide +kernel) rfl, by decide +kernel, by decide⟩, fun _ => ⟨fc_G_of 1201 (by decide +kernel) rfl, fc_G_of 1202 (by decide +kernel) rfl⟩, fun h => absurd h (by decide)⟩
theorem kX10_mornings : fc_mp (mX10_mornings, 3, 0) := ⟨⟨fc_G_of 1160 (by decide +kernel) rfl, fc_G_of 106 (by decide +kernel) rfl, by decide +kernel, by decide⟩, fun _ => ⟨fc_G_of 1158 (by decide +kernel) rfl, fc_G_of 1159 (by decide +kernel) rfl⟩, fun h => absurd h (by decide)⟩
theorem kX10_mark : fc_mp (mX10_mark, 2, 0) := ⟨⟨fc_G_of 1176 (by decide +kernel) rfl, fc_G_of 106 (by decide +kernel) rfl, by decide +kernel, by decide⟩, fun _ => ⟨fc_G_of 1174 (by decide +kernel) rfl, fc_G_of 1175 (by decide +kernel) rfl⟩, fun h => absurd h (by decide)⟩
theorem kX10_count : fc_mp (mX10_count, 1, 0) := ⟨⟨fc_G_of 1192 (by decide +kernel) rfl, fc_G_of 106 (by decide +kernel) rfl, by decide +kernel, by decide⟩, fun _ => ⟨fc_G_of 1190 (by decide +kernel) rfl, fc_G_of 1191 (by decide +kernel) rfl⟩, fun h => absurd h (by decide)⟩
theorem kX10_isFrom : fc_mp (mX10_isFrom, 3, 1) := ⟨⟨fc_G_of 513 (by decide +kernel) rfl, fc_G_of 106 (by decide +kernel) rfl, by decide +kernel, by decide⟩, fun h => absurd h (by decide), fun _ => fc_G_of 512 (by decide +kernel) rfl⟩
theorem kX10_isIn : fc_mp (mX10_isIn, 2, 1) := ⟨⟨fc_G_of 690 (by decide +kernel) rfl, fc_G_of 106 (by decide +kernel) rfl, by decide +kernel, by decide⟩, fun h => absurd h (by decide), fun _ => fc_G_of 689 (by decide +kernel) rfl⟩
theorem kX10_orNone : fc_mp (mX10_orNone, 1, 1) := ⟨⟨fc_G_of 989 (by decide +kernel) rfl, fc_G_of 106 (by decide +kernel) rfl, by decide +kernel, by decide⟩, fun h => absurd h (by decide), fun _ => fc_G_of 988 (by decide +kernel) rfl⟩
theorem kX10_pairsIn : fc_mp (mX10_pairsIn, 1, 1) := ⟨⟨fc_G_of 1195 (by decide +kernel) rfl, fc_G_of 106 (by decide +kernel) rfl, by decide +kernel, by decide⟩, fun h => absurd h (by decide), fun _ => fc_G_of 1194 (by decide +kernel) rfl⟩
theorem kX10_thingsOf : fc_mp (mX10_thingsOf, 2, 0) := ⟨⟨fc_G_of 837 (by decide +kernel) rfl, fc_G_of 106 (by decide +kernel) rfl, by decide +kernel, by decide⟩, fun _ => ⟨fc_G_of 836 (by decide +kernel) rfl, fc_G_of 16 (by decide +kernel) rfl⟩, fun h => absurd h (by decide)⟩
theorem kX10_worthOf : fc_mp (mX10_worthOf, 2, 0) := ⟨⟨fc_G_of 1143 (by decide +kernel) rfl, fc_G_of 106 (by decide +kernel) rfl, by decide +kernel, by decide⟩, fun _ => ⟨fc_G_of 1142 (by decide +kernel) rfl, fc_G_of 27 (by decide +kernel) rfl⟩, fun h => absurd h (by decide)⟩
theorem kX10_movedThings : fc_mp (mX10_movedThings, 1, 0) := ⟨⟨fc_G_of 969 (by decide +kernel) rfl, fc_G_of 106 (by decide +kernel) rfl, by decide +kernel, by decide⟩, fun _ => ⟨fc_G_of 968 (by decide +kernel) rfl, fc_G_of 20 (by decide +kernel) rfl⟩, fun h => absurd h (by decide)⟩
theorem kX10_minutesTo : fc_mp (mX10_minutesTo, 2, 0) := ⟨⟨fc_G_of 977 (by decide +kernel) rfl, fc_G_of 106 (by decide +kernel) rfl, by decide +kernel, by decide⟩, fun _ => ⟨fc_G_of 976 (by decide +kernel) rfl, fc_G_of 21 (by decide +kernel) rfl⟩, fun h => absurd h (by decide)⟩
theorem kX10_minutesOfAllTo : fc_mp (mX10_minutesOfAllTo, 1, 0) := ⟨⟨fc_G_of 1003 (by decide +kernel) rfl, fc_G_of 106 (by decide +kernel) rfl, by decide +kernel, by decide⟩, fun _ => ⟨fc_G_of 1002 (by decide +kernel) rfl, fc_G_of 22 (by decide +kernel) rfl⟩, fun h => absurd h (by decide)⟩
theorem kX10_isGift : fc_mp (mX10_isGift, 2, 0) := ⟨⟨fc_G_of 1043 (by decide +kernel) rfl, fc_G_of 106 (by decide +kernel) rfl, by decide +kernel, by decide⟩, fun _ => ⟨fc_G_of 1042 (by decide +kernel) rfl, fc_G_of 24 (by decide +kernel) rfl⟩, fun h => absurd h (by decide)⟩
theorem kX10_fitsSeen : fc_mp (mX10_fitsSeen, 1, 0) := ⟨⟨fc_G_of 1122 (by decide +kernel) rfl, fc_G_of 106 (by decide +kernel) rfl, by decide +kernel, by decide⟩, fun _ => ⟨fc_G_of 1121 (by decide +kernel) rfl, fc_G_of 25 (by decide +kernel) rfl⟩, fun h => absurd h (by decide)⟩
theorem kX10_leftAtWorst : fc_mp (mX10_leftAtWorst, 3, 0) := ⟨⟨fc_G_of 1131 (by decide +kernel) rfl, fc_G_of 106 (by decide +kernel) rfl, by decide +kernel, by decide⟩, fun _ => ⟨fc_G_of 1130 (by decide +kernel) rfl, fc_G_of 26 (by decide +kernel) rfl⟩, fun h => absurd h (by decide)⟩
theorem kX10_isRest : fc_mp (mX10_isRest, 4, 1) := ⟨⟨fc_G_of 1271 (by decide +kernel) rfl, fc_G_of 106 (by decide +kernel) rfl, by decide +kernel, by decide⟩, fun h => absurd h (by decide), fun _ => fc_G_of 1270 (by decide +kernel) rfl⟩
theorem kX10_gets : fc_mp (mX10_gets, 5, 1) := ⟨⟨fc_G_of 1274 (by decide +kernel) rfl, fc_G_of 106 (by decide +kernel) rfl, by decide +kernel, by decide⟩, fun h => absurd h (by decide), fun _ => fc_G_of 1273 (by decide +kernel) rfl⟩
theorem kX10_drawBelow : fc_mp (mX10_drawBelow, 1, 0) := ⟨⟨fc_G_of 1168 (by decide +kernel) rfl, fc_G_of 106 (by decide +kernel) rfl, by decide +kernel, by decide⟩, fun _ => ⟨fc_G_of 1167 (by decide +kernel) rfl, fc_G_of 29 (by decide +kernel) rfl⟩, fun h => absurd h (by decide)⟩
theorem kX10_playDrawn : fc_mp (mX10_playDrawn, 0, 0) := ⟨⟨fc_G_of 1164 (by decide +kernel) rfl, fc_G_of 106 (by decide +kernel) rfl, by decide +kernel, by decide⟩, fun _ => ⟨fc_G_of 1163 (by decide +kernel) rfl, fc_G_of 28 (by decide +kernel) rfl⟩, fun h => absurd h (by decide)⟩
theorem kX11_thrown : fc_mp (mX11_thrown, 0, 0) := ⟨⟨fc_G_of 1279 (by decide +kernel) rfl, fc_G_of 117 (by decide +kernel) rfl, by decide +kernel, by decide⟩, fun _ => ⟨fc_G_of 1277 (by decide +kernel) rfl, fc_G_of 1278 (by decide +kernel) rfl⟩, fun h => absurd h (by decide)⟩
theorem kX11_feed : fc_mp (mX11_feed, 3, 0) := ⟨⟨fc_G_of 1283 (by decide +kernel) rfl, fc_G_of 117 (by decide +kernel) rfl, by decide +kernel, by decide⟩, fun _ => ⟨fc_G_of 1281 (by decide +kernel) rfl, fc_G_of 1282 (by decide +kernel) rfl⟩, fun h => absurd h (by decide)⟩
theorem kX11_lay : fc_mp (mX11_lay, 1, 0) := ⟨⟨fc_G_of 1288 (by decide +kernel) rfl, fc_G_of 117 (by decide +kernel) rfl, by decide +kernel, by decide⟩, fun _ => ⟨fc_G_of 1286 (by decide +kernel) rfl, fc_G_of 31 (by decide +kernel) rfl⟩, fun h => absurd h (by decide)⟩
theorem kX11_isLetter : fc_mp (mX11_isLetter, 1, 1) := ⟨⟨fc_G_of 1448 (by decide +kernel) rfl, fc_G_of 117 (by decide +kernel) rfl, by decide +kernel, by decide⟩, fun h => absurd h (by decide), fun _ => fc_G_of 1447 (by decide +kernel) rfl⟩
theorem kX11_isDigit : fc_mp (mX11_isDigit, 1, 1) := ⟨⟨fc_G_of 1455 (by decide +kernel) rfl, fc_G_of 117 (by decide +kernel) rfl, by decide +kernel, by decide⟩, fun h => absurd h (by decide), fun _ => fc_G_of 1454 (by decide +kernel) rfl⟩
theorem kX11_rank : fc_mp (mX11_rank, 1, 1) := ⟨⟨fc_G_of 1452 (by decide +kernel) rfl, fc_G_of 117 (by decide +kernel) rfl, by decide +kernel, by decide⟩, fun h => absurd h (by decide), fun _ => fc_G_of 1451 (by decide +kernel) rfl⟩
theorem kX11_isSignOf : fc_mp (mX11_isSignOf, 1, 1) := ⟨⟨fc_G_of 1460 (by decide +kernel) rfl, fc_G_of 117 (by decide +kernel) rfl, by decide +kernel, by decide⟩, fun h => absurd h (by decide), fun _ => fc_G_of 1459 (by decide +kernel) rfl⟩
theorem kX11_cutAll : fc_mp (mX11_cutAll, 0, 0) := ⟨⟨fc_G_of 1445 (by decide +kernel) rfl, fc_G_of 117 (by decide +kernel) rfl, by decide +kernel, by decide⟩, fun _ => ⟨fc_G_of 1444 (by decide +kernel) rfl, fc_G_of 39 (by decide +kernel) rfl⟩, fun h => absurd h (by decide)⟩
theorem kX11_wrong : fc_mp (mX11_wrong, 1, 0) := ⟨⟨fc_G_of 1476 (by decide +kernel) rfl, fc_G_of 117 (by decide +kernel) rfl, by decide +kernel, by decide⟩, fun _ => ⟨fc_G_of 1475 (by decide +kernel) rfl, fc_G_of 43 (by decide +kernel) rfl⟩, fun h => absurd h (by decide)⟩
theorem kX11_isSign : fc_mp (mX11_isSign, 1, 0) := ⟨⟨fc_G_of 1547 (by decide +kernel) rfl, fc_G_of 117 (by decide +kernel) rfl, by decide +kernel, by decide⟩, fun _ => ⟨fc_G_of 1546 (by decide +kernel) rfl, fc_G_of 60 (by decide +kernel) rfl⟩, fun h => absurd h (by decide)⟩
theorem kX11_isWord : fc_mp (mX11_isWord, 1, 0) := ⟨⟨fc_G_of 1468 (by decide +kernel) rfl, fc_G_of 117 (by decide +kernel) rfl, by decide +kernel, by decide⟩, fun _ => ⟨fc_G_of 1467 (by decide +kernel) rfl, fc_G_of 41 (by decide +kernel) rfl⟩, fun h => absurd h (by decide)⟩
theorem kX11_takeSign : fc_mp (mX11_takeSign, 1, 0) := ⟨⟨fc_G_of 1559 (by decide +kernel) rfl, fc_G_of 117 (by decide +kernel) rfl, by decide +kernel, by decide⟩, fun _ => ⟨fc_G_of 1558 (by decide +kernel) rfl, fc_G_of 63 (by decide +kernel) rfl⟩, fun h => absurd h (by decide)⟩
theorem kX11_hasSign : fc_mp (mX11_hasSign, 1, 0) := ⟨⟨fc_G_of 1555 (by decide +kernel) rfl, fc_G_of 117 (by decide +kernel) rfl, by decide +kernel, by decide⟩, fun _ => ⟨fc_G_of 1554 (by decide +kernel) rfl, fc_G_of 62 (by decide +kernel) rfl⟩, fun h => absurd h (by decide)⟩
theorem kX11_hasWord : fc_mp (mX11_hasWord, 1, 0) := ⟨⟨fc_G_of 1511 (by decide +kernel) rfl, fc_G_of 117 (by decide +kernel) rfl, by decide +kernel, by decide⟩, fun _ => ⟨fc_G_of 1510 (by decide +kernel) rfl, fc_G_of 51 (by decide +kernel) rfl⟩, fun h => absurd h (by decide)⟩
theorem kX11_takeWord : fc_mp (mX11_takeWord, 1, 0) := ⟨⟨fc_G_of 1507 (by decide +kernel) rfl, fc_G_of 117 (by decide +kernel) rfl, by decide +kernel, by decide⟩, fun _ => ⟨fc_G_of 1506 (by decide +kernel) rfl, fc_G_of 50 (by decide +kernel) rfl⟩, fun h => absurd h (by decide)⟩
theorem kX11_within : fc_mp (mX11_within, 3, 1) := ⟨⟨fc_G_of 1499 (by decide +kernel) rfl, fc_G_of 117 (by decide +kernel) rfl, by decide +kernel, by decide⟩, fun h => absurd h (by decide), fun _ => fc_G_of 1498 (by decide +kernel) rfl⟩
theorem kX11_standsAsAlways : fc_mp (mX11_standsAsAlways, 1, 0) := ⟨⟨fc_G_of 1322 (by decide +kernel) rfl, fc_G_of 117 (by decide +kernel) rfl, by decide +kernel, by decide⟩, fun _ => ⟨fc_G_of 1321 (by decide +kernel) rfl, fc_G_of 32 (by decide +kernel) rfl⟩, fun h => absurd h (by decide)⟩
theorem kX11_takeNumber : fc_mp (mX11_takeNumber, 2, 0) := ⟨⟨fc_G_of 1519 (by decide +kernel) rfl, fc_G_of 117 (by decide +kernel) rfl, by decide +kernel, by decide⟩, fun _ => ⟨fc_G_of 1518 (by decide +kernel) rfl, fc_G_of 53 (by decide +kernel) rfl⟩, fun h => absurd h (by decide)⟩
theorem kX11_takeAfter : fc_mp (mX11_takeAfter, 3, 0) := ⟨⟨fc_G_of 1515 (by decide +kernel) rfl, fc_G_of 117 (by decide +kernel) rfl, by decide +kernel, by decide⟩, fun _ => ⟨fc_G_of 1514 (by decide +kernel) rfl, fc_G_of 52 (by decide +kernel) rfl⟩, fun h => absurd h (by decide)⟩
theorem kX11_wordHere : fc_mp (mX11_wordHere, 2, 0) := ⟨⟨fc_G_of 1484 (by decide +kernel) rfl, fc_G_of 117 (by decide +kernel) rfl, by decide +kernel, by decide⟩, fun _ => ⟨fc_G_of 1483 (by decide +kernel) rfl, fc_G_of 45 (by decide +kernel) rfl⟩, fun h => absurd h (by decide)⟩
theorem kX11_takeOne : fc_mp (mX11_takeOne, 2, 0) := ⟨⟨fc_G_of 1503 (by decide +kernel) rfl, fc_G_of 117 (by decide +kernel) rfl, by decide +kernel, by decide⟩, fun _ => ⟨fc_G_of 1502 (by decide +kernel) rfl, fc_G_of 49 (by decide +kernel) rfl⟩, fun h => absurd h (by decide)⟩
theorem kX11_isName : fc_mp (mX11_isName, 0, 0) := ⟨⟨fc_G_of 1480 (by decide +kernel) rfl, fc_G_of 117 (by decide +kernel) rfl, by decide +kernel, by decide⟩, fun _ => ⟨fc_G_of 1479 (by decide +kernel) rfl, fc_G_of 44 (by decide +kernel) rfl⟩, fun h => absurd h (by decide)⟩
theorem kX11_nameAt : fc_mp (mX11_nameAt, 1, 0) := ⟨⟨fc_G_of 1488 (by decide +kernel) rfl, fc_G_of 117 (by decide +kernel) rfl, by decide +kernel, by decide⟩, fun _ => ⟨fc_G_of 1487 (by decide +kernel) rfl, fc_G_of 46 (by decide +kernel) rfl⟩, fun h => absurd h (by decide)⟩
theorem kX11_takeTold : fc_mp (mX11_takeTold, 3, 0) := ⟨⟨fc_G_of 1496 (by decide +kernel) rfl, fc_G_of 117 (by decide +kernel) rfl, by decide +kernel, by decide⟩, fun _ => ⟨fc_G_of 1495 (by decide +kernel) rfl, fc_G_of 48 (by decide +kernel) rfl⟩, fun h => absurd h (by decide)⟩
theorem kX11_land : fc_mp (mX11_land, 0, 0) := ⟨⟨fc_G_of 1441 (by decide +kernel) rfl, fc_G_of 117 (by decide +kernel) rfl, by decide +kernel, by decide⟩, fun _ => ⟨fc_G_of 1439 (by decide +kernel) rfl, fc_G_of 1440 (by decide +kernel) rfl⟩, fun h => absurd h (by decide)⟩
theorem kX11_readLine : fc_mp (mX11_readLine, 0, 0) := ⟨⟨fc_G_of 1464 (by decide +kernel) rfl, fc_G_of 117 (by decide +kernel) rfl, by decide +kernel, by decide⟩, fun _ => ⟨fc_G_of 1463 (by decide +kernel) rfl, fc_G_of 40 (by decide +kernel) rfl⟩, fun h => absurd h (by decide)⟩
theorem kX11_readName : fc_mp (mX11_readName, 3, 0) := ⟨⟨fc_G_of 1472 (by decide +kernel) rfl, fc_G_of 117 (by decide +kernel) rfl, by decide +kernel, by decide⟩, fun _ => ⟨fc_G_of 1471 (by decide +kernel) rfl, fc_G_of 42 (by decide +kernel) rfl⟩, fun h => absurd h (by decide)⟩
theorem kX11_readPath : fc_mp (mX11_readPath, 0, 0) := ⟨⟨fc_G_of 1492 (by decide +kernel) rfl, fc_G_of 117 (by decide +kernel) rfl, by decide +kernel, by decide⟩, fun _ => ⟨fc_G_of 1491 (by decide +kernel) rfl, fc_G_of 47 (by decide +kernel) rfl⟩, fun h => absurd h (by decide)⟩
theorem kX11_readOnce : fc_mp (mX11_readOnce, 0, 0) := ⟨⟨fc_G_of 1523 (by decide +kernel) rfl, fc_G_of 117 (by decide +kernel) rfl, by decide +kernel, by decide⟩, fun _ => ⟨fc_G_of 1522 (by decide +kernel) rfl, fc_G_of 54 (by decide +kernel) rfl⟩, fun h => absurd h (by decide)⟩
theorem kX11_morning : fc_mp (mX11_morning, 0, 0) := ⟨⟨fc_G_of 1563 (by decide +kernel) rfl, fc_G_of 117 (by decide +kernel) rfl, by decide +kernel, by decide⟩, fun _ => ⟨fc_G_of 1561 (by decide +kernel) rfl, fc_G_of 1562 (by decide +kernel) rfl⟩, fun h => absurd h (by decide)⟩
theorem kX11_readMorning : fc_mp (mX11_readMorning, 2, 0) := ⟨⟨fc_G_of 1567 (by decide +kernel) rfl, fc_G_of 117 (by decide +kernel) rfl, by decide +kernel, by decide⟩, fun _ => ⟨fc_G_of 1566 (by decide +kernel) rfl, fc_G_of 64 (by decide +kernel) rfl⟩, fun h => absurd h (by decide)⟩
theorem kX11_emit : fc_mp (mX11_emit, 2, 0) := ⟨⟨fc_G_of 1551 (by decide +kernel) rfl, fc_G_of 117 (by decide +kernel) rfl, by decide +kernel, by decide⟩, fun _ => ⟨fc_G_of 1550 (by decide +kernel) rfl, fc_G_of 61 (by decide +kernel) rfl⟩, fun h => absurd h (by decide)⟩
theorem kX11_whole : fc_mp (mX11_whole, 1, 0) := ⟨⟨fc_G_of 1527 (by decide +kernel) rfl, fc_G_of 117 (by decide +kernel) rfl, by decide +kernel, by decide⟩, fun _ => ⟨fc_G_of 1526 (by decide +kernel) rfl, fc_G_of 55 (by decide +kernel) rfl⟩, fun h => absurd h (by decide)⟩
theorem kX11_test : fc_mp (mX11_test, 1, 0) := ⟨⟨fc_G_of 1531 (by decide +kernel) rfl, fc_G_of 117 (by decide +kernel) rfl, by decide +kernel, by decide⟩, fun _ => ⟨fc_G_of 1530 (by decide +kernel) rfl, fc_G_of 56 (by decide +kernel) rfl⟩, fun h => absurd h (by decide)⟩
theorem kX11_sums : fc_mp (mX11_sums, 1, 0) := ⟨⟨fc_G_of 1535 (by decide +kernel) rfl, fc_G_of 117 (by decide +kernel) rfl, by decide +kernel, by decide⟩, fun _ => ⟨fc_G_of 1534 (by decide +kernel) rfl, fc_G_of 57 (by decide +kernel) rfl⟩, fun h => absurd h (by decide)⟩
theorem kX11_products : fc_mp (mX11_products, 1, 0) := ⟨⟨fc_G_of 1539 (by decide +kernel) rfl, fc_G_of 117 (by decide +kernel) rfl, by decide +kernel, by decide⟩, fun _ => ⟨fc_G_of 1538 (by decide +kernel) rfl, fc_G_of 58 (by decide +kernel) rfl⟩, fun h => absurd h (by decide)⟩
theorem kX11_takePart : fc_mp (mX11_takePart, 1, 0) := ⟨⟨fc_G_of 1543 (by decide +kernel) rfl, fc_G_of 117 (by decide +kernel) rfl, by decide +kernel, by decide⟩, fun _ => ⟨fc_G_of 1542 (by decide +kernel) rfl, fc_G_of 59 (by decide +kernel) rfl⟩, fun h => absurd h (by decide)⟩
theorem kX11_worthAt : fc_mp (mX11_worthAt, 1, 0) := ⟨⟨fc_G_of 1666 (by decide +kernel) rfl, fc_G_of 117 (by decide +kernel) rfl, by decide +kernel, by decide⟩, fun _ => ⟨fc_G_of 1665 (by decide +kernel) rfl, fc_G_of 83 (by decide +kernel) rfl⟩, fun h => absurd h (by decide)⟩
theorem kX11_both : fc_mp (mX11_both, 3, 1) := ⟨⟨fc_G_of 1669 (by decide +kernel) rfl, fc_G_of 117 (by decide +kernel) rfl, by decide +kernel, by decide⟩, fun h => absurd h (by decide), fun _ => fc_G_of 1668 (by decide +kernel) rfl⟩
theorem kX11_copies : fc_mp (mX11_copies, 3, 0) := ⟨⟨fc_G_of 1635 (by decide +kernel) rfl, fc_G_of 117 (by decide +kernel) rfl, by decide +kernel, by decide⟩, fun _ => ⟨fc_G_of 1634 (by decide +kernel) rfl, fc_G_of 77 (by decide +kernel) rfl⟩, fun h => absurd h (by decide)⟩
theorem kX11_starts : fc_mp (mX11_starts, 1, 0) := ⟨⟨fc_G_of 1330 (by decide +kernel) rfl, fc_G_of 117 (by decide +kernel) rfl, by decide +kernel, by decide⟩, fun _ => ⟨fc_G_of 1329 (by decide +kernel) rfl, fc_G_of 34 (by decide +kernel) rfl⟩, fun h => absurd h (by decide)⟩
theorem kX11_begins : fc_mp (mX11_begins, 0, 0) := ⟨⟨fc_G_of 1326 (by decide +kernel) rfl, fc_G_of 117 (by decide +kernel) rfl, by decide +kernel, by decide⟩, fun _ => ⟨fc_G_of 1325 (by decide +kernel) rfl, fc_G_of 33 (by decide +kernel) rfl⟩, fun h => absurd h (by decide)⟩
theorem kX11_keeps : fc_mp (mX11_keeps, 0, 0) := ⟨⟨fc_G_of 1631 (by decide +kernel) rfl, fc_G_of 117 (by decide +kernel) rfl, by decide +kernel, by decide⟩, fun _ => ⟨fc_G_of 1630 (by decide +kernel) rfl, fc_G_of 76 (by decide +kernel) rfl⟩, fun h => absurd h (by decide)⟩
theorem kX11_places : fc_mp (mX11_places, 0, 0) := ⟨⟨fc_G_of 1579 (by decide +kernel) rfl, fc_G_of 117 (by decide +kernel) rfl, by decide +kernel, by decide⟩, fun _ => ⟨fc_G_of 1578 (by decide +kernel) rfl, fc_G_of 66 (by decide +kernel) rfl⟩, fun h => absurd h (by decide)⟩
theorem kX11_persons : fc_mp (mX11_persons, 0, 0) := ⟨⟨fc_G_of 1334 (by decide +kernel) rfl, fc_G_of 117 (by decide +kernel) rfl, by decide +kernel, by decide⟩, fun _ => ⟨fc_G_of 1333 (by decide +kernel) rfl, fc_G_of 35 (by decide +kernel) rfl⟩, fun h => absurd h (by decide)⟩
theorem kX11_things : fc_mp (mX11_things, 0, 0) := ⟨⟨fc_G_of 1342 (by decide +kernel) rfl, fc_G_of 117 (by decide +kernel) rfl, by decide +kernel, by decide⟩, fun _ => ⟨fc_G_of 1341 (by decide +kernel) rfl, fc_G_of 37 (by decide +kernel) rfl⟩, fun h => absurd h (by decide)⟩
theorem kX11_smokeAt : fc_mp (mX11_smokeAt, 0, 0) := ⟨⟨fc_G_of 1693 (by decide +kernel) rfl, fc_G_of 117 (by decide +kernel) rfl, by decide +kernel, by decide⟩, fun _ => ⟨fc_G_of 1692 (by decide +kernel) rfl, fc_G_of 87 (by decide +kernel) rfl⟩, fun h => absurd h (by decide)⟩
theorem kX11_pathsFrom : fc_mp (mX11_pathsFrom, 1, 0) := ⟨⟨fc_G_of 1583 (by decide +kernel) rfl, fc_G_of 117 (by decide +kernel) rfl, by decide +kernel, by decide⟩, fun _ => ⟨fc_G_of 1582 (by decide +kernel) rfl, fc_G_of 67 (by decide +kernel) rfl⟩, fun h => absurd h (by decide)⟩
theorem kX11_personOf : fc_mp (mX11_personOf, 2, 0) := ⟨⟨fc_G_of 1338 (by decide +kernel) rfl, fc_G_of 117 (by decide +kernel) rfl, by decide +kernel, by decide⟩, fun _ => ⟨fc_G_of 1337 (by decide +kernel) rfl, fc_G_of 36 (by decide +kernel) rfl⟩, fun h => absurd h (by decide)⟩
theorem kX11_thingOf : fc_mp (mX11_thingOf, 2, 0) := ⟨⟨fc_G_of 1346 (by decide +kernel) rfl, fc_G_of 117 (by decide +kernel) rfl, by decide +kernel, by decide⟩, fun _ => ⟨fc_G_of 1345 (by decide +kernel) rfl, fc_G_of 38 (by decide +kernel) rfl⟩, fun h => absurd h (by decide)⟩
theorem kX11_isPlace : fc_mp (mX11_isPlace, 1, 0) := ⟨⟨fc_G_of 1575 (by decide +kernel) rfl, fc_G_of 117 (by decide +kernel) rfl, by decide +kernel, by decide⟩, fun _ => ⟨fc_G_of 1574 (by decide +kernel) rfl, fc_G_of 65 (by decide +kernel) rfl⟩, fun h => absurd h (by decide)⟩
theorem kX11_isPerson : fc_mp (mX11_isPerson, 1, 0) := ⟨⟨fc_G_of 1599 (by decide +kernel) rfl, fc_G_of 117 (by decide +kernel) rfl, by decide +kernel, by decide⟩, fun _ => ⟨fc_G_of 1598 (by decide +kernel) rfl, fc_G_of 70 (by decide +kernel) rfl⟩, fun h => absurd h (by decide)⟩
theorem kX11_isThing : fc_mp (mX11_isThing, 1, 0) := ⟨⟨fc_G_of 1619 (by decide +kernel) rfl, fc_G_of 117 (by decide +kernel) rfl, by decide +kernel, by decide⟩, fun _ => ⟨fc_G_of 1618 (by decide +kernel) rfl, fc_G_of 74 (by decide +kernel) rfl⟩, fun h => absurd h (by decide)⟩
theorem kX11_bits : fc_mp (mX11_bits, 1, 1) := ⟨⟨fc_G_of 1658 (by decide +kernel) rfl, fc_G_of 117 (by decide +kernel) rfl, by decide +kernel, by decide⟩, fun h => absurd h (by decide), fun _ => fc_G_of 1657 (by decide +kernel) rfl⟩
theorem kX11_awakeAt : fc_mp (mX11_awakeAt, 1, 0) := ⟨⟨fc_G_of 1591 (by decide +kernel) rfl, fc_G_of 117 (by decide +kernel) rfl, by decide +kernel, by decide⟩, fun _ => ⟨fc_G_of 1590 (by decide +kernel) rfl, fc_G_of 69 (by decide +kernel) rfl⟩, fun h => absurd h (by decide)⟩
theorem kX11_isAwake : fc_mp (mX11_isAwake, 2, 0) := ⟨⟨fc_G_of 1603 (by decide +kernel) rfl, fc_G_of 117 (by decide +kernel) rfl, by decide +kernel, by decide⟩, fun _ => ⟨fc_G_of 1602 (by decide +kernel) rfl, fc_G_of 71 (by decide +kernel) rfl⟩, fun h => absurd h (by decide)⟩
theorem kX11_isReady : fc_mp (mX11_isReady, 2, 0) := ⟨⟨fc_G_of 1607 (by decide +kernel) rfl, fc_G_of 117 (by decide +kernel) rfl, by decide +kernel, by decide⟩, fun _ => ⟨fc_G_of 1606 (by decide +kernel) rfl, fc_G_of 72 (by decide +kernel) rfl⟩, fun h => absurd h (by decide)⟩
theorem kX11_whoIn : fc_mp (mX11_whoIn, 2, 0) := ⟨⟨fc_G_of 1587 (by decide +kernel) rfl, fc_G_of 117 (by decide +kernel) rfl, by decide +kernel, by decide⟩, fun _ => ⟨fc_G_of 1586 (by decide +kernel) rfl, fc_G_of 68 (by decide +kernel) rfl⟩, fun h => absurd h (by decide)⟩
theorem kX11_benches : fc_mp (mX11_benches, 0, 0) := ⟨⟨fc_G_of 1662 (by decide +kernel) rfl, fc_G_of 117 (by decide +kernel) rfl, by decide +kernel, by decide⟩, fun _ => ⟨fc_G_of 1661 (by decide +kernel) rfl, fc_G_of 82 (by decide +kernel) rfl⟩, fun h => absurd h (by decide)⟩
theorem kX11_doesBind : fc_mp (mX11_doesBind, 5, 0) := ⟨⟨fc_G_of 1655 (by decide +kernel) rfl, fc_G_of 117 (by decide +kernel) rfl, by decide +kernel, by decide⟩, fun _ => ⟨fc_G_of 1654 (by decide +kernel) rfl, fc_G_of 81 (by decide +kernel) rfl⟩, fun h => absurd h (by decide)⟩
theorem kX11_mayWalk : fc_mp (mX11_mayWalk, 3, 0) := ⟨⟨fc_G_of 1627 (by decide +kernel) rfl, fc_G_of 117 (by decide +kernel) rfl, by decide +kernel, by decide⟩, fun _ => ⟨fc_G_of 1626 (by decide +kernel) rfl, fc_G_of 75 (by decide +kernel) rfl⟩, fun h => absurd h (by decide)⟩
theorem kX11_walks : fc_mp (mX11_walks, 3, 0) := ⟨⟨fc_G_of 1639 (by decide +kernel) rfl, fc_G_of 117 (by decide +kernel) rfl, by decide +kernel, by decide⟩, fun _ => ⟨fc_G_of 1638 (by decide +kernel) rfl, fc_G_of 78 (by decide +kernel) rfl⟩, fun h => absurd h (by decide)⟩
theorem kX11_mayGive : fc_mp (mX11_mayGive, 3, 0) := ⟨⟨fc_G_of 1647 (by decide +kernel) rfl, fc_G_of 117 (by decide +kernel) rfl, by decide +kernel, by decide⟩, fun _ => ⟨fc_G_of 1646 (by decide +kernel) rfl, fc_G_of 79 (by decide +kernel) rfl⟩, fun h => absurd h (by decide)⟩
theorem kX11_gives : fc_mp (mX11_gives, 3, 0) := ⟨⟨fc_G_of 1651 (by decide +kernel) rfl, fc_G_of 117 (by decide +kernel) rfl, by decide +kernel, by decide⟩, fun _ => ⟨fc_G_of 1650 (by decide +kernel) rfl, fc_G_of 80 (by decide +kernel) rfl⟩, fun h => absurd h (by decide)⟩
theorem kX11_mayVow : fc_mp (mX11_mayVow, 3, 0) := ⟨⟨fc_G_of 1677 (by decide +kernel) rfl, fc_G_of 117 (by decide +kernel) rfl, by decide +kernel, by decide⟩, fun _ => ⟨fc_G_of 1676 (by decide +kernel) rfl, fc_G_of 84 (by decide +kernel) rfl⟩, fun h => absurd h (by decide)⟩
theorem kX11_vowsBy : fc_mp (mX11_vowsBy, 3, 0) := ⟨⟨fc_G_of 1681 (by decide +kernel) rfl, fc_G_of 117 (by decide +kernel) rfl, by decide +kernel, by decide⟩, fun _ => ⟨fc_G_of 1680 (by decide +kernel) rfl, fc_G_of 85 (by decide +kernel) rfl⟩, fun h => absurd h (by decide)⟩
theorem kX11_smokes : fc_mp (mX11_smokes, 1, 0) := ⟨⟨fc_G_of 1697 (by decide +kernel) rfl, fc_G_of 117 (by decide +kernel) rfl, by decide +kernel, by decide⟩, fun _ => ⟨fc_G_of 1696 (by decide +kernel) rfl, fc_G_of 88 (by decide +kernel) rfl⟩, fun h => absurd h (by decide)⟩
theorem kX11_passes : fc_mp (mX11_passes, 1, 0) := ⟨⟨fc_G_of 1689 (by decide +kernel) rfl, fc_G_of 117 (by decide +kernel) rfl, by decide +kernel, by decide⟩, fun _ => ⟨fc_G_of 1688 (by decide +kernel) rfl, fc_G_of 86 (by decide +kernel) rfl⟩, fun h => absurd h (by decide)⟩
theorem kX11_thingsWith : fc_mp (mX11_thingsWith, 2, 0) := ⟨⟨fc_G_of 1611 (by decide +kernel) rfl, fc_G_of 117 (by decide +kernel) rfl, by decide +kernel, by decide⟩, fun _ => ⟨fc_G_of 1610 (by decide +kernel) rfl, fc_G_of 73 (by decide +kernel) rfl⟩, fun h => absurd h (by decide)⟩
theorem kX11_wrongThings : fc_mp (mX11_wrongThings, 1, 0) := ⟨⟨fc_G_of 1784 (by decide +kernel) rfl, fc_G_of 117 (by decide +kernel) rfl, by decide +kernel, by decide⟩, fun _ => ⟨fc_G_of 1783 (by decide +kernel) rfl, fc_G_of 95 (by decide +kernel) rfl⟩, fun h => absurd h (by decide)⟩
theorem kX11_place : fc_mp (mX11_place, 2, 0) := ⟨⟨fc_G_of 1571 (by decide +kernel) rfl, fc_G_of 117 (by decide +kernel) rfl, by decide +kernel, by decide⟩, fun _ => ⟨fc_G_of 1569 (by decide +kernel) rfl, fc_G_of 1570 (by decide +kernel) rfl⟩, fun h => absurd h (by decide)⟩
theorem kX11_person : fc_mp (mX11_person, 2, 0) := ⟨⟨fc_G_of 1595 (by decide +kernel) rfl, fc_G_of 117 (by decide +kernel) rfl, by decide +kernel, by decide⟩, fun _ => ⟨fc_G_of 1593 (by decide +kernel) rfl, fc_G_of 1594 (by decide +kernel) rfl⟩, fun h => absurd h (by decide)⟩
theorem kX11_thing : fc_mp (mX11_thing, 2, 0) := ⟨⟨fc_G_of 1615 (by decide +kernel) rfl, fc_G_of 117 (by decide +kernel) rfl, by decide +kernel, by decide⟩, fun _ => ⟨fc_G_of 1613 (by decide +kernel) rfl, fc_G_of 1614 (by decide +kernel) rfl⟩, fun h => absurd h (by decide)⟩
theorem kX11_walk : fc_mp (mX11_walk, 2, 0) := ⟨⟨fc_G_of 1623 (by decide +kernel) rfl, fc_G_of 117 (by decide +kernel) rfl, by decide +kernel, by decide⟩, fun _ => ⟨fc_G_of 1621 (by decide +kernel) rfl, fc_G_of 1622 (by decide +kernel) rfl⟩, fun h => absurd h (by decide)⟩
theorem kX11_give : fc_mp (mX11_give, 2, 0) := ⟨⟨fc_G_of 1643 (by decide +kernel) rfl, fc_G_of 117 (by decide +kernel) rfl, by decide +kernel, by decide⟩, fun _ => ⟨fc_G_of 1641 (by decide +kernel) rfl, fc_G_of 1642 (by decide +kernel) rfl⟩, fun h => absurd h (by decide)⟩
theorem kX11_vow : fc_mp (mX11_vow, 2, 0) := ⟨⟨fc_G_of 1673 (by decide +kernel) rfl, fc_G_of 117 (by decide +kernel) rfl, by decide +kernel, by decide⟩, fun _ => ⟨fc_G_of 1671 (by decide +kernel) rfl, fc_G_of 1672 (by decide +kernel) rfl⟩, fun h => absurd h (by decide)⟩
theorem kX11_minute : fc_mp (mX11_minute, 0, 0) := ⟨⟨fc_G_of 1685 (by decide +kernel) rfl, fc_G_of 117 (by decide +kernel) rfl, by decide +kernel, by decide⟩, fun _ => ⟨fc_G_of 1683 (by decide +kernel) rfl, fc_G_of 1684 (by decide +kernel) rfl⟩, fun h => absurd h (by decide)⟩
theorem kX11_undo : fc_mp (mX11_undo, 0, 0) := ⟨⟨fc_G_of 1701 (by decide +kernel) rfl, fc_G_of 117 (by decide +kernel) rfl, by decide +kernel, by decide⟩, fun _ => ⟨fc_G_of 1699 (by decide +kernel) rfl, fc_G_of 1700 (by decide +kernel) rfl⟩, fun h => absurd h (by decide)⟩
theorem kX11_judged : fc_mp (mX11_judged, 1, 0) := ⟨⟨fc_G_of 1705 (by decide +kernel) rfl, fc_G_of 117 (by decide +kernel) rfl, by decide +kernel, by decide⟩, fun _ => ⟨fc_G_of 1703 (by decide +kernel) rfl, fc_G_of 1704 (by decide +kernel) rfl⟩, fun h => absurd h (by decide)⟩
theorem kX11_onFrom : fc_mp (mX11_onFrom, 2, 0) := ⟨⟨fc_G_of 1717 (by decide +kernel) rfl, fc_G_of 117 (by decide +kernel) rfl, by decide +kernel, by decide⟩, fun _ => ⟨fc_G_of 1716 (by decide +kernel) rfl, fc_G_of 90 (by decide +kernel) rfl⟩, fun h => absurd h (by decide)⟩
theorem kX11_reachBy : fc_mp (mX11_reachBy, 2, 0) := ⟨⟨fc_G_of 1713 (by decide +kernel) rfl, fc_G_of 117 (by decide +kernel) rfl, by decide +kernel, by decide⟩, fun _ => ⟨fc_G_of 1712 (by decide +kernel) rfl, fc_G_of 89 (by decide +kernel) rfl⟩, fun h => absurd h (by decide)⟩
theorem kX11_farOf : fc_mp (mX11_farOf, 2, 0) := ⟨⟨fc_G_of 1725 (by decide +kernel) rfl, fc_G_of 117 (by decide +kernel) rfl, by decide +kernel, by decide⟩, fun _ => ⟨fc_G_of 1724 (by decide +kernel) rfl, fc_G_of 91 (by decide +kernel) rfl⟩, fun h => absurd h (by decide)⟩
theorem kX11_reach : fc_mp (mX11_reach, 1, 0) := ⟨⟨fc_G_of 1709 (by decide +kernel) rfl, fc_G_of 117 (by decide +kernel) rfl, by decide +kernel, by decide⟩, fun _ => ⟨fc_G_of 1707 (by decide +kernel) rfl, fc_G_of 1708 (by decide +kernel) rfl⟩, fun h => absurd h (by decide)⟩
theorem kX11_far : fc_mp (mX11_far, 2, 0) := ⟨⟨fc_G_of 1721 (by decide +kernel) rfl, fc_G_of 117 (by decide +kernel) rfl, by decide +kernel, by decide⟩, fun _ => ⟨fc_G_of 1719 (by decide +kernel) rfl, fc_G_of 1720 (by decide +kernel) rfl⟩, fun h => absurd h (by decide)⟩
theorem kX11_cuts : fc_mp (mX11_cuts, 0, 0) := ⟨⟨fc_G_of 1729 (by decide +kernel) rfl, fc_G_of 117 (by decide +kernel) rfl, by decide +kernel, by decide⟩, fun _ => ⟨fc_G_of 1727 (by decide +kernel) rfl, fc_G_of 1728 (by decide +kernel) rfl⟩, fun h => absurd h (by decide)⟩
theorem kX11_hub : fc_mp (mX11_hub, 0, 0) := ⟨⟨fc_G_of 1733 (by decide +kernel) rfl, fc_G_of 117 (by decide +kernel) rfl, by decide +kernel, by decide⟩, fun _ => ⟨fc_G_of 1731 (by decide +kernel) rfl, fc_G_of 1732 (by decide +kernel) rfl⟩, fun h => absurd h (by decide)⟩
theorem kX11_links : fc_mp (mX11_links, 1, 0) := ⟨⟨fc_G_of 1737 (by decide +kernel) rfl, fc_G_of 117 (by decide +kernel) rfl, by decide +kernel, by decide⟩, fun _ => ⟨fc_G_of 1735 (by decide +kernel) rfl, fc_G_of 1736 (by decide +kernel) rfl⟩, fun h => absurd h (by decide)⟩
theorem kX11_wide : fc_mp (mX11_wide, 0, 0) := ⟨⟨fc_G_of 1741 (by decide +kernel) rfl, fc_G_of 117 (by decide +kernel) rfl, by decide +kernel, by decide⟩, fun _ => ⟨fc_G_of 1739 (by decide +kernel) rfl, fc_G_of 1740 (by decide +kernel) rfl⟩, fun h => absurd h (by decide)⟩
theorem kX11_readyIn : fc_mp (mX11_readyIn, 1, 0) := ⟨⟨fc_G_of 1753 (by decide +kernel) rfl, fc_G_of 117 (by decide +kernel) rfl, by decide +kernel, by decide⟩, fun _ => ⟨fc_G_of 1752 (by decide +kernel) rfl, fc_G_of 93 (by decide +kernel) rfl⟩, fun h => absurd h (by decide)⟩
theorem kX11_paceOf : fc_mp (mX11_paceOf, 1, 0) := ⟨⟨fc_G_of 1757 (by decide +kernel) rfl, fc_G_of 117 (by decide +kernel) rfl, by decide +kernel, by decide⟩, fun _ => ⟨fc_G_of 1756 (by decide +kernel) rfl, fc_G_of 94 (by decide +kernel) rfl⟩, fun h => absurd h (by decide)⟩
theorem kX11_soonOf : fc_mp (mX11_soonOf, 2, 0) := ⟨⟨fc_G_of 1749 (by decide +kernel) rfl, fc_G_of 117 (by decide +kernel) rfl, by decide +kernel, by decide⟩, fun _ => ⟨fc_G_of 1748 (by decide +kernel) rfl, fc_G_of 92 (by decide +kernel) rfl⟩, fun h => absurd h (by decide)⟩
theorem kX11_told : fc_mp (mX11_told, 1, 1) := ⟨⟨fc_G_of 1760 (by decide +kernel) rfl, fc_G_of 117 (by decide +kernel) rfl, by decide +kernel, by decide⟩, fun h => absurd h (by decide), fun _ => fc_G_of 1759 (by decide +kernel) rfl⟩
theorem kX11_soon : fc_mp (mX11_soon, 2, 0) := ⟨⟨fc_G_of 1745 (by decide +kernel) rfl, fc_G_of 117 (by decide +kernel) rfl, by decide +kernel, by decide⟩, fun _ => ⟨fc_G_of 1743 (by decide +kernel) rfl, fc_G_of 1744 (by decide +kernel) rfl⟩, fun h => absurd h (by decide)⟩
theorem kX11_meet : fc_mp (mX11_meet, 2, 0) := ⟨⟨fc_G_of 1764 (by decide +kernel) rfl, fc_G_of 117 (by decide +kernel) rfl, by decide +kernel, by decide⟩, fun _ => ⟨fc_G_of 1762 (by decide +kernel) rfl, fc_G_of 1763 (by decide +kernel) rfl⟩, fun h => absurd h (by decide)⟩
theorem kX11_all : fc_mp (mX11_all, 1, 0) := ⟨⟨fc_G_of 1768 (by decide +kernel) rfl, fc_G_of 117 (by decide +kernel) rfl, by decide +kernel, by decide⟩, fun _ => ⟨fc_G_of 1766 (by decide +kernel) rfl, fc_G_of 1767 (by decide +kernel) rfl⟩, fun h => absurd h (by decide)⟩
theorem kX11_tour : fc_mp (mX11_tour, 1, 0) := ⟨⟨fc_G_of 1772 (by decide +kernel) rfl, fc_G_of 117 (by decide +kernel) rfl, by decide +kernel, by decide⟩, fun _ => ⟨fc_G_of 1770 (by decide +kernel) rfl, fc_G_of 1771 (by decide +kernel) rfl⟩, fun h => absurd h (by decide)⟩
theorem kX11_intime : fc_mp (mX11_intime, 2, 0) := ⟨⟨fc_G_of 1776 (by decide +kernel) rfl, fc_G_of 117 (by decide +kernel) rfl, by decide +kernel, by decide⟩, fun _ => ⟨fc_G_of 1774 (by decide +kernel) rfl, fc_G_of 1775 (by decide +kernel) rfl⟩, fun h => absurd h (by decide)⟩
theorem kX11_back : fc_mp (mX11_back, 0, 0) := ⟨⟨fc_G_of 1780 (by decide +kernel) rfl, fc_G_of 117 (by decide +kernel) rfl, by decide +kernel, by decide⟩, fun _ => ⟨fc_G_of 1778 (by decide +kernel) rfl, fc_G_of 1779 (by decide +kernel) rfl⟩, fun h => absurd h (by decide)⟩
theorem kX11_could : fc_mp (mX11_could, 1, 0) := ⟨⟨fc_G_of 1788 (by decide +kernel) rfl, fc_G_of 117 (by decide +kernel) rfl, by decide +kernel, by decide⟩, fun _ => ⟨fc_G_of 1786 (by decide +kernel) rfl, fc_G_of 1787 (by decide +kernel) rfl⟩, fun h => absurd h (by decide)⟩
theorem kX11_wouldBind : fc_mp (mX11_wouldBind, 3, 0) := ⟨⟨fc_G_of 1800 (by decide +kernel) rfl, fc_G_of 117 (by decide +kernel) rfl, by decide +kernel, by decide⟩, fun _ => ⟨fc_G_of 1799 (by decide +kernel) rfl, fc_G_of 97 (by decide +kernel) rfl⟩, fun h => absurd h (by decide)⟩
theorem kX11_isGift : fc_mp (mX11_isGift, 2, 0) := ⟨⟨fc_G_of 1796 (by decide +kernel) rfl, fc_G_of 117 (by decide +kernel) rfl, by decide +kernel, by decide⟩, fun _ => ⟨fc_G_of 1795 (by decide +kernel) rfl, fc_G_of 96 (by decide +kernel) rfl⟩, fun h => absurd h (by decide)⟩
theorem kX11_would : fc_mp (mX11_would, 2, 0) := ⟨⟨fc_G_of 1792 (by decide +kernel) rfl, fc_G_of 117 (by decide +kernel) rfl, by decide +kernel, by decide⟩, fun _ => ⟨fc_G_of 1790 (by decide +kernel) rfl, fc_G_of 1791 (by decide +kernel) rfl⟩, fun h => absurd h (by decide)⟩
theorem kX11_when : fc_mp (mX11_when, 2, 0) := ⟨⟨fc_G_of 1804 (by decide +kernel) rfl, fc_G_of 117 (by decide +kernel) rfl, by decide +kernel, by decide⟩, fun _ => ⟨fc_G_of 1802 (by decide +kernel) rfl, fc_G_of 1803 (by decide +kernel) rfl⟩, fun h => absurd h (by decide)⟩
theorem kX11_vows : fc_mp (mX11_vows, 2, 0) := ⟨⟨fc_G_of 1808 (by decide +kernel) rfl, fc_G_of 117 (by decide +kernel) rfl, by decide +kernel, by decide⟩, fun _ => ⟨fc_G_of 1806 (by decide +kernel) rfl, fc_G_of 1807 (by decide +kernel) rfl⟩, fun h => absurd h (by decide)⟩
theorem kX11_sees : fc_mp (mX11_sees, 1, 0) := ⟨⟨fc_G_of 1812 (by decide +kernel) rfl, fc_G_of 117 (by decide +kernel) rfl, by decide +kernel, by decide⟩, fun _ => ⟨fc_G_of 1810 (by decide +kernel) rfl, fc_G_of 1811 (by decide +kernel) rfl⟩, fun h => absurd h (by decide)⟩
theorem kX11_heard : fc_mp (mX11_heard, 1, 0) := ⟨⟨fc_G_of 1816 (by decide +kernel) rfl, fc_G_of 117 (by decide +kernel) rfl, by decide +kernel, by decide⟩, fun _ => ⟨fc_G_of 1814 (by decide +kernel) rfl, fc_G_of 1815 (by decide +kernel) rfl⟩, fun h => absurd h (by decide)⟩
theorem kX11_heardOfAll : fc_mp (mX11_heardOfAll, 1, 0) := ⟨⟨fc_G_of 1828 (by decide +kernel) rfl, fc_G_of 117 (by decide +kernel) rfl, by decide +kernel, by decide⟩, fun _ => ⟨fc_G_of 1827 (by decide +kernel) rfl, fc_G_of 99 (by decide +kernel) rfl⟩, fun h => absurd h (by decide)⟩
theorem kX11_triesNow : fc_mp (mX11_triesNow, 0, 0) := ⟨⟨fc_G_of 1824 (by decide +kernel) rfl, fc_G_of 117 (by decide +kernel) rfl, by decide +kernel, by decide⟩, fun _ => ⟨fc_G_of 1823 (by decide +kernel) rfl, fc_G_of 98 (by decide +kernel) rfl⟩, fun h => absurd h (by decide)⟩
theorem kX11_news : fc_mp (mX11_news, 0, 0) := ⟨⟨fc_G_of 1820 (by decide +kernel) rfl, fc_G_of 117 (by decide +kernel) rfl, by decide +kernel, by decide⟩, fun _ => ⟨fc_G_of 1818 (by decide +kernel) rfl, fc_G_of 1819 (by decide +kernel) rfl⟩, fun h => absurd h (by decide)⟩
theorem kX11_alone : fc_mp (mX11_alone, 0, 0) := ⟨⟨fc_G_of 1832 (by decide +kernel) rfl, fc_G_of 117 (by decide +kernel) rfl, by decide +kernel, by decide⟩, fun _ => ⟨fc_G_of 1830 (by decide +kernel) rfl, fc_G_of 1831 (by decide +kernel) rfl⟩, fun h => absurd h (by decide)⟩
theorem kX11_see : fc_mp (mX11_see, 3, 0) := ⟨⟨fc_G_of 1836 (by decide +kernel) rfl, fc_G_of 117 (by decide +kernel) rfl, by decide +kernel, by decide⟩, fun _ => ⟨fc_G_of 1834 (by decide +kernel) rfl, fc_G_of 1835 (by decide +kernel) rfl⟩, fun h => absurd h (by decide)⟩
theorem kX11_whoNow : fc_mp (mX11_whoNow, 0, 0) := ⟨⟨fc_G_of 1844 (by decide +kernel) rfl, fc_G_of 117 (by decide +kernel) rfl, by decide +kernel, by decide⟩, fun _ => ⟨fc_G_of 1843 (by decide +kernel) rfl, fc_G_of 100 (by decide +kernel) rfl⟩, fun h => absurd h (by decide)⟩
theorem kX11_who : fc_mp (mX11_who, 0, 0) := ⟨⟨fc_G_of 1840 (by decide +kernel) rfl, fc_G_of 117 (by decide +kernel) rfl, by decide +kernel, by decide⟩, fun _ => ⟨fc_G_of 1838 (by decide +kernel) rfl, fc_G_of 1839 (by decide +kernel) rfl⟩, fun h => absurd h (by decide)⟩
theorem kX11_ask : fc_mp (mX11_ask, 0, 0) := ⟨⟨fc_G_of 1848 (by decide +kernel) rfl, fc_G_of 117 (by decide +kernel) rfl, by decide +kernel, by decide⟩, fun _ => ⟨fc_G_of 1846 (by decide +kernel) rfl, fc_G_of 1847 (by decide +kernel) rfl⟩, fun h => absurd h (by decide)⟩
theorem kX11_worthOf : fc_mp (mX11_worthOf, 2, 0) := ⟨⟨fc_G_of 1856 (by decide +kernel) rfl, fc_G_of 117 (by decide +kernel) rfl, by decide +kernel, by decide⟩, fun _ => ⟨fc_G_of 1855 (by decide +kernel) rfl, fc_G_of 101 (by decide +kernel) rfl⟩, fun h => absurd h (by decide)⟩
theorem kX11_has : fc_mp (mX11_has, 2, 0) := ⟨⟨fc_G_of 1852 (by decide +kernel) rfl, fc_G_of 117 (by decide +kernel) rfl, by decide +kernel, by decide⟩, fun _ => ⟨fc_G_of 1850 (by decide +kernel) rfl, fc_G_of 1851 (by decide +kernel) rfl⟩, fun h => absurd h (by decide)⟩
theorem kX11_sleeps : fc_mp (mX11_sleeps, 1, 0) := ⟨⟨fc_G_of 1860 (by decide +kernel) rfl, fc_G_of 117 (by decide +kernel) rfl, by decide +kernel, by decide⟩, fun _ => ⟨fc_G_of 1858 (by decide +kernel) rfl, fc_G_of 1859 (by decide +kernel) rfl⟩, fun h => absurd h (by decide)⟩
theorem kX11_rich : fc_mp (mX11_rich, 1, 0) := ⟨⟨fc_G_of 1864 (by decide +kernel) rfl, fc_G_of 117 (by decide +kernel) rfl, by decide +kernel, by decide⟩, fun _ => ⟨fc_G_of 1862 (by decide +kernel) rfl, fc_G_of 1863 (by decide +kernel) rfl⟩, fun h => absurd h (by decide)⟩
theorem kX11_chance : fc_mp (mX11_chance, 2, 0) := ⟨⟨fc_G_of 1868 (by decide +kernel) rfl, fc_G_of 117 (by decide +kernel) rfl, by decide +kernel, by decide⟩, fun _ => ⟨fc_G_of 1866 (by decide +kernel) rfl, fc_G_of 1867 (by decide +kernel) rfl⟩, fun h => absurd h (by decide)⟩
theorem kX11_getsBy : fc_mp (mX11_getsBy, 5, 1) := ⟨⟨fc_G_of 1876 (by decide +kernel) rfl, fc_G_of 117 (by decide +kernel) rfl, by decide +kernel, by decide⟩, fun h => absurd h (by decide), fun _ => fc_G_of 1875 (by decide +kernel) rfl⟩
theorem kX11_rests : fc_mp (mX11_rests, 4, 0) := ⟨⟨fc_G_of 1873 (by decide +kernel) rfl, fc_G_of 117 (by decide +kernel) rfl, by decide +kernel, by decide⟩, fun _ => ⟨fc_G_of 1871 (by decide +kernel) rfl, fc_G_of 1872 (by decide +kernel) rfl⟩, fun h => absurd h (by decide)⟩
theorem kX11_draw : fc_mp (mX11_draw, 1, 0) := ⟨⟨fc_G_of 1888 (by decide +kernel) rfl, fc_G_of 117 (by decide +kernel) rfl, by decide +kernel, by decide⟩, fun _ => ⟨fc_G_of 1887 (by decide +kernel) rfl, fc_G_of 103 (by decide +kernel) rfl⟩, fun h => absurd h (by decide)⟩
theorem kX11_drawsDeed : fc_mp (mX11_drawsDeed, 0, 0) := ⟨⟨fc_G_of 1884 (by decide +kernel) rfl, fc_G_of 117 (by decide +kernel) rfl, by decide +kernel, by decide⟩, fun _ => ⟨fc_G_of 1883 (by decide +kernel) rfl, fc_G_of 102 (by decide +kernel) rfl⟩, fun h => absurd h (by decide)⟩
theorem kX11_mornings : fc_mp (mX11_mornings, 3, 0) := ⟨⟨fc_G_of 1880 (by decide +kernel) rfl, fc_G_of 117 (by decide +kernel) rfl, by decide +kernel, by decide⟩, fun _ => ⟨fc_G_of 1878 (by decide +kernel) rfl, fc_G_of 1879 (by decide +kernel) rfl⟩, fun h => absurd h (by decide)⟩
theorem kX11_mark : fc_mp (mX11_mark, 2, 0) := ⟨⟨fc_G_of 1896 (by decide +kernel) rfl, fc_G_of 117 (by decide +kernel) rfl, by decide +kernel, by decide⟩, fun _ => ⟨fc_G_of 1894 (by decide +kernel) rfl, fc_G_of 1895 (by decide +kernel) rfl⟩, fun h => absurd h (by decide)⟩
theorem kX11_pairsOf : fc_mp (mX11_pairsOf, 1, 0) := ⟨⟨fc_G_of 1904 (by decide +kernel) rfl, fc_G_of 117 (by decide +kernel) rfl, by decide +kernel, by decide⟩, fun _ => ⟨fc_G_of 1903 (by decide +kernel) rfl, fc_G_of 104 (by decide +kernel) rfl⟩, fun h => absurd h (by decide)⟩
theorem kX11_count : fc_mp (mX11_count, 1, 0) := ⟨⟨fc_G_of 1900 (by decide +kernel) rfl, fc_G_of 117 (by decide +kernel) rfl, by decide +kernel, by decide⟩, fun _ => ⟨fc_G_of 1898 (by decide +kernel) rfl, fc_G_of 1899 (by decide +kernel) rfl⟩, fun h => absurd h (by decide)⟩
theorem kJ11_isValidCodePoint_9a6ad : fc_mp (mJ11_isValidCodePoint_9a6ad, 1, 1) := ⟨⟨fc_G_of 650 (by decide +kernel) rfl, fc_G_of 124 (by decide +kernel) rfl, by decide +kernel, by decide⟩, fun h => absurd h (by decide), fun _ => fc_G_of 649 (by decide +kernel) rfl⟩
theorem kJ11_highSurrogate_5068e : fc_mp (mJ11_highSurrogate_5068e, 1, 1) := ⟨⟨fc_G_of 653 (by decide +kernel) rfl, fc_G_of 124 (by decide +kernel) rfl, by decide +kernel, by decide⟩, fun h => absurd h (by decide), fun _ => fc_G_of 652 (by decide +kernel) rfl⟩
theorem kJ11_lowSurrogate_5068e : fc_mp (mJ11_lowSurrogate_5068e, 1, 1) := ⟨⟨fc_G_of 657 (by decide +kernel) rfl, fc_G_of 124 (by decide +kernel) rfl, by decide +kernel, by decide⟩, fun h => absurd h (by decide), fun _ => fc_G_of 656 (by decide +kernel) rfl⟩
theorem kJ6_bitCount_0f7a4 : fc_mp (mJ6_bitCount_0f7a4, 1, 1) := ⟨⟨fc_G_of 899 (by decide +kernel) rfl, fc_G_of 126 (by decide +kernel) rfl, by decide +kernel, by decide⟩, fun h => absurd h (by decide), fun _ => fc_G_of 898 (by decide +kernel) rfl⟩
theorem kJ9_max_7cf53 : fc_mp (mJ9_max_7cf53, 2, 1) := ⟨⟨fc_G_of 617 (by decide +kernel) rfl, fc_G_of 123 (by decide +kernel) rfl, by decide +kernel, by decide⟩, fun h => absurd h (by decide), fun _ => fc_G_of 616 (by decide +kernel) rfl⟩
theorem kJ9_min_7cf53 : fc_mp (mJ9_min_7cf53, 2, 1) := ⟨⟨fc_G_of 620 (by decide +kernel) rfl, fc_G_of 123 (by decide +kernel) rfl, by decide +kernel, by decide⟩, fun h => absurd h (by decide), fun _ => fc_G_of 619 (by decide +kernel) rfl⟩
theorem kJ0_length_8abf5 : fc_mp (mJ0_length_8abf5, 0, 0) := ⟨⟨fc_G_of 550 (by decide +kernel) rfl, fc_G_of 119 (by decide +kernel) rfl, by decide +kernel, by decide⟩, fun _ => ⟨fc_G_of 548 (by decide +kernel) rfl, fc_G_of 549 (by decide +kernel) rfl⟩, fun h => absurd h (by decide)⟩
theorem kJ0_charAt_5068e : fc_mp (mJ0_charAt_5068e, 1, 0) := ⟨⟨fc_G_of 560 (by decide +kernel) rfl, fc_G_of 119 (by decide +kernel) rfl, by decide +kernel, by decide⟩, fun _ => ⟨fc_G_of 558 (by decide +kernel) rfl, fc_G_of 559 (by decide +kernel) rfl⟩, fun h => absurd h (by decide)⟩
theorem kJ0_indexOf_0f7a4 : fc_mp (mJ0_indexOf_0f7a4, 1, 0) := ⟨⟨fc_G_of 603 (by decide +kernel) rfl, fc_G_of 119 (by decide +kernel) rfl, by decide +kernel, by decide⟩, fun _ => ⟨fc_G_of 601 (by decide +kernel) rfl, fc_G_of 602 (by decide +kernel) rfl⟩, fun h => absurd h (by decide)⟩
theorem kJ0_indexOf_7cf53 : fc_mp (mJ0_indexOf_7cf53, 2, 0) := ⟨⟨fc_G_of 607 (by decide +kernel) rfl, fc_G_of 119 (by decide +kernel) rfl, by decide +kernel, by decide⟩, fun _ => ⟨fc_G_of 605 (by decide +kernel) rfl, fc_G_of 606 (by decide +kernel) rfl⟩, fun h => absurd h (by decide)⟩
theorem kJ0_isLatin1_aae02 : fc_mp (mJ0_isLatin1_aae02, 0, 0) := ⟨⟨fc_G_of 564 (by decide +kernel) rfl, fc_G_of 119 (by decide +kernel) rfl, by decide +kernel, by decide⟩, fun _ => ⟨fc_G_of 562 (by decide +kernel) rfl, fc_G_of 563 (by decide +kernel) rfl⟩, fun h => absurd h (by decide)⟩
theorem kJ0_checkIndex_df160 : fc_mp (mJ0_checkIndex_df160, 2, 1) := ⟨⟨fc_G_of 570 (by decide +kernel) rfl, fc_G_of 119 (by decide +kernel) rfl, by decide +kernel, by decide⟩, fun h => absurd h (by decide), fun _ => fc_G_of 569 (by decide +kernel) rfl⟩
theorem kJ0_checkBoundsBeginEnd_23922 : fc_mp (mJ0_checkBoundsBeginEnd_23922, 3, 1) := ⟨⟨fc_G_of 638 (by decide +kernel) rfl, fc_G_of 119 (by decide +kernel) rfl, by decide +kernel, by decide⟩, fun h => absurd h (by decide), fun _ => fc_G_of 637 (by decide +kernel) rfl⟩
theorem kJ1_charAt_3b067 : fc_mp (mJ1_charAt_3b067, 2, 1) := ⟨⟨fc_G_of 567 (by decide +kernel) rfl, fc_G_of 120 (by decide +kernel) rfl, by decide +kernel, by decide⟩, fun h => absurd h (by decide), fun _ => fc_G_of 566 (by decide +kernel) rfl⟩
theorem kJ1_canEncode_9a6ad : fc_mp (mJ1_canEncode_9a6ad, 1, 1) := ⟨⟨fc_G_of 614 (by decide +kernel) rfl, fc_G_of 120 (by decide +kernel) rfl, by decide +kernel, by decide⟩, fun h => absurd h (by decide), fun _ => fc_G_of 613 (by decide +kernel) rfl⟩
theorem kJ1_indexOf_4cfef : fc_mp (mJ1_indexOf_4cfef, 4, 1) := ⟨⟨fc_G_of 611 (by decide +kernel) rfl, fc_G_of 120 (by decide +kernel) rfl, by decide +kernel, by decide⟩, fun h => absurd h (by decide), fun _ => fc_G_of 610 (by decide +kernel) rfl⟩
theorem kJ1_indexOfChar_4cfef : fc_mp (mJ1_indexOfChar_4cfef, 4, 1) := ⟨⟨fc_G_of 623 (by decide +kernel) rfl, fc_G_of 120 (by decide +kernel) rfl, by decide +kernel, by decide⟩, fun h => absurd h (by decide), fun _ => fc_G_of 622 (by decide +kernel) rfl⟩
theorem kJ2_getChar_3b067 : fc_mp (mJ2_getChar_3b067, 2, 1) := ⟨⟨fc_G_of 588 (by decide +kernel) rfl, fc_G_of 122 (by decide +kernel) rfl, by decide +kernel, by decide⟩, fun h => absurd h (by decide), fun _ => fc_G_of 587 (by decide +kernel) rfl⟩
theorem kJ2_length_9d52b : fc_mp (mJ2_length_9d52b, 1, 1) := ⟨⟨fc_G_of 584 (by decide +kernel) rfl, fc_G_of 122 (by decide +kernel) rfl, by decide +kernel, by decide⟩, fun h => absurd h (by decide), fun _ => fc_G_of 583 (by decide +kernel) rfl⟩
theorem kJ2_indexOf_4cfef : fc_mp (mJ2_indexOf_4cfef, 4, 1) := ⟨⟨fc_G_of 626 (by decide +kernel) rfl, fc_G_of 122 (by decide +kernel) rfl, by decide +kernel, by decide⟩, fun h => absurd h (by decide), fun _ => fc_G_of 625 (by decide +kernel) rfl⟩
theorem kJ2_indexOfChar_4cfef : fc_mp (mJ2_indexOfChar_4cfef, 4, 1) := ⟨⟨fc_G_of 632 (by decide +kernel) rfl, fc_G_of 122 (by decide +kernel) rfl, by decide +kernel, by decide⟩, fun h => absurd h (by decide), fun _ => fc_G_of 631 (by decide +kernel) rfl⟩
theorem kJ2_indexOfCharUnsafe_4cfef : fc_mp (mJ2_indexOfCharUnsafe_4cfef, 4, 1) := ⟨⟨fc_G_of 644 (by decide +kernel) rfl, fc_G_of 122 (by decide +kernel) rfl, by decide +kernel, by decide⟩, fun h => absurd h (by decide), fun _ => fc_G_of 643 (by decide +kernel) rfl⟩
theorem kJ2_indexOfSupplementary_4cfef : fc_mp (mJ2_indexOfSupplementary_4cfef, 4, 1) := ⟨⟨fc_G_of 647 (by decide +kernel) rfl, fc_G_of 122 (by decide +kernel) rfl, by decide +kernel, by decide⟩, fun h => absurd h (by decide), fun _ => fc_G_of 646 (by decide +kernel) rfl⟩
theorem kJ2_charAt_3b067 : fc_mp (mJ2_charAt_3b067, 2, 1) := ⟨⟨fc_G_of 578 (by decide +kernel) rfl, fc_G_of 122 (by decide +kernel) rfl, by decide +kernel, by decide⟩, fun h => absurd h (by decide), fun _ => fc_G_of 577 (by decide +kernel) rfl⟩
theorem kJ2_checkIndex_2214a : fc_mp (mJ2_checkIndex_2214a, 2, 1) := ⟨⟨fc_G_of 581 (by decide +kernel) rfl, fc_G_of 122 (by decide +kernel) rfl, by decide +kernel, by decide⟩, fun h => absurd h (by decide), fun _ => fc_G_of 580 (by decide +kernel) rfl⟩
theorem kJ2_checkBoundsBeginEnd_d044e : fc_mp (mJ2_checkBoundsBeginEnd_d044e, 3, 1) := ⟨⟨fc_G_of 635 (by decide +kernel) rfl, fc_G_of 122 (by decide +kernel) rfl, by decide +kernel, by decide⟩, fun h => absurd h (by decide), fun _ => fc_G_of 634 (by decide +kernel) rfl⟩
theorem kJ7_fill_53178 : fc_mp (mJ7_fill_53178, 2, 1) := ⟨⟨fc_G_of 528 (by decide +kernel) rfl, fc_G_of 118 (by decide +kernel) rfl, by decide +kernel, by decide⟩, fun h => absurd h (by decide), fun _ => fc_G_of 527 (by decide +kernel) rfl⟩
theorem kJ3_checkIndex_8e157 : fc_mp (mJ3_checkIndex_8e157, 3, 1) := ⟨⟨fc_G_of 575 (by decide +kernel) rfl, fc_G_of 121 (by decide +kernel) rfl, by decide +kernel, by decide⟩, fun h => absurd h (by decide), fun _ => fc_G_of 574 (by decide +kernel) rfl⟩
theorem kJ3_checkFromToIndex_8c36e : fc_mp (mJ3_checkFromToIndex_8c36e, 4, 1) := ⟨⟨fc_G_of 641 (by decide +kernel) rfl, fc_G_of 121 (by decide +kernel) rfl, by decide +kernel, by decide⟩, fun h => absurd h (by decide), fun _ => fc_G_of 640 (by decide +kernel) rfl⟩
def fc_mt0 : List (fc_M × Nat × Nat) := [(mX0_clear, 0, 0), (mX0_indexOf, 3, 1), (mX0_isTold, 1, 0), (mX0_hasPlace, 1, 0), (mX0_hasPerson, 1, 0), (mX0_hasThing, 1, 0), (mX0_isAwake, 2, 0), (mX0_sleepOf, 2, 0), (mX0_awakeBits, 1, 0), (mX1_read, 2, 0), (mX1_isNewName, 2, 1), (mX1_readPlace, 2, 0), (mX1_readPath, 2, 0), (mX1_readPerson, 2, 0), (mX1_readThing, 2, 0), (mX1_readSmoke, 2, 0)]
theorem fc_mo0 : ∀ t ∈ fc_mt0, fc_mp t := List.forall_mem_cons.mpr ⟨kX0_clear, List.forall_mem_cons.mpr ⟨kX0_indexOf, List.forall_mem_cons.mpr ⟨kX0_isTold, List.forall_mem_cons.mpr ⟨kX0_hasPlace, List.forall_mem_cons.mpr ⟨kX0_hasPerson, List.forall_mem_cons.mpr ⟨kX0_hasThing, List.forall_mem_cons.mpr ⟨kX0_isAwake, List.forall_mem_cons.mpr ⟨kX0_sleepOf, List.forall_mem_cons.mpr ⟨kX0_awakeBits, List.forall_mem_cons.mpr ⟨kX1_read, List.forall_mem_cons.mpr ⟨kX1_isNewName, List.forall_mem_cons.mpr ⟨kX1_readPlace, List.forall_mem_cons.mpr ⟨kX1_readPath, List.forall_mem_cons.mpr ⟨kX1_readPerson, List.forall_mem_cons.mpr ⟨kX1_readThing, List.forall_mem_cons.mpr ⟨kX1_readSmoke, fun _ h => absurd h List.not_mem_nil⟩⟩⟩⟩⟩⟩⟩⟩⟩⟩⟩⟩⟩⟩⟩⟩
def fc_mt1 : List (fc_M × Nat × Nat) := [(mX1_readBinds, 2, 0), (mX2_write, 1, 0), (mX2_valueAt, 4, 0), (mX2_operand, 5, 1), (mX2_joined, 3, 1), (mX3_read, 2, 0), (mX3_readPart, 2, 0), (mX3_readBehind, 2, 0), (mX3_closeNots, 1, 0), (mX3_await, 1, 0), (mX3_writeDown, 2, 0), (mX3_rankOf, 1, 1), (mX4_forget, 0, 0), (mX4_keep, 1, 0), (mX4_bringBack, 1, 0), (mX4_lay, 3, 0)]
theorem fc_mo1 : ∀ t ∈ fc_mt1, fc_mp t := List.forall_mem_cons.mpr ⟨kX1_readBinds, List.forall_mem_cons.mpr ⟨kX2_write, List.forall_mem_cons.mpr ⟨kX2_valueAt, List.forall_mem_cons.mpr ⟨kX2_operand, List.forall_mem_cons.mpr ⟨kX2_joined, List.forall_mem_cons.mpr ⟨kX3_read, List.forall_mem_cons.mpr ⟨kX3_readPart, List.forall_mem_cons.mpr ⟨kX3_readBehind, List.forall_mem_cons.mpr ⟨kX3_closeNots, List.forall_mem_cons.mpr ⟨kX3_await, List.forall_mem_cons.mpr ⟨kX3_writeDown, List.forall_mem_cons.mpr ⟨kX3_rankOf, List.forall_mem_cons.mpr ⟨kX4_forget, List.forall_mem_cons.mpr ⟨kX4_keep, List.forall_mem_cons.mpr ⟨kX4_bringBack, List.forall_mem_cons.mpr ⟨kX4_lay, fun _ h => absurd h List.not_mem_nil⟩⟩⟩⟩⟩⟩⟩⟩⟩⟩⟩⟩⟩⟩⟩⟩
def fc_mt2 : List (fc_M × Nat × Nat) := [(mX4_goBack, 3, 0), (mX5_read, 2, 0), (mX5_readLine, 2, 0), (mX5_readNames, 3, 0), (mX5_play, 3, 0), (mX6_add, 3, 0), (mX6_copy, 1, 0), (mX7_begin, 1, 0), (mX7_copy, 1, 0), (mX7_bitsAt, 2, 0), (mX7_strayThings, 1, 0), (mX7_newsOfAll, 1, 0), (mX7_isReady, 2, 0), (mX7_minutesOver, 3, 0), (mX7_canWalk, 3, 0), (mX7_goTo, 3, 0)]
theorem fc_mo2 : ∀ t ∈ fc_mt2, fc_mp t := List.forall_mem_cons.mpr ⟨kX4_goBack, List.forall_mem_cons.mpr ⟨kX5_read, List.forall_mem_cons.mpr ⟨kX5_readLine, List.forall_mem_cons.mpr ⟨kX5_readNames, List.forall_mem_cons.mpr ⟨kX5_play, List.forall_mem_cons.mpr ⟨kX6_add, List.forall_mem_cons.mpr ⟨kX6_copy, List.forall_mem_cons.mpr ⟨kX7_begin, List.forall_mem_cons.mpr ⟨kX7_copy, List.forall_mem_cons.mpr ⟨kX7_bitsAt, List.forall_mem_cons.mpr ⟨kX7_strayThings, List.forall_mem_cons.mpr ⟨kX7_newsOfAll, List.forall_mem_cons.mpr ⟨kX7_isReady, List.forall_mem_cons.mpr ⟨kX7_minutesOver, List.forall_mem_cons.mpr ⟨kX7_canWalk, List.forall_mem_cons.mpr ⟨kX7_goTo, fun _ h => absurd h List.not_mem_nil⟩⟩⟩⟩⟩⟩⟩⟩⟩⟩⟩⟩⟩⟩⟩⟩
def fc_mt3 : List (fc_M × Nat × Nat) := [(mX7_canGive, 3, 0), (mX7_handOver, 3, 0), (mX7_canVow, 3, 0), (mX7_pledge, 3, 0), (mX7_giftBinds, 4, 0), (mX7_isBinding, 5, 0), (mX7_pass, 1, 0), (mX7_shareNews, 2, 0), (mX7_riseSmoke, 1, 0), (mX8_put, 1, 0), (mX8_clear, 0, 0), (mX8_open, 0, 0), (mX8_next, 0, 0), (mX8_readWord, 0, 0), (mX8_readNumber, 0, 0), (mX8_cellIn, 1, 0)]
theorem fc_mo3 : ∀ t ∈ fc_mt3, fc_mp t := List.forall_mem_cons.mpr ⟨kX7_canGive, List.forall_mem_cons.mpr ⟨kX7_handOver, List.forall_mem_cons.mpr ⟨kX7_canVow, List.forall_mem_cons.mpr ⟨kX7_pledge, List.forall_mem_cons.mpr ⟨kX7_giftBinds, List.forall_mem_cons.mpr ⟨kX7_isBinding, List.forall_mem_cons.mpr ⟨kX7_pass, List.forall_mem_cons.mpr ⟨kX7_shareNews, List.forall_mem_cons.mpr ⟨kX7_riseSmoke, List.forall_mem_cons.mpr ⟨kX8_put, List.forall_mem_cons.mpr ⟨kX8_clear, List.forall_mem_cons.mpr ⟨kX8_open, List.forall_mem_cons.mpr ⟨kX8_next, List.forall_mem_cons.mpr ⟨kX8_readWord, List.forall_mem_cons.mpr ⟨kX8_readNumber, List.forall_mem_cons.mpr ⟨kX8_cellIn, fun _ h => absurd h List.not_mem_nil⟩⟩⟩⟩⟩⟩⟩⟩⟩⟩⟩⟩⟩⟩⟩⟩
def fc_mt4 : List (fc_M × Nat × Nat) := [(mX8_fail, 1, 0), (mX8_take, 1, 0), (mX8_isNumber, 2, 0), (mX8_known, 2, 0), (mX9_measure, 1, 0), (mX9_measureFrom, 2, 0), (mX9_neighbours, 2, 1), (mX9_spread, 3, 0), (mX9_isCut, 2, 0), (mX9_farthestFrom, 2, 0), (mX9_pathsOfTour, 2, 0), (mX9_stepOn, 1, 0), (mX10_feed, 3, 0), (mX10_land, 0, 0), (mX10_morning, 0, 0), (mX10_place, 2, 0)]
theorem fc_mo4 : ∀ t ∈ fc_mt4, fc_mp t := List.forall_mem_cons.mpr ⟨kX8_fail, List.forall_mem_cons.mpr ⟨kX8_take, List.forall_mem_cons.mpr ⟨kX8_isNumber, List.forall_mem_cons.mpr ⟨kX8_known, List.forall_mem_cons.mpr ⟨kX9_measure, List.forall_mem_cons.mpr ⟨kX9_measureFrom, List.forall_mem_cons.mpr ⟨kX9_neighbours, List.forall_mem_cons.mpr ⟨kX9_spread, List.forall_mem_cons.mpr ⟨kX9_isCut, List.forall_mem_cons.mpr ⟨kX9_farthestFrom, List.forall_mem_cons.mpr ⟨kX9_pathsOfTour, List.forall_mem_cons.mpr ⟨kX9_stepOn, List.forall_mem_cons.mpr ⟨kX10_feed, List.forall_mem_cons.mpr ⟨kX10_land, List.forall_mem_cons.mpr ⟨kX10_morning, List.forall_mem_cons.mpr ⟨kX10_place, fun _ h => absurd h List.not_mem_nil⟩⟩⟩⟩⟩⟩⟩⟩⟩⟩⟩⟩⟩⟩⟩⟩
def fc_mt5 : List (fc_M × Nat × Nat) := [(mX10_person, 2, 0), (mX10_thing, 2, 0), (mX10_walk, 2, 0), (mX10_give, 2, 0), (mX10_vow, 2, 0), (mX10_minute, 0, 0), (mX10_undo, 0, 0), (mX10_judged, 1, 0), (mX10_soon, 2, 0), (mX10_meet, 2, 0), (mX10_all, 1, 0), (mX10_tour, 1, 0), (mX10_intime, 2, 0), (mX10_back, 0, 0), (mX10_could, 1, 0), (mX10_would, 2, 0)]
theorem fc_mo5 : ∀ t ∈ fc_mt5, fc_mp t := List.forall_mem_cons.mpr ⟨kX10_person, List.forall_mem_cons.mpr ⟨kX10_thing, List.forall_mem_cons.mpr ⟨kX10_walk, List.forall_mem_cons.mpr ⟨kX10_give, List.forall_mem_cons.mpr ⟨kX10_vow, List.forall_mem_cons.mpr ⟨kX10_minute, List.forall_mem_cons.mpr ⟨kX10_undo, List.forall_mem_cons.mpr ⟨kX10_judged, List.forall_mem_cons.mpr ⟨kX10_soon, List.forall_mem_cons.mpr ⟨kX10_meet, List.forall_mem_cons.mpr ⟨kX10_all, List.forall_mem_cons.mpr ⟨kX10_tour, List.forall_mem_cons.mpr ⟨kX10_intime, List.forall_mem_cons.mpr ⟨kX10_back, List.forall_mem_cons.mpr ⟨kX10_could, List.forall_mem_cons.mpr ⟨kX10_would, fun _ h => absurd h List.not_mem_nil⟩⟩⟩⟩⟩⟩⟩⟩⟩⟩⟩⟩⟩⟩⟩⟩
def fc_mt6 : List (fc_M × Nat × Nat) := [(mX10_when, 2, 0), (mX10_vows, 2, 0), (mX10_sees, 1, 0), (mX10_heard, 1, 0), (mX10_news, 0, 0), (mX10_alone, 0, 0), (mX10_reach, 1, 0), (mX10_far, 2, 0), (mX10_cuts, 0, 0), (mX10_hub, 0, 0), (mX10_links, 1, 0), (mX10_see, 3, 0), (mX10_who, 0, 0), (mX10_ask, 0, 0), (mX10_wide, 0, 0), (mX10_has, 2, 0)]
theorem fc_mo6 : ∀ t ∈ fc_mt6, fc_mp t := List.forall_mem_cons.mpr ⟨kX10_when, List.forall_mem_cons.mpr ⟨kX10_vows, List.forall_mem_cons.mpr ⟨kX10_sees, List.forall_mem_cons.mpr ⟨kX10_heard, List.forall_mem_cons.mpr ⟨kX10_news, List.forall_mem_cons.mpr ⟨kX10_alone, List.forall_mem_cons.mpr ⟨kX10_reach, List.forall_mem_cons.mpr ⟨kX10_far, List.forall_mem_cons.mpr ⟨kX10_cuts, List.forall_mem_cons.mpr ⟨kX10_hub, List.forall_mem_cons.mpr ⟨kX10_links, List.forall_mem_cons.mpr ⟨kX10_see, List.forall_mem_cons.mpr ⟨kX10_who, List.forall_mem_cons.mpr ⟨kX10_ask, List.forall_mem_cons.mpr ⟨kX10_wide, List.forall_mem_cons.mpr ⟨kX10_has, fun _ h => absurd h List.not_mem_nil⟩⟩⟩⟩⟩⟩⟩⟩⟩⟩⟩⟩⟩⟩⟩⟩
def fc_mt7 : List (fc_M × Nat × Nat) := [(mX10_sleeps, 1, 0), (mX10_rich, 1, 0), (mX10_chance, 2, 0), (mX10_rests, 4, 0), (mX10_mornings, 3, 0), (mX10_mark, 2, 0), (mX10_count, 1, 0), (mX10_isFrom, 3, 1), (mX10_isIn, 2, 1), (mX10_orNone, 1, 1), (mX10_pairsIn, 1, 1), (mX10_thingsOf, 2, 0), (mX10_worthOf, 2, 0), (mX10_movedThings, 1, 0), (mX10_minutesTo, 2, 0), (mX10_minutesOfAllTo, 1, 0)]
theorem fc_mo7 : ∀ t ∈ fc_mt7, fc_mp t := List.forall_mem_cons.mpr ⟨kX10_sleeps, List.forall_mem_cons.mpr ⟨kX10_rich, List.forall_mem_cons.mpr ⟨kX10_chance, List.forall_mem_cons.mpr ⟨kX10_rests, List.forall_mem_cons.mpr ⟨kX10_mornings, List.forall_mem_cons.mpr ⟨kX10_mark, List.forall_mem_cons.mpr ⟨kX10_count, List.forall_mem_cons.mpr ⟨kX10_isFrom, List.forall_mem_cons.mpr ⟨kX10_isIn, List.forall_mem_cons.mpr ⟨kX10_orNone, List.forall_mem_cons.mpr ⟨kX10_pairsIn, List.forall_mem_cons.mpr ⟨kX10_thingsOf, List.forall_mem_cons.mpr ⟨kX10_worthOf, List.forall_mem_cons.mpr ⟨kX10_movedThings, List.forall_mem_cons.mpr ⟨kX10_minutesTo, List.forall_mem_cons.mpr ⟨kX10_minutesOfAllTo, fun _ h => absurd h List.not_mem_nil⟩⟩⟩⟩⟩⟩⟩⟩⟩⟩⟩⟩⟩⟩⟩⟩
def fc_mt8 : List (fc_M × Nat × Nat) := [(mX10_isGift, 2, 0), (mX10_fitsSeen, 1, 0), (mX10_leftAtWorst, 3, 0), (mX10_isRest, 4, 1), (mX10_gets, 5, 1), (mX10_drawBelow, 1, 0), (mX10_playDrawn, 0, 0), (mX11_thrown, 0, 0), (mX11_feed, 3, 0), (mX11_lay, 1, 0), (mX11_isLetter, 1, 1), (mX11_isDigit, 1, 1), (mX11_rank, 1, 1), (mX11_isSignOf, 1, 1), (mX11_cutAll, 0, 0), (mX11_wrong, 1, 0)]
theorem fc_mo8 : ∀ t ∈ fc_mt8, fc_mp t := List.forall_mem_cons.mpr ⟨kX10_isGift, List.forall_mem_cons.mpr ⟨kX10_fitsSeen, List.forall_mem_cons.mpr ⟨kX10_leftAtWorst, List.forall_mem_cons.mpr ⟨kX10_isRest, List.forall_mem_cons.mpr ⟨kX10_gets, List.forall_mem_cons.mpr ⟨kX10_drawBelow, List.forall_mem_cons.mpr ⟨kX10_playDrawn, List.forall_mem_cons.mpr ⟨kX11_thrown, List.forall_mem_cons.mpr ⟨kX11_feed, List.forall_mem_cons.mpr ⟨kX11_lay, List.forall_mem_cons.mpr ⟨kX11_isLetter, List.forall_mem_cons.mpr ⟨kX11_isDigit, List.forall_mem_cons.mpr ⟨kX11_rank, List.forall_mem_cons.mpr ⟨kX11_isSignOf, List.forall_mem_cons.mpr ⟨kX11_cutAll, List.forall_mem_cons.mpr ⟨kX11_wrong, fun _ h => absurd h List.not_mem_nil⟩⟩⟩⟩⟩⟩⟩⟩⟩⟩⟩⟩⟩⟩⟩⟩
def fc_mt9 : List (fc_M × Nat × Nat) := [(mX11_isSign, 1, 0), (mX11_isWord, 1, 0), (mX11_takeSign, 1, 0), (mX11_hasSign, 1, 0), (mX11_hasWord, 1, 0), (mX11_takeWord, 1, 0), (mX11_within, 3, 1), (mX11_standsAsAlways, 1, 0), (mX11_takeNumber, 2, 0), (mX11_takeAfter, 3, 0), (mX11_wordHere, 2, 0), (mX11_takeOne, 2, 0), (mX11_isName, 0, 0), (mX11_nameAt, 1, 0), (mX11_takeTold, 3, 0), (mX11_land, 0, 0)]
theorem fc_mo9 : ∀ t ∈ fc_mt9, fc_mp t := List.forall_mem_cons.mpr ⟨kX11_isSign, List.forall_mem_cons.mpr ⟨kX11_isWord, List.forall_mem_cons.mpr ⟨kX11_takeSign, List.forall_mem_cons.mpr ⟨kX11_hasSign, List.forall_mem_cons.mpr ⟨kX11_hasWord, List.forall_mem_cons.mpr ⟨kX11_takeWord, List.forall_mem_cons.mpr ⟨kX11_within, List.forall_mem_cons.mpr ⟨kX11_standsAsAlways, List.forall_mem_cons.mpr ⟨kX11_takeNumber, List.forall_mem_cons.mpr ⟨kX11_takeAfter, List.forall_mem_cons.mpr ⟨kX11_wordHere, List.forall_mem_cons.mpr ⟨kX11_takeOne, List.forall_mem_cons.mpr ⟨kX11_isName, List.forall_mem_cons.mpr ⟨kX11_nameAt, List.forall_mem_cons.mpr ⟨kX11_takeTold, List.forall_mem_cons.mpr ⟨kX11_land, fun _ h => absurd h List.not_mem_nil⟩⟩⟩⟩⟩⟩⟩⟩⟩⟩⟩⟩⟩⟩⟩⟩
def fc_mt10 : List (fc_M × Nat × Nat) := [(mX11_readLine, 0, 0), (mX11_readName, 3, 0), (mX11_readPath, 0, 0), (mX11_readOnce, 0, 0), (mX11_morning, 0, 0), (mX11_readMorning, 2, 0), (mX11_emit, 2, 0), (mX11_whole, 1, 0), (mX11_test, 1, 0), (mX11_sums, 1, 0), (mX11_products, 1, 0), (mX11_takePart, 1, 0), (mX11_worthAt, 1, 0), (mX11_both, 3, 1), (mX11_copies, 3, 0), (mX11_starts, 1, 0)]
theorem fc_mo10 : ∀ t ∈ fc_mt10, fc_mp t := List.forall_mem_cons.mpr ⟨kX11_readLine, List.forall_mem_cons.mpr ⟨kX11_readName, List.forall_mem_cons.mpr ⟨kX11_readPath, List.forall_mem_cons.mpr ⟨kX11_readOnce, List.forall_mem_cons.mpr ⟨kX11_morning, List.forall_mem_cons.mpr ⟨kX11_readMorning, List.forall_mem_cons.mpr ⟨kX11_emit, List.forall_mem_cons.mpr ⟨kX11_whole, List.forall_mem_cons.mpr ⟨kX11_test, List.forall_mem_cons.mpr ⟨kX11_sums, List.forall_mem_cons.mpr ⟨kX11_products, List.forall_mem_cons.mpr ⟨kX11_takePart, List.forall_mem_cons.mpr ⟨kX11_worthAt, List.forall_mem_cons.mpr ⟨kX11_both, List.forall_mem_cons.mpr ⟨kX11_copies, List.forall_mem_cons.mpr ⟨kX11_starts, fun _ h => absurd h List.not_mem_nil⟩⟩⟩⟩⟩⟩⟩⟩⟩⟩⟩⟩⟩⟩⟩⟩
def fc_mt11 : List (fc_M × Nat × Nat) := [(mX11_begins, 0, 0), (mX11_keeps, 0, 0), (mX11_places, 0, 0), (mX11_persons, 0, 0), (mX11_things, 0, 0), (mX11_smokeAt, 0, 0), (mX11_pathsFrom, 1, 0), (mX11_personOf, 2, 0), (mX11_thingOf, 2, 0), (mX11_isPlace, 1, 0), (mX11_isPerson, 1, 0), (mX11_isThing, 1, 0), (mX11_bits, 1, 1), (mX11_awakeAt, 1, 0), (mX11_isAwake, 2, 0), (mX11_isReady, 2, 0)]
theorem fc_mo11 : ∀ t ∈ fc_mt11, fc_mp t := List.forall_mem_cons.mpr ⟨kX11_begins, List.forall_mem_cons.mpr ⟨kX11_keeps, List.forall_mem_cons.mpr ⟨kX11_places, List.forall_mem_cons.mpr ⟨kX11_persons, List.forall_mem_cons.mpr ⟨kX11_things, List.forall_mem_cons.mpr ⟨kX11_smokeAt, List.forall_mem_cons.mpr ⟨kX11_pathsFrom, List.forall_mem_cons.mpr ⟨kX11_personOf, List.forall_mem_cons.mpr ⟨kX11_thingOf, List.forall_mem_cons.mpr ⟨kX11_isPlace, List.forall_mem_cons.mpr ⟨kX11_isPerson, List.forall_mem_cons.mpr ⟨kX11_isThing, List.forall_mem_cons.mpr ⟨kX11_bits, List.forall_mem_cons.mpr ⟨kX11_awakeAt, List.forall_mem_cons.mpr ⟨kX11_isAwake, List.forall_mem_cons.mpr ⟨kX11_isReady, fun _ h => absurd h List.not_mem_nil⟩⟩⟩⟩⟩⟩⟩⟩⟩⟩⟩⟩⟩⟩⟩⟩
def fc_mt12 : List (fc_M × Nat × Nat) := [(mX11_whoIn, 2, 0), (mX11_benches, 0, 0), (mX11_doesBind, 5, 0), (mX11_mayWalk, 3, 0), (mX11_walks, 3, 0), (mX11_mayGive, 3, 0), (mX11_gives, 3, 0), (mX11_mayVow, 3, 0), (mX11_vowsBy, 3, 0), (mX11_smokes, 1, 0), (mX11_passes, 1, 0), (mX11_thingsWith, 2, 0), (mX11_wrongThings, 1, 0), (mX11_place, 2, 0), (mX11_person, 2, 0), (mX11_thing, 2, 0)]
theorem fc_mo12 : ∀ t ∈ fc_mt12, fc_mp t := List.forall_mem_cons.mpr ⟨kX11_whoIn, List.forall_mem_cons.mpr ⟨kX11_benches, List.forall_mem_cons.mpr ⟨kX11_doesBind, List.forall_mem_cons.mpr ⟨kX11_mayWalk, List.forall_mem_cons.mpr ⟨kX11_walks, List.forall_mem_cons.mpr ⟨kX11_mayGive, List.forall_mem_cons.mpr ⟨kX11_gives, List.forall_mem_cons.mpr ⟨kX11_mayVow, List.forall_mem_cons.mpr ⟨kX11_vowsBy, List.forall_mem_cons.mpr ⟨kX11_smokes, List.forall_mem_cons.mpr ⟨kX11_passes, List.forall_mem_cons.mpr ⟨kX11_thingsWith, List.forall_mem_cons.mpr ⟨kX11_wrongThings, List.forall_mem_cons.mpr ⟨kX11_place, List.forall_mem_cons.mpr ⟨kX11_person, List.forall_mem_cons.mpr ⟨kX11_thing, fun _ h => absurd h List.not_mem_nil⟩⟩⟩⟩⟩⟩⟩⟩⟩⟩⟩⟩⟩⟩⟩⟩
def fc_mt13 : List (fc_M × Nat × Nat) := [(mX11_walk, 2, 0), (mX11_give, 2, 0), (mX11_vow, 2, 0), (mX11_minute, 0, 0), (mX11_undo, 0, 0), (mX11_judged, 1, 0), (mX11_onFrom, 2, 0), (mX11_reachBy, 2, 0), (mX11_farOf, 2, 0), (mX11_reach, 1, 0), (mX11_far, 2, 0), (mX11_cuts, 0, 0), (mX11_hub, 0, 0), (mX11_links, 1, 0), (mX11_wide, 0, 0), (mX11_readyIn, 1, 0)]
theorem fc_mo13 : ∀ t ∈ fc_mt13, fc_mp t := List.forall_mem_cons.mpr ⟨kX11_walk, List.forall_mem_cons.mpr ⟨kX11_give, List.forall_mem_cons.mpr ⟨kX11_vow, List.forall_mem_cons.mpr ⟨kX11_minute, List.forall_mem_cons.mpr ⟨kX11_undo, List.forall_mem_cons.mpr ⟨kX11_judged, List.forall_mem_cons.mpr ⟨kX11_onFrom, List.forall_mem_cons.mpr ⟨kX11_reachBy, List.forall_mem_cons.mpr ⟨kX11_farOf, List.forall_mem_cons.mpr ⟨kX11_reach, List.forall_mem_cons.mpr ⟨kX11_far, List.forall_mem_cons.mpr ⟨kX11_cuts, List.forall_mem_cons.mpr ⟨kX11_hub, List.forall_mem_cons.mpr ⟨kX11_links, List.forall_mem_cons.mpr ⟨kX11_wide, List.forall_mem_cons.mpr ⟨kX11_readyIn, fun _ h => absurd h List.not_mem_nil⟩⟩⟩⟩⟩⟩⟩⟩⟩⟩⟩⟩⟩⟩⟩⟩
def fc_mt14 : List (fc_M × Nat × Nat) := [(mX11_paceOf, 1, 0), (mX11_soonOf, 2, 0), (mX11_told, 1, 1), (mX11_soon, 2, 0), (mX11_meet, 2, 0), (mX11_all, 1, 0), (mX11_tour, 1, 0), (mX11_intime, 2, 0), (mX11_back, 0, 0), (mX11_could, 1, 0), (mX11_wouldBind, 3, 0), (mX11_isGift, 2, 0), (mX11_would, 2, 0), (mX11_when, 2, 0), (mX11_vows, 2, 0), (mX11_sees, 1, 0)]
theorem fc_mo14 : ∀ t ∈ fc_mt14, fc_mp t := List.forall_mem_cons.mpr ⟨kX11_paceOf, List.forall_mem_cons.mpr ⟨kX11_soonOf, List.forall_mem_cons.mpr ⟨kX11_told, List.forall_mem_cons.mpr ⟨kX11_soon, List.forall_mem_cons.mpr ⟨kX11_meet, List.forall_mem_cons.mpr ⟨kX11_all, List.forall_mem_cons.mpr ⟨kX11_tour, List.forall_mem_cons.mpr ⟨kX11_intime, List.forall_mem_cons.mpr ⟨kX11_back, List.forall_mem_cons.mpr ⟨kX11_could, List.forall_mem_cons.mpr ⟨kX11_wouldBind, List.forall_mem_cons.mpr ⟨kX11_isGift, List.forall_mem_cons.mpr ⟨kX11_would, List.forall_mem_cons.mpr ⟨kX11_when, List.forall_mem_cons.mpr ⟨kX11_vows, List.forall_mem_cons.mpr ⟨kX11_sees, fun _ h => absurd h List.not_mem_nil⟩⟩⟩⟩⟩⟩⟩⟩⟩⟩⟩⟩⟩⟩⟩⟩
def fc_mt15 : List (fc_M × Nat × Nat) := [(mX11_heard, 1, 0), (mX11_heardOfAll, 1, 0), (mX11_triesNow, 0, 0), (mX11_news, 0, 0), (mX11_alone, 0, 0), (mX11_see, 3, 0), (mX11_whoNow, 0, 0), (mX11_who, 0, 0), (mX11_ask, 0, 0), (mX11_worthOf, 2, 0), (mX11_has, 2, 0), (mX11_sleeps, 1, 0), (mX11_rich, 1, 0), (mX11_chance, 2, 0), (mX11_getsBy, 5, 1), (mX11_rests, 4, 0)]
theorem fc_mo15 : ∀ t ∈ fc_mt15, fc_mp t := List.forall_mem_cons.mpr ⟨kX11_heard, List.forall_mem_cons.mpr ⟨kX11_heardOfAll, List.forall_mem_cons.mpr ⟨kX11_triesNow, List.forall_mem_cons.mpr ⟨kX11_news, List.forall_mem_cons.mpr ⟨kX11_alone, List.forall_mem_cons.mpr ⟨kX11_see, List.forall_mem_cons.mpr ⟨kX11_whoNow, List.forall_mem_cons.mpr ⟨kX11_who, List.forall_mem_cons.mpr ⟨kX11_ask, List.forall_mem_cons.mpr ⟨kX11_worthOf, List.forall_mem_cons.mpr ⟨kX11_has, List.forall_mem_cons.mpr ⟨kX11_sleeps, List.forall_mem_cons.mpr ⟨kX11_rich, List.forall_mem_cons.mpr ⟨kX11_chance, List.forall_mem_cons.mpr ⟨kX11_getsBy, List.forall_mem_cons.mpr ⟨kX11_rests, fun _ h => absurd h List.not_mem_nil⟩⟩⟩⟩⟩⟩⟩⟩⟩⟩⟩⟩⟩⟩⟩⟩
def fc_mt16 : List (fc_M × Nat × Nat) := [(mX11_draw, 1, 0), (mX11_drawsDeed, 0, 0), (mX11_mornings, 3, 0), (mX11_mark, 2, 0), (mX11_pairsOf, 1, 0), (mX11_count, 1, 0), (mJ11_isValidCodePoint_9a6ad, 1, 1), (mJ11_highSurrogate_5068e, 1, 1), (mJ11_lowSurrogate_5068e, 1, 1), (mJ6_bitCount_0f7a4, 1, 1), (mJ9_max_7cf53, 2, 1), (mJ9_min_7cf53, 2, 1), (mJ0_length_8abf5, 0, 0), (mJ0_charAt_5068e, 1, 0), (mJ0_indexOf_0f7a4, 1, 0), (mJ0_indexOf_7cf53, 2, 0)]
theorem fc_mo16 : ∀ t ∈ fc_mt16, fc_mp t := List.forall_mem_cons.mpr ⟨kX11_draw, List.forall_mem_cons.mpr ⟨kX11_drawsDeed, List.forall_mem_cons.mpr ⟨kX11_mornings, List.forall_mem_cons.mpr ⟨kX11_mark, List.forall_mem_cons.mpr ⟨kX11_pairsOf, List.forall_mem_cons.mpr ⟨kX11_count, List.forall_mem_cons.mpr ⟨kJ11_isValidCodePoint_9a6ad, List.forall_mem_cons.mpr ⟨kJ11_highSurrogate_5068e, List.forall_mem_cons.mpr ⟨kJ11_lowSurrogate_5068e, List.forall_mem_cons.mpr ⟨kJ6_bitCount_0f7a4, List.forall_mem_cons.mpr ⟨kJ9_max_7cf53, List.forall_mem_cons.mpr ⟨kJ9_min_7cf53, List.forall_mem_cons.mpr ⟨kJ0_length_8abf5, List.forall_mem_cons.mpr ⟨kJ0_charAt_5068e, List.forall_mem_cons.mpr ⟨kJ0_indexOf_0f7a4, List.forall_mem_cons.mpr ⟨kJ0_indexOf_7cf53, fun _ h => absurd h List.not_mem_nil⟩⟩⟩⟩⟩⟩⟩⟩⟩⟩⟩⟩⟩⟩⟩⟩
def fc_mt17 : List (fc_M × Nat × Nat) := [(mJ0_isLatin1_aae02, 0, 0), (mJ0_checkIndex_df160, 2, 1), (mJ0_checkBoundsBeginEnd_23922, 3, 1), (mJ1_charAt_3b067, 2, 1), (mJ1_canEncode_9a6ad, 1, 1), (mJ1_indexOf_4cfef, 4, 1), (mJ1_indexOfChar_4cfef, 4, 1), (mJ2_getChar_3b067, 2, 1), (mJ2_length_9d52b, 1, 1), (mJ2_indexOf_4cfef, 4, 1), (mJ2_indexOfChar_4cfef, 4, 1), (mJ2_indexOfCharUnsafe_4cfef, 4, 1), (mJ2_indexOfSupplementary_4cfef, 4, 1), (mJ2_charAt_3b067, 2, 1), (mJ2_checkIndex_2214a, 2, 1), (mJ2_checkBoundsBeginEnd_d044e, 3, 1)]
theorem fc_mo17 : ∀ t ∈ fc_mt17, fc_mp t := List.forall_mem_cons.mpr ⟨kJ0_isLatin1_aae02, List.forall_mem_cons.mpr ⟨kJ0_checkIndex_df160, List.forall_mem_cons.mpr ⟨kJ0_checkBoundsBeginEnd_23922, List.forall_mem_cons.mpr ⟨kJ1_charAt_3b067, List.forall_mem_cons.mpr ⟨kJ1_canEncode_9a6ad, List.forall_mem_cons.mpr ⟨kJ1_indexOf_4cfef, List.forall_mem_cons.mpr ⟨kJ1_indexOfChar_4cfef, List.forall_mem_cons.mpr ⟨kJ2_getChar_3b067, List.forall_mem_cons.mpr ⟨kJ2_length_9d52b, List.forall_mem_cons.mpr ⟨kJ2_indexOf_4cfef, List.forall_mem_cons.mpr ⟨kJ2_indexOfChar_4cfef, List.forall_mem_cons.mpr ⟨kJ2_indexOfCharUnsafe_4cfef, List.forall_mem_cons.mpr ⟨kJ2_indexOfSupplementary_4cfef, List.forall_mem_cons.mpr ⟨kJ2_charAt_3b067, List.forall_mem_cons.mpr ⟨kJ2_checkIndex_2214a, List.forall_mem_cons.mpr ⟨kJ2_checkBoundsBeginEnd_d044e, fun _ h => absurd h List.not_mem_nil⟩⟩⟩⟩⟩⟩⟩⟩⟩⟩⟩⟩⟩⟩⟩⟩
def fc_mt18 : List (fc_M × Nat × Nat) := [(mJ7_fill_53178, 2, 1), (mJ3_checkIndex_8e157, 3, 1), (mJ3_checkFromToIndex_8c36e, 4, 1)]
theorem fc_mo18 : ∀ t ∈ fc_mt18, fc_mp t := List.forall_mem_cons.mpr ⟨kJ7_fill_53178, List.forall_mem_cons.mpr ⟨kJ3_checkIndex_8e157, List.forall_mem_cons.mpr ⟨kJ3_checkFromToIndex_8c36e, fun _ h => absurd h List.not_mem_nil⟩⟩⟩
def fc_mtab : List (fc_M × Nat × Nat) := fc_mt0 ++ (fc_mt1 ++ (fc_mt2 ++ (fc_mt3 ++ (fc_mt4 ++ (fc_mt5 ++ (fc_mt6 ++ (fc_mt7 ++ (fc_mt8 ++ (fc_mt9 ++ (fc_mt10 ++ (fc_mt11 ++ (fc_mt12 ++ (fc_mt13 ++ (fc_mt14 ++ (fc_mt15 ++ (fc_mt16 ++ (fc_mt17 ++ (fc_mt18))))))))))))))))))
theorem fc_mtab_ok : ∀ t ∈ fc_mtab, fc_mp t := by
  intro t h
  simp only [fc_mtab, List.mem_append] at h
  rcases h with h | h | h | h | h | h | h | h | h | h | h | h | h | h | h | h | h | h | h
  · exact fc_mo0 t h
  · exact fc_mo1 t h
  · exact fc_mo2 t h
  · exact fc_mo3 t h
  · exact fc_mo4 t h
  · exact fc_mo5 t h
  · exact fc_mo6 t h
  · exact fc_mo7 t h
  · exact fc_mo8 t h
  · exact fc_mo9 t h
  · exact fc_mo10 t h
  · exact fc_mo11 t h
  · exact fc_mo12 t h
  · exact fc_mo13 t h
  · exact fc_mo14 t h
  · exact fc_mo15 t h
  · exact fc_mo16 t h
  · exact fc_mo17 t h
  · exact fc_mo18 t h
end
section
/-! ===== instructions with what they link to: pc, instruction, length, two numbers, the place of its word in the tables, a value ===== -/
abbrev fc_I : Type := Nat × Instr × Nat × Nat × Nat × Nat × Value
/-- the kinds of a class's fields: 0 int, 1 long, 2 reference, 3 boolean -/
def fc_ft : Nat → List Nat
  | 0 => [2, 2, 2, 2, 2, 2, 2, 2, 2, 2, 0, 0, 0, 0, 0]
  | 1 => [2, 3, 3]
  | 2 => [2, 2, 0]
  | 3 => [2, 0, 0, 3]
  | 4 => [2, 2, 2, 2, 0, 0]
  | 5 => [2, 2, 2, 0]
  | 6 => [2, 2, 2, 0]
  | 7 => [0, 0, 2, 2, 2, 2, 2, 2, 2]
  | 8 => [2, 0, 0, 0, 0, 0, 1, 0]
  | 9 => [2, 2, 2]
  | 10 => [2, 2, 2, 2, 2, 2, 2, 2, 2, 2, 2, 1]
  | 11 => [0, 2, 0, 0, 2, 2, 2, 0, 0, 2, 2, 2, 2, 0, 2, 2, 2, 2, 0, 0, 0, 2, 2, 2, 2, 0, 2, 2, 2, 1]
  | _ => []
/-- links of private static methods that nest mates call: (class, entry, method) -/
def fc_N : List (String × Nat × MethodName) := [("FirstChimney$Tape", 15, yX10_isFrom), ("FirstChimney$LandReader", 100, yX10_isIn), ("FirstChimney$LandReader", 110, yX10_isFrom), ("FirstChimney$Ways", 39, yX10_isIn), ("FirstChimney$Script", 44, yX10_isFrom), ("FirstChimney$State", 96, yX10_isIn)]
/-- the constant texts: class, entry, text -/
def fc_tx : List (String × Nat × String) := [("FirstChimney$Tape", 58, "place   path    person  in      wakes   thing   worth   of      smoke   binds   minute  walk    give    vow     plain   bench   slow    mute    not     and     or      "), ("FirstChimney$Tape", 44, "()<=+-*;"), ("FirstChimney$LawReader", 49, "clock   price   crowd   judge   "), ("FirstChimney", 309, "no such kindling"), ("FirstChimney", 318, "no such rest")]
def fc_tg (pc : Nat) (off : Int) (a : Nat) : Bool := decide ((pc : Int) + off = (a : Int))
def fc_at (i : Nat) (w : Cond) : Bool := decide (lw_tbl[i]? = some w) && goodWord w
/-- a field's kind, by its type -/
def fc_fk : Option FieldType → Option Nat
  | some .int => some 0
  | some .long => some 1
  | some .boolean => some 3
  | some (.object _) => some 2
  | some (.array _) => some 2
  | _ => none
def fc_okf (y : fc_M) (i a b ps : Nat) : Bool := match vwCl[a]? with
  | some r => decide (b < r.2.2) && (decide (a < 20) && (decide ((fc_ft a)[b]? = fc_fk (parseFieldDescriptor (r.2.1 b).2.2.1)) && fc_at ps (.fieldLink y.1.cls i (r.2.1 b).1 (r.2.1 b).2.1 (r.2.1 b).2.2.1)))
  | none => false
def fc_fin (a b : Nat) : Bool := match vwCl[a]? with
  | some r => (r.2.1 b).2.2.2
  | none => true
def fc_okv (y : fc_M) (i a b ps : Nat) (v : Value) : Bool := match fc_mtab[a]? with
  | some t => fc_at ps (.methodLink y.1.cls i t.1.1) && (t.2.2 == 0 && (t.2.1 + 1 == b && (match v with
    | .ref ci => (match vwCl[ci]? with
      | some r => decide (r.1 = t.1.1.cls) && decide (ci < 20)
      | none => false)
    | .null => decide (t.1.1.cls = "java/lang/String")
    | _ => false)))
  | none => false
def fc_oks (y : fc_M) (i a b ps : Nat) (v : Value) : Bool := match v with
  | .retAddr 0 => (match fc_mtab[a]? with
    | some t => fc_at ps (.methodLink y.1.cls i t.1.1) && (t.2.2 == 1 && t.2.1 == b)
    | none => false)
  | .retAddr 1 => (match fc_mtab[a]? with
    | some t => decide ((y.1.cls, i, t.1.1) ∈ fc_N) && (t.2.2 == 1 && t.2.1 == b)
    | none => false)
  | .retAddr 10 => fc_at ps (.methodLink y.1.cls i Lib.Math.max.name)
  | .retAddr 11 => fc_at ps (.methodLink y.1.cls i Lib.Math.min.name)
  | .retAddr 12 => fc_at ps (.methodLink y.1.cls i arraycopyName)
  | _ => false
def fc_okc (y : fc_M) (i ps : Nat) (v : Value) : Bool := match v with
  | .int z => fc_at ps (.constant y.1.cls i z)
  | .float u => (match fc_tx[u.toNat]? with
    | some q => decide (q.1 = y.1.cls) && decide (q.2.1 = i)
    | none => false)
  | _ => false
def fc_okd (y : fc_M) (i ps : Nat) (v : Value) : Bool := match v with
  | .long z => fc_at ps (.constantLong y.1.cls i z)
  | _ => false
def fc_okl (y : fc_M) : fc_I → Bool
  | (pc, i, len, a, b, ps, v) => match i with
    | .iconst n => len == 1 && decide (v = .int (Int32.ofInt n))
    | .bipush n => len == 2 && decide (v = .int (Int8.ofInt n).toInt32)
    | .sipush n => len == 3 && decide (v = .int (Int16.ofInt n).toInt32)
    | .lconst n => len == 1 && decide (v = .long (Int64.ofNat (n : Nat)))
    | .ldc i => len == 2 && fc_okc y i ps v
    | .ldc_w i => len == 3 && fc_okc y i ps v
    | .ldc2_w i => len == 3 && fc_okd y i ps v
    | .getfield i => len == 3 && fc_okf y i a b ps
    | .putfield i => len == 3 && (fc_okf y i a b ps && !fc_fin a b)
    | .invokevirtual i => len == 3 && fc_okv y i a b ps v
    | .invokestatic i => len == 3 && fc_oks y i a b ps v
    | .if_icmp _ off => len == 3 && fc_tg pc off a
    | .ifCond _ off => len == 3 && fc_tg pc off a
    | .goto off => len == 3 && fc_tg pc off a
    | .iload _ => len == 2
    | .lload _ => len == 2
    | .aload _ => len == 2
    | .istore k => len == 2 && decide (k < y.2.2.1)
    | .lstore k => len == 2 && decide (k + 1 < y.2.2.1)
    | .astore k => len == 2 && decide (k < y.2.2.1)
    | .istore_n k => len == 1 && decide ((k : Nat) < y.2.2.1)
    | .lstore_n k => len == 1 && decide ((k : Nat) + 1 < y.2.2.1)
    | .astore_n k => len == 1 && decide ((k : Nat) < y.2.2.1)
    | .iinc k _ => len == 3 && decide (k < y.2.2.1)
    | .tableswitch d _ _ offs => decide (0 ≤ (pc : Int) + d) && offs.toList.all (fun o => decide (0 ≤ (pc : Int) + o))
    | .lookupswitch d ps => (ps.toList.zip (ps.toList.drop 1)).all (fun (a, next) => a.1 < next.1) && (decide (0 ≤ (pc : Int) + d) && ps.toList.all (fun o => decide (0 ≤ (pc : Int) + o.2)))
    | _ => len == 1
def fc_okb (y : fc_M) (x : fc_I) : Bool := decide (decode y.2.1 x.1 = .ok (x.2.1, x.2.2.1)) && fc_okl y x
def fc_chain : List fc_I → Bool
  | [] => true
  | [_] => true
  | x :: z :: L => decide (x.1 + x.2.2.1 = z.1) && fc_chain (z :: L)
/-- a method's code, with what it links to -/
def fc_code (y : fc_M) (L : List fc_I) : Bool := fc_chain L && L.all (fc_okb y)
end
section
/-! ===== code of the methods, with what it links to ===== -/
def lX0_clear : List fc_I := [(0, .aload_n 0, 1, 0, 0, 0, .null), (1, .getfield 21, 3, 0, 3, 366, .null), (4, .iconst 0, 1, 0, 0, 0, .int 0), (5, .invokestatic 51, 3, 288, 2, 526, .retAddr 0), (8, .aload_n 0, 1, 0, 0, 0, .null), (9, .getfield 43, 3, 0, 9, 389, .null), (12, .iconst 0, 1, 0, 0, 0, .int 0), (13, .putfield 57, 3, 2, 2, 348, .null), (16, .aload_n 0, 1, 0, 0, 0, .null), (17, .iconst 0, 1, 0, 0, 0, .int 0), (18, .putfield 60, 3, 0, 10, 393, .null), (21, .aload_n 0, 1, 0, 0, 0, .null), (22, .iconst 0, 1, 0, 0, 0, .int 0), (23, .putfield 63, 3, 0, 11, 398, .null), (26, .aload_n 0, 1, 0, 0, 0, .null), (27, .iconst 0, 1, 0, 0, 0, .int 0), (28, .putfield 66, 3, 0, 12, 401, .null), (31, .aload_n 0, 1, 0, 0, 0, .null), (32, .iconst 0, 1, 0, 0, 0, .int 0), (33, .putfield 69, 3, 0, 13, 406, .null), (36, .aload_n 0, 1, 0, 0, 0, .null), (37, .bipush 30, 2, 0, 0, 0, .int 30), (39, .putfield 47, 3, 0, 14, 411, .null), (42, .return_, 1, 0, 0, 0, .null)]
set_option maxRecDepth 100000 in
theorem oX0_clear : fc_code mX0_clear lX0_clear = true := by decide +kernel
def lX0_indexOf : List fc_I := [(0, .iconst 0, 1, 0, 0, 0, .int 0), (1, .istore 4, 2, 0, 0, 0, .null), (3, .iload 4, 2, 0, 0, 0, .null), (5, .iload_n 1, 1, 0, 0, 0, .null), (6, .if_icmp .ge 28, 3, 34, 0, 0, .null), (9, .iload 4, 2, 0, 0, 0, .null), (11, .aload_n 0, 1, 0, 0, 0, .null), (12, .arraylength, 1, 0, 0, 0, .null), (13, .if_icmp .ge 21, 3, 34, 0, 0, .null), (16, .aload_n 0, 1, 0, 0, 0, .null), (17, .iload 4, 2, 0, 0, 0, .null), (19, .laload, 1, 0, 0, 0, .null), (20, .lload_n 2, 1, 0, 0, 0, .null), (21, .lcmp, 1, 0, 0, 0, .null), (22, .ifCond .ne 6, 3, 28, 0, 0, .null), (25, .iload 4, 2, 0, 0, 0, .null), (27, .ireturn, 1, 0, 0, 0, .null), (28, .iinc 4 1, 3, 0, 0, 0, .null), (31, .goto (-28), 3, 3, 0, 0, .null), (34, .iconst (-1), 1, 0, 0, 0, .int (-1)), (35, .ireturn, 1, 0, 0, 0, .null)]
set_option maxRecDepth 100000 in
theorem oX0_indexOf : fc_code mX0_indexOf lX0_indexOf = true := by decide +kernel
def lX0_isTold : List fc_I := [(0, .aload_n 0, 1, 0, 0, 0, .null), (1, .getfield 9, 3, 0, 0, 357, .null), (4, .aload_n 0, 1, 0, 0, 0, .null), (5, .getfield 60, 3, 0, 10, 393, .null), (8, .lload_n 1, 1, 0, 0, 0, .null), (9, .invokestatic 72, 3, 1, 3, 675, .retAddr 0), (12, .iconst (-1), 1, 0, 0, 0, .int (-1)), (13, .if_icmp .ne 35, 3, 48, 0, 0, .null), (16, .aload_n 0, 1, 0, 0, 0, .null), (17, .getfield 15, 3, 0, 1, 360, .null), (20, .aload_n 0, 1, 0, 0, 0, .null), (21, .getfield 66, 3, 0, 12, 401, .null), (24, .lload_n 1, 1, 0, 0, 0, .null), (25, .invokestatic 72, 3, 1, 3, 675, .retAddr 0), (28, .iconst (-1), 1, 0, 0, 0, .int (-1)), (29, .if_icmp .ne 19, 3, 48, 0, 0, .null), (32, .aload_n 0, 1, 0, 0, 0, .null), (33, .getfield 18, 3, 0, 2, 363, .null), (36, .aload_n 0, 1, 0, 0, 0, .null), (37, .getfield 69, 3, 0, 13, 406, .null), (40, .lload_n 1, 1, 0, 0, 0, .null), (41, .invokestatic 72, 3, 1, 3, 675, .retAddr 0), (44, .iconst (-1), 1, 0, 0, 0, .int (-1)), (45, .if_icmp .eq 7, 3, 52, 0, 0, .null), (48, .iconst 1, 1, 0, 0, 0, .int 1), (49, .goto 4, 3, 53, 0, 0, .null), (52, .iconst 0, 1, 0, 0, 0, .int 0), (53, .ireturn, 1, 0, 0, 0, .null)]
set_option maxRecDepth 100000 in
theorem oX0_isTold : fc_code mX0_isTold lX0_isTold = true := by decide +kernel
def lX0_hasPlace : List fc_I := [(0, .iload_n 1, 1, 0, 0, 0, .null), (1, .ifCond .lt 15, 3, 16, 0, 0, .null), (4, .iload_n 1, 1, 0, 0, 0, .null), (5, .aload_n 0, 1, 0, 0, 0, .null), (6, .getfield 60, 3, 0, 10, 393, .null), (9, .if_icmp .ge 7, 3, 16, 0, 0, .null), (12, .iconst 1, 1, 0, 0, 0, .int 1), (13, .goto 4, 3, 17, 0, 0, .null), (16, .iconst 0, 1, 0, 0, 0, .int 0), (17, .ireturn, 1, 0, 0, 0, .null)]
set_option maxRecDepth 100000 in
theorem oX0_hasPlace : fc_code mX0_hasPlace lX0_hasPlace = true := by decide +kernel
def lX0_hasPerson : List fc_I := [(0, .iload_n 1, 1, 0, 0, 0, .null), (1, .ifCond .lt 15, 3, 16, 0, 0, .null), (4, .iload_n 1, 1, 0, 0, 0, .null), (5, .aload_n 0, 1, 0, 0, 0, .null), (6, .getfield 66, 3, 0, 12, 401, .null), (9, .if_icmp .ge 7, 3, 16, 0, 0, .null), (12, .iconst 1, 1, 0, 0, 0, .int 1), (13, .goto 4, 3, 17, 0, 0, .null), (16, .iconst 0, 1, 0, 0, 0, .int 0), (17, .ireturn, 1, 0, 0, 0, .null)]
set_option maxRecDepth 100000 in
theorem oX0_hasPerson : fc_code mX0_hasPerson lX0_hasPerson = true := by decide +kernel
def lX0_hasThing : List fc_I := [(0, .iload_n 1, 1, 0, 0, 0, .null), (1, .ifCond .lt 15, 3, 16, 0, 0, .null), (4, .iload_n 1, 1, 0, 0, 0, .null), (5, .aload_n 0, 1, 0, 0, 0, .null), (6, .getfield 69, 3, 0, 13, 406, .null), (9, .if_icmp .ge 7, 3, 16, 0, 0, .null), (12, .iconst 1, 1, 0, 0, 0, .int 1), (13, .goto 4, 3, 17, 0, 0, .null), (16, .iconst 0, 1, 0, 0, 0, .int 0), (17, .ireturn, 1, 0, 0, 0, .null)]
set_option maxRecDepth 100000 in
theorem oX0_hasThing : fc_code mX0_hasThing lX0_hasThing = true := by decide +kernel
def lX0_isAwake : List fc_I := [(0, .iload_n 2, 1, 0, 0, 0, .null), (1, .aload_n 0, 1, 0, 0, 0, .null), (2, .getfield 31, 3, 0, 6, 379, .null), (5, .iload_n 1, 1, 0, 0, 0, .null), (6, .iaload, 1, 0, 0, 0, .null), (7, .if_icmp .lt 7, 3, 14, 0, 0, .null), (10, .iconst 1, 1, 0, 0, 0, .int 1), (11, .goto 4, 3, 15, 0, 0, .null), (14, .iconst 0, 1, 0, 0, 0, .int 0), (15, .ireturn, 1, 0, 0, 0, .null)]
set_option maxRecDepth 100000 in
theorem oX0_isAwake : fc_code mX0_isAwake lX0_isAwake = true := by decide +kernel
def lX0_sleepOf : List fc_I := [(0, .iconst 0, 1, 0, 0, 0, .int 0), (1, .aload_n 0, 1, 0, 0, 0, .null), (2, .getfield 31, 3, 0, 6, 379, .null), (5, .iload_n 1, 1, 0, 0, 0, .null), (6, .iaload, 1, 0, 0, 0, .null), (7, .iload_n 2, 1, 0, 0, 0, .null), (8, .isub, 1, 0, 0, 0, .null), (9, .invokestatic 76, 3, 0, 0, 986, .retAddr 10), (12, .ireturn, 1, 0, 0, 0, .null)]
set_option maxRecDepth 100000 in
theorem oX0_sleepOf : fc_code mX0_sleepOf lX0_sleepOf = true := by decide +kernel
def lX0_awakeBits : List fc_I := [(0, .iconst 0, 1, 0, 0, 0, .int 0), (1, .istore_n 2, 1, 0, 0, 0, .null), (2, .iconst 0, 1, 0, 0, 0, .int 0), (3, .istore_n 3, 1, 0, 0, 0, .null), (4, .iload_n 3, 1, 0, 0, 0, .null), (5, .aload_n 0, 1, 0, 0, 0, .null), (6, .getfield 66, 3, 0, 12, 401, .null), (9, .if_icmp .ge 24, 3, 33, 0, 0, .null), (12, .aload_n 0, 1, 0, 0, 0, .null), (13, .iload_n 3, 1, 0, 0, 0, .null), (14, .iload_n 1, 1, 0, 0, 0, .null), (15, .invokevirtual 82, 3, 6, 3, 816, .ref 0), (18, .ifCond .eq 9, 3, 27, 0, 0, .null), (21, .iload_n 2, 1, 0, 0, 0, .null), (22, .iconst 1, 1, 0, 0, 0, .int 1), (23, .iload_n 3, 1, 0, 0, 0, .null), (24, .ishl, 1, 0, 0, 0, .null), (25, .ior, 1, 0, 0, 0, .null), (26, .istore_n 2, 1, 0, 0, 0, .null), (27, .iinc 3 1, 3, 0, 0, 0, .null), (30, .goto (-26), 3, 4, 0, 0, .null), (33, .iload_n 2, 1, 0, 0, 0, .null), (34, .ireturn, 1, 0, 0, 0, .null)]
set_option maxRecDepth 100000 in
theorem oX0_awakeBits : fc_code mX0_awakeBits lX0_awakeBits = true := by decide +kernel
def lX2_write : List fc_I := [(0, .aload_n 0, 1, 0, 0, 0, .null), (1, .getfield 18, 3, 2, 2, 347, .null), (4, .sipush 1000, 3, 0, 0, 0, .int 1000), (7, .if_icmp .ge 23, 3, 30, 0, 0, .null), (10, .aload_n 0, 1, 0, 0, 0, .null), (11, .getfield 9, 3, 2, 0, 345, .null), (14, .aload_n 0, 1, 0, 0, 0, .null), (15, .getfield 18, 3, 2, 2, 347, .null), (18, .iload_n 1, 1, 0, 0, 0, .null), (19, .iastore, 1, 0, 0, 0, .null), (20, .aload_n 0, 1, 0, 0, 0, .null), (21, .dup, 1, 0, 0, 0, .null), (22, .getfield 18, 3, 2, 2, 347, .null), (25, .iconst 1, 1, 0, 0, 0, .int 1), (26, .iadd, 1, 0, 0, 0, .null), (27, .putfield 18, 3, 2, 2, 347, .null), (30, .return_, 1, 0, 0, 0, .null)]
set_option maxRecDepth 100000 in
theorem oX2_write : fc_code mX2_write lX2_write = true := by decide +kernel
def lX2_valueAt : List fc_I := [(0, .iconst 0, 1, 0, 0, 0, .int 0), (1, .istore 5, 2, 0, 0, 0, .null), (3, .iconst 0, 1, 0, 0, 0, .int 0), (4, .istore 6, 2, 0, 0, 0, .null), (6, .iload 6, 2, 0, 0, 0, .null), (8, .aload_n 0, 1, 0, 0, 0, .null), (9, .getfield 18, 3, 2, 2, 347, .null), (12, .if_icmp .ge 143, 3, 155, 0, 0, .null), (15, .aload_n 0, 1, 0, 0, 0, .null), (16, .getfield 9, 3, 2, 0, 345, .null), (19, .iload 6, 2, 0, 0, 0, .null), (21, .iaload, 1, 0, 0, 0, .null), (22, .istore 7, 2, 0, 0, 0, .null), (24, .iload 7, 2, 0, 0, 0, .null), (26, .sipush (-146), 3, 0, 0, 0, .int (-146)), (29, .if_icmp .ne 38, 3, 67, 0, 0, .null), (32, .iload 5, 2, 0, 0, 0, .null), (34, .iconst 1, 1, 0, 0, 0, .int 1), (35, .if_icmp .lt 114, 3, 149, 0, 0, .null), (38, .aload_n 0, 1, 0, 0, 0, .null), (39, .getfield 15, 3, 2, 1, 346, .null), (42, .iload 5, 2, 0, 0, 0, .null), (44, .iconst 1, 1, 0, 0, 0, .int 1), (45, .isub, 1, 0, 0, 0, .null), (46, .aload_n 0, 1, 0, 0, 0, .null), (47, .getfield 15, 3, 2, 1, 346, .null), (50, .iload 5, 2, 0, 0, 0, .null), (52, .iconst 1, 1, 0, 0, 0, .int 1), (53, .isub, 1, 0, 0, 0, .null), (54, .iaload, 1, 0, 0, 0, .null), (55, .ifCond .ne 7, 3, 62, 0, 0, .null), (58, .iconst 1, 1, 0, 0, 0, .int 1), (59, .goto 4, 3, 63, 0, 0, .null), (62, .iconst 0, 1, 0, 0, 0, .int 0), (63, .iastore, 1, 0, 0, 0, .null), (64, .goto 85, 3, 149, 0, 0, .null), (67, .iload 7, 2, 0, 0, 0, .null), (69, .ifCond .ge 11, 3, 80, 0, 0, .null), (72, .iload 7, 2, 0, 0, 0, .null), (74, .sipush (-256), 3, 0, 0, 0, .int (-256)), (77, .if_icmp .gt 33, 3, 110, 0, 0, .null), (80, .iload 5, 2, 0, 0, 0, .null), (82, .bipush 64, 2, 0, 0, 0, .int 64), (84, .if_icmp .ge 65, 3, 149, 0, 0, .null), (87, .aload_n 0, 1, 0, 0, 0, .null), (88, .getfield 15, 3, 2, 1, 346, .null), (91, .iload 5, 2, 0, 0, 0, .null), (93, .iload 7, 2, 0, 0, 0, .null), (95, .iload_n 1, 1, 0, 0, 0, .null), (96, .iload_n 2, 1, 0, 0, 0, .null), (97, .iload_n 3, 1, 0, 0, 0, .null), (98, .iload 4, 2, 0, 0, 0, .null), (100, .invokestatic 22, 3, 19, 5, 907, .retAddr 0), (103, .iastore, 1, 0, 0, 0, .null), (104, .iinc 5 1, 3, 0, 0, 0, .null), (107, .goto 42, 3, 149, 0, 0, .null), (110, .iload 5, 2, 0, 0, 0, .null), (112, .iconst 2, 1, 0, 0, 0, .int 2), (113, .if_icmp .lt 36, 3, 149, 0, 0, .null), (116, .iinc 5 (-1), 3, 0, 0, 0, .null), (119, .aload_n 0, 1, 0, 0, 0, .null), (120, .getfield 15, 3, 2, 1, 346, .null), (123, .iload 5, 2, 0, 0, 0, .null), (125, .iconst 1, 1, 0, 0, 0, .int 1), (126, .isub, 1, 0, 0, 0, .null), (127, .iload 7, 2, 0, 0, 0, .null), (129, .aload_n 0, 1, 0, 0, 0, .null), (130, .getfield 15, 3, 2, 1, 346, .null), (133, .iload 5, 2, 0, 0, 0, .null), (135, .iconst 1, 1, 0, 0, 0, .int 1), (136, .isub, 1, 0, 0, 0, .null), (137, .iaload, 1, 0, 0, 0, .null), (138, .aload_n 0, 1, 0, 0, 0, .null), (139, .getfield 15, 3, 2, 1, 346, .null), (142, .iload 5, 2, 0, 0, 0, .null), (144, .iaload, 1, 0, 0, 0, .null), (145, .invokestatic 26, 3, 20, 3, 910, .retAddr 0), (148, .iastore, 1, 0, 0, 0, .null), (149, .iinc 6 1, 3, 0, 0, 0, .null), (152, .goto (-146), 3, 6, 0, 0, .null), (155, .iload 5, 2, 0, 0, 0, .null), (157, .iconst 1, 1, 0, 0, 0, .int 1), (158, .if_icmp .lt 12, 3, 170, 0, 0, .null), (161, .aload_n 0, 1, 0, 0, 0, .null), (162, .getfield 15, 3, 2, 1, 346, .null), (165, .iconst 0, 1, 0, 0, 0, .int 0), (166, .iaload, 1, 0, 0, 0, .null), (167, .goto 4, 3, 171, 0, 0, .null), (170, .iconst 0, 1, 0, 0, 0, .int 0), (171, .ireturn, 1, 0, 0, 0, .null)]
set_option maxRecDepth 100000 in
theorem oX2_valueAt : fc_code mX2_valueAt lX2_valueAt = true := by decide +kernel
def lX2_operand : List fc_I := [(0, .iload_n 0, 1, 0, 0, 0, .null), (1, .tableswitch 40 (-259) (-256) #[37, 35, 33, 31], 31, 0, 0, 0, .null), (32, .iload_n 1, 1, 0, 0, 0, .null), (33, .ireturn, 1, 0, 0, 0, .null), (34, .iload_n 2, 1, 0, 0, 0, .null), (35, .ireturn, 1, 0, 0, 0, .null), (36, .iload_n 3, 1, 0, 0, 0, .null), (37, .ireturn, 1, 0, 0, 0, .null), (38, .iload 4, 2, 0, 0, 0, .null), (40, .ireturn, 1, 0, 0, 0, .null), (41, .iload_n 0, 1, 0, 0, 0, .null), (42, .ireturn, 1, 0, 0, 0, .null)]
set_option maxRecDepth 100000 in
theorem oX2_operand : fc_code mX2_operand lX2_operand = true := by decide +kernel
def lX2_joined : List fc_I := [(0, .iload_n 0, 1, 0, 0, 0, .null), (1, .lookupswitch 107 #[(-147, 93), (-61, 82), (-60, 71), (-45, 67), (-43, 63), (-42, 59)], 59, 0, 0, 0, .null), (60, .iload_n 1, 1, 0, 0, 0, .null), (61, .iload_n 2, 1, 0, 0, 0, .null), (62, .imul, 1, 0, 0, 0, .null), (63, .ireturn, 1, 0, 0, 0, .null), (64, .iload_n 1, 1, 0, 0, 0, .null), (65, .iload_n 2, 1, 0, 0, 0, .null), (66, .iadd, 1, 0, 0, 0, .null), (67, .ireturn, 1, 0, 0, 0, .null), (68, .iload_n 1, 1, 0, 0, 0, .null), (69, .iload_n 2, 1, 0, 0, 0, .null), (70, .isub, 1, 0, 0, 0, .null), (71, .ireturn, 1, 0, 0, 0, .null), (72, .iload_n 1, 1, 0, 0, 0, .null), (73, .iload_n 2, 1, 0, 0, 0, .null), (74, .if_icmp .ge 7, 3, 81, 0, 0, .null), (77, .iconst 1, 1, 0, 0, 0, .int 1), (78, .goto 4, 3, 82, 0, 0, .null), (81, .iconst 0, 1, 0, 0, 0, .int 0), (82, .ireturn, 1, 0, 0, 0, .null), (83, .iload_n 1, 1, 0, 0, 0, .null), (84, .iload_n 2, 1, 0, 0, 0, .null), (85, .if_icmp .ne 7, 3, 92, 0, 0, .null), (88, .iconst 1, 1, 0, 0, 0, .int 1), (89, .goto 4, 3, 93, 0, 0, .null), (92, .iconst 0, 1, 0, 0, 0, .int 0), (93, .ireturn, 1, 0, 0, 0, .null), (94, .iload_n 1, 1, 0, 0, 0, .null), (95, .ifCond .eq 11, 3, 106, 0, 0, .null), (98, .iload_n 2, 1, 0, 0, 0, .null), (99, .ifCond .eq 7, 3, 106, 0, 0, .null), (102, .iconst 1, 1, 0, 0, 0, .int 1), (103, .goto 4, 3, 107, 0, 0, .null), (106, .iconst 0, 1, 0, 0, 0, .int 0), (107, .ireturn, 1, 0, 0, 0, .null), (108, .iload_n 1, 1, 0, 0, 0, .null), (109, .ifCond .ne 7, 3, 116, 0, 0, .null), (112, .iload_n 2, 1, 0, 0, 0, .null), (113, .ifCond .eq 7, 3, 120, 0, 0, .null), (116, .iconst 1, 1, 0, 0, 0, .int 1), (117, .goto 4, 3, 121, 0, 0, .null), (120, .iconst 0, 1, 0, 0, 0, .int 0), (121, .ireturn, 1, 0, 0, 0, .null)]
set_option maxRecDepth 100000 in
theorem oX2_joined : fc_code mX2_joined lX2_joined = true := by decide +kernel
def lX4_forget : List fc_I := [(0, .aload_n 0, 1, 0, 0, 0, .null), (1, .iconst 0, 1, 0, 0, 0, .int 0), (2, .putfield 32, 3, 4, 5, 316, .null), (5, .iconst 0, 1, 0, 0, 0, .int 0), (6, .istore_n 1, 1, 0, 0, 0, .null), (7, .iload_n 1, 1, 0, 0, 0, .null), (8, .iconst 4, 1, 0, 0, 0, .int 4), (9, .if_icmp .ge 16, 3, 25, 0, 0, .null), (12, .aload_n 0, 1, 0, 0, 0, .null), (13, .getfield 26, 3, 4, 3, 314, .null), (16, .iload_n 1, 1, 0, 0, 0, .null), (17, .iconst 0, 1, 0, 0, 0, .int 0), (18, .bastore, 1, 0, 0, 0, .null), (19, .iinc 1 1, 3, 0, 0, 0, .null), (22, .goto (-15), 3, 7, 0, 0, .null), (25, .return_, 1, 0, 0, 0, .null)]
set_option maxRecDepth 100000 in
theorem oX4_forget : fc_code mX4_forget lX4_forget = true := by decide +kernel
def lX4_keep : List fc_I := [(0, .aload_n 0, 1, 0, 0, 0, .null), (1, .getfield 11, 3, 4, 0, 311, .null), (4, .aload_n 0, 1, 0, 0, 0, .null), (5, .getfield 36, 3, 4, 4, 315, .null), (8, .aaload, 1, 0, 0, 0, .null), (9, .aload_n 1, 1, 0, 0, 0, .null), (10, .invokevirtual 39, 3, 40, 2, 862, .ref 7), (13, .aload_n 0, 1, 0, 0, 0, .null), (14, .aload_n 0, 1, 0, 0, 0, .null), (15, .getfield 36, 3, 4, 4, 315, .null), (18, .iconst 1, 1, 0, 0, 0, .int 1), (19, .iadd, 1, 0, 0, 0, .null), (20, .bipush 16, 2, 0, 0, 0, .int 16), (22, .irem, 1, 0, 0, 0, .null), (23, .putfield 36, 3, 4, 4, 315, .null), (26, .aload_n 0, 1, 0, 0, 0, .null), (27, .aload_n 0, 1, 0, 0, 0, .null), (28, .getfield 32, 3, 4, 5, 316, .null), (31, .iconst 1, 1, 0, 0, 0, .int 1), (32, .iadd, 1, 0, 0, 0, .null), (33, .bipush 16, 2, 0, 0, 0, .int 16), (35, .invokestatic 43, 3, 0, 0, 869, .retAddr 11), (38, .putfield 32, 3, 4, 5, 316, .null), (41, .return_, 1, 0, 0, 0, .null)]
set_option maxRecDepth 100000 in
theorem oX4_keep : fc_code mX4_keep lX4_keep = true := by decide +kernel
def lX4_bringBack : List fc_I := [(0, .aload_n 0, 1, 0, 0, 0, .null), (1, .getfield 32, 3, 4, 5, 316, .null), (4, .ifCond .ne 5, 3, 9, 0, 0, .null), (7, .iconst 0, 1, 0, 0, 0, .int 0), (8, .ireturn, 1, 0, 0, 0, .null), (9, .aload_n 0, 1, 0, 0, 0, .null), (10, .dup, 1, 0, 0, 0, .null), (11, .getfield 32, 3, 4, 5, 316, .null), (14, .iconst 1, 1, 0, 0, 0, .int 1), (15, .isub, 1, 0, 0, 0, .null), (16, .putfield 32, 3, 4, 5, 316, .null), (19, .aload_n 0, 1, 0, 0, 0, .null), (20, .aload_n 0, 1, 0, 0, 0, .null), (21, .getfield 36, 3, 4, 4, 315, .null), (24, .bipush 16, 2, 0, 0, 0, .int 16), (26, .iadd, 1, 0, 0, 0, .null), (27, .iconst 1, 1, 0, 0, 0, .int 1), (28, .isub, 1, 0, 0, 0, .null), (29, .bipush 16, 2, 0, 0, 0, .int 16), (31, .irem, 1, 0, 0, 0, .null), (32, .putfield 36, 3, 4, 4, 315, .null), (35, .aload_n 1, 1, 0, 0, 0, .null), (36, .aload_n 0, 1, 0, 0, 0, .null), (37, .getfield 11, 3, 4, 0, 311, .null), (40, .aload_n 0, 1, 0, 0, 0, .null), (41, .getfield 36, 3, 4, 4, 315, .null), (44, .aaload, 1, 0, 0, 0, .null), (45, .invokevirtual 39, 3, 40, 2, 862, .ref 7), (48, .iconst 1, 1, 0, 0, 0, .int 1), (49, .ireturn, 1, 0, 0, 0, .null)]
set_option maxRecDepth 100000 in
theorem oX4_bringBack : fc_code mX4_bringBack lX4_bringBack = true := by decide +kernel
def lX4_lay : List fc_I := [(0, .aload_n 0, 1, 0, 0, 0, .null), (1, .getfield 17, 3, 4, 1, 312, .null), (4, .iload_n 1, 1, 0, 0, 0, .null), (5, .aaload, 1, 0, 0, 0, .null), (6, .aload_n 2, 1, 0, 0, 0, .null), (7, .invokevirtual 39, 3, 40, 2, 862, .ref 7), (10, .aload_n 0, 1, 0, 0, 0, .null), (11, .getfield 22, 3, 4, 2, 313, .null), (14, .iload_n 1, 1, 0, 0, 0, .null), (15, .aaload, 1, 0, 0, 0, .null), (16, .aload_n 3, 1, 0, 0, 0, .null), (17, .invokevirtual 49, 3, 38, 2, 1181, .ref 6), (20, .aload_n 0, 1, 0, 0, 0, .null), (21, .getfield 26, 3, 4, 3, 314, .null), (24, .iload_n 1, 1, 0, 0, 0, .null), (25, .iconst 1, 1, 0, 0, 0, .int 1), (26, .bastore, 1, 0, 0, 0, .null), (27, .return_, 1, 0, 0, 0, .null)]
set_option maxRecDepth 100000 in
theorem oX4_lay : fc_code mX4_lay lX4_lay = true := by decide +kernel
def lX4_goBack : List fc_I := [(0, .aload_n 0, 1, 0, 0, 0, .null), (1, .getfield 26, 3, 4, 3, 314, .null), (4, .iload_n 1, 1, 0, 0, 0, .null), (5, .baload, 1, 0, 0, 0, .null), (6, .ifCond .ne 5, 3, 11, 0, 0, .null), (9, .iconst 0, 1, 0, 0, 0, .int 0), (10, .ireturn, 1, 0, 0, 0, .null), (11, .aload_n 2, 1, 0, 0, 0, .null), (12, .aload_n 0, 1, 0, 0, 0, .null), (13, .getfield 17, 3, 4, 1, 312, .null), (16, .iload_n 1, 1, 0, 0, 0, .null), (17, .aaload, 1, 0, 0, 0, .null), (18, .invokevirtual 39, 3, 40, 2, 862, .ref 7), (21, .aload_n 3, 1, 0, 0, 0, .null), (22, .aload_n 0, 1, 0, 0, 0, .null), (23, .getfield 22, 3, 4, 2, 313, .null), (26, .iload_n 1, 1, 0, 0, 0, .null), (27, .aaload, 1, 0, 0, 0, .null), (28, .invokevirtual 49, 3, 38, 2, 1181, .ref 6), (31, .aload_n 0, 1, 0, 0, 0, .null), (32, .iconst 0, 1, 0, 0, 0, .int 0), (33, .putfield 32, 3, 4, 5, 316, .null), (36, .iconst 1, 1, 0, 0, 0, .int 1), (37, .ireturn, 1, 0, 0, 0, .null)]
set_option maxRecDepth 100000 in
theorem oX4_goBack : fc_code mX4_goBack lX4_goBack = true := by decide +kernel
def lX5_read : List fc_I := [(0, .aload_n 0, 1, 0, 0, 0, .null), (1, .iconst 0, 1, 0, 0, 0, .int 0), (2, .putfield 21, 3, 5, 3, 455, .null), (5, .aload_n 1, 1, 0, 0, 0, .null), (6, .invokevirtual 25, 3, 59, 1, 786, .ref 8), (9, .iconst 0, 1, 0, 0, 0, .int 0), (10, .istore_n 3, 1, 0, 0, 0, .null), (11, .iload_n 3, 1, 0, 0, 0, .null), (12, .sipush 1000, 3, 0, 0, 0, .int 1000), (15, .if_icmp .ge 40, 3, 55, 0, 0, .null), (18, .aload_n 1, 1, 0, 0, 0, .null), (19, .getfield 30, 3, 8, 4, 150, .null), (22, .iconst 1, 1, 0, 0, 0, .int 1), (23, .if_icmp .eq 32, 3, 55, 0, 0, .null), (26, .aload_n 0, 1, 0, 0, 0, .null), (27, .aload_n 1, 1, 0, 0, 0, .null), (28, .aload_n 2, 1, 0, 0, 0, .null), (29, .invokevirtual 33, 3, 34, 3, 787, .ref 5), (32, .ifCond .eq 12, 3, 44, 0, 0, .null), (35, .aload_n 1, 1, 0, 0, 0, .null), (36, .bipush 59, 2, 0, 0, 0, .int 59), (38, .invokevirtual 37, 3, 65, 2, 799, .ref 8), (41, .ifCond .ne 8, 3, 49, 0, 0, .null), (44, .aload_n 1, 1, 0, 0, 0, .null), (45, .getfield 41, 3, 8, 7, 159, .null), (48, .ireturn, 1, 0, 0, 0, .null), (49, .iinc 3 1, 3, 0, 0, 0, .null), (52, .goto (-41), 3, 11, 0, 0, .null), (55, .iconst 0, 1, 0, 0, 0, .int 0), (56, .ireturn, 1, 0, 0, 0, .null)]
set_option maxRecDepth 100000 in
theorem oX5_read : fc_code mX5_read lX5_read = true := by decide +kernel
def lX5_readLine : List fc_I := [(0, .aload_n 1, 1, 0, 0, 0, .null), (1, .getfield 30, 3, 8, 4, 150, .null), (4, .istore_n 3, 1, 0, 0, 0, .null), (5, .sipush 138, 3, 0, 0, 0, .int 138), (8, .iload_n 3, 1, 0, 0, 0, .null), (9, .sipush 141, 3, 0, 0, 0, .int 141), (12, .invokestatic 44, 3, 119, 3, 0, .retAddr 1), (15, .ifCond .ne 9, 3, 24, 0, 0, .null), (18, .aload_n 1, 1, 0, 0, 0, .null), (19, .iconst 1, 1, 0, 0, 0, .int 1), (20, .invokevirtual 48, 3, 64, 2, 792, .ref 8), (23, .ireturn, 1, 0, 0, 0, .null), (24, .aload_n 0, 1, 0, 0, 0, .null), (25, .getfield 21, 3, 5, 3, 455, .null), (28, .bipush 40, 2, 0, 0, 0, .int 40), (30, .if_icmp .lt 9, 3, 39, 0, 0, .null), (33, .aload_n 1, 1, 0, 0, 0, .null), (34, .iconst 5, 1, 0, 0, 0, .int 5), (35, .invokevirtual 48, 3, 64, 2, 792, .ref 8), (38, .ireturn, 1, 0, 0, 0, .null), (39, .aload_n 0, 1, 0, 0, 0, .null), (40, .getfield 9, 3, 5, 0, 452, .null), (43, .aload_n 0, 1, 0, 0, 0, .null), (44, .getfield 21, 3, 5, 3, 455, .null), (47, .iload_n 3, 1, 0, 0, 0, .null), (48, .iastore, 1, 0, 0, 0, .null), (49, .aload_n 1, 1, 0, 0, 0, .null), (50, .invokevirtual 51, 3, 60, 1, 793, .ref 8), (53, .iload_n 3, 1, 0, 0, 0, .null), (54, .sipush 138, 3, 0, 0, 0, .int 138), (57, .if_icmp .eq 15, 3, 72, 0, 0, .null), (60, .aload_n 0, 1, 0, 0, 0, .null), (61, .aload_n 1, 1, 0, 0, 0, .null), (62, .aload_n 2, 1, 0, 0, 0, .null), (63, .iload_n 3, 1, 0, 0, 0, .null), (64, .invokevirtual 54, 3, 35, 4, 794, .ref 5), (67, .ifCond .ne 5, 3, 72, 0, 0, .null), (70, .iconst 0, 1, 0, 0, 0, .int 0), (71, .ireturn, 1, 0, 0, 0, .null), (72, .aload_n 0, 1, 0, 0, 0, .null), (73, .dup, 1, 0, 0, 0, .null), (74, .getfield 21, 3, 5, 3, 455, .null), (77, .iconst 1, 1, 0, 0, 0, .int 1), (78, .iadd, 1, 0, 0, 0, .null), (79, .putfield 21, 3, 5, 3, 455, .null), (82, .iconst 1, 1, 0, 0, 0, .int 1), (83, .ireturn, 1, 0, 0, 0, .null)]
set_option maxRecDepth 100000 in
theorem oX5_readLine : fc_code mX5_readLine lX5_readLine = true := by decide +kernel
def lX5_readNames : List fc_I := [(0, .iload_n 3, 1, 0, 0, 0, .null), (1, .sipush 140, 3, 0, 0, 0, .int 140), (4, .if_icmp .ne 18, 3, 22, 0, 0, .null), (7, .aload_n 1, 1, 0, 0, 0, .null), (8, .aload_n 2, 1, 0, 0, 0, .null), (9, .getfield 58, 3, 0, 2, 364, .null), (12, .aload_n 2, 1, 0, 0, 0, .null), (13, .getfield 64, 3, 0, 13, 407, .null), (16, .invokevirtual 67, 3, 67, 3, 798, .ref 8), (19, .goto 15, 3, 34, 0, 0, .null), (22, .aload_n 1, 1, 0, 0, 0, .null), (23, .aload_n 2, 1, 0, 0, 0, .null), (24, .getfield 71, 3, 0, 1, 361, .null), (27, .aload_n 2, 1, 0, 0, 0, .null), (28, .getfield 74, 3, 0, 12, 403, .null), (31, .invokevirtual 67, 3, 67, 3, 798, .ref 8), (34, .istore 4, 2, 0, 0, 0, .null), (36, .iload 4, 2, 0, 0, 0, .null), (38, .iconst (-1), 1, 0, 0, 0, .int (-1)), (39, .if_icmp .ne 5, 3, 44, 0, 0, .null), (42, .iconst 0, 1, 0, 0, 0, .int 0), (43, .ireturn, 1, 0, 0, 0, .null), (44, .aload_n 1, 1, 0, 0, 0, .null), (45, .invokevirtual 51, 3, 60, 1, 793, .ref 8), (48, .iload_n 3, 1, 0, 0, 0, .null), (49, .sipush 139, 3, 0, 0, 0, .int 139), (52, .if_icmp .ne 18, 3, 70, 0, 0, .null), (55, .aload_n 1, 1, 0, 0, 0, .null), (56, .aload_n 2, 1, 0, 0, 0, .null), (57, .getfield 77, 3, 0, 0, 359, .null), (60, .aload_n 2, 1, 0, 0, 0, .null), (61, .getfield 80, 3, 0, 10, 395, .null), (64, .invokevirtual 67, 3, 67, 3, 798, .ref 8), (67, .goto 15, 3, 82, 0, 0, .null), (70, .aload_n 1, 1, 0, 0, 0, .null), (71, .aload_n 2, 1, 0, 0, 0, .null), (72, .getfield 71, 3, 0, 1, 361, .null), (75, .aload_n 2, 1, 0, 0, 0, .null), (76, .getfield 74, 3, 0, 12, 403, .null), (79, .invokevirtual 67, 3, 67, 3, 798, .ref 8), (82, .istore 5, 2, 0, 0, 0, .null), (84, .iload 5, 2, 0, 0, 0, .null), (86, .iconst (-1), 1, 0, 0, 0, .int (-1)), (87, .if_icmp .ne 5, 3, 92, 0, 0, .null), (90, .iconst 0, 1, 0, 0, 0, .int 0), (91, .ireturn, 1, 0, 0, 0, .null), (92, .iload_n 3, 1, 0, 0, 0, .null), (93, .sipush 141, 3, 0, 0, 0, .int 141), (96, .if_icmp .ne 16, 3, 112, 0, 0, .null), (99, .iload 4, 2, 0, 0, 0, .null), (101, .iload 5, 2, 0, 0, 0, .null), (103, .if_icmp .ne 9, 3, 112, 0, 0, .null), (106, .aload_n 1, 1, 0, 0, 0, .null), (107, .iconst 3, 1, 0, 0, 0, .int 3), (108, .invokevirtual 48, 3, 64, 2, 792, .ref 8), (111, .ireturn, 1, 0, 0, 0, .null), (112, .aload_n 0, 1, 0, 0, 0, .null), (113, .getfield 15, 3, 5, 1, 453, .null), (116, .aload_n 0, 1, 0, 0, 0, .null), (117, .getfield 21, 3, 5, 3, 455, .null), (120, .iload 4, 2, 0, 0, 0, .null), (122, .iastore, 1, 0, 0, 0, .null), (123, .aload_n 0, 1, 0, 0, 0, .null), (124, .getfield 18, 3, 5, 2, 454, .null), (127, .aload_n 0, 1, 0, 0, 0, .null), (128, .getfield 21, 3, 5, 3, 455, .null), (131, .iload 5, 2, 0, 0, 0, .null), (133, .iastore, 1, 0, 0, 0, .null), (134, .aload_n 1, 1, 0, 0, 0, .null), (135, .invokevirtual 51, 3, 60, 1, 793, .ref 8), (138, .iconst 1, 1, 0, 0, 0, .int 1), (139, .ireturn, 1, 0, 0, 0, .null)]
set_option maxRecDepth 100000 in
theorem oX5_readNames : fc_code mX5_readNames lX5_readNames = true := by decide +kernel
def lX5_play : List fc_I := [(0, .aload_n 0, 1, 0, 0, 0, .null), (1, .getfield 15, 3, 5, 1, 453, .null), (4, .iload_n 1, 1, 0, 0, 0, .null), (5, .iaload, 1, 0, 0, 0, .null), (6, .istore 4, 2, 0, 0, 0, .null), (8, .aload_n 0, 1, 0, 0, 0, .null), (9, .getfield 18, 3, 5, 2, 454, .null), (12, .iload_n 1, 1, 0, 0, 0, .null), (13, .iaload, 1, 0, 0, 0, .null), (14, .istore 5, 2, 0, 0, 0, .null), (16, .aload_n 0, 1, 0, 0, 0, .null), (17, .getfield 9, 3, 5, 0, 452, .null), (20, .iload_n 1, 1, 0, 0, 0, .null), (21, .iaload, 1, 0, 0, 0, .null), (22, .tableswitch 115 139 141 #[26, 51, 83], 26, 0, 0, 0, .null), (48, .aload_n 3, 1, 0, 0, 0, .null), (49, .aload_n 2, 1, 0, 0, 0, .null), (50, .iload 4, 2, 0, 0, 0, .null), (52, .iload 5, 2, 0, 0, 0, .null), (54, .invokevirtual 83, 3, 46, 4, 959, .ref 7), (57, .ifCond .ne 5, 3, 62, 0, 0, .null), (60, .iconst (-1), 1, 0, 0, 0, .int (-1)), (61, .ireturn, 1, 0, 0, 0, .null), (62, .aload_n 3, 1, 0, 0, 0, .null), (63, .aload_n 2, 1, 0, 0, 0, .null), (64, .iload 4, 2, 0, 0, 0, .null), (66, .iload 5, 2, 0, 0, 0, .null), (68, .invokevirtual 89, 3, 47, 4, 960, .ref 7), (71, .iconst 0, 1, 0, 0, 0, .int 0), (72, .ireturn, 1, 0, 0, 0, .null), (73, .aload_n 3, 1, 0, 0, 0, .null), (74, .aload_n 2, 1, 0, 0, 0, .null), (75, .iload 4, 2, 0, 0, 0, .null), (77, .iload 5, 2, 0, 0, 0, .null), (79, .invokevirtual 93, 3, 48, 4, 961, .ref 7), (82, .ifCond .ne 5, 3, 87, 0, 0, .null), (85, .iconst (-1), 1, 0, 0, 0, .int (-1)), (86, .ireturn, 1, 0, 0, 0, .null), (87, .aload_n 3, 1, 0, 0, 0, .null), (88, .aload_n 2, 1, 0, 0, 0, .null), (89, .iload 4, 2, 0, 0, 0, .null), (91, .iload 5, 2, 0, 0, 0, .null), (93, .invokevirtual 96, 3, 49, 4, 962, .ref 7), (96, .ifCond .eq 7, 3, 103, 0, 0, .null), (99, .iconst 1, 1, 0, 0, 0, .int 1), (100, .goto 4, 3, 104, 0, 0, .null), (103, .iconst 0, 1, 0, 0, 0, .int 0), (104, .ireturn, 1, 0, 0, 0, .null), (105, .aload_n 3, 1, 0, 0, 0, .null), (106, .aload_n 2, 1, 0, 0, 0, .null), (107, .iload 4, 2, 0, 0, 0, .null), (109, .iload 5, 2, 0, 0, 0, .null), (111, .invokevirtual 99, 3, 50, 4, 963, .ref 7), (114, .ifCond .ne 5, 3, 119, 0, 0, .null), (117, .iconst (-1), 1, 0, 0, 0, .int (-1)), (118, .ireturn, 1, 0, 0, 0, .null), (119, .aload_n 3, 1, 0, 0, 0, .null), (120, .aload_n 2, 1, 0, 0, 0, .null), (121, .iload 4, 2, 0, 0, 0, .null), (123, .iload 5, 2, 0, 0, 0, .null), (125, .invokevirtual 102, 3, 51, 4, 964, .ref 7), (128, .ifCond .eq 7, 3, 135, 0, 0, .null), (131, .iconst 1, 1, 0, 0, 0, .int 1), (132, .goto 4, 3, 136, 0, 0, .null), (135, .iconst 0, 1, 0, 0, 0, .int 0), (136, .ireturn, 1, 0, 0, 0, .null), (137, .aload_n 3, 1, 0, 0, 0, .null), (138, .aload_n 2, 1, 0, 0, 0, .null), (139, .invokevirtual 105, 3, 54, 2, 965, .ref 7), (142, .pop, 1, 0, 0, 0, .null), (143, .iconst 0, 1, 0, 0, 0, .int 0), (144, .ireturn, 1, 0, 0, 0, .null)]
set_option maxRecDepth 100000 in
theorem oX5_play : fc_code mX5_play lX5_play = true := by decide +kernel
def lX6_add : List fc_I := [(0, .aload_n 0, 1, 0, 0, 0, .null), (1, .getfield 22, 3, 6, 3, 299, .null), (4, .bipush 8, 2, 0, 0, 0, .int 8), (6, .if_icmp .lt 5, 3, 11, 0, 0, .null), (9, .iconst 0, 1, 0, 0, 0, .int 0), (10, .ireturn, 1, 0, 0, 0, .null), (11, .aload_n 0, 1, 0, 0, 0, .null), (12, .getfield 9, 3, 6, 0, 293, .null), (15, .aload_n 0, 1, 0, 0, 0, .null), (16, .getfield 22, 3, 6, 3, 299, .null), (19, .iload_n 1, 1, 0, 0, 0, .null), (20, .iastore, 1, 0, 0, 0, .null), (21, .aload_n 0, 1, 0, 0, 0, .null), (22, .getfield 15, 3, 6, 1, 295, .null), (25, .aload_n 0, 1, 0, 0, 0, .null), (26, .getfield 22, 3, 6, 3, 299, .null), (29, .iload_n 2, 1, 0, 0, 0, .null), (30, .iastore, 1, 0, 0, 0, .null), (31, .aload_n 0, 1, 0, 0, 0, .null), (32, .getfield 18, 3, 6, 2, 297, .null), (35, .aload_n 0, 1, 0, 0, 0, .null), (36, .getfield 22, 3, 6, 3, 299, .null), (39, .iload_n 3, 1, 0, 0, 0, .null), (40, .bastore, 1, 0, 0, 0, .null), (41, .aload_n 0, 1, 0, 0, 0, .null), (42, .dup, 1, 0, 0, 0, .null), (43, .getfield 22, 3, 6, 3, 299, .null), (46, .iconst 1, 1, 0, 0, 0, .int 1), (47, .iadd, 1, 0, 0, 0, .null), (48, .putfield 22, 3, 6, 3, 299, .null), (51, .iconst 1, 1, 0, 0, 0, .int 1), (52, .ireturn, 1, 0, 0, 0, .null)]
set_option maxRecDepth 100000 in
theorem oX6_add : fc_code mX6_add lX6_add = true := by decide +kernel
def lX6_copy : List fc_I := [(0, .aload_n 0, 1, 0, 0, 0, .null), (1, .aload_n 1, 1, 0, 0, 0, .null), (2, .getfield 22, 3, 6, 3, 299, .null), (5, .putfield 22, 3, 6, 3, 299, .null), (8, .iconst 0, 1, 0, 0, 0, .int 0), (9, .istore_n 2, 1, 0, 0, 0, .null), (10, .iload_n 2, 1, 0, 0, 0, .null), (11, .bipush 8, 2, 0, 0, 0, .int 8), (13, .if_icmp .ge 45, 3, 58, 0, 0, .null), (16, .aload_n 0, 1, 0, 0, 0, .null), (17, .getfield 9, 3, 6, 0, 293, .null), (20, .iload_n 2, 1, 0, 0, 0, .null), (21, .aload_n 1, 1, 0, 0, 0, .null), (22, .getfield 9, 3, 6, 0, 293, .null), (25, .iload_n 2, 1, 0, 0, 0, .null), (26, .iaload, 1, 0, 0, 0, .null), (27, .iastore, 1, 0, 0, 0, .null), (28, .aload_n 0, 1, 0, 0, 0, .null), (29, .getfield 15, 3, 6, 1, 295, .null), (32, .iload_n 2, 1, 0, 0, 0, .null), (33, .aload_n 1, 1, 0, 0, 0, .null), (34, .getfield 15, 3, 6, 1, 295, .null), (37, .iload_n 2, 1, 0, 0, 0, .null), (38, .iaload, 1, 0, 0, 0, .null), (39, .iastore, 1, 0, 0, 0, .null), (40, .aload_n 0, 1, 0, 0, 0, .null), (41, .getfield 18, 3, 6, 2, 297, .null), (44, .iload_n 2, 1, 0, 0, 0, .null), (45, .aload_n 1, 1, 0, 0, 0, .null), (46, .getfield 18, 3, 6, 2, 297, .null), (49, .iload_n 2, 1, 0, 0, 0, .null), (50, .baload, 1, 0, 0, 0, .null), (51, .bastore, 1, 0, 0, 0, .null), (52, .iinc 2 1, 3, 0, 0, 0, .null), (55, .goto (-45), 3, 10, 0, 0, .null), (58, .return_, 1, 0, 0, 0, .null)]
set_option maxRecDepth 100000 in
theorem oX6_copy : fc_code mX6_copy lX6_copy = true := by decide +kernel
def lX8_put : List fc_I := [(0, .bipush 56, 2, 0, 0, 0, .int 56), (2, .istore_n 3, 1, 0, 0, 0, .null), (3, .iload_n 3, 1, 0, 0, 0, .null), (4, .ifCond .lt 70, 3, 74, 0, 0, .null), (7, .lload_n 1, 1, 0, 0, 0, .null), (8, .iload_n 3, 1, 0, 0, 0, .null), (9, .lushr, 1, 0, 0, 0, .null), (10, .l2i, 1, 0, 0, 0, .null), (11, .sipush 255, 3, 0, 0, 0, .int 255), (14, .iand, 1, 0, 0, 0, .null), (15, .istore 4, 2, 0, 0, 0, .null), (17, .iload 4, 2, 0, 0, 0, .null), (19, .bipush 10, 2, 0, 0, 0, .int 10), (21, .if_icmp .eq 15, 3, 36, 0, 0, .null), (24, .bipush 32, 2, 0, 0, 0, .int 32), (26, .iload 4, 2, 0, 0, 0, .null), (28, .bipush 126, 2, 0, 0, 0, .int 126), (30, .invokestatic 15, 3, 119, 3, 0, .retAddr 1), (33, .ifCond .eq 35, 3, 68, 0, 0, .null), (36, .aload_n 0, 1, 0, 0, 0, .null), (37, .getfield 19, 3, 8, 1, 147, .null), (40, .sipush 1000, 3, 0, 0, 0, .int 1000), (43, .if_icmp .ge 25, 3, 68, 0, 0, .null), (46, .aload_n 0, 1, 0, 0, 0, .null), (47, .getfield 9, 3, 8, 0, 145, .null), (50, .aload_n 0, 1, 0, 0, 0, .null), (51, .getfield 19, 3, 8, 1, 147, .null), (54, .iload 4, 2, 0, 0, 0, .null), (56, .i2c, 1, 0, 0, 0, .null), (57, .castore, 1, 0, 0, 0, .null), (58, .aload_n 0, 1, 0, 0, 0, .null), (59, .dup, 1, 0, 0, 0, .null), (60, .getfield 19, 3, 8, 1, 147, .null), (63, .iconst 1, 1, 0, 0, 0, .int 1), (64, .iadd, 1, 0, 0, 0, .null), (65, .putfield 19, 3, 8, 1, 147, .null), (68, .iinc 3 (-8), 3, 0, 0, 0, .null), (71, .goto (-68), 3, 3, 0, 0, .null), (74, .return_, 1, 0, 0, 0, .null)]
set_option maxRecDepth 100000 in
theorem oX8_put : fc_code mX8_put lX8_put = true := by decide +kernel
def lX8_clear : List fc_I := [(0, .aload_n 0, 1, 0, 0, 0, .null), (1, .iconst 0, 1, 0, 0, 0, .int 0), (2, .putfield 19, 3, 8, 1, 147, .null), (5, .return_, 1, 0, 0, 0, .null)]
set_option maxRecDepth 100000 in
theorem oX8_clear : fc_code mX8_clear lX8_clear = true := by decide +kernel
def lX8_open : List fc_I := [(0, .aload_n 0, 1, 0, 0, 0, .null), (1, .iconst 0, 1, 0, 0, 0, .int 0), (2, .putfield 23, 3, 8, 3, 149, .null), (5, .aload_n 0, 1, 0, 0, 0, .null), (6, .iconst 0, 1, 0, 0, 0, .int 0), (7, .putfield 26, 3, 8, 7, 161, .null), (10, .aload_n 0, 1, 0, 0, 0, .null), (11, .invokevirtual 29, 3, 60, 1, 533, .ref 8), (14, .return_, 1, 0, 0, 0, .null)]
set_option maxRecDepth 100000 in
theorem oX8_open : fc_code mX8_open lX8_open = true := by decide +kernel
def lX8_next : List fc_I := [(0, .aload_n 0, 1, 0, 0, 0, .null), (1, .getfield 23, 3, 8, 3, 149, .null), (4, .aload_n 0, 1, 0, 0, 0, .null), (5, .getfield 19, 3, 8, 1, 147, .null), (8, .if_icmp .ge 44, 3, 52, 0, 0, .null), (11, .aload_n 0, 1, 0, 0, 0, .null), (12, .getfield 9, 3, 8, 0, 145, .null), (15, .aload_n 0, 1, 0, 0, 0, .null), (16, .getfield 23, 3, 8, 3, 149, .null), (19, .caload, 1, 0, 0, 0, .null), (20, .bipush 10, 2, 0, 0, 0, .int 10), (22, .if_icmp .eq 17, 3, 39, 0, 0, .null), (25, .aload_n 0, 1, 0, 0, 0, .null), (26, .getfield 9, 3, 8, 0, 145, .null), (29, .aload_n 0, 1, 0, 0, 0, .null), (30, .getfield 23, 3, 8, 3, 149, .null), (33, .caload, 1, 0, 0, 0, .null), (34, .bipush 32, 2, 0, 0, 0, .int 32), (36, .if_icmp .ne 16, 3, 52, 0, 0, .null), (39, .aload_n 0, 1, 0, 0, 0, .null), (40, .dup, 1, 0, 0, 0, .null), (41, .getfield 23, 3, 8, 3, 149, .null), (44, .iconst 1, 1, 0, 0, 0, .int 1), (45, .iadd, 1, 0, 0, 0, .null), (46, .putfield 23, 3, 8, 3, 149, .null), (49, .goto (-49), 3, 0, 0, 0, .null), (52, .aload_n 0, 1, 0, 0, 0, .null), (53, .aload_n 0, 1, 0, 0, 0, .null), (54, .getfield 23, 3, 8, 3, 149, .null), (57, .putfield 32, 3, 8, 2, 148, .null), (60, .aload_n 0, 1, 0, 0, 0, .null), (61, .getfield 32, 3, 8, 2, 148, .null), (64, .aload_n 0, 1, 0, 0, 0, .null), (65, .getfield 19, 3, 8, 1, 147, .null), (68, .if_icmp .lt 11, 3, 79, 0, 0, .null), (71, .aload_n 0, 1, 0, 0, 0, .null), (72, .iconst 1, 1, 0, 0, 0, .int 1), (73, .putfield 35, 3, 8, 4, 153, .null), (76, .goto 99, 3, 175, 0, 0, .null), (79, .bipush 97, 2, 0, 0, 0, .int 97), (81, .aload_n 0, 1, 0, 0, 0, .null), (82, .getfield 9, 3, 8, 0, 145, .null), (85, .aload_n 0, 1, 0, 0, 0, .null), (86, .getfield 32, 3, 8, 2, 148, .null), (89, .caload, 1, 0, 0, 0, .null), (90, .bipush 122, 2, 0, 0, 0, .int 122), (92, .invokestatic 15, 3, 119, 3, 0, .retAddr 1), (95, .ifCond .eq 10, 3, 105, 0, 0, .null), (98, .aload_n 0, 1, 0, 0, 0, .null), (99, .invokevirtual 38, 3, 61, 1, 537, .ref 8), (102, .goto 73, 3, 175, 0, 0, .null), (105, .bipush 48, 2, 0, 0, 0, .int 48), (107, .aload_n 0, 1, 0, 0, 0, .null), (108, .getfield 9, 3, 8, 0, 145, .null), (111, .aload_n 0, 1, 0, 0, 0, .null), (112, .getfield 32, 3, 8, 2, 148, .null), (115, .caload, 1, 0, 0, 0, .null), (116, .bipush 57, 2, 0, 0, 0, .int 57), (118, .invokestatic 15, 3, 119, 3, 0, .retAddr 1), (121, .ifCond .eq 10, 3, 131, 0, 0, .null), (124, .aload_n 0, 1, 0, 0, 0, .null), (125, .invokevirtual 41, 3, 62, 1, 595, .ref 8), (128, .goto 47, 3, 175, 0, 0, .null), (131, .aload_n 0, 1, 0, 0, 0, .null), (132, .ldc 44, 2, 0, 0, 0, .float 1), (134, .aload_n 0, 1, 0, 0, 0, .null), (135, .getfield 9, 3, 8, 0, 145, .null), (138, .aload_n 0, 1, 0, 0, 0, .null), (139, .getfield 32, 3, 8, 2, 148, .null), (142, .caload, 1, 0, 0, 0, .null), (143, .invokevirtual 46, 3, 270, 2, 600, .null), (146, .ifCond .lt 15, 3, 161, 0, 0, .null), (149, .aload_n 0, 1, 0, 0, 0, .null), (150, .getfield 9, 3, 8, 0, 145, .null), (153, .aload_n 0, 1, 0, 0, 0, .null), (154, .getfield 32, 3, 8, 2, 148, .null), (157, .caload, 1, 0, 0, 0, .null), (158, .goto 4, 3, 162, 0, 0, .null), (161, .iconst 2, 1, 0, 0, 0, .int 2), (162, .putfield 35, 3, 8, 4, 153, .null), (165, .aload_n 0, 1, 0, 0, 0, .null), (166, .dup, 1, 0, 0, 0, .null), (167, .getfield 23, 3, 8, 3, 149, .null), (170, .iconst 1, 1, 0, 0, 0, .int 1), (171, .iadd, 1, 0, 0, 0, .null), (172, .putfield 23, 3, 8, 3, 149, .null), (175, .return_, 1, 0, 0, 0, .null)]
set_option maxRecDepth 100000 in
theorem oX8_next : fc_code mX8_next lX8_next = true := by decide +kernel
def lX8_readWord : List fc_I := [(0, .aload_n 0, 1, 0, 0, 0, .null), (1, .lconst 0, 1, 0, 0, 0, .long 0), (2, .putfield 52, 3, 8, 6, 158, .null), (5, .aload_n 0, 1, 0, 0, 0, .null), (6, .getfield 23, 3, 8, 3, 149, .null), (9, .aload_n 0, 1, 0, 0, 0, .null), (10, .getfield 19, 3, 8, 1, 147, .null), (13, .if_icmp .ge 63, 3, 76, 0, 0, .null), (16, .bipush 97, 2, 0, 0, 0, .int 97), (18, .aload_n 0, 1, 0, 0, 0, .null), (19, .getfield 9, 3, 8, 0, 145, .null), (22, .aload_n 0, 1, 0, 0, 0, .null), (23, .getfield 23, 3, 8, 3, 149, .null), (26, .caload, 1, 0, 0, 0, .null), (27, .bipush 122, 2, 0, 0, 0, .int 122), (29, .invokestatic 15, 3, 119, 3, 0, .retAddr 1), (32, .ifCond .eq 44, 3, 76, 0, 0, .null), (35, .aload_n 0, 1, 0, 0, 0, .null), (36, .aload_n 0, 1, 0, 0, 0, .null), (37, .getfield 52, 3, 8, 6, 158, .null), (40, .ldc2_w 56, 3, 0, 0, 541, .long 32), (43, .lmul, 1, 0, 0, 0, .null), (44, .aload_n 0, 1, 0, 0, 0, .null), (45, .getfield 9, 3, 8, 0, 145, .null), (48, .aload_n 0, 1, 0, 0, 0, .null), (49, .getfield 23, 3, 8, 3, 149, .null), (52, .caload, 1, 0, 0, 0, .null), (53, .bipush 97, 2, 0, 0, 0, .int 97), (55, .isub, 1, 0, 0, 0, .null), (56, .iconst 1, 1, 0, 0, 0, .int 1), (57, .iadd, 1, 0, 0, 0, .null), (58, .i2l, 1, 0, 0, 0, .null), (59, .ladd, 1, 0, 0, 0, .null), (60, .putfield 52, 3, 8, 6, 158, .null), (63, .aload_n 0, 1, 0, 0, 0, .null), (64, .dup, 1, 0, 0, 0, .null), (65, .getfield 23, 3, 8, 3, 149, .null), (68, .iconst 1, 1, 0, 0, 0, .int 1), (69, .iadd, 1, 0, 0, 0, .null), (70, .putfield 23, 3, 8, 3, 149, .null), (73, .goto (-68), 3, 5, 0, 0, .null), (76, .aload_n 0, 1, 0, 0, 0, .null), (77, .getfield 23, 3, 8, 3, 149, .null), (80, .aload_n 0, 1, 0, 0, 0, .null), (81, .getfield 32, 3, 8, 2, 148, .null), (84, .isub, 1, 0, 0, 0, .null), (85, .bipush 8, 2, 0, 0, 0, .int 8), (87, .if_icmp .le 9, 3, 96, 0, 0, .null), (90, .aload_n 0, 1, 0, 0, 0, .null), (91, .iconst 2, 1, 0, 0, 0, .int 2), (92, .putfield 35, 3, 8, 4, 153, .null), (95, .return_, 1, 0, 0, 0, .null), (96, .aload_n 0, 1, 0, 0, 0, .null), (97, .ldc 58, 2, 0, 0, 0, .float 0), (99, .invokevirtual 60, 3, 63, 2, 543, .ref 8), (102, .istore_n 1, 1, 0, 0, 0, .null), (103, .aload_n 0, 1, 0, 0, 0, .null), (104, .iload_n 1, 1, 0, 0, 0, .null), (105, .iconst (-1), 1, 0, 0, 0, .int (-1)), (106, .if_icmp .ne 7, 3, 113, 0, 0, .null), (109, .iconst 4, 1, 0, 0, 0, .int 4), (110, .goto 8, 3, 118, 0, 0, .null), (113, .sipush 128, 3, 0, 0, 0, .int 128), (116, .iload_n 1, 1, 0, 0, 0, .null), (117, .iadd, 1, 0, 0, 0, .null), (118, .putfield 35, 3, 8, 4, 153, .null), (121, .return_, 1, 0, 0, 0, .null)]
set_option maxRecDepth 100000 in
theorem oX8_readWord : fc_code mX8_readWord lX8_readWord = true := by decide +kernel
def lX8_readNumber : List fc_I := [(0, .aload_n 0, 1, 0, 0, 0, .null), (1, .iconst 0, 1, 0, 0, 0, .int 0), (2, .putfield 64, 3, 8, 5, 156, .null), (5, .aload_n 0, 1, 0, 0, 0, .null), (6, .getfield 23, 3, 8, 3, 149, .null), (9, .aload_n 0, 1, 0, 0, 0, .null), (10, .getfield 19, 3, 8, 1, 147, .null), (13, .if_icmp .ge 59, 3, 72, 0, 0, .null), (16, .bipush 48, 2, 0, 0, 0, .int 48), (18, .aload_n 0, 1, 0, 0, 0, .null), (19, .getfield 9, 3, 8, 0, 145, .null), (22, .aload_n 0, 1, 0, 0, 0, .null), (23, .getfield 23, 3, 8, 3, 149, .null), (26, .caload, 1, 0, 0, 0, .null), (27, .bipush 57, 2, 0, 0, 0, .int 57), (29, .invokestatic 15, 3, 119, 3, 0, .retAddr 1), (32, .ifCond .eq 40, 3, 72, 0, 0, .null), (35, .aload_n 0, 1, 0, 0, 0, .null), (36, .aload_n 0, 1, 0, 0, 0, .null), (37, .getfield 64, 3, 8, 5, 156, .null), (40, .bipush 10, 2, 0, 0, 0, .int 10), (42, .imul, 1, 0, 0, 0, .null), (43, .aload_n 0, 1, 0, 0, 0, .null), (44, .getfield 9, 3, 8, 0, 145, .null), (47, .aload_n 0, 1, 0, 0, 0, .null), (48, .getfield 23, 3, 8, 3, 149, .null), (51, .caload, 1, 0, 0, 0, .null), (52, .bipush 48, 2, 0, 0, 0, .int 48), (54, .isub, 1, 0, 0, 0, .null), (55, .iadd, 1, 0, 0, 0, .null), (56, .putfield 64, 3, 8, 5, 156, .null), (59, .aload_n 0, 1, 0, 0, 0, .null), (60, .dup, 1, 0, 0, 0, .null), (61, .getfield 23, 3, 8, 3, 149, .null), (64, .iconst 1, 1, 0, 0, 0, .int 1), (65, .iadd, 1, 0, 0, 0, .null), (66, .putfield 23, 3, 8, 3, 149, .null), (69, .goto (-64), 3, 5, 0, 0, .null), (72, .aload_n 0, 1, 0, 0, 0, .null), (73, .aload_n 0, 1, 0, 0, 0, .null), (74, .getfield 23, 3, 8, 3, 149, .null), (77, .aload_n 0, 1, 0, 0, 0, .null), (78, .getfield 32, 3, 8, 2, 148, .null), (81, .isub, 1, 0, 0, 0, .null), (82, .iconst 4, 1, 0, 0, 0, .int 4), (83, .if_icmp .le 7, 3, 90, 0, 0, .null), (86, .iconst 2, 1, 0, 0, 0, .int 2), (87, .goto 4, 3, 91, 0, 0, .null), (90, .iconst 3, 1, 0, 0, 0, .int 3), (91, .putfield 35, 3, 8, 4, 153, .null), (94, .return_, 1, 0, 0, 0, .null)]
set_option maxRecDepth 100000 in
theorem oX8_readNumber : fc_code mX8_readNumber lX8_readNumber = true := by decide +kernel
def lX8_cellIn : List fc_I := [(0, .iconst 0, 1, 0, 0, 0, .int 0), (1, .istore_n 2, 1, 0, 0, 0, .null), (2, .iload_n 2, 1, 0, 0, 0, .null), (3, .iconst 1, 1, 0, 0, 0, .int 1), (4, .iadd, 1, 0, 0, 0, .null), (5, .bipush 8, 2, 0, 0, 0, .int 8), (7, .imul, 1, 0, 0, 0, .null), (8, .aload_n 1, 1, 0, 0, 0, .null), (9, .invokevirtual 67, 3, 268, 1, 547, .null), (12, .if_icmp .gt 95, 3, 107, 0, 0, .null), (15, .iconst 0, 1, 0, 0, 0, .int 0), (16, .istore_n 3, 1, 0, 0, 0, .null), (17, .iconst 0, 1, 0, 0, 0, .int 0), (18, .istore 4, 2, 0, 0, 0, .null), (20, .iload 4, 2, 0, 0, 0, .null), (22, .bipush 8, 2, 0, 0, 0, .int 8), (24, .if_icmp .ge 69, 3, 93, 0, 0, .null), (27, .aload_n 0, 1, 0, 0, 0, .null), (28, .getfield 32, 3, 8, 2, 148, .null), (31, .iload 4, 2, 0, 0, 0, .null), (33, .iadd, 1, 0, 0, 0, .null), (34, .istore 5, 2, 0, 0, 0, .null), (36, .iload 5, 2, 0, 0, 0, .null), (38, .aload_n 0, 1, 0, 0, 0, .null), (39, .getfield 23, 3, 8, 3, 149, .null), (42, .if_icmp .ge 22, 3, 64, 0, 0, .null), (45, .iload 5, 2, 0, 0, 0, .null), (47, .aload_n 0, 1, 0, 0, 0, .null), (48, .getfield 19, 3, 8, 1, 147, .null), (51, .if_icmp .ge 13, 3, 64, 0, 0, .null), (54, .aload_n 0, 1, 0, 0, 0, .null), (55, .getfield 9, 3, 8, 0, 145, .null), (58, .iload 5, 2, 0, 0, 0, .null), (60, .caload, 1, 0, 0, 0, .null), (61, .goto 5, 3, 66, 0, 0, .null), (64, .bipush 32, 2, 0, 0, 0, .int 32), (66, .istore 6, 2, 0, 0, 0, .null), (68, .aload_n 1, 1, 0, 0, 0, .null), (69, .iload_n 2, 1, 0, 0, 0, .null), (70, .bipush 8, 2, 0, 0, 0, .int 8), (72, .imul, 1, 0, 0, 0, .null), (73, .iload 4, 2, 0, 0, 0, .null), (75, .iadd, 1, 0, 0, 0, .null), (76, .invokevirtual 70, 3, 269, 2, 557, .null), (79, .iload 6, 2, 0, 0, 0, .null), (81, .if_icmp .ne 6, 3, 87, 0, 0, .null), (84, .iinc 3 1, 3, 0, 0, 0, .null), (87, .iinc 4 1, 3, 0, 0, 0, .null), (90, .goto (-70), 3, 20, 0, 0, .null), (93, .iload_n 3, 1, 0, 0, 0, .null), (94, .bipush 8, 2, 0, 0, 0, .int 8), (96, .if_icmp .ne 5, 3, 101, 0, 0, .null), (99, .iload_n 2, 1, 0, 0, 0, .null), (100, .ireturn, 1, 0, 0, 0, .null), (101, .iinc 2 1, 3, 0, 0, 0, .null), (104, .goto (-102), 3, 2, 0, 0, .null), (107, .iconst (-1), 1, 0, 0, 0, .int (-1)), (108, .ireturn, 1, 0, 0, 0, .null)]
set_option maxRecDepth 100000 in
theorem oX8_cellIn : fc_code mX8_cellIn lX8_cellIn = true := by decide +kernel
def lX8_fail : List fc_I := [(0, .aload_n 0, 1, 0, 0, 0, .null), (1, .iload_n 1, 1, 0, 0, 0, .null), (2, .bipush 16, 2, 0, 0, 0, .int 16), (4, .aload_n 0, 1, 0, 0, 0, .null), (5, .getfield 32, 3, 8, 2, 148, .null), (8, .imul, 1, 0, 0, 0, .null), (9, .iadd, 1, 0, 0, 0, .null), (10, .putfield 26, 3, 8, 7, 161, .null), (13, .iconst 0, 1, 0, 0, 0, .int 0), (14, .ireturn, 1, 0, 0, 0, .null)]
set_option maxRecDepth 100000 in
theorem oX8_fail : fc_code mX8_fail lX8_fail = true := by decide +kernel
def lX8_take : List fc_I := [(0, .aload_n 0, 1, 0, 0, 0, .null), (1, .getfield 35, 3, 8, 4, 153, .null), (4, .iload_n 1, 1, 0, 0, 0, .null), (5, .if_icmp .eq 9, 3, 14, 0, 0, .null), (8, .aload_n 0, 1, 0, 0, 0, .null), (9, .iconst 1, 1, 0, 0, 0, .int 1), (10, .invokevirtual 74, 3, 64, 2, 686, .ref 8), (13, .ireturn, 1, 0, 0, 0, .null), (14, .aload_n 0, 1, 0, 0, 0, .null), (15, .invokevirtual 29, 3, 60, 1, 533, .ref 8), (18, .iconst 1, 1, 0, 0, 0, .int 1), (19, .ireturn, 1, 0, 0, 0, .null)]
set_option maxRecDepth 100000 in
theorem oX8_take : fc_code mX8_take lX8_take = true := by decide +kernel
def lX8_isNumber : List fc_I := [(0, .aload_n 0, 1, 0, 0, 0, .null), (1, .getfield 35, 3, 8, 4, 153, .null), (4, .iconst 3, 1, 0, 0, 0, .int 3), (5, .if_icmp .eq 9, 3, 14, 0, 0, .null), (8, .aload_n 0, 1, 0, 0, 0, .null), (9, .iconst 1, 1, 0, 0, 0, .int 1), (10, .invokevirtual 74, 3, 64, 2, 686, .ref 8), (13, .ireturn, 1, 0, 0, 0, .null), (14, .iload_n 1, 1, 0, 0, 0, .null), (15, .aload_n 0, 1, 0, 0, 0, .null), (16, .getfield 64, 3, 8, 5, 156, .null), (19, .iload_n 2, 1, 0, 0, 0, .null), (20, .invokestatic 15, 3, 119, 3, 0, .retAddr 1), (23, .ifCond .ne 11, 3, 34, 0, 0, .null), (26, .aload_n 0, 1, 0, 0, 0, .null), (27, .iconst 4, 1, 0, 0, 0, .int 4), (28, .invokevirtual 74, 3, 64, 2, 686, .ref 8), (31, .ifCond .eq 7, 3, 38, 0, 0, .null), (34, .iconst 1, 1, 0, 0, 0, .int 1), (35, .goto 4, 3, 39, 0, 0, .null), (38, .iconst 0, 1, 0, 0, 0, .int 0), (39, .ireturn, 1, 0, 0, 0, .null)]
set_option maxRecDepth 100000 in
theorem oX8_isNumber : fc_code mX8_isNumber lX8_isNumber = true := by decide +kernel
def lX8_known : List fc_I := [(0, .aload_n 0, 1, 0, 0, 0, .null), (1, .getfield 35, 3, 8, 4, 153, .null), (4, .iconst 4, 1, 0, 0, 0, .int 4), (5, .if_icmp .eq 11, 3, 16, 0, 0, .null), (8, .aload_n 0, 1, 0, 0, 0, .null), (9, .iconst 1, 1, 0, 0, 0, .int 1), (10, .invokevirtual 74, 3, 64, 2, 686, .ref 8), (13, .pop, 1, 0, 0, 0, .null), (14, .iconst (-1), 1, 0, 0, 0, .int (-1)), (15, .ireturn, 1, 0, 0, 0, .null), (16, .aload_n 1, 1, 0, 0, 0, .null), (17, .iload_n 2, 1, 0, 0, 0, .null), (18, .aload_n 0, 1, 0, 0, 0, .null), (19, .getfield 52, 3, 8, 6, 158, .null), (22, .invokestatic 78, 3, 1, 3, 687, .retAddr 0), (25, .istore_n 3, 1, 0, 0, 0, .null), (26, .iload_n 3, 1, 0, 0, 0, .null), (27, .iconst (-1), 1, 0, 0, 0, .int (-1)), (28, .if_icmp .ne 9, 3, 37, 0, 0, .null), (31, .aload_n 0, 1, 0, 0, 0, .null), (32, .iconst 2, 1, 0, 0, 0, .int 2), (33, .invokevirtual 74, 3, 64, 2, 686, .ref 8), (36, .pop, 1, 0, 0, 0, .null), (37, .iload_n 3, 1, 0, 0, 0, .null), (38, .ireturn, 1, 0, 0, 0, .null)]
set_option maxRecDepth 100000 in
theorem oX8_known : fc_code mX8_known lX8_known = true := by decide +kernel
end
section
/-! ===== code of the methods, with what it links to ===== -/
def lX1_read : List fc_I := [(0, .aload_n 2, 1, 0, 0, 0, .null), (1, .invokevirtual 18, 3, 0, 1, 522, .ref 0), (4, .aload_n 0, 1, 0, 0, 0, .null), (5, .iconst 0, 1, 0, 0, 0, .int 0), (6, .putfield 23, 3, 1, 1, 207, .null), (9, .aload_n 0, 1, 0, 0, 0, .null), (10, .iconst 0, 1, 0, 0, 0, .int 0), (11, .putfield 27, 3, 1, 2, 208, .null), (14, .aload_n 1, 1, 0, 0, 0, .null), (15, .invokevirtual 30, 3, 59, 1, 529, .ref 8), (18, .iconst 0, 1, 0, 0, 0, .int 0), (19, .istore_n 3, 1, 0, 0, 0, .null), (20, .iload_n 3, 1, 0, 0, 0, .null), (21, .sipush 1000, 3, 0, 0, 0, .int 1000), (24, .if_icmp .ge 169, 3, 193, 0, 0, .null), (27, .aload_n 1, 1, 0, 0, 0, .null), (28, .getfield 35, 3, 8, 4, 151, .null), (31, .iconst 1, 1, 0, 0, 0, .int 1), (32, .if_icmp .eq 161, 3, 193, 0, 0, .null), (35, .iconst 0, 1, 0, 0, 0, .int 0), (36, .istore 4, 2, 0, 0, 0, .null), (38, .aload_n 1, 1, 0, 0, 0, .null), (39, .getfield 35, 3, 8, 4, 151, .null), (42, .tableswitch 120 128 137 #[54, 65, 76, 120, 120, 87, 120, 120, 98, 109], 54, 0, 0, 0, .null), (96, .aload_n 0, 1, 0, 0, 0, .null), (97, .aload_n 1, 1, 0, 0, 0, .null), (98, .aload_n 2, 1, 0, 0, 0, .null), (99, .invokevirtual 39, 3, 11, 3, 659, .ref 1), (102, .istore 4, 2, 0, 0, 0, .null), (104, .goto 64, 3, 168, 0, 0, .null), (107, .aload_n 0, 1, 0, 0, 0, .null), (108, .aload_n 1, 1, 0, 0, 0, .null), (109, .aload_n 2, 1, 0, 0, 0, .null), (110, .invokevirtual 43, 3, 12, 3, 678, .ref 1), (113, .istore 4, 2, 0, 0, 0, .null), (115, .goto 53, 3, 168, 0, 0, .null), (118, .aload_n 0, 1, 0, 0, 0, .null), (119, .aload_n 1, 1, 0, 0, 0, .null), (120, .aload_n 2, 1, 0, 0, 0, .null), (121, .invokevirtual 46, 3, 13, 3, 691, .ref 1), (124, .istore 4, 2, 0, 0, 0, .null), (126, .goto 42, 3, 168, 0, 0, .null), (129, .aload_n 0, 1, 0, 0, 0, .null), (130, .aload_n 1, 1, 0, 0, 0, .null), (131, .aload_n 2, 1, 0, 0, 0, .null), (132, .invokevirtual 49, 3, 14, 3, 704, .ref 1), (135, .istore 4, 2, 0, 0, 0, .null), (137, .goto 31, 3, 168, 0, 0, .null), (140, .aload_n 0, 1, 0, 0, 0, .null), (141, .aload_n 1, 1, 0, 0, 0, .null), (142, .aload_n 2, 1, 0, 0, 0, .null), (143, .invokevirtual 52, 3, 15, 3, 708, .ref 1), (146, .istore 4, 2, 0, 0, 0, .null), (148, .goto 20, 3, 168, 0, 0, .null), (151, .aload_n 0, 1, 0, 0, 0, .null), (152, .aload_n 1, 1, 0, 0, 0, .null), (153, .aload_n 2, 1, 0, 0, 0, .null), (154, .invokevirtual 55, 3, 16, 3, 712, .ref 1), (157, .istore 4, 2, 0, 0, 0, .null), (159, .goto 9, 3, 168, 0, 0, .null), (162, .aload_n 1, 1, 0, 0, 0, .null), (163, .iconst 1, 1, 0, 0, 0, .int 1), (164, .invokevirtual 58, 3, 64, 2, 663, .ref 8), (167, .pop, 1, 0, 0, 0, .null), (168, .iload 4, 2, 0, 0, 0, .null), (170, .ifCond .eq 12, 3, 182, 0, 0, .null), (173, .aload_n 1, 1, 0, 0, 0, .null), (174, .bipush 59, 2, 0, 0, 0, .int 59), (176, .invokevirtual 62, 3, 65, 2, 696, .ref 8), (179, .ifCond .ne 8, 3, 187, 0, 0, .null), (182, .aload_n 1, 1, 0, 0, 0, .null), (183, .getfield 65, 3, 8, 7, 160, .null), (186, .ireturn, 1, 0, 0, 0, .null), (187, .iinc 3 1, 3, 0, 0, 0, .null), (190, .goto (-170), 3, 20, 0, 0, .null), (193, .iconst 0, 1, 0, 0, 0, .int 0), (194, .ireturn, 1, 0, 0, 0, .null)]
set_option maxRecDepth 100000 in
theorem oX1_read : fc_code mX1_read lX1_read = true := by decide +kernel
def lX1_isNewName : List fc_I := [(0, .aload_n 0, 1, 0, 0, 0, .null), (1, .getfield 35, 3, 8, 4, 151, .null), (4, .iconst 4, 1, 0, 0, 0, .int 4), (5, .if_icmp .eq 9, 3, 14, 0, 0, .null), (8, .aload_n 0, 1, 0, 0, 0, .null), (9, .iconst 1, 1, 0, 0, 0, .int 1), (10, .invokevirtual 58, 3, 64, 2, 663, .ref 8), (13, .ireturn, 1, 0, 0, 0, .null), (14, .aload_n 1, 1, 0, 0, 0, .null), (15, .aload_n 0, 1, 0, 0, 0, .null), (16, .getfield 68, 3, 8, 6, 157, .null), (19, .invokevirtual 72, 3, 2, 2, 671, .ref 0), (22, .ifCond .eq 11, 3, 33, 0, 0, .null), (25, .aload_n 0, 1, 0, 0, 0, .null), (26, .iconst 3, 1, 0, 0, 0, .int 3), (27, .invokevirtual 58, 3, 64, 2, 663, .ref 8), (30, .ifCond .eq 7, 3, 37, 0, 0, .null), (33, .iconst 1, 1, 0, 0, 0, .int 1), (34, .goto 4, 3, 38, 0, 0, .null), (37, .iconst 0, 1, 0, 0, 0, .int 0), (38, .ireturn, 1, 0, 0, 0, .null)]
set_option maxRecDepth 100000 in
theorem oX1_isNewName : fc_code mX1_isNewName lX1_isNewName = true := by decide +kernel
def lX1_readPlace : List fc_I := [(0, .aload_n 2, 1, 0, 0, 0, .null), (1, .getfield 76, 3, 0, 10, 394, .null), (4, .bipush 7, 2, 0, 0, 0, .int 7), (6, .if_icmp .lt 9, 3, 15, 0, 0, .null), (9, .aload_n 1, 1, 0, 0, 0, .null), (10, .iconst 5, 1, 0, 0, 0, .int 5), (11, .invokevirtual 58, 3, 64, 2, 663, .ref 8), (14, .ireturn, 1, 0, 0, 0, .null), (15, .aload_n 1, 1, 0, 0, 0, .null), (16, .invokevirtual 79, 3, 60, 1, 667, .ref 8), (19, .aload_n 1, 1, 0, 0, 0, .null), (20, .aload_n 2, 1, 0, 0, 0, .null), (21, .invokestatic 82, 3, 10, 2, 668, .retAddr 0), (24, .ifCond .ne 5, 3, 29, 0, 0, .null), (27, .iconst 0, 1, 0, 0, 0, .int 0), (28, .ireturn, 1, 0, 0, 0, .null), (29, .aload_n 2, 1, 0, 0, 0, .null), (30, .getfield 85, 3, 0, 0, 358, .null), (33, .aload_n 2, 1, 0, 0, 0, .null), (34, .getfield 76, 3, 0, 10, 394, .null), (37, .aload_n 1, 1, 0, 0, 0, .null), (38, .getfield 68, 3, 8, 6, 157, .null), (41, .lastore, 1, 0, 0, 0, .null), (42, .aload_n 2, 1, 0, 0, 0, .null), (43, .dup, 1, 0, 0, 0, .null), (44, .getfield 76, 3, 0, 10, 394, .null), (47, .iconst 1, 1, 0, 0, 0, .int 1), (48, .iadd, 1, 0, 0, 0, .null), (49, .putfield 76, 3, 0, 10, 394, .null), (52, .aload_n 1, 1, 0, 0, 0, .null), (53, .invokevirtual 79, 3, 60, 1, 667, .ref 8), (56, .iconst 1, 1, 0, 0, 0, .int 1), (57, .ireturn, 1, 0, 0, 0, .null)]
set_option maxRecDepth 100000 in
theorem oX1_readPlace : fc_code mX1_readPlace lX1_readPlace = true := by decide +kernel
def lX1_readPath : List fc_I := [(0, .aload_n 2, 1, 0, 0, 0, .null), (1, .getfield 89, 3, 0, 11, 399, .null), (4, .bipush 10, 2, 0, 0, 0, .int 10), (6, .if_icmp .lt 9, 3, 15, 0, 0, .null), (9, .aload_n 1, 1, 0, 0, 0, .null), (10, .iconst 5, 1, 0, 0, 0, .int 5), (11, .invokevirtual 58, 3, 64, 2, 663, .ref 8), (14, .ireturn, 1, 0, 0, 0, .null), (15, .aload_n 1, 1, 0, 0, 0, .null), (16, .invokevirtual 79, 3, 60, 1, 667, .ref 8), (19, .aload_n 1, 1, 0, 0, 0, .null), (20, .aload_n 2, 1, 0, 0, 0, .null), (21, .getfield 85, 3, 0, 0, 358, .null), (24, .aload_n 2, 1, 0, 0, 0, .null), (25, .getfield 76, 3, 0, 10, 394, .null), (28, .invokevirtual 92, 3, 67, 3, 682, .ref 8), (31, .istore_n 3, 1, 0, 0, 0, .null), (32, .iload_n 3, 1, 0, 0, 0, .null), (33, .iconst (-1), 1, 0, 0, 0, .int (-1)), (34, .if_icmp .ne 5, 3, 39, 0, 0, .null), (37, .iconst 0, 1, 0, 0, 0, .int 0), (38, .ireturn, 1, 0, 0, 0, .null), (39, .aload_n 1, 1, 0, 0, 0, .null), (40, .invokevirtual 79, 3, 60, 1, 667, .ref 8), (43, .aload_n 1, 1, 0, 0, 0, .null), (44, .aload_n 2, 1, 0, 0, 0, .null), (45, .getfield 85, 3, 0, 0, 358, .null), (48, .aload_n 2, 1, 0, 0, 0, .null), (49, .getfield 76, 3, 0, 10, 394, .null), (52, .invokevirtual 92, 3, 67, 3, 682, .ref 8), (55, .istore 4, 2, 0, 0, 0, .null), (57, .iload 4, 2, 0, 0, 0, .null), (59, .iconst (-1), 1, 0, 0, 0, .int (-1)), (60, .if_icmp .ne 5, 3, 65, 0, 0, .null), (63, .iconst 0, 1, 0, 0, 0, .int 0), (64, .ireturn, 1, 0, 0, 0, .null), (65, .iload_n 3, 1, 0, 0, 0, .null), (66, .iload 4, 2, 0, 0, 0, .null), (68, .if_icmp .eq 17, 3, 85, 0, 0, .null), (71, .aload_n 2, 1, 0, 0, 0, .null), (72, .getfield 96, 3, 0, 3, 369, .null), (75, .iload_n 3, 1, 0, 0, 0, .null), (76, .iaload, 1, 0, 0, 0, .null), (77, .iload 4, 2, 0, 0, 0, .null), (79, .invokestatic 100, 3, 120, 2, 0, .retAddr 1), (82, .ifCond .eq 9, 3, 91, 0, 0, .null), (85, .aload_n 1, 1, 0, 0, 0, .null), (86, .iconst 3, 1, 0, 0, 0, .int 3), (87, .invokevirtual 58, 3, 64, 2, 663, .ref 8), (90, .ireturn, 1, 0, 0, 0, .null), (91, .aload_n 2, 1, 0, 0, 0, .null), (92, .getfield 96, 3, 0, 3, 369, .null), (95, .iload_n 3, 1, 0, 0, 0, .null), (96, .dup2, 1, 0, 0, 0, .null), (97, .iaload, 1, 0, 0, 0, .null), (98, .iconst 1, 1, 0, 0, 0, .int 1), (99, .iload 4, 2, 0, 0, 0, .null), (101, .ishl, 1, 0, 0, 0, .null), (102, .ior, 1, 0, 0, 0, .null), (103, .iastore, 1, 0, 0, 0, .null), (104, .aload_n 2, 1, 0, 0, 0, .null), (105, .getfield 96, 3, 0, 3, 369, .null), (108, .iload 4, 2, 0, 0, 0, .null), (110, .dup2, 1, 0, 0, 0, .null), (111, .iaload, 1, 0, 0, 0, .null), (112, .iconst 1, 1, 0, 0, 0, .int 1), (113, .iload_n 3, 1, 0, 0, 0, .null), (114, .ishl, 1, 0, 0, 0, .null), (115, .ior, 1, 0, 0, 0, .null), (116, .iastore, 1, 0, 0, 0, .null), (117, .aload_n 2, 1, 0, 0, 0, .null), (118, .dup, 1, 0, 0, 0, .null), (119, .getfield 89, 3, 0, 11, 399, .null), (122, .iconst 1, 1, 0, 0, 0, .int 1), (123, .iadd, 1, 0, 0, 0, .null), (124, .putfield 89, 3, 0, 11, 399, .null), (127, .aload_n 1, 1, 0, 0, 0, .null), (128, .invokevirtual 79, 3, 60, 1, 667, .ref 8), (131, .iconst 1, 1, 0, 0, 0, .int 1), (132, .ireturn, 1, 0, 0, 0, .null)]
set_option maxRecDepth 100000 in
theorem oX1_readPath : fc_code mX1_readPath lX1_readPath = true := by decide +kernel
def lX1_readPerson : List fc_I := [(0, .aload_n 2, 1, 0, 0, 0, .null), (1, .getfield 104, 3, 0, 12, 404, .null), (4, .istore_n 3, 1, 0, 0, 0, .null), (5, .iload_n 3, 1, 0, 0, 0, .null), (6, .iconst 5, 1, 0, 0, 0, .int 5), (7, .if_icmp .lt 9, 3, 16, 0, 0, .null), (10, .aload_n 1, 1, 0, 0, 0, .null), (11, .iconst 5, 1, 0, 0, 0, .int 5), (12, .invokevirtual 58, 3, 64, 2, 663, .ref 8), (15, .ireturn, 1, 0, 0, 0, .null), (16, .aload_n 1, 1, 0, 0, 0, .null), (17, .invokevirtual 79, 3, 60, 1, 667, .ref 8), (20, .aload_n 1, 1, 0, 0, 0, .null), (21, .aload_n 2, 1, 0, 0, 0, .null), (22, .invokestatic 82, 3, 10, 2, 668, .retAddr 0), (25, .ifCond .ne 5, 3, 30, 0, 0, .null), (28, .iconst 0, 1, 0, 0, 0, .int 0), (29, .ireturn, 1, 0, 0, 0, .null), (30, .aload_n 2, 1, 0, 0, 0, .null), (31, .getfield 107, 3, 0, 1, 362, .null), (34, .iload_n 3, 1, 0, 0, 0, .null), (35, .aload_n 1, 1, 0, 0, 0, .null), (36, .getfield 68, 3, 8, 6, 157, .null), (39, .lastore, 1, 0, 0, 0, .null), (40, .aload_n 1, 1, 0, 0, 0, .null), (41, .invokevirtual 79, 3, 60, 1, 667, .ref 8), (44, .sipush 142, 3, 0, 0, 0, .int 142), (47, .aload_n 1, 1, 0, 0, 0, .null), (48, .getfield 35, 3, 8, 4, 151, .null), (51, .sipush 145, 3, 0, 0, 0, .int 145), (54, .invokestatic 110, 3, 119, 3, 0, .retAddr 1), (57, .ifCond .ne 9, 3, 66, 0, 0, .null), (60, .aload_n 1, 1, 0, 0, 0, .null), (61, .iconst 1, 1, 0, 0, 0, .int 1), (62, .invokevirtual 58, 3, 64, 2, 663, .ref 8), (65, .ireturn, 1, 0, 0, 0, .null), (66, .aload_n 2, 1, 0, 0, 0, .null), (67, .getfield 114, 3, 0, 4, 373, .null), (70, .iload_n 3, 1, 0, 0, 0, .null), (71, .aload_n 1, 1, 0, 0, 0, .null), (72, .getfield 35, 3, 8, 4, 151, .null), (75, .sipush 142, 3, 0, 0, 0, .int 142), (78, .isub, 1, 0, 0, 0, .null), (79, .iastore, 1, 0, 0, 0, .null), (80, .aload_n 1, 1, 0, 0, 0, .null), (81, .invokevirtual 79, 3, 60, 1, 667, .ref 8), (84, .aload_n 1, 1, 0, 0, 0, .null), (85, .sipush 131, 3, 0, 0, 0, .int 131), (88, .invokevirtual 62, 3, 65, 2, 696, .ref 8), (91, .ifCond .ne 5, 3, 96, 0, 0, .null), (94, .iconst 0, 1, 0, 0, 0, .int 0), (95, .ireturn, 1, 0, 0, 0, .null), (96, .aload_n 1, 1, 0, 0, 0, .null), (97, .aload_n 2, 1, 0, 0, 0, .null), (98, .getfield 85, 3, 0, 0, 358, .null), (101, .aload_n 2, 1, 0, 0, 0, .null), (102, .getfield 76, 3, 0, 10, 394, .null), (105, .invokevirtual 92, 3, 67, 3, 682, .ref 8), (108, .istore 4, 2, 0, 0, 0, .null), (110, .iload 4, 2, 0, 0, 0, .null), (112, .iconst (-1), 1, 0, 0, 0, .int (-1)), (113, .if_icmp .ne 5, 3, 118, 0, 0, .null), (116, .iconst 0, 1, 0, 0, 0, .int 0), (117, .ireturn, 1, 0, 0, 0, .null), (118, .aload_n 2, 1, 0, 0, 0, .null), (119, .getfield 117, 3, 0, 5, 378, .null), (122, .iload_n 3, 1, 0, 0, 0, .null), (123, .iload 4, 2, 0, 0, 0, .null), (125, .iastore, 1, 0, 0, 0, .null), (126, .aload_n 1, 1, 0, 0, 0, .null), (127, .invokevirtual 79, 3, 60, 1, 667, .ref 8), (130, .aload_n 1, 1, 0, 0, 0, .null), (131, .sipush 132, 3, 0, 0, 0, .int 132), (134, .invokevirtual 62, 3, 65, 2, 696, .ref 8), (137, .ifCond .eq 13, 3, 150, 0, 0, .null), (140, .aload_n 1, 1, 0, 0, 0, .null), (141, .iconst 0, 1, 0, 0, 0, .int 0), (142, .bipush 30, 2, 0, 0, 0, .int 30), (144, .invokevirtual 120, 3, 66, 3, 700, .ref 8), (147, .ifCond .ne 5, 3, 152, 0, 0, .null), (150, .iconst 0, 1, 0, 0, 0, .int 0), (151, .ireturn, 1, 0, 0, 0, .null), (152, .aload_n 2, 1, 0, 0, 0, .null), (153, .getfield 123, 3, 0, 6, 380, .null), (156, .iload_n 3, 1, 0, 0, 0, .null), (157, .aload_n 1, 1, 0, 0, 0, .null), (158, .getfield 126, 3, 8, 5, 155, .null), (161, .iastore, 1, 0, 0, 0, .null), (162, .aload_n 2, 1, 0, 0, 0, .null), (163, .dup, 1, 0, 0, 0, .null), (164, .getfield 104, 3, 0, 12, 404, .null), (167, .iconst 1, 1, 0, 0, 0, .int 1), (168, .iadd, 1, 0, 0, 0, .null), (169, .putfield 104, 3, 0, 12, 404, .null), (172, .aload_n 1, 1, 0, 0, 0, .null), (173, .invokevirtual 79, 3, 60, 1, 667, .ref 8), (176, .iconst 1, 1, 0, 0, 0, .int 1), (177, .ireturn, 1, 0, 0, 0, .null)]
set_option maxRecDepth 100000 in
theorem oX1_readPerson : fc_code mX1_readPerson lX1_readPerson = true := by decide +kernel
def lX1_readThing : List fc_I := [(0, .aload_n 2, 1, 0, 0, 0, .null), (1, .getfield 129, 3, 0, 13, 409, .null), (4, .istore_n 3, 1, 0, 0, 0, .null), (5, .iload_n 3, 1, 0, 0, 0, .null), (6, .bipush 6, 2, 0, 0, 0, .int 6), (8, .if_icmp .lt 9, 3, 17, 0, 0, .null), (11, .aload_n 1, 1, 0, 0, 0, .null), (12, .iconst 5, 1, 0, 0, 0, .int 5), (13, .invokevirtual 58, 3, 64, 2, 663, .ref 8), (16, .ireturn, 1, 0, 0, 0, .null), (17, .aload_n 1, 1, 0, 0, 0, .null), (18, .invokevirtual 79, 3, 60, 1, 667, .ref 8), (21, .aload_n 1, 1, 0, 0, 0, .null), (22, .aload_n 2, 1, 0, 0, 0, .null), (23, .invokestatic 82, 3, 10, 2, 668, .retAddr 0), (26, .ifCond .ne 5, 3, 31, 0, 0, .null), (29, .iconst 0, 1, 0, 0, 0, .int 0), (30, .ireturn, 1, 0, 0, 0, .null), (31, .aload_n 2, 1, 0, 0, 0, .null), (32, .getfield 132, 3, 0, 2, 365, .null), (35, .iload_n 3, 1, 0, 0, 0, .null), (36, .aload_n 1, 1, 0, 0, 0, .null), (37, .getfield 68, 3, 8, 6, 157, .null), (40, .lastore, 1, 0, 0, 0, .null), (41, .aload_n 1, 1, 0, 0, 0, .null), (42, .invokevirtual 79, 3, 60, 1, 667, .ref 8), (45, .aload_n 1, 1, 0, 0, 0, .null), (46, .sipush 134, 3, 0, 0, 0, .int 134), (49, .invokevirtual 62, 3, 65, 2, 696, .ref 8), (52, .ifCond .eq 13, 3, 65, 0, 0, .null), (55, .aload_n 1, 1, 0, 0, 0, .null), (56, .iconst 0, 1, 0, 0, 0, .int 0), (57, .bipush 30, 2, 0, 0, 0, .int 30), (59, .invokevirtual 120, 3, 66, 3, 700, .ref 8), (62, .ifCond .ne 5, 3, 67, 0, 0, .null), (65, .iconst 0, 1, 0, 0, 0, .int 0), (66, .ireturn, 1, 0, 0, 0, .null), (67, .aload_n 2, 1, 0, 0, 0, .null), (68, .getfield 135, 3, 0, 7, 383, .null), (71, .iload_n 3, 1, 0, 0, 0, .null), (72, .aload_n 1, 1, 0, 0, 0, .null), (73, .getfield 126, 3, 8, 5, 155, .null), (76, .iastore, 1, 0, 0, 0, .null), (77, .aload_n 1, 1, 0, 0, 0, .null), (78, .invokevirtual 79, 3, 60, 1, 667, .ref 8), (81, .aload_n 1, 1, 0, 0, 0, .null), (82, .sipush 135, 3, 0, 0, 0, .int 135), (85, .invokevirtual 62, 3, 65, 2, 696, .ref 8), (88, .ifCond .ne 5, 3, 93, 0, 0, .null), (91, .iconst 0, 1, 0, 0, 0, .int 0), (92, .ireturn, 1, 0, 0, 0, .null), (93, .aload_n 1, 1, 0, 0, 0, .null), (94, .aload_n 2, 1, 0, 0, 0, .null), (95, .getfield 107, 3, 0, 1, 362, .null), (98, .aload_n 2, 1, 0, 0, 0, .null), (99, .getfield 104, 3, 0, 12, 404, .null), (102, .invokevirtual 92, 3, 67, 3, 682, .ref 8), (105, .istore 4, 2, 0, 0, 0, .null), (107, .iload 4, 2, 0, 0, 0, .null), (109, .iconst (-1), 1, 0, 0, 0, .int (-1)), (110, .if_icmp .ne 5, 3, 115, 0, 0, .null), (113, .iconst 0, 1, 0, 0, 0, .int 0), (114, .ireturn, 1, 0, 0, 0, .null), (115, .aload_n 2, 1, 0, 0, 0, .null), (116, .getfield 138, 3, 0, 8, 387, .null), (119, .iload_n 3, 1, 0, 0, 0, .null), (120, .iload 4, 2, 0, 0, 0, .null), (122, .iastore, 1, 0, 0, 0, .null), (123, .aload_n 2, 1, 0, 0, 0, .null), (124, .dup, 1, 0, 0, 0, .null), (125, .getfield 129, 3, 0, 13, 409, .null), (128, .iconst 1, 1, 0, 0, 0, .int 1), (129, .iadd, 1, 0, 0, 0, .null), (130, .putfield 129, 3, 0, 13, 409, .null), (133, .aload_n 1, 1, 0, 0, 0, .null), (134, .invokevirtual 79, 3, 60, 1, 667, .ref 8), (137, .iconst 1, 1, 0, 0, 0, .int 1), (138, .ireturn, 1, 0, 0, 0, .null)]
set_option maxRecDepth 100000 in
theorem oX1_readThing : fc_code mX1_readThing lX1_readThing = true := by decide +kernel
def lX1_readSmoke : List fc_I := [(0, .aload_n 0, 1, 0, 0, 0, .null), (1, .getfield 23, 3, 1, 1, 207, .null), (4, .ifCond .eq 9, 3, 13, 0, 0, .null), (7, .aload_n 1, 1, 0, 0, 0, .null), (8, .iconst 3, 1, 0, 0, 0, .int 3), (9, .invokevirtual 58, 3, 64, 2, 663, .ref 8), (12, .ireturn, 1, 0, 0, 0, .null), (13, .aload_n 0, 1, 0, 0, 0, .null), (14, .iconst 1, 1, 0, 0, 0, .int 1), (15, .putfield 23, 3, 1, 1, 207, .null), (18, .aload_n 1, 1, 0, 0, 0, .null), (19, .invokevirtual 79, 3, 60, 1, 667, .ref 8), (22, .aload_n 1, 1, 0, 0, 0, .null), (23, .iconst 1, 1, 0, 0, 0, .int 1), (24, .bipush 60, 2, 0, 0, 0, .int 60), (26, .invokevirtual 120, 3, 66, 3, 700, .ref 8), (29, .ifCond .ne 5, 3, 34, 0, 0, .null), (32, .iconst 0, 1, 0, 0, 0, .int 0), (33, .ireturn, 1, 0, 0, 0, .null), (34, .aload_n 2, 1, 0, 0, 0, .null), (35, .aload_n 1, 1, 0, 0, 0, .null), (36, .getfield 126, 3, 8, 5, 155, .null), (39, .putfield 141, 3, 0, 14, 412, .null), (42, .aload_n 1, 1, 0, 0, 0, .null), (43, .invokevirtual 79, 3, 60, 1, 667, .ref 8), (46, .iconst 1, 1, 0, 0, 0, .int 1), (47, .ireturn, 1, 0, 0, 0, .null)]
set_option maxRecDepth 100000 in
theorem oX1_readSmoke : fc_code mX1_readSmoke lX1_readSmoke = true := by decide +kernel
def lX1_readBinds : List fc_I := [(0, .aload_n 0, 1, 0, 0, 0, .null), (1, .getfield 27, 3, 1, 2, 208, .null), (4, .ifCond .eq 9, 3, 13, 0, 0, .null), (7, .aload_n 1, 1, 0, 0, 0, .null), (8, .iconst 3, 1, 0, 0, 0, .int 3), (9, .invokevirtual 58, 3, 64, 2, 663, .ref 8), (12, .ireturn, 1, 0, 0, 0, .null), (13, .aload_n 0, 1, 0, 0, 0, .null), (14, .iconst 1, 1, 0, 0, 0, .int 1), (15, .putfield 27, 3, 1, 2, 208, .null), (18, .aload_n 0, 1, 0, 0, 0, .null), (19, .getfield 12, 3, 1, 0, 206, .null), (22, .aload_n 1, 1, 0, 0, 0, .null), (23, .aload_n 2, 1, 0, 0, 0, .null), (24, .getfield 144, 3, 0, 9, 390, .null), (27, .invokevirtual 148, 3, 21, 3, 716, .ref 3), (30, .ireturn, 1, 0, 0, 0, .null)]
set_option maxRecDepth 100000 in
theorem oX1_readBinds : fc_code mX1_readBinds lX1_readBinds = true := by decide +kernel
def lX3_read : List fc_I := [(0, .aload_n 0, 1, 0, 0, 0, .null), (1, .iconst 0, 1, 0, 0, 0, .int 0), (2, .putfield 15, 3, 3, 1, 193, .null), (5, .aload_n 0, 1, 0, 0, 0, .null), (6, .iconst 0, 1, 0, 0, 0, .int 0), (7, .putfield 19, 3, 3, 2, 194, .null), (10, .aload_n 0, 1, 0, 0, 0, .null), (11, .iconst 1, 1, 0, 0, 0, .int 1), (12, .putfield 22, 3, 3, 3, 195, .null), (15, .iconst 0, 1, 0, 0, 0, .int 0), (16, .istore_n 3, 1, 0, 0, 0, .null), (17, .iload_n 3, 1, 0, 0, 0, .null), (18, .sipush 1000, 3, 0, 0, 0, .int 1000), (21, .if_icmp .ge 74, 3, 95, 0, 0, .null), (24, .aload_n 1, 1, 0, 0, 0, .null), (25, .invokevirtual 26, 3, 60, 1, 720, .ref 8), (28, .aload_n 0, 1, 0, 0, 0, .null), (29, .getfield 22, 3, 3, 3, 195, .null), (32, .ifCond .ne 27, 3, 59, 0, 0, .null), (35, .aload_n 0, 1, 0, 0, 0, .null), (36, .getfield 19, 3, 3, 2, 194, .null), (39, .ifCond .ne 20, 3, 59, 0, 0, .null), (42, .aload_n 1, 1, 0, 0, 0, .null), (43, .getfield 31, 3, 8, 4, 152, .null), (46, .bipush 59, 2, 0, 0, 0, .int 59), (48, .if_icmp .ne 11, 3, 59, 0, 0, .null), (51, .aload_n 0, 1, 0, 0, 0, .null), (52, .aload_n 2, 1, 0, 0, 0, .null), (53, .iconst 1, 1, 0, 0, 0, .int 1), (54, .invokevirtual 34, 3, 26, 3, 721, .ref 3), (57, .iconst 1, 1, 0, 0, 0, .int 1), (58, .ireturn, 1, 0, 0, 0, .null), (59, .aload_n 0, 1, 0, 0, 0, .null), (60, .getfield 22, 3, 3, 3, 195, .null), (63, .ifCond .eq 15, 3, 78, 0, 0, .null), (66, .aload_n 0, 1, 0, 0, 0, .null), (67, .aload_n 1, 1, 0, 0, 0, .null), (68, .aload_n 2, 1, 0, 0, 0, .null), (69, .invokevirtual 38, 3, 22, 3, 732, .ref 3), (72, .ifCond .ne 17, 3, 89, 0, 0, .null), (75, .goto 12, 3, 87, 0, 0, .null), (78, .aload_n 0, 1, 0, 0, 0, .null), (79, .aload_n 1, 1, 0, 0, 0, .null), (80, .aload_n 2, 1, 0, 0, 0, .null), (81, .invokevirtual 42, 3, 23, 3, 747, .ref 3), (84, .ifCond .ne 5, 3, 89, 0, 0, .null), (87, .iconst 0, 1, 0, 0, 0, .int 0), (88, .ireturn, 1, 0, 0, 0, .null), (89, .iinc 3 1, 3, 0, 0, 0, .null), (92, .goto (-75), 3, 17, 0, 0, .null), (95, .aload_n 1, 1, 0, 0, 0, .null), (96, .iconst 1, 1, 0, 0, 0, .int 1), (97, .invokevirtual 45, 3, 64, 2, 738, .ref 8), (100, .ireturn, 1, 0, 0, 0, .null)]
set_option maxRecDepth 100000 in
theorem oX3_read : fc_code mX3_read lX3_read = true := by decide +kernel
def lX3_readPart : List fc_I := [(0, .aload_n 1, 1, 0, 0, 0, .null), (1, .getfield 31, 3, 8, 4, 152, .null), (4, .iconst 4, 1, 0, 0, 0, .int 4), (5, .if_icmp .ne 12, 3, 17, 0, 0, .null), (8, .aload_n 1, 1, 0, 0, 0, .null), (9, .ldc 49, 2, 0, 0, 0, .float 2), (11, .invokevirtual 51, 3, 63, 2, 737, .ref 8), (14, .goto 4, 3, 18, 0, 0, .null), (17, .iconst (-1), 1, 0, 0, 0, .int (-1)), (18, .istore_n 3, 1, 0, 0, 0, .null), (19, .aload_n 1, 1, 0, 0, 0, .null), (20, .getfield 31, 3, 8, 4, 152, .null), (23, .sipush 146, 3, 0, 0, 0, .int 146), (26, .if_icmp .eq 12, 3, 38, 0, 0, .null), (29, .aload_n 1, 1, 0, 0, 0, .null), (30, .getfield 31, 3, 8, 4, 152, .null), (33, .bipush 40, 2, 0, 0, 0, .int 40), (35, .if_icmp .ne 7, 3, 42, 0, 0, .null), (38, .iconst 1, 1, 0, 0, 0, .int 1), (39, .goto 4, 3, 43, 0, 0, .null), (42, .iconst 0, 1, 0, 0, 0, .int 0), (43, .istore 4, 2, 0, 0, 0, .null), (45, .iload 4, 2, 0, 0, 0, .null), (47, .ifCond .ne 22, 3, 69, 0, 0, .null), (50, .iload_n 3, 1, 0, 0, 0, .null), (51, .iconst (-1), 1, 0, 0, 0, .int (-1)), (52, .if_icmp .ne 17, 3, 69, 0, 0, .null), (55, .aload_n 1, 1, 0, 0, 0, .null), (56, .getfield 31, 3, 8, 4, 152, .null), (59, .iconst 3, 1, 0, 0, 0, .int 3), (60, .if_icmp .eq 9, 3, 69, 0, 0, .null), (63, .aload_n 1, 1, 0, 0, 0, .null), (64, .iconst 1, 1, 0, 0, 0, .int 1), (65, .invokevirtual 45, 3, 64, 2, 738, .ref 8), (68, .ireturn, 1, 0, 0, 0, .null), (69, .aload_n 0, 1, 0, 0, 0, .null), (70, .getfield 19, 3, 3, 2, 194, .null), (73, .iconst 5, 1, 0, 0, 0, .int 5), (74, .if_icmp .lt 9, 3, 83, 0, 0, .null), (77, .aload_n 1, 1, 0, 0, 0, .null), (78, .iconst 5, 1, 0, 0, 0, .int 5), (79, .invokevirtual 45, 3, 64, 2, 738, .ref 8), (82, .ireturn, 1, 0, 0, 0, .null), (83, .iload 4, 2, 0, 0, 0, .null), (85, .ifCond .eq 23, 3, 108, 0, 0, .null), (88, .aload_n 0, 1, 0, 0, 0, .null), (89, .aload_n 1, 1, 0, 0, 0, .null), (90, .getfield 31, 3, 8, 4, 152, .null), (93, .invokevirtual 55, 3, 25, 2, 739, .ref 3), (96, .aload_n 0, 1, 0, 0, 0, .null), (97, .dup, 1, 0, 0, 0, .null), (98, .getfield 19, 3, 3, 2, 194, .null), (101, .iconst 1, 1, 0, 0, 0, .int 1), (102, .iadd, 1, 0, 0, 0, .null), (103, .putfield 19, 3, 3, 2, 194, .null), (106, .iconst 1, 1, 0, 0, 0, .int 1), (107, .ireturn, 1, 0, 0, 0, .null), (108, .aload_n 2, 1, 0, 0, 0, .null), (109, .iload_n 3, 1, 0, 0, 0, .null), (110, .iconst (-1), 1, 0, 0, 0, .int (-1)), (111, .if_icmp .ne 10, 3, 121, 0, 0, .null), (114, .aload_n 1, 1, 0, 0, 0, .null), (115, .getfield 59, 3, 8, 5, 154, .null), (118, .goto 8, 3, 126, 0, 0, .null), (121, .sipush (-256), 3, 0, 0, 0, .int (-256)), (124, .iload_n 3, 1, 0, 0, 0, .null), (125, .isub, 1, 0, 0, 0, .null), (126, .invokevirtual 62, 3, 17, 2, 728, .ref 2), (129, .aload_n 0, 1, 0, 0, 0, .null), (130, .aload_n 2, 1, 0, 0, 0, .null), (131, .invokevirtual 67, 3, 24, 2, 743, .ref 3), (134, .aload_n 0, 1, 0, 0, 0, .null), (135, .iconst 0, 1, 0, 0, 0, .int 0), (136, .putfield 22, 3, 3, 3, 195, .null), (139, .iconst 1, 1, 0, 0, 0, .int 1), (140, .ireturn, 1, 0, 0, 0, .null)]
set_option maxRecDepth 100000 in
theorem oX3_readPart : fc_code mX3_readPart lX3_readPart = true := by decide +kernel
def lX3_readBehind : List fc_I := [(0, .aload_n 1, 1, 0, 0, 0, .null), (1, .getfield 31, 3, 8, 4, 152, .null), (4, .bipush 41, 2, 0, 0, 0, .int 41), (6, .if_icmp .ne 14, 3, 20, 0, 0, .null), (9, .aload_n 0, 1, 0, 0, 0, .null), (10, .getfield 19, 3, 3, 2, 194, .null), (13, .ifCond .le 7, 3, 20, 0, 0, .null), (16, .iconst 1, 1, 0, 0, 0, .int 1), (17, .goto 4, 3, 21, 0, 0, .null), (20, .iconst 0, 1, 0, 0, 0, .int 0), (21, .istore_n 3, 1, 0, 0, 0, .null), (22, .iload_n 3, 1, 0, 0, 0, .null), (23, .ifCond .eq 7, 3, 30, 0, 0, .null), (26, .iconst 1, 1, 0, 0, 0, .int 1), (27, .goto 10, 3, 37, 0, 0, .null), (30, .aload_n 1, 1, 0, 0, 0, .null), (31, .getfield 31, 3, 8, 4, 152, .null), (34, .invokestatic 71, 3, 27, 1, 725, .retAddr 0), (37, .istore 4, 2, 0, 0, 0, .null), (39, .iload 4, 2, 0, 0, 0, .null), (41, .ifCond .ne 9, 3, 50, 0, 0, .null), (44, .aload_n 1, 1, 0, 0, 0, .null), (45, .iconst 1, 1, 0, 0, 0, .int 1), (46, .invokevirtual 45, 3, 64, 2, 738, .ref 8), (49, .ireturn, 1, 0, 0, 0, .null), (50, .aload_n 0, 1, 0, 0, 0, .null), (51, .aload_n 2, 1, 0, 0, 0, .null), (52, .iload 4, 2, 0, 0, 0, .null), (54, .iconst 2, 1, 0, 0, 0, .int 2), (55, .if_icmp .ne 7, 3, 62, 0, 0, .null), (58, .iconst 3, 1, 0, 0, 0, .int 3), (59, .goto 5, 3, 64, 0, 0, .null), (62, .iload 4, 2, 0, 0, 0, .null), (64, .invokevirtual 34, 3, 26, 3, 721, .ref 3), (67, .iload 4, 2, 0, 0, 0, .null), (69, .iconst 2, 1, 0, 0, 0, .int 2), (70, .if_icmp .ne 34, 3, 104, 0, 0, .null), (73, .aload_n 0, 1, 0, 0, 0, .null), (74, .getfield 15, 3, 3, 1, 193, .null), (77, .ifCond .le 27, 3, 104, 0, 0, .null), (80, .aload_n 0, 1, 0, 0, 0, .null), (81, .getfield 9, 3, 3, 0, 192, .null), (84, .aload_n 0, 1, 0, 0, 0, .null), (85, .getfield 15, 3, 3, 1, 193, .null), (88, .iconst 1, 1, 0, 0, 0, .int 1), (89, .isub, 1, 0, 0, 0, .null), (90, .iaload, 1, 0, 0, 0, .null), (91, .invokestatic 71, 3, 27, 1, 725, .retAddr 0), (94, .iconst 2, 1, 0, 0, 0, .int 2), (95, .if_icmp .ne 9, 3, 104, 0, 0, .null), (98, .aload_n 1, 1, 0, 0, 0, .null), (99, .iconst 1, 1, 0, 0, 0, .int 1), (100, .invokevirtual 45, 3, 64, 2, 738, .ref 8), (103, .ireturn, 1, 0, 0, 0, .null), (104, .iload_n 3, 1, 0, 0, 0, .null), (105, .ifCond .eq 34, 3, 139, 0, 0, .null), (108, .aload_n 0, 1, 0, 0, 0, .null), (109, .iconst 0, 1, 0, 0, 0, .int 0), (110, .aload_n 0, 1, 0, 0, 0, .null), (111, .getfield 15, 3, 3, 1, 193, .null), (114, .iconst 1, 1, 0, 0, 0, .int 1), (115, .isub, 1, 0, 0, 0, .null), (116, .invokestatic 75, 3, 0, 0, 751, .retAddr 10), (119, .putfield 15, 3, 3, 1, 193, .null), (122, .aload_n 0, 1, 0, 0, 0, .null), (123, .dup, 1, 0, 0, 0, .null), (124, .getfield 19, 3, 3, 2, 194, .null), (127, .iconst 1, 1, 0, 0, 0, .int 1), (128, .isub, 1, 0, 0, 0, .null), (129, .putfield 19, 3, 3, 2, 194, .null), (132, .aload_n 0, 1, 0, 0, 0, .null), (133, .aload_n 2, 1, 0, 0, 0, .null), (134, .invokevirtual 67, 3, 24, 2, 743, .ref 3), (137, .iconst 1, 1, 0, 0, 0, .int 1), (138, .ireturn, 1, 0, 0, 0, .null), (139, .aload_n 0, 1, 0, 0, 0, .null), (140, .aload_n 1, 1, 0, 0, 0, .null), (141, .getfield 31, 3, 8, 4, 152, .null), (144, .invokevirtual 55, 3, 25, 2, 739, .ref 3), (147, .aload_n 0, 1, 0, 0, 0, .null), (148, .iconst 1, 1, 0, 0, 0, .int 1), (149, .putfield 22, 3, 3, 3, 195, .null), (152, .iconst 1, 1, 0, 0, 0, .int 1), (153, .ireturn, 1, 0, 0, 0, .null)]
set_option maxRecDepth 100000 in
theorem oX3_readBehind : fc_code mX3_readBehind lX3_readBehind = true := by decide +kernel
def lX3_closeNots : List fc_I := [(0, .aload_n 0, 1, 0, 0, 0, .null), (1, .getfield 15, 3, 3, 1, 193, .null), (4, .ifCond .le 50, 3, 54, 0, 0, .null), (7, .aload_n 0, 1, 0, 0, 0, .null), (8, .getfield 9, 3, 3, 0, 192, .null), (11, .aload_n 0, 1, 0, 0, 0, .null), (12, .getfield 15, 3, 3, 1, 193, .null), (15, .iconst 1, 1, 0, 0, 0, .int 1), (16, .isub, 1, 0, 0, 0, .null), (17, .iaload, 1, 0, 0, 0, .null), (18, .sipush 146, 3, 0, 0, 0, .int 146), (21, .if_icmp .ne 33, 3, 54, 0, 0, .null), (24, .aload_n 1, 1, 0, 0, 0, .null), (25, .sipush (-146), 3, 0, 0, 0, .int (-146)), (28, .invokevirtual 62, 3, 17, 2, 728, .ref 2), (31, .aload_n 0, 1, 0, 0, 0, .null), (32, .dup, 1, 0, 0, 0, .null), (33, .getfield 19, 3, 3, 2, 194, .null), (36, .iconst 1, 1, 0, 0, 0, .int 1), (37, .isub, 1, 0, 0, 0, .null), (38, .putfield 19, 3, 3, 2, 194, .null), (41, .aload_n 0, 1, 0, 0, 0, .null), (42, .dup, 1, 0, 0, 0, .null), (43, .getfield 15, 3, 3, 1, 193, .null), (46, .iconst 1, 1, 0, 0, 0, .int 1), (47, .isub, 1, 0, 0, 0, .null), (48, .putfield 15, 3, 3, 1, 193, .null), (51, .goto (-51), 3, 0, 0, 0, .null), (54, .return_, 1, 0, 0, 0, .null)]
set_option maxRecDepth 100000 in
theorem oX3_closeNots : fc_code mX3_closeNots lX3_closeNots = true := by decide +kernel
def lX3_await : List fc_I := [(0, .aload_n 0, 1, 0, 0, 0, .null), (1, .getfield 15, 3, 3, 1, 193, .null), (4, .bipush 64, 2, 0, 0, 0, .int 64), (6, .if_icmp .ge 23, 3, 29, 0, 0, .null), (9, .aload_n 0, 1, 0, 0, 0, .null), (10, .getfield 9, 3, 3, 0, 192, .null), (13, .aload_n 0, 1, 0, 0, 0, .null), (14, .getfield 15, 3, 3, 1, 193, .null), (17, .iload_n 1, 1, 0, 0, 0, .null), (18, .iastore, 1, 0, 0, 0, .null), (19, .aload_n 0, 1, 0, 0, 0, .null), (20, .dup, 1, 0, 0, 0, .null), (21, .getfield 15, 3, 3, 1, 193, .null), (24, .iconst 1, 1, 0, 0, 0, .int 1), (25, .iadd, 1, 0, 0, 0, .null), (26, .putfield 15, 3, 3, 1, 193, .null), (29, .return_, 1, 0, 0, 0, .null)]
set_option maxRecDepth 100000 in
theorem oX3_await : fc_code mX3_await lX3_await = true := by decide +kernel
def lX3_writeDown : List fc_I := [(0, .aload_n 0, 1, 0, 0, 0, .null), (1, .getfield 15, 3, 3, 1, 193, .null), (4, .ifCond .le 50, 3, 54, 0, 0, .null), (7, .aload_n 0, 1, 0, 0, 0, .null), (8, .getfield 9, 3, 3, 0, 192, .null), (11, .aload_n 0, 1, 0, 0, 0, .null), (12, .getfield 15, 3, 3, 1, 193, .null), (15, .iconst 1, 1, 0, 0, 0, .int 1), (16, .isub, 1, 0, 0, 0, .null), (17, .iaload, 1, 0, 0, 0, .null), (18, .invokestatic 71, 3, 27, 1, 725, .retAddr 0), (21, .iload_n 2, 1, 0, 0, 0, .null), (22, .if_icmp .lt 32, 3, 54, 0, 0, .null), (25, .aload_n 1, 1, 0, 0, 0, .null), (26, .aload_n 0, 1, 0, 0, 0, .null), (27, .getfield 9, 3, 3, 0, 192, .null), (30, .aload_n 0, 1, 0, 0, 0, .null), (31, .getfield 15, 3, 3, 1, 193, .null), (34, .iconst 1, 1, 0, 0, 0, .int 1), (35, .isub, 1, 0, 0, 0, .null), (36, .iaload, 1, 0, 0, 0, .null), (37, .ineg, 1, 0, 0, 0, .null), (38, .invokevirtual 62, 3, 17, 2, 728, .ref 2), (41, .aload_n 0, 1, 0, 0, 0, .null), (42, .dup, 1, 0, 0, 0, .null), (43, .getfield 15, 3, 3, 1, 193, .null), (46, .iconst 1, 1, 0, 0, 0, .int 1), (47, .isub, 1, 0, 0, 0, .null), (48, .putfield 15, 3, 3, 1, 193, .null), (51, .goto (-51), 3, 0, 0, 0, .null), (54, .return_, 1, 0, 0, 0, .null)]
set_option maxRecDepth 100000 in
theorem oX3_writeDown : fc_code mX3_writeDown lX3_writeDown = true := by decide +kernel
def lX3_rankOf : List fc_I := [(0, .iload_n 0, 1, 0, 0, 0, .null), (1, .lookupswitch 75 #[(42, 73), (43, 71), (45, 71), (60, 69), (61, 69), (147, 67), (148, 67)], 67, 0, 0, 0, .null), (68, .iconst 1, 1, 0, 0, 0, .int 1), (69, .ireturn, 1, 0, 0, 0, .null), (70, .iconst 2, 1, 0, 0, 0, .int 2), (71, .ireturn, 1, 0, 0, 0, .null), (72, .iconst 3, 1, 0, 0, 0, .int 3), (73, .ireturn, 1, 0, 0, 0, .null), (74, .iconst 4, 1, 0, 0, 0, .int 4), (75, .ireturn, 1, 0, 0, 0, .null), (76, .iconst 0, 1, 0, 0, 0, .int 0), (77, .ireturn, 1, 0, 0, 0, .null)]
set_option maxRecDepth 100000 in
theorem oX3_rankOf : fc_code mX3_rankOf lX3_rankOf = true := by decide +kernel
def lX7_begin : List fc_I := [(0, .aload_n 0, 1, 0, 0, 0, .null), (1, .iconst 0, 1, 0, 0, 0, .int 0), (2, .putfield 33, 3, 7, 0, 241, .null), (5, .aload_n 0, 1, 0, 0, 0, .null), (6, .iconst 0, 1, 0, 0, 0, .int 0), (7, .putfield 37, 3, 7, 1, 243, .null), (10, .iconst 0, 1, 0, 0, 0, .int 0), (11, .istore_n 2, 1, 0, 0, 0, .null), (12, .iload_n 2, 1, 0, 0, 0, .null), (13, .iconst 5, 1, 0, 0, 0, .int 5), (14, .if_icmp .ge 51, 3, 65, 0, 0, .null), (17, .aload_n 0, 1, 0, 0, 0, .null), (18, .getfield 9, 3, 7, 2, 245, .null), (21, .iload_n 2, 1, 0, 0, 0, .null), (22, .aload_n 1, 1, 0, 0, 0, .null), (23, .getfield 40, 3, 0, 5, 376, .null), (26, .iload_n 2, 1, 0, 0, 0, .null), (27, .iaload, 1, 0, 0, 0, .null), (28, .iastore, 1, 0, 0, 0, .null), (29, .aload_n 0, 1, 0, 0, 0, .null), (30, .getfield 15, 3, 7, 3, 247, .null), (33, .iload_n 2, 1, 0, 0, 0, .null), (34, .iconst 0, 1, 0, 0, 0, .int 0), (35, .iastore, 1, 0, 0, 0, .null), (36, .aload_n 0, 1, 0, 0, 0, .null), (37, .getfield 18, 3, 7, 4, 248, .null), (40, .iload_n 2, 1, 0, 0, 0, .null), (41, .iconst 1, 1, 0, 0, 0, .int 1), (42, .iload_n 2, 1, 0, 0, 0, .null), (43, .ishl, 1, 0, 0, 0, .null), (44, .iastore, 1, 0, 0, 0, .null), (45, .aload_n 0, 1, 0, 0, 0, .null), (46, .getfield 21, 3, 7, 5, 250, .null), (49, .iload_n 2, 1, 0, 0, 0, .null), (50, .iconst 0, 1, 0, 0, 0, .int 0), (51, .iastore, 1, 0, 0, 0, .null), (52, .aload_n 0, 1, 0, 0, 0, .null), (53, .getfield 24, 3, 7, 6, 252, .null), (56, .iload_n 2, 1, 0, 0, 0, .null), (57, .iconst 0, 1, 0, 0, 0, .int 0), (58, .iastore, 1, 0, 0, 0, .null), (59, .iinc 2 1, 3, 0, 0, 0, .null), (62, .goto (-50), 3, 12, 0, 0, .null), (65, .iconst 0, 1, 0, 0, 0, .int 0), (66, .istore_n 2, 1, 0, 0, 0, .null), (67, .iload_n 2, 1, 0, 0, 0, .null), (68, .bipush 6, 2, 0, 0, 0, .int 6), (70, .if_icmp .ge 33, 3, 103, 0, 0, .null), (73, .aload_n 0, 1, 0, 0, 0, .null), (74, .getfield 27, 3, 7, 7, 254, .null), (77, .iload_n 2, 1, 0, 0, 0, .null), (78, .aload_n 1, 1, 0, 0, 0, .null), (79, .getfield 45, 3, 0, 8, 386, .null), (82, .iload_n 2, 1, 0, 0, 0, .null), (83, .iaload, 1, 0, 0, 0, .null), (84, .iastore, 1, 0, 0, 0, .null), (85, .aload_n 0, 1, 0, 0, 0, .null), (86, .getfield 30, 3, 7, 8, 256, .null), (89, .iload_n 2, 1, 0, 0, 0, .null), (90, .aload_n 1, 1, 0, 0, 0, .null), (91, .getfield 45, 3, 0, 8, 386, .null), (94, .iload_n 2, 1, 0, 0, 0, .null), (95, .iaload, 1, 0, 0, 0, .null), (96, .iastore, 1, 0, 0, 0, .null), (97, .iinc 2 1, 3, 0, 0, 0, .null), (100, .goto (-33), 3, 67, 0, 0, .null), (103, .return_, 1, 0, 0, 0, .null)]
set_option maxRecDepth 100000 in
theorem oX7_begin : fc_code mX7_begin lX7_begin = true := by decide +kernel
def lX7_copy : List fc_I := [(0, .aload_n 0, 1, 0, 0, 0, .null), (1, .aload_n 1, 1, 0, 0, 0, .null), (2, .getfield 33, 3, 7, 0, 241, .null), (5, .putfield 33, 3, 7, 0, 241, .null), (8, .aload_n 0, 1, 0, 0, 0, .null), (9, .aload_n 1, 1, 0, 0, 0, .null), (10, .getfield 37, 3, 7, 1, 243, .null), (13, .putfield 37, 3, 7, 1, 243, .null), (16, .aload_n 1, 1, 0, 0, 0, .null), (17, .getfield 9, 3, 7, 2, 245, .null), (20, .iconst 0, 1, 0, 0, 0, .int 0), (21, .aload_n 0, 1, 0, 0, 0, .null), (22, .getfield 9, 3, 7, 2, 245, .null), (25, .iconst 0, 1, 0, 0, 0, .int 0), (26, .iconst 5, 1, 0, 0, 0, .int 5), (27, .invokestatic 48, 3, 0, 0, 866, .retAddr 12), (30, .aload_n 1, 1, 0, 0, 0, .null), (31, .getfield 15, 3, 7, 3, 247, .null), (34, .iconst 0, 1, 0, 0, 0, .int 0), (35, .aload_n 0, 1, 0, 0, 0, .null), (36, .getfield 15, 3, 7, 3, 247, .null), (39, .iconst 0, 1, 0, 0, 0, .int 0), (40, .iconst 5, 1, 0, 0, 0, .int 5), (41, .invokestatic 48, 3, 0, 0, 866, .retAddr 12), (44, .aload_n 1, 1, 0, 0, 0, .null), (45, .getfield 18, 3, 7, 4, 248, .null), (48, .iconst 0, 1, 0, 0, 0, .int 0), (49, .aload_n 0, 1, 0, 0, 0, .null), (50, .getfield 18, 3, 7, 4, 248, .null), (53, .iconst 0, 1, 0, 0, 0, .int 0), (54, .iconst 5, 1, 0, 0, 0, .int 5), (55, .invokestatic 48, 3, 0, 0, 866, .retAddr 12), (58, .aload_n 1, 1, 0, 0, 0, .null), (59, .getfield 21, 3, 7, 5, 250, .null), (62, .iconst 0, 1, 0, 0, 0, .int 0), (63, .aload_n 0, 1, 0, 0, 0, .null), (64, .getfield 21, 3, 7, 5, 250, .null), (67, .iconst 0, 1, 0, 0, 0, .int 0), (68, .iconst 5, 1, 0, 0, 0, .int 5), (69, .invokestatic 48, 3, 0, 0, 866, .retAddr 12), (72, .aload_n 1, 1, 0, 0, 0, .null), (73, .getfield 24, 3, 7, 6, 252, .null), (76, .iconst 0, 1, 0, 0, 0, .int 0), (77, .aload_n 0, 1, 0, 0, 0, .null), (78, .getfield 24, 3, 7, 6, 252, .null), (81, .iconst 0, 1, 0, 0, 0, .int 0), (82, .iconst 5, 1, 0, 0, 0, .int 5), (83, .invokestatic 48, 3, 0, 0, 866, .retAddr 12), (86, .aload_n 1, 1, 0, 0, 0, .null), (87, .getfield 27, 3, 7, 7, 254, .null), (90, .iconst 0, 1, 0, 0, 0, .int 0), (91, .aload_n 0, 1, 0, 0, 0, .null), (92, .getfield 27, 3, 7, 7, 254, .null), (95, .iconst 0, 1, 0, 0, 0, .int 0), (96, .bipush 6, 2, 0, 0, 0, .int 6), (98, .invokestatic 48, 3, 0, 0, 866, .retAddr 12), (101, .aload_n 1, 1, 0, 0, 0, .null), (102, .getfield 30, 3, 7, 8, 256, .null), (105, .iconst 0, 1, 0, 0, 0, .int 0), (106, .aload_n 0, 1, 0, 0, 0, .null), (107, .getfield 30, 3, 7, 8, 256, .null), (110, .iconst 0, 1, 0, 0, 0, .int 0), (111, .bipush 6, 2, 0, 0, 0, .int 6), (113, .invokestatic 48, 3, 0, 0, 866, .retAddr 12), (116, .return_, 1, 0, 0, 0, .null)]
set_option maxRecDepth 100000 in
theorem oX7_copy : fc_code mX7_copy lX7_copy = true := by decide +kernel
def lX7_bitsAt : List fc_I := [(0, .iconst 0, 1, 0, 0, 0, .int 0), (1, .istore_n 3, 1, 0, 0, 0, .null), (2, .iconst 0, 1, 0, 0, 0, .int 0), (3, .istore 4, 2, 0, 0, 0, .null), (5, .iload 4, 2, 0, 0, 0, .null), (7, .aload_n 1, 1, 0, 0, 0, .null), (8, .getfield 54, 3, 0, 12, 402, .null), (11, .if_icmp .ge 27, 3, 38, 0, 0, .null), (14, .aload_n 0, 1, 0, 0, 0, .null), (15, .getfield 9, 3, 7, 2, 245, .null), (18, .iload 4, 2, 0, 0, 0, .null), (20, .iaload, 1, 0, 0, 0, .null), (21, .iload_n 2, 1, 0, 0, 0, .null), (22, .if_icmp .ne 10, 3, 32, 0, 0, .null), (25, .iload_n 3, 1, 0, 0, 0, .null), (26, .iconst 1, 1, 0, 0, 0, .int 1), (27, .iload 4, 2, 0, 0, 0, .null), (29, .ishl, 1, 0, 0, 0, .null), (30, .ior, 1, 0, 0, 0, .null), (31, .istore_n 3, 1, 0, 0, 0, .null), (32, .iinc 4 1, 3, 0, 0, 0, .null), (35, .goto (-30), 3, 5, 0, 0, .null), (38, .iload_n 3, 1, 0, 0, 0, .null), (39, .ireturn, 1, 0, 0, 0, .null)]
set_option maxRecDepth 100000 in
theorem oX7_bitsAt : fc_code mX7_bitsAt lX7_bitsAt = true := by decide +kernel
def lX7_strayThings : List fc_I := [(0, .iconst 0, 1, 0, 0, 0, .int 0), (1, .istore_n 2, 1, 0, 0, 0, .null), (2, .iconst 0, 1, 0, 0, 0, .int 0), (3, .istore_n 3, 1, 0, 0, 0, .null), (4, .iload_n 3, 1, 0, 0, 0, .null), (5, .aload_n 1, 1, 0, 0, 0, .null), (6, .getfield 57, 3, 0, 13, 408, .null), (9, .if_icmp .ge 30, 3, 39, 0, 0, .null), (12, .aload_n 0, 1, 0, 0, 0, .null), (13, .getfield 27, 3, 7, 7, 254, .null), (16, .iload_n 3, 1, 0, 0, 0, .null), (17, .iaload, 1, 0, 0, 0, .null), (18, .aload_n 0, 1, 0, 0, 0, .null), (19, .getfield 30, 3, 7, 8, 256, .null), (22, .iload_n 3, 1, 0, 0, 0, .null), (23, .iaload, 1, 0, 0, 0, .null), (24, .if_icmp .eq 9, 3, 33, 0, 0, .null), (27, .iload_n 2, 1, 0, 0, 0, .null), (28, .iconst 1, 1, 0, 0, 0, .int 1), (29, .iload_n 3, 1, 0, 0, 0, .null), (30, .ishl, 1, 0, 0, 0, .null), (31, .ior, 1, 0, 0, 0, .null), (32, .istore_n 2, 1, 0, 0, 0, .null), (33, .iinc 3 1, 3, 0, 0, 0, .null), (36, .goto (-32), 3, 4, 0, 0, .null), (39, .iload_n 2, 1, 0, 0, 0, .null), (40, .ireturn, 1, 0, 0, 0, .null)]
set_option maxRecDepth 100000 in
theorem oX7_strayThings : fc_code mX7_strayThings lX7_strayThings = true := by decide +kernel
def lX7_newsOfAll : List fc_I := [(0, .iconst 0, 1, 0, 0, 0, .int 0), (1, .istore_n 2, 1, 0, 0, 0, .null), (2, .iconst 0, 1, 0, 0, 0, .int 0), (3, .istore_n 3, 1, 0, 0, 0, .null), (4, .iload_n 3, 1, 0, 0, 0, .null), (5, .aload_n 1, 1, 0, 0, 0, .null), (6, .getfield 54, 3, 0, 12, 402, .null), (9, .if_icmp .ge 21, 3, 30, 0, 0, .null), (12, .iload_n 2, 1, 0, 0, 0, .null), (13, .aload_n 0, 1, 0, 0, 0, .null), (14, .getfield 18, 3, 7, 4, 248, .null), (17, .iload_n 3, 1, 0, 0, 0, .null), (18, .iaload, 1, 0, 0, 0, .null), (19, .invokestatic 60, 3, 265, 1, 897, .retAddr 0), (22, .iadd, 1, 0, 0, 0, .null), (23, .istore_n 2, 1, 0, 0, 0, .null), (24, .iinc 3 1, 3, 0, 0, 0, .null), (27, .goto (-23), 3, 4, 0, 0, .null), (30, .iload_n 2, 1, 0, 0, 0, .null), (31, .ireturn, 1, 0, 0, 0, .null)]
set_option maxRecDepth 100000 in
theorem oX7_newsOfAll : fc_code mX7_newsOfAll lX7_newsOfAll = true := by decide +kernel
def lX7_isReady : List fc_I := [(0, .aload_n 1, 1, 0, 0, 0, .null), (1, .iload_n 2, 1, 0, 0, 0, .null), (2, .aload_n 0, 1, 0, 0, 0, .null), (3, .getfield 37, 3, 7, 1, 243, .null), (6, .invokevirtual 66, 3, 6, 3, 833, .ref 0), (9, .ifCond .eq 16, 3, 25, 0, 0, .null), (12, .aload_n 0, 1, 0, 0, 0, .null), (13, .getfield 15, 3, 7, 3, 247, .null), (16, .iload_n 2, 1, 0, 0, 0, .null), (17, .iaload, 1, 0, 0, 0, .null), (18, .ifCond .ne 7, 3, 25, 0, 0, .null), (21, .iconst 1, 1, 0, 0, 0, .int 1), (22, .goto 4, 3, 26, 0, 0, .null), (25, .iconst 0, 1, 0, 0, 0, .int 0), (26, .ireturn, 1, 0, 0, 0, .null)]
set_option maxRecDepth 100000 in
theorem oX7_isReady : fc_code mX7_isReady lX7_isReady = true := by decide +kernel
def lX7_minutesOver : List fc_I := [(0, .iload_n 3, 1, 0, 0, 0, .null), (1, .ifCond .eq 10, 3, 11, 0, 0, .null), (4, .iload_n 3, 1, 0, 0, 0, .null), (5, .sipush 1000, 3, 0, 0, 0, .int 1000), (8, .if_icmp .lt 5, 3, 13, 0, 0, .null), (11, .iload_n 3, 1, 0, 0, 0, .null), (12, .ireturn, 1, 0, 0, 0, .null), (13, .aload_n 1, 1, 0, 0, 0, .null), (14, .iload_n 2, 1, 0, 0, 0, .null), (15, .aload_n 0, 1, 0, 0, 0, .null), (16, .getfield 37, 3, 7, 1, 243, .null), (19, .invokevirtual 70, 3, 7, 3, 982, .ref 0), (22, .aload_n 0, 1, 0, 0, 0, .null), (23, .getfield 15, 3, 7, 3, 247, .null), (26, .iload_n 2, 1, 0, 0, 0, .null), (27, .iaload, 1, 0, 0, 0, .null), (28, .invokestatic 74, 3, 0, 0, 937, .retAddr 10), (31, .istore 4, 2, 0, 0, 0, .null), (33, .iload 4, 2, 0, 0, 0, .null), (35, .aload_n 1, 1, 0, 0, 0, .null), (36, .getfield 79, 3, 0, 4, 374, .null), (39, .iload_n 2, 1, 0, 0, 0, .null), (40, .iaload, 1, 0, 0, 0, .null), (41, .iconst 2, 1, 0, 0, 0, .int 2), (42, .if_icmp .ne 9, 3, 51, 0, 0, .null), (45, .iconst 2, 1, 0, 0, 0, .int 2), (46, .iload_n 3, 1, 0, 0, 0, .null), (47, .imul, 1, 0, 0, 0, .null), (48, .goto 4, 3, 52, 0, 0, .null), (51, .iload_n 3, 1, 0, 0, 0, .null), (52, .iadd, 1, 0, 0, 0, .null), (53, .ireturn, 1, 0, 0, 0, .null)]
set_option maxRecDepth 100000 in
theorem oX7_minutesOver : fc_code mX7_minutesOver lX7_minutesOver = true := by decide +kernel
def lX7_canWalk : List fc_I := [(0, .aload_n 1, 1, 0, 0, 0, .null), (1, .iload_n 2, 1, 0, 0, 0, .null), (2, .invokevirtual 82, 3, 4, 2, 854, .ref 0), (5, .ifCond .eq 42, 3, 47, 0, 0, .null), (8, .aload_n 1, 1, 0, 0, 0, .null), (9, .iload_n 3, 1, 0, 0, 0, .null), (10, .invokevirtual 86, 3, 3, 2, 855, .ref 0), (13, .ifCond .eq 34, 3, 47, 0, 0, .null), (16, .aload_n 0, 1, 0, 0, 0, .null), (17, .aload_n 1, 1, 0, 0, 0, .null), (18, .iload_n 2, 1, 0, 0, 0, .null), (19, .invokevirtual 89, 3, 44, 3, 856, .ref 7), (22, .ifCond .eq 25, 3, 47, 0, 0, .null), (25, .aload_n 1, 1, 0, 0, 0, .null), (26, .getfield 93, 3, 0, 3, 370, .null), (29, .aload_n 0, 1, 0, 0, 0, .null), (30, .getfield 9, 3, 7, 2, 245, .null), (33, .iload_n 2, 1, 0, 0, 0, .null), (34, .iaload, 1, 0, 0, 0, .null), (35, .iaload, 1, 0, 0, 0, .null), (36, .iload_n 3, 1, 0, 0, 0, .null), (37, .invokestatic 96, 3, 120, 2, 0, .retAddr 1), (40, .ifCond .eq 7, 3, 47, 0, 0, .null), (43, .iconst 1, 1, 0, 0, 0, .int 1), (44, .goto 4, 3, 48, 0, 0, .null), (47, .iconst 0, 1, 0, 0, 0, .int 0), (48, .ireturn, 1, 0, 0, 0, .null)]
set_option maxRecDepth 100000 in
theorem oX7_canWalk : fc_code mX7_canWalk lX7_canWalk = true := by decide +kernel
def lX7_goTo : List fc_I := [(0, .aload_n 0, 1, 0, 0, 0, .null), (1, .getfield 9, 3, 7, 2, 245, .null), (4, .iload_n 2, 1, 0, 0, 0, .null), (5, .iload_n 3, 1, 0, 0, 0, .null), (6, .iastore, 1, 0, 0, 0, .null), (7, .aload_n 0, 1, 0, 0, 0, .null), (8, .getfield 15, 3, 7, 3, 247, .null), (11, .iload_n 2, 1, 0, 0, 0, .null), (12, .aload_n 1, 1, 0, 0, 0, .null), (13, .getfield 79, 3, 0, 4, 374, .null), (16, .iload_n 2, 1, 0, 0, 0, .null), (17, .iaload, 1, 0, 0, 0, .null), (18, .iconst 2, 1, 0, 0, 0, .int 2), (19, .if_icmp .ne 7, 3, 26, 0, 0, .null), (22, .iconst 2, 1, 0, 0, 0, .int 2), (23, .goto 4, 3, 27, 0, 0, .null), (26, .iconst 1, 1, 0, 0, 0, .int 1), (27, .iastore, 1, 0, 0, 0, .null), (28, .return_, 1, 0, 0, 0, .null)]
set_option maxRecDepth 100000 in
theorem oX7_goTo : fc_code mX7_goTo lX7_goTo = true := by decide +kernel
def lX7_canGive : List fc_I := [(0, .aload_n 1, 1, 0, 0, 0, .null), (1, .iload_n 2, 1, 0, 0, 0, .null), (2, .invokevirtual 99, 3, 5, 2, 882, .ref 0), (5, .ifCond .eq 11, 3, 16, 0, 0, .null), (8, .aload_n 1, 1, 0, 0, 0, .null), (9, .iload_n 3, 1, 0, 0, 0, .null), (10, .invokevirtual 82, 3, 4, 2, 854, .ref 0), (13, .ifCond .ne 5, 3, 18, 0, 0, .null), (16, .iconst 0, 1, 0, 0, 0, .int 0), (17, .ireturn, 1, 0, 0, 0, .null), (18, .aload_n 0, 1, 0, 0, 0, .null), (19, .getfield 27, 3, 7, 7, 254, .null), (22, .iload_n 2, 1, 0, 0, 0, .null), (23, .iaload, 1, 0, 0, 0, .null), (24, .istore 4, 2, 0, 0, 0, .null), (26, .iload 4, 2, 0, 0, 0, .null), (28, .iload_n 3, 1, 0, 0, 0, .null), (29, .if_icmp .eq 45, 3, 74, 0, 0, .null), (32, .aload_n 0, 1, 0, 0, 0, .null), (33, .aload_n 1, 1, 0, 0, 0, .null), (34, .iload 4, 2, 0, 0, 0, .null), (36, .invokevirtual 89, 3, 44, 3, 856, .ref 7), (39, .ifCond .eq 35, 3, 74, 0, 0, .null), (42, .aload_n 1, 1, 0, 0, 0, .null), (43, .iload_n 3, 1, 0, 0, 0, .null), (44, .aload_n 0, 1, 0, 0, 0, .null), (45, .getfield 37, 3, 7, 1, 243, .null), (48, .invokevirtual 66, 3, 6, 3, 833, .ref 0), (51, .ifCond .eq 23, 3, 74, 0, 0, .null), (54, .aload_n 0, 1, 0, 0, 0, .null), (55, .getfield 9, 3, 7, 2, 245, .null), (58, .iload 4, 2, 0, 0, 0, .null), (60, .iaload, 1, 0, 0, 0, .null), (61, .aload_n 0, 1, 0, 0, 0, .null), (62, .getfield 9, 3, 7, 2, 245, .null), (65, .iload_n 3, 1, 0, 0, 0, .null), (66, .iaload, 1, 0, 0, 0, .null), (67, .if_icmp .ne 7, 3, 74, 0, 0, .null), (70, .iconst 1, 1, 0, 0, 0, .int 1), (71, .goto 4, 3, 75, 0, 0, .null), (74, .iconst 0, 1, 0, 0, 0, .int 0), (75, .ireturn, 1, 0, 0, 0, .null)]
set_option maxRecDepth 100000 in
theorem oX7_canGive : fc_code mX7_canGive lX7_canGive = true := by decide +kernel
def lX7_handOver : List fc_I := [(0, .aload_n 0, 1, 0, 0, 0, .null), (1, .aload_n 1, 1, 0, 0, 0, .null), (2, .iload_n 2, 1, 0, 0, 0, .null), (3, .iload_n 3, 1, 0, 0, 0, .null), (4, .aload_n 0, 1, 0, 0, 0, .null), (5, .getfield 37, 3, 7, 1, 243, .null), (8, .invokevirtual 102, 3, 52, 5, 887, .ref 7), (11, .istore 4, 2, 0, 0, 0, .null), (13, .aload_n 0, 1, 0, 0, 0, .null), (14, .getfield 15, 3, 7, 3, 247, .null), (17, .aload_n 0, 1, 0, 0, 0, .null), (18, .getfield 27, 3, 7, 7, 254, .null), (21, .iload_n 2, 1, 0, 0, 0, .null), (22, .iaload, 1, 0, 0, 0, .null), (23, .iconst 1, 1, 0, 0, 0, .int 1), (24, .iastore, 1, 0, 0, 0, .null), (25, .aload_n 0, 1, 0, 0, 0, .null), (26, .getfield 27, 3, 7, 7, 254, .null), (29, .iload_n 2, 1, 0, 0, 0, .null), (30, .iload_n 3, 1, 0, 0, 0, .null), (31, .iastore, 1, 0, 0, 0, .null), (32, .iload 4, 2, 0, 0, 0, .null), (34, .ifCond .eq 10, 3, 44, 0, 0, .null), (37, .aload_n 0, 1, 0, 0, 0, .null), (38, .getfield 30, 3, 7, 8, 256, .null), (41, .iload_n 2, 1, 0, 0, 0, .null), (42, .iload_n 3, 1, 0, 0, 0, .null), (43, .iastore, 1, 0, 0, 0, .null), (44, .iload 4, 2, 0, 0, 0, .null), (46, .ireturn, 1, 0, 0, 0, .null)]
set_option maxRecDepth 100000 in
theorem oX7_handOver : fc_code mX7_handOver lX7_handOver = true := by decide +kernel
def lX7_canVow : List fc_I := [(0, .aload_n 1, 1, 0, 0, 0, .null), (1, .iload_n 2, 1, 0, 0, 0, .null), (2, .invokevirtual 82, 3, 4, 2, 854, .ref 0), (5, .ifCond .eq 86, 3, 91, 0, 0, .null), (8, .aload_n 1, 1, 0, 0, 0, .null), (9, .iload_n 3, 1, 0, 0, 0, .null), (10, .invokevirtual 82, 3, 4, 2, 854, .ref 0), (13, .ifCond .eq 78, 3, 91, 0, 0, .null), (16, .iload_n 2, 1, 0, 0, 0, .null), (17, .iload_n 3, 1, 0, 0, 0, .null), (18, .if_icmp .eq 73, 3, 91, 0, 0, .null), (21, .aload_n 0, 1, 0, 0, 0, .null), (22, .aload_n 1, 1, 0, 0, 0, .null), (23, .iload_n 2, 1, 0, 0, 0, .null), (24, .invokevirtual 89, 3, 44, 3, 856, .ref 7), (27, .ifCond .eq 64, 3, 91, 0, 0, .null), (30, .aload_n 0, 1, 0, 0, 0, .null), (31, .aload_n 1, 1, 0, 0, 0, .null), (32, .iload_n 3, 1, 0, 0, 0, .null), (33, .invokevirtual 89, 3, 44, 3, 856, .ref 7), (36, .ifCond .eq 55, 3, 91, 0, 0, .null), (39, .aload_n 0, 1, 0, 0, 0, .null), (40, .getfield 9, 3, 7, 2, 245, .null), (43, .iload_n 2, 1, 0, 0, 0, .null), (44, .iaload, 1, 0, 0, 0, .null), (45, .aload_n 0, 1, 0, 0, 0, .null), (46, .getfield 9, 3, 7, 2, 245, .null), (49, .iload_n 3, 1, 0, 0, 0, .null), (50, .iaload, 1, 0, 0, 0, .null), (51, .if_icmp .ne 40, 3, 91, 0, 0, .null), (54, .aload_n 1, 1, 0, 0, 0, .null), (55, .getfield 79, 3, 0, 4, 374, .null), (58, .iload_n 2, 1, 0, 0, 0, .null), (59, .iaload, 1, 0, 0, 0, .null), (60, .iconst 3, 1, 0, 0, 0, .int 3), (61, .if_icmp .eq 30, 3, 91, 0, 0, .null), (64, .aload_n 1, 1, 0, 0, 0, .null), (65, .getfield 79, 3, 0, 4, 374, .null), (68, .iload_n 3, 1, 0, 0, 0, .null), (69, .iaload, 1, 0, 0, 0, .null), (70, .iconst 3, 1, 0, 0, 0, .int 3), (71, .if_icmp .eq 20, 3, 91, 0, 0, .null), (74, .aload_n 0, 1, 0, 0, 0, .null), (75, .getfield 21, 3, 7, 5, 250, .null), (78, .iload_n 2, 1, 0, 0, 0, .null), (79, .iaload, 1, 0, 0, 0, .null), (80, .iload_n 3, 1, 0, 0, 0, .null), (81, .invokestatic 96, 3, 120, 2, 0, .retAddr 1), (84, .ifCond .ne 7, 3, 91, 0, 0, .null), (87, .iconst 1, 1, 0, 0, 0, .int 1), (88, .goto 4, 3, 92, 0, 0, .null), (91, .iconst 0, 1, 0, 0, 0, .int 0), (92, .ireturn, 1, 0, 0, 0, .null)]
set_option maxRecDepth 100000 in
theorem oX7_canVow : fc_code mX7_canVow lX7_canVow = true := by decide +kernel
def lX7_pledge : List fc_I := [(0, .aload_n 0, 1, 0, 0, 0, .null), (1, .aload_n 1, 1, 0, 0, 0, .null), (2, .iload_n 2, 1, 0, 0, 0, .null), (3, .iload_n 3, 1, 0, 0, 0, .null), (4, .iconst 0, 1, 0, 0, 0, .int 0), (5, .aload_n 0, 1, 0, 0, 0, .null), (6, .getfield 37, 3, 7, 1, 243, .null), (9, .invokevirtual 106, 3, 53, 6, 891, .ref 7), (12, .istore 4, 2, 0, 0, 0, .null), (14, .aload_n 0, 1, 0, 0, 0, .null), (15, .getfield 15, 3, 7, 3, 247, .null), (18, .iload_n 2, 1, 0, 0, 0, .null), (19, .iconst 1, 1, 0, 0, 0, .int 1), (20, .iastore, 1, 0, 0, 0, .null), (21, .aload_n 0, 1, 0, 0, 0, .null), (22, .getfield 15, 3, 7, 3, 247, .null), (25, .iload_n 3, 1, 0, 0, 0, .null), (26, .iconst 1, 1, 0, 0, 0, .int 1), (27, .iastore, 1, 0, 0, 0, .null), (28, .aload_n 0, 1, 0, 0, 0, .null), (29, .getfield 21, 3, 7, 5, 250, .null), (32, .iload_n 2, 1, 0, 0, 0, .null), (33, .dup2, 1, 0, 0, 0, .null), (34, .iaload, 1, 0, 0, 0, .null), (35, .iconst 1, 1, 0, 0, 0, .int 1), (36, .iload_n 3, 1, 0, 0, 0, .null), (37, .ishl, 1, 0, 0, 0, .null), (38, .ior, 1, 0, 0, 0, .null), (39, .iastore, 1, 0, 0, 0, .null), (40, .aload_n 0, 1, 0, 0, 0, .null), (41, .getfield 21, 3, 7, 5, 250, .null), (44, .iload_n 3, 1, 0, 0, 0, .null), (45, .dup2, 1, 0, 0, 0, .null), (46, .iaload, 1, 0, 0, 0, .null), (47, .iconst 1, 1, 0, 0, 0, .int 1), (48, .iload_n 2, 1, 0, 0, 0, .null), (49, .ishl, 1, 0, 0, 0, .null), (50, .ior, 1, 0, 0, 0, .null), (51, .iastore, 1, 0, 0, 0, .null), (52, .iload 4, 2, 0, 0, 0, .null), (54, .ifCond .eq 27, 3, 81, 0, 0, .null), (57, .aload_n 0, 1, 0, 0, 0, .null), (58, .getfield 24, 3, 7, 6, 252, .null), (61, .iload_n 2, 1, 0, 0, 0, .null), (62, .dup2, 1, 0, 0, 0, .null), (63, .iaload, 1, 0, 0, 0, .null), (64, .iconst 1, 1, 0, 0, 0, .int 1), (65, .iload_n 3, 1, 0, 0, 0, .null), (66, .ishl, 1, 0, 0, 0, .null), (67, .ior, 1, 0, 0, 0, .null), (68, .iastore, 1, 0, 0, 0, .null), (69, .aload_n 0, 1, 0, 0, 0, .null), (70, .getfield 24, 3, 7, 6, 252, .null), (73, .iload_n 3, 1, 0, 0, 0, .null), (74, .dup2, 1, 0, 0, 0, .null), (75, .iaload, 1, 0, 0, 0, .null), (76, .iconst 1, 1, 0, 0, 0, .int 1), (77, .iload_n 2, 1, 0, 0, 0, .null), (78, .ishl, 1, 0, 0, 0, .null), (79, .ior, 1, 0, 0, 0, .null), (80, .iastore, 1, 0, 0, 0, .null), (81, .iload 4, 2, 0, 0, 0, .null), (83, .ireturn, 1, 0, 0, 0, .null)]
set_option maxRecDepth 100000 in
theorem oX7_pledge : fc_code mX7_pledge lX7_pledge = true := by decide +kernel
def lX7_giftBinds : List fc_I := [(0, .aload_n 0, 1, 0, 0, 0, .null), (1, .aload_n 1, 1, 0, 0, 0, .null), (2, .aload_n 0, 1, 0, 0, 0, .null), (3, .getfield 27, 3, 7, 7, 254, .null), (6, .iload_n 2, 1, 0, 0, 0, .null), (7, .iaload, 1, 0, 0, 0, .null), (8, .iload_n 3, 1, 0, 0, 0, .null), (9, .aload_n 1, 1, 0, 0, 0, .null), (10, .getfield 110, 3, 0, 7, 384, .null), (13, .iload_n 2, 1, 0, 0, 0, .null), (14, .iaload, 1, 0, 0, 0, .null), (15, .iload 4, 2, 0, 0, 0, .null), (17, .invokevirtual 106, 3, 53, 6, 891, .ref 7), (20, .ireturn, 1, 0, 0, 0, .null)]
set_option maxRecDepth 100000 in
theorem oX7_giftBinds : fc_code mX7_giftBinds lX7_giftBinds = true := by decide +kernel
def lX7_isBinding : List fc_I := [(0, .aload_n 0, 1, 0, 0, 0, .null), (1, .aload_n 1, 1, 0, 0, 0, .null), (2, .aload_n 0, 1, 0, 0, 0, .null), (3, .getfield 9, 3, 7, 2, 245, .null), (6, .iload_n 2, 1, 0, 0, 0, .null), (7, .iaload, 1, 0, 0, 0, .null), (8, .invokevirtual 113, 3, 41, 3, 895, .ref 7), (11, .aload_n 1, 1, 0, 0, 0, .null), (12, .iload 5, 2, 0, 0, 0, .null), (14, .invokevirtual 117, 3, 8, 2, 896, .ref 0), (17, .iand, 1, 0, 0, 0, .null), (18, .iconst 1, 1, 0, 0, 0, .int 1), (19, .iload_n 2, 1, 0, 0, 0, .null), (20, .ishl, 1, 0, 0, 0, .null), (21, .iconst (-1), 1, 0, 0, 0, .int (-1)), (22, .ixor, 1, 0, 0, 0, .null), (23, .iand, 1, 0, 0, 0, .null), (24, .iconst 1, 1, 0, 0, 0, .int 1), (25, .iload_n 3, 1, 0, 0, 0, .null), (26, .ishl, 1, 0, 0, 0, .null), (27, .iconst (-1), 1, 0, 0, 0, .int (-1)), (28, .ixor, 1, 0, 0, 0, .null), (29, .iand, 1, 0, 0, 0, .null), (30, .istore 6, 2, 0, 0, 0, .null), (32, .iconst 0, 1, 0, 0, 0, .int 0), (33, .istore 7, 2, 0, 0, 0, .null), (35, .iconst 0, 1, 0, 0, 0, .int 0), (36, .istore 8, 2, 0, 0, 0, .null), (38, .iload 8, 2, 0, 0, 0, .null), (40, .aload_n 1, 1, 0, 0, 0, .null), (41, .getfield 54, 3, 0, 12, 402, .null), (44, .if_icmp .ge 33, 3, 77, 0, 0, .null), (47, .iload 6, 2, 0, 0, 0, .null), (49, .iload 8, 2, 0, 0, 0, .null), (51, .invokestatic 96, 3, 120, 2, 0, .retAddr 1), (54, .ifCond .eq 17, 3, 71, 0, 0, .null), (57, .aload_n 1, 1, 0, 0, 0, .null), (58, .getfield 79, 3, 0, 4, 374, .null), (61, .iload 8, 2, 0, 0, 0, .null), (63, .iaload, 1, 0, 0, 0, .null), (64, .iconst 1, 1, 0, 0, 0, .int 1), (65, .if_icmp .ne 6, 3, 71, 0, 0, .null), (68, .iinc 7 1, 3, 0, 0, 0, .null), (71, .iinc 8 1, 3, 0, 0, 0, .null), (74, .goto (-36), 3, 38, 0, 0, .null), (77, .aload_n 1, 1, 0, 0, 0, .null), (78, .getfield 120, 3, 0, 9, 391, .null), (81, .iload 5, 2, 0, 0, 0, .null), (83, .iload 4, 2, 0, 0, 0, .null), (85, .iload 6, 2, 0, 0, 0, .null), (87, .invokestatic 60, 3, 265, 1, 897, .retAddr 0), (90, .iload 7, 2, 0, 0, 0, .null), (92, .invokevirtual 124, 3, 18, 5, 903, .ref 2), (95, .ifCond .eq 7, 3, 102, 0, 0, .null), (98, .iconst 1, 1, 0, 0, 0, .int 1), (99, .goto 4, 3, 103, 0, 0, .null), (102, .iconst 0, 1, 0, 0, 0, .int 0), (103, .ireturn, 1, 0, 0, 0, .null)]
set_option maxRecDepth 100000 in
theorem oX7_isBinding : fc_code mX7_isBinding lX7_isBinding = true := by decide +kernel
def lX7_pass : List fc_I := [(0, .iconst 0, 1, 0, 0, 0, .int 0), (1, .istore_n 2, 1, 0, 0, 0, .null), (2, .iload_n 2, 1, 0, 0, 0, .null), (3, .aload_n 1, 1, 0, 0, 0, .null), (4, .getfield 130, 3, 0, 10, 397, .null), (7, .if_icmp .ge 29, 3, 36, 0, 0, .null), (10, .aload_n 0, 1, 0, 0, 0, .null), (11, .aload_n 1, 1, 0, 0, 0, .null), (12, .aload_n 0, 1, 0, 0, 0, .null), (13, .aload_n 1, 1, 0, 0, 0, .null), (14, .iload_n 2, 1, 0, 0, 0, .null), (15, .invokevirtual 113, 3, 41, 3, 895, .ref 7), (18, .aload_n 1, 1, 0, 0, 0, .null), (19, .aload_n 0, 1, 0, 0, 0, .null), (20, .getfield 37, 3, 7, 1, 243, .null), (23, .invokevirtual 117, 3, 8, 2, 896, .ref 0), (26, .iand, 1, 0, 0, 0, .null), (27, .invokevirtual 133, 3, 55, 3, 933, .ref 7), (30, .iinc 2 1, 3, 0, 0, 0, .null), (33, .goto (-31), 3, 2, 0, 0, .null), (36, .iconst 0, 1, 0, 0, 0, .int 0), (37, .istore_n 2, 1, 0, 0, 0, .null), (38, .iload_n 2, 1, 0, 0, 0, .null), (39, .iconst 5, 1, 0, 0, 0, .int 5), (40, .if_icmp .ge 27, 3, 67, 0, 0, .null), (43, .aload_n 0, 1, 0, 0, 0, .null), (44, .getfield 15, 3, 7, 3, 247, .null), (47, .iload_n 2, 1, 0, 0, 0, .null), (48, .iconst 0, 1, 0, 0, 0, .int 0), (49, .aload_n 0, 1, 0, 0, 0, .null), (50, .getfield 15, 3, 7, 3, 247, .null), (53, .iload_n 2, 1, 0, 0, 0, .null), (54, .iaload, 1, 0, 0, 0, .null), (55, .iconst 1, 1, 0, 0, 0, .int 1), (56, .isub, 1, 0, 0, 0, .null), (57, .invokestatic 74, 3, 0, 0, 937, .retAddr 10), (60, .iastore, 1, 0, 0, 0, .null), (61, .iinc 2 1, 3, 0, 0, 0, .null), (64, .goto (-26), 3, 38, 0, 0, .null), (67, .aload_n 0, 1, 0, 0, 0, .null), (68, .dup, 1, 0, 0, 0, .null), (69, .getfield 37, 3, 7, 1, 243, .null), (72, .iconst 1, 1, 0, 0, 0, .int 1), (73, .iadd, 1, 0, 0, 0, .null), (74, .putfield 37, 3, 7, 1, 243, .null), (77, .aload_n 0, 1, 0, 0, 0, .null), (78, .getfield 37, 3, 7, 1, 243, .null), (81, .aload_n 1, 1, 0, 0, 0, .null), (82, .getfield 137, 3, 0, 14, 413, .null), (85, .if_icmp .ge 5, 3, 90, 0, 0, .null), (88, .iconst 0, 1, 0, 0, 0, .int 0), (89, .ireturn, 1, 0, 0, 0, .null), (90, .aload_n 0, 1, 0, 0, 0, .null), (91, .aload_n 1, 1, 0, 0, 0, .null), (92, .invokevirtual 140, 3, 56, 2, 938, .ref 7), (95, .iconst 1, 1, 0, 0, 0, .int 1), (96, .ireturn, 1, 0, 0, 0, .null)]
set_option maxRecDepth 100000 in
theorem oX7_pass : fc_code mX7_pass lX7_pass = true := by decide +kernel
def lX7_shareNews : List fc_I := [(0, .iconst 0, 1, 0, 0, 0, .int 0), (1, .istore_n 3, 1, 0, 0, 0, .null), (2, .iconst 0, 1, 0, 0, 0, .int 0), (3, .istore 4, 2, 0, 0, 0, .null), (5, .iload 4, 2, 0, 0, 0, .null), (7, .aload_n 1, 1, 0, 0, 0, .null), (8, .getfield 54, 3, 0, 12, 402, .null), (11, .if_icmp .ge 28, 3, 39, 0, 0, .null), (14, .iload_n 2, 1, 0, 0, 0, .null), (15, .iload 4, 2, 0, 0, 0, .null), (17, .invokestatic 96, 3, 120, 2, 0, .retAddr 1), (20, .ifCond .eq 13, 3, 33, 0, 0, .null), (23, .iload_n 3, 1, 0, 0, 0, .null), (24, .aload_n 0, 1, 0, 0, 0, .null), (25, .getfield 18, 3, 7, 4, 248, .null), (28, .iload 4, 2, 0, 0, 0, .null), (30, .iaload, 1, 0, 0, 0, .null), (31, .ior, 1, 0, 0, 0, .null), (32, .istore_n 3, 1, 0, 0, 0, .null), (33, .iinc 4 1, 3, 0, 0, 0, .null), (36, .goto (-31), 3, 5, 0, 0, .null), (39, .iconst 0, 1, 0, 0, 0, .int 0), (40, .istore 4, 2, 0, 0, 0, .null), (42, .iload 4, 2, 0, 0, 0, .null), (44, .aload_n 1, 1, 0, 0, 0, .null), (45, .getfield 54, 3, 0, 12, 402, .null), (48, .if_icmp .ge 26, 3, 74, 0, 0, .null), (51, .iload_n 2, 1, 0, 0, 0, .null), (52, .iload 4, 2, 0, 0, 0, .null), (54, .invokestatic 96, 3, 120, 2, 0, .retAddr 1), (57, .ifCond .eq 11, 3, 68, 0, 0, .null), (60, .aload_n 0, 1, 0, 0, 0, .null), (61, .getfield 18, 3, 7, 4, 248, .null), (64, .iload 4, 2, 0, 0, 0, .null), (66, .iload_n 3, 1, 0, 0, 0, .null), (67, .iastore, 1, 0, 0, 0, .null), (68, .iinc 4 1, 3, 0, 0, 0, .null), (71, .goto (-29), 3, 42, 0, 0, .null), (74, .return_, 1, 0, 0, 0, .null)]
set_option maxRecDepth 100000 in
theorem oX7_shareNews : fc_code mX7_shareNews lX7_shareNews = true := by decide +kernel
def lX7_riseSmoke : List fc_I := [(0, .aload_n 0, 1, 0, 0, 0, .null), (1, .getfield 30, 3, 7, 8, 256, .null), (4, .iconst 0, 1, 0, 0, 0, .int 0), (5, .aload_n 0, 1, 0, 0, 0, .null), (6, .getfield 27, 3, 7, 7, 254, .null), (9, .iconst 0, 1, 0, 0, 0, .int 0), (10, .bipush 6, 2, 0, 0, 0, .int 6), (12, .invokestatic 48, 3, 0, 0, 866, .retAddr 12), (15, .aload_n 0, 1, 0, 0, 0, .null), (16, .getfield 24, 3, 7, 6, 252, .null), (19, .iconst 0, 1, 0, 0, 0, .int 0), (20, .aload_n 0, 1, 0, 0, 0, .null), (21, .getfield 21, 3, 7, 5, 250, .null), (24, .iconst 0, 1, 0, 0, 0, .int 0), (25, .iconst 5, 1, 0, 0, 0, .int 5), (26, .invokestatic 48, 3, 0, 0, 866, .retAddr 12), (29, .aload_n 1, 1, 0, 0, 0, .null), (30, .getfield 40, 3, 0, 5, 376, .null), (33, .iconst 0, 1, 0, 0, 0, .int 0), (34, .aload_n 0, 1, 0, 0, 0, .null), (35, .getfield 9, 3, 7, 2, 245, .null), (38, .iconst 0, 1, 0, 0, 0, .int 0), (39, .iconst 5, 1, 0, 0, 0, .int 5), (40, .invokestatic 48, 3, 0, 0, 866, .retAddr 12), (43, .aload_n 0, 1, 0, 0, 0, .null), (44, .getfield 15, 3, 7, 3, 247, .null), (47, .iconst 0, 1, 0, 0, 0, .int 0), (48, .invokestatic 144, 3, 288, 2, 942, .retAddr 0), (51, .aload_n 0, 1, 0, 0, 0, .null), (52, .iconst 0, 1, 0, 0, 0, .int 0), (53, .putfield 37, 3, 7, 1, 243, .null), (56, .aload_n 0, 1, 0, 0, 0, .null), (57, .dup, 1, 0, 0, 0, .null), (58, .getfield 33, 3, 7, 0, 241, .null), (61, .iconst 1, 1, 0, 0, 0, .int 1), (62, .iadd, 1, 0, 0, 0, .null), (63, .putfield 33, 3, 7, 0, 241, .null), (66, .return_, 1, 0, 0, 0, .null)]
set_option maxRecDepth 100000 in
theorem oX7_riseSmoke : fc_code mX7_riseSmoke lX7_riseSmoke = true := by decide +kernel
def lX9_measure : List fc_I := [(0, .iconst 0, 1, 0, 0, 0, .int 0), (1, .istore_n 2, 1, 0, 0, 0, .null), (2, .iload_n 2, 1, 0, 0, 0, .null), (3, .aload_n 1, 1, 0, 0, 0, .null), (4, .getfield 23, 3, 0, 10, 392, .null), (7, .if_icmp .ge 15, 3, 22, 0, 0, .null), (10, .aload_n 0, 1, 0, 0, 0, .null), (11, .aload_n 1, 1, 0, 0, 0, .null), (12, .iload_n 2, 1, 0, 0, 0, .null), (13, .invokevirtual 29, 3, 69, 3, 760, .ref 9), (16, .iinc 2 1, 3, 0, 0, 0, .null), (19, .goto (-17), 3, 2, 0, 0, .null), (22, .return_, 1, 0, 0, 0, .null)]
set_option maxRecDepth 100000 in
theorem oX9_measure : fc_code mX9_measure lX9_measure = true := by decide +kernel
def lX9_measureFrom : List fc_I := [(0, .aload_n 0, 1, 0, 0, 0, .null), (1, .getfield 11, 3, 9, 0, 224, .null), (4, .iload_n 2, 1, 0, 0, 0, .null), (5, .aaload, 1, 0, 0, 0, .null), (6, .sipush 1000, 3, 0, 0, 0, .int 1000), (9, .invokestatic 33, 3, 288, 2, 764, .retAddr 0), (12, .iconst 1, 1, 0, 0, 0, .int 1), (13, .iload_n 2, 1, 0, 0, 0, .null), (14, .ishl, 1, 0, 0, 0, .null), (15, .istore_n 3, 1, 0, 0, 0, .null), (16, .iconst 0, 1, 0, 0, 0, .int 0), (17, .istore 4, 2, 0, 0, 0, .null), (19, .iconst 0, 1, 0, 0, 0, .int 0), (20, .istore 5, 2, 0, 0, 0, .null), (22, .iload 5, 2, 0, 0, 0, .null), (24, .aload_n 1, 1, 0, 0, 0, .null), (25, .getfield 23, 3, 0, 10, 392, .null), (28, .if_icmp .ge 64, 3, 92, 0, 0, .null), (31, .iload 4, 2, 0, 0, 0, .null), (33, .iload_n 3, 1, 0, 0, 0, .null), (34, .ior, 1, 0, 0, 0, .null), (35, .istore 4, 2, 0, 0, 0, .null), (37, .iconst 0, 1, 0, 0, 0, .int 0), (38, .istore 6, 2, 0, 0, 0, .null), (40, .iload 6, 2, 0, 0, 0, .null), (42, .aload_n 1, 1, 0, 0, 0, .null), (43, .getfield 23, 3, 0, 10, 392, .null), (46, .if_icmp .ge 29, 3, 75, 0, 0, .null), (49, .iload_n 3, 1, 0, 0, 0, .null), (50, .iload 6, 2, 0, 0, 0, .null), (52, .invokestatic 39, 3, 120, 2, 0, .retAddr 1), (55, .ifCond .eq 14, 3, 69, 0, 0, .null), (58, .aload_n 0, 1, 0, 0, 0, .null), (59, .getfield 11, 3, 9, 0, 224, .null), (62, .iload_n 2, 1, 0, 0, 0, .null), (63, .aaload, 1, 0, 0, 0, .null), (64, .iload 6, 2, 0, 0, 0, .null), (66, .iload 5, 2, 0, 0, 0, .null), (68, .iastore, 1, 0, 0, 0, .null), (69, .iinc 6 1, 3, 0, 0, 0, .null), (72, .goto (-32), 3, 40, 0, 0, .null), (75, .aload_n 1, 1, 0, 0, 0, .null), (76, .iload_n 3, 1, 0, 0, 0, .null), (77, .invokestatic 43, 3, 70, 2, 766, .retAddr 0), (80, .iload 4, 2, 0, 0, 0, .null), (82, .iconst (-1), 1, 0, 0, 0, .int (-1)), (83, .ixor, 1, 0, 0, 0, .null), (84, .iand, 1, 0, 0, 0, .null), (85, .istore_n 3, 1, 0, 0, 0, .null), (86, .iinc 5 1, 3, 0, 0, 0, .null), (89, .goto (-67), 3, 22, 0, 0, .null), (92, .return_, 1, 0, 0, 0, .null)]
set_option maxRecDepth 100000 in
theorem oX9_measureFrom : fc_code mX9_measureFrom lX9_measureFrom = true := by decide +kernel
def lX9_neighbours : List fc_I := [(0, .iconst 0, 1, 0, 0, 0, .int 0), (1, .istore_n 2, 1, 0, 0, 0, .null), (2, .iconst 0, 1, 0, 0, 0, .int 0), (3, .istore_n 3, 1, 0, 0, 0, .null), (4, .iload_n 3, 1, 0, 0, 0, .null), (5, .aload_n 0, 1, 0, 0, 0, .null), (6, .getfield 23, 3, 0, 10, 392, .null), (9, .if_icmp .ge 26, 3, 35, 0, 0, .null), (12, .iload_n 1, 1, 0, 0, 0, .null), (13, .iload_n 3, 1, 0, 0, 0, .null), (14, .invokestatic 39, 3, 120, 2, 0, .retAddr 1), (17, .ifCond .eq 12, 3, 29, 0, 0, .null), (20, .iload_n 2, 1, 0, 0, 0, .null), (21, .aload_n 0, 1, 0, 0, 0, .null), (22, .getfield 47, 3, 0, 3, 367, .null), (25, .iload_n 3, 1, 0, 0, 0, .null), (26, .iaload, 1, 0, 0, 0, .null), (27, .ior, 1, 0, 0, 0, .null), (28, .istore_n 2, 1, 0, 0, 0, .null), (29, .iinc 3 1, 3, 0, 0, 0, .null), (32, .goto (-28), 3, 4, 0, 0, .null), (35, .iload_n 2, 1, 0, 0, 0, .null), (36, .ireturn, 1, 0, 0, 0, .null)]
set_option maxRecDepth 100000 in
theorem oX9_neighbours : fc_code mX9_neighbours lX9_neighbours = true := by decide +kernel
def lX9_spread : List fc_I := [(0, .iconst 1, 1, 0, 0, 0, .int 1), (1, .iload_n 2, 1, 0, 0, 0, .null), (2, .ishl, 1, 0, 0, 0, .null), (3, .istore 4, 2, 0, 0, 0, .null), (5, .iconst 0, 1, 0, 0, 0, .int 0), (6, .istore 5, 2, 0, 0, 0, .null), (8, .iload 5, 2, 0, 0, 0, .null), (10, .aload_n 1, 1, 0, 0, 0, .null), (11, .getfield 23, 3, 0, 10, 392, .null), (14, .if_icmp .ge 24, 3, 38, 0, 0, .null), (17, .iload 4, 2, 0, 0, 0, .null), (19, .aload_n 1, 1, 0, 0, 0, .null), (20, .iload 4, 2, 0, 0, 0, .null), (22, .invokestatic 43, 3, 70, 2, 766, .retAddr 0), (25, .iload_n 3, 1, 0, 0, 0, .null), (26, .iconst (-1), 1, 0, 0, 0, .int (-1)), (27, .ixor, 1, 0, 0, 0, .null), (28, .iand, 1, 0, 0, 0, .null), (29, .ior, 1, 0, 0, 0, .null), (30, .istore 4, 2, 0, 0, 0, .null), (32, .iinc 5 1, 3, 0, 0, 0, .null), (35, .goto (-27), 3, 8, 0, 0, .null), (38, .iload 4, 2, 0, 0, 0, .null), (40, .ireturn, 1, 0, 0, 0, .null)]
set_option maxRecDepth 100000 in
theorem oX9_spread : fc_code mX9_spread lX9_spread = true := by decide +kernel
def lX9_isCut : List fc_I := [(0, .aload_n 0, 1, 0, 0, 0, .null), (1, .aload_n 1, 1, 0, 0, 0, .null), (2, .iload_n 2, 1, 0, 0, 0, .null), (3, .iconst 0, 1, 0, 0, 0, .int 0), (4, .invokevirtual 49, 3, 71, 4, 1012, .ref 9), (7, .iconst 1, 1, 0, 0, 0, .int 1), (8, .iload_n 2, 1, 0, 0, 0, .null), (9, .ishl, 1, 0, 0, 0, .null), (10, .iconst (-1), 1, 0, 0, 0, .int (-1)), (11, .ixor, 1, 0, 0, 0, .null), (12, .iand, 1, 0, 0, 0, .null), (13, .istore_n 3, 1, 0, 0, 0, .null), (14, .iconst 0, 1, 0, 0, 0, .int 0), (15, .istore 4, 2, 0, 0, 0, .null), (17, .iload 4, 2, 0, 0, 0, .null), (19, .aload_n 1, 1, 0, 0, 0, .null), (20, .getfield 23, 3, 0, 10, 392, .null), (23, .if_icmp .ge 38, 3, 61, 0, 0, .null), (26, .iload_n 3, 1, 0, 0, 0, .null), (27, .iload 4, 2, 0, 0, 0, .null), (29, .invokestatic 39, 3, 120, 2, 0, .retAddr 1), (32, .ifCond .eq 23, 3, 55, 0, 0, .null), (35, .aload_n 0, 1, 0, 0, 0, .null), (36, .aload_n 1, 1, 0, 0, 0, .null), (37, .iload 4, 2, 0, 0, 0, .null), (39, .iconst 1, 1, 0, 0, 0, .int 1), (40, .iload_n 2, 1, 0, 0, 0, .null), (41, .ishl, 1, 0, 0, 0, .null), (42, .invokevirtual 49, 3, 71, 4, 1012, .ref 9), (45, .iload_n 3, 1, 0, 0, 0, .null), (46, .if_icmp .eq 7, 3, 53, 0, 0, .null), (49, .iconst 1, 1, 0, 0, 0, .int 1), (50, .goto 4, 3, 54, 0, 0, .null), (53, .iconst 0, 1, 0, 0, 0, .int 0), (54, .ireturn, 1, 0, 0, 0, .null), (55, .iinc 4 1, 3, 0, 0, 0, .null), (58, .goto (-41), 3, 17, 0, 0, .null), (61, .iconst 0, 1, 0, 0, 0, .int 0), (62, .ireturn, 1, 0, 0, 0, .null)]
set_option maxRecDepth 100000 in
theorem oX9_isCut : fc_code mX9_isCut lX9_isCut = true := by decide +kernel
def lX9_farthestFrom : List fc_I := [(0, .iconst 0, 1, 0, 0, 0, .int 0), (1, .istore_n 3, 1, 0, 0, 0, .null), (2, .iconst 0, 1, 0, 0, 0, .int 0), (3, .istore 4, 2, 0, 0, 0, .null), (5, .iload 4, 2, 0, 0, 0, .null), (7, .aload_n 1, 1, 0, 0, 0, .null), (8, .getfield 23, 3, 0, 10, 392, .null), (11, .if_icmp .ge 38, 3, 49, 0, 0, .null), (14, .aload_n 0, 1, 0, 0, 0, .null), (15, .getfield 11, 3, 9, 0, 224, .null), (18, .iload_n 2, 1, 0, 0, 0, .null), (19, .aaload, 1, 0, 0, 0, .null), (20, .iload 4, 2, 0, 0, 0, .null), (22, .iaload, 1, 0, 0, 0, .null), (23, .sipush 1000, 3, 0, 0, 0, .int 1000), (26, .if_icmp .ge 17, 3, 43, 0, 0, .null), (29, .iload_n 3, 1, 0, 0, 0, .null), (30, .aload_n 0, 1, 0, 0, 0, .null), (31, .getfield 11, 3, 9, 0, 224, .null), (34, .iload_n 2, 1, 0, 0, 0, .null), (35, .aaload, 1, 0, 0, 0, .null), (36, .iload 4, 2, 0, 0, 0, .null), (38, .iaload, 1, 0, 0, 0, .null), (39, .invokestatic 53, 3, 0, 0, 1101, .retAddr 10), (42, .istore_n 3, 1, 0, 0, 0, .null), (43, .iinc 4 1, 3, 0, 0, 0, .null), (46, .goto (-41), 3, 5, 0, 0, .null), (49, .iload_n 3, 1, 0, 0, 0, .null), (50, .ireturn, 1, 0, 0, 0, .null)]
set_option maxRecDepth 100000 in
theorem oX9_farthestFrom : fc_code mX9_farthestFrom lX9_farthestFrom = true := by decide +kernel
def lX9_pathsOfTour : List fc_I := [(0, .aload_n 0, 1, 0, 0, 0, .null), (1, .aload_n 1, 1, 0, 0, 0, .null), (2, .iload_n 2, 1, 0, 0, 0, .null), (3, .iconst 0, 1, 0, 0, 0, .int 0), (4, .invokevirtual 49, 3, 71, 4, 1012, .ref 9), (7, .istore_n 3, 1, 0, 0, 0, .null), (8, .aload_n 0, 1, 0, 0, 0, .null), (9, .getfield 16, 3, 9, 1, 226, .null), (12, .iconst 0, 1, 0, 0, 0, .int 0), (13, .invokestatic 33, 3, 288, 2, 764, .retAddr 0), (16, .aload_n 0, 1, 0, 0, 0, .null), (17, .getfield 16, 3, 9, 1, 226, .null), (20, .iconst 1, 1, 0, 0, 0, .int 1), (21, .iload_n 2, 1, 0, 0, 0, .null), (22, .ishl, 1, 0, 0, 0, .null), (23, .iconst 1, 1, 0, 0, 0, .int 1), (24, .iload_n 2, 1, 0, 0, 0, .null), (25, .ishl, 1, 0, 0, 0, .null), (26, .iastore, 1, 0, 0, 0, .null), (27, .iconst 0, 1, 0, 0, 0, .int 0), (28, .istore 4, 2, 0, 0, 0, .null), (30, .iload 4, 2, 0, 0, 0, .null), (32, .bipush 14, 2, 0, 0, 0, .int 14), (34, .if_icmp .gt 26, 3, 60, 0, 0, .null), (37, .aload_n 0, 1, 0, 0, 0, .null), (38, .getfield 16, 3, 9, 1, 226, .null), (41, .iload_n 3, 1, 0, 0, 0, .null), (42, .iaload, 1, 0, 0, 0, .null), (43, .ifCond .eq 6, 3, 49, 0, 0, .null), (46, .iload 4, 2, 0, 0, 0, .null), (48, .ireturn, 1, 0, 0, 0, .null), (49, .aload_n 0, 1, 0, 0, 0, .null), (50, .aload_n 1, 1, 0, 0, 0, .null), (51, .invokevirtual 59, 3, 75, 2, 1016, .ref 9), (54, .iinc 4 1, 3, 0, 0, 0, .null), (57, .goto (-27), 3, 30, 0, 0, .null), (60, .sipush 1000, 3, 0, 0, 0, .int 1000), (63, .ireturn, 1, 0, 0, 0, .null)]
set_option maxRecDepth 100000 in
theorem oX9_pathsOfTour : fc_code mX9_pathsOfTour lX9_pathsOfTour = true := by decide +kernel
def lX9_stepOn : List fc_I := [(0, .aload_n 0, 1, 0, 0, 0, .null), (1, .getfield 20, 3, 9, 2, 227, .null), (4, .iconst 0, 1, 0, 0, 0, .int 0), (5, .invokestatic 33, 3, 288, 2, 764, .retAddr 0), (8, .iconst 0, 1, 0, 0, 0, .int 0), (9, .istore_n 2, 1, 0, 0, 0, .null), (10, .iload_n 2, 1, 0, 0, 0, .null), (11, .sipush 128, 3, 0, 0, 0, .int 128), (14, .if_icmp .ge 65, 3, 79, 0, 0, .null), (17, .aload_n 1, 1, 0, 0, 0, .null), (18, .aload_n 0, 1, 0, 0, 0, .null), (19, .getfield 16, 3, 9, 1, 226, .null), (22, .iload_n 2, 1, 0, 0, 0, .null), (23, .iaload, 1, 0, 0, 0, .null), (24, .invokestatic 43, 3, 70, 2, 766, .retAddr 0), (27, .istore_n 3, 1, 0, 0, 0, .null), (28, .iconst 0, 1, 0, 0, 0, .int 0), (29, .istore 4, 2, 0, 0, 0, .null), (31, .iload 4, 2, 0, 0, 0, .null), (33, .aload_n 1, 1, 0, 0, 0, .null), (34, .getfield 23, 3, 0, 10, 392, .null), (37, .if_icmp .ge 36, 3, 73, 0, 0, .null), (40, .iload_n 3, 1, 0, 0, 0, .null), (41, .iload 4, 2, 0, 0, 0, .null), (43, .invokestatic 39, 3, 120, 2, 0, .retAddr 1), (46, .ifCond .eq 21, 3, 67, 0, 0, .null), (49, .aload_n 0, 1, 0, 0, 0, .null), (50, .getfield 20, 3, 9, 2, 227, .null), (53, .iload_n 2, 1, 0, 0, 0, .null), (54, .iconst 1, 1, 0, 0, 0, .int 1), (55, .iload 4, 2, 0, 0, 0, .null), (57, .ishl, 1, 0, 0, 0, .null), (58, .ior, 1, 0, 0, 0, .null), (59, .dup2, 1, 0, 0, 0, .null), (60, .iaload, 1, 0, 0, 0, .null), (61, .iconst 1, 1, 0, 0, 0, .int 1), (62, .iload 4, 2, 0, 0, 0, .null), (64, .ishl, 1, 0, 0, 0, .null), (65, .ior, 1, 0, 0, 0, .null), (66, .iastore, 1, 0, 0, 0, .null), (67, .iinc 4 1, 3, 0, 0, 0, .null), (70, .goto (-39), 3, 31, 0, 0, .null), (73, .iinc 2 1, 3, 0, 0, 0, .null), (76, .goto (-66), 3, 10, 0, 0, .null), (79, .aload_n 0, 1, 0, 0, 0, .null), (80, .getfield 16, 3, 9, 1, 226, .null), (83, .astore_n 2, 1, 0, 0, 0, .null), (84, .aload_n 0, 1, 0, 0, 0, .null), (85, .aload_n 0, 1, 0, 0, 0, .null), (86, .getfield 20, 3, 9, 2, 227, .null), (89, .putfield 16, 3, 9, 1, 226, .null), (92, .aload_n 0, 1, 0, 0, 0, .null), (93, .aload_n 2, 1, 0, 0, 0, .null), (94, .putfield 20, 3, 9, 2, 227, .null), (97, .return_, 1, 0, 0, 0, .null)]
set_option maxRecDepth 100000 in
theorem oX9_stepOn : fc_code mX9_stepOn lX9_stepOn = true := by decide +kernel
def lJ6_bitCount_0f7a4 : List fc_I := [(0, .iload_n 0, 1, 0, 0, 0, .null), (1, .iload_n 0, 1, 0, 0, 0, .null), (2, .iconst 1, 1, 0, 0, 0, .int 1), (3, .iushr, 1, 0, 0, 0, .null), (4, .ldc_w 265, 3, 0, 0, 900, .int 1431655765), (7, .iand, 1, 0, 0, 0, .null), (8, .isub, 1, 0, 0, 0, .null), (9, .istore_n 0, 1, 0, 0, 0, .null), (10, .iload_n 0, 1, 0, 0, 0, .null), (11, .ldc_w 266, 3, 0, 0, 901, .int 858993459), (14, .iand, 1, 0, 0, 0, .null), (15, .iload_n 0, 1, 0, 0, 0, .null), (16, .iconst 2, 1, 0, 0, 0, .int 2), (17, .iushr, 1, 0, 0, 0, .null), (18, .ldc_w 266, 3, 0, 0, 901, .int 858993459), (21, .iand, 1, 0, 0, 0, .null), (22, .iadd, 1, 0, 0, 0, .null), (23, .istore_n 0, 1, 0, 0, 0, .null), (24, .iload_n 0, 1, 0, 0, 0, .null), (25, .iload_n 0, 1, 0, 0, 0, .null), (26, .iconst 4, 1, 0, 0, 0, .int 4), (27, .iushr, 1, 0, 0, 0, .null), (28, .iadd, 1, 0, 0, 0, .null), (29, .ldc_w 267, 3, 0, 0, 902, .int 252645135), (32, .iand, 1, 0, 0, 0, .null), (33, .istore_n 0, 1, 0, 0, 0, .null), (34, .iload_n 0, 1, 0, 0, 0, .null), (35, .iload_n 0, 1, 0, 0, 0, .null), (36, .bipush 8, 2, 0, 0, 0, .int 8), (38, .iushr, 1, 0, 0, 0, .null), (39, .iadd, 1, 0, 0, 0, .null), (40, .istore_n 0, 1, 0, 0, 0, .null), (41, .iload_n 0, 1, 0, 0, 0, .null), (42, .iload_n 0, 1, 0, 0, 0, .null), (43, .bipush 16, 2, 0, 0, 0, .int 16), (45, .iushr, 1, 0, 0, 0, .null), (46, .iadd, 1, 0, 0, 0, .null), (47, .istore_n 0, 1, 0, 0, 0, .null), (48, .iload_n 0, 1, 0, 0, 0, .null), (49, .bipush 63, 2, 0, 0, 0, .int 63), (51, .iand, 1, 0, 0, 0, .null), (52, .ireturn, 1, 0, 0, 0, .null)]
set_option maxRecDepth 100000 in
theorem oJ6_bitCount_0f7a4 : fc_code mJ6_bitCount_0f7a4 lJ6_bitCount_0f7a4 = true := by decide +kernel
def lJ7_fill_53178 : List fc_I := [(0, .iconst 0, 1, 0, 0, 0, .int 0), (1, .istore_n 2, 1, 0, 0, 0, .null), (2, .aload_n 0, 1, 0, 0, 0, .null), (3, .arraylength, 1, 0, 0, 0, .null), (4, .istore_n 3, 1, 0, 0, 0, .null), (5, .iload_n 2, 1, 0, 0, 0, .null), (6, .iload_n 3, 1, 0, 0, 0, .null), (7, .if_icmp .ge 13, 3, 20, 0, 0, .null), (10, .aload_n 0, 1, 0, 0, 0, .null), (11, .iload_n 2, 1, 0, 0, 0, .null), (12, .iload_n 1, 1, 0, 0, 0, .null), (13, .iastore, 1, 0, 0, 0, .null), (14, .iinc 2 1, 3, 0, 0, 0, .null), (17, .goto (-12), 3, 5, 0, 0, .null), (20, .return_, 1, 0, 0, 0, .null)]
set_option maxRecDepth 100000 in
theorem oJ7_fill_53178 : fc_code mJ7_fill_53178 lJ7_fill_53178 = true := by decide +kernel
end
section
/-! ===== code of the methods, with what it links to ===== -/
def lX10_feed : List fc_I := [(0, .aload_n 0, 1, 0, 0, 0, .null), (1, .getfield 12, 3, 10, 0, 466, .null), (4, .lload_n 1, 1, 0, 0, 0, .null), (5, .invokevirtual 74, 3, 57, 2, 507, .ref 8), (8, .aload_n 0, 1, 0, 0, 0, .null), (9, .getfield 12, 3, 10, 0, 466, .null), (12, .lload_n 3, 1, 0, 0, 0, .null), (13, .invokevirtual 74, 3, 57, 2, 507, .ref 8), (16, .aload_n 0, 1, 0, 0, 0, .null), (17, .getfield 12, 3, 10, 0, 466, .null), (20, .lload 5, 2, 0, 0, 0, .null), (22, .invokevirtual 74, 3, 57, 2, 507, .ref 8), (25, .aload_n 0, 1, 0, 0, 0, .null), (26, .getfield 12, 3, 10, 0, 466, .null), (29, .getfield 78, 3, 8, 1, 146, .null), (32, .ireturn, 1, 0, 0, 0, .null)]
set_option maxRecDepth 100000 in
theorem oX10_feed : fc_code mX10_feed lX10_feed = true := by decide +kernel
def lX10_land : List fc_I := [(0, .aload_n 0, 1, 0, 0, 0, .null), (1, .getfield 19, 3, 10, 1, 467, .null), (4, .aload_n 0, 1, 0, 0, 0, .null), (5, .getfield 12, 3, 10, 0, 466, .null), (8, .aload_n 0, 1, 0, 0, 0, .null), (9, .getfield 61, 3, 10, 8, 474, .null), (12, .invokevirtual 82, 3, 9, 3, 518, .ref 1), (15, .istore_n 1, 1, 0, 0, 0, .null), (16, .aload_n 0, 1, 0, 0, 0, .null), (17, .getfield 12, 3, 10, 0, 466, .null), (20, .invokevirtual 86, 3, 58, 1, 752, .ref 8), (23, .iload_n 1, 1, 0, 0, 0, .null), (24, .ifCond .eq 5, 3, 29, 0, 0, .null), (27, .iload_n 1, 1, 0, 0, 0, .null), (28, .ireturn, 1, 0, 0, 0, .null), (29, .aload_n 0, 1, 0, 0, 0, .null), (30, .getfield 61, 3, 10, 8, 474, .null), (33, .astore_n 2, 1, 0, 0, 0, .null), (34, .aload_n 0, 1, 0, 0, 0, .null), (35, .aload_n 0, 1, 0, 0, 0, .null), (36, .getfield 57, 3, 10, 7, 473, .null), (39, .putfield 61, 3, 10, 8, 474, .null), (42, .aload_n 0, 1, 0, 0, 0, .null), (43, .aload_n 2, 1, 0, 0, 0, .null), (44, .putfield 57, 3, 10, 7, 473, .null), (47, .aload_n 0, 1, 0, 0, 0, .null), (48, .getfield 26, 3, 10, 2, 468, .null), (51, .aload_n 0, 1, 0, 0, 0, .null), (52, .getfield 57, 3, 10, 7, 473, .null), (55, .invokevirtual 89, 3, 68, 2, 756, .ref 9), (58, .aload_n 0, 1, 0, 0, 0, .null), (59, .getfield 33, 3, 10, 3, 469, .null), (62, .aload_n 0, 1, 0, 0, 0, .null), (63, .getfield 57, 3, 10, 7, 473, .null), (66, .invokevirtual 93, 3, 39, 2, 769, .ref 7), (69, .aload_n 0, 1, 0, 0, 0, .null), (70, .getfield 67, 3, 10, 9, 475, .null), (73, .iconst 0, 1, 0, 0, 0, .int 0), (74, .putfield 96, 3, 5, 3, 456, .null), (77, .aload_n 0, 1, 0, 0, 0, .null), (78, .getfield 50, 3, 10, 6, 472, .null), (81, .iconst 0, 1, 0, 0, 0, .int 0), (82, .putfield 99, 3, 6, 3, 300, .null), (85, .aload_n 0, 1, 0, 0, 0, .null), (86, .getfield 43, 3, 10, 5, 471, .null), (89, .invokevirtual 102, 3, 28, 1, 773, .ref 4), (92, .iconst 0, 1, 0, 0, 0, .int 0), (93, .ireturn, 1, 0, 0, 0, .null)]
set_option maxRecDepth 100000 in
theorem oX10_land : fc_code mX10_land lX10_land = true := by decide +kernel
def lX10_morning : List fc_I := [(0, .aload_n 0, 1, 0, 0, 0, .null), (1, .getfield 71, 3, 10, 10, 476, .null), (4, .aload_n 0, 1, 0, 0, 0, .null), (5, .getfield 12, 3, 10, 0, 466, .null), (8, .aload_n 0, 1, 0, 0, 0, .null), (9, .getfield 57, 3, 10, 7, 473, .null), (12, .invokevirtual 105, 3, 33, 3, 782, .ref 5), (15, .istore_n 1, 1, 0, 0, 0, .null), (16, .aload_n 0, 1, 0, 0, 0, .null), (17, .getfield 12, 3, 10, 0, 466, .null), (20, .invokevirtual 86, 3, 58, 1, 752, .ref 8), (23, .iload_n 1, 1, 0, 0, 0, .null), (24, .ifCond .eq 5, 3, 29, 0, 0, .null), (27, .iload_n 1, 1, 0, 0, 0, .null), (28, .ireturn, 1, 0, 0, 0, .null), (29, .aload_n 0, 1, 0, 0, 0, .null), (30, .getfield 71, 3, 10, 10, 476, .null), (33, .astore_n 2, 1, 0, 0, 0, .null), (34, .aload_n 0, 1, 0, 0, 0, .null), (35, .aload_n 0, 1, 0, 0, 0, .null), (36, .getfield 67, 3, 10, 9, 475, .null), (39, .putfield 71, 3, 10, 10, 476, .null), (42, .aload_n 0, 1, 0, 0, 0, .null), (43, .aload_n 2, 1, 0, 0, 0, .null), (44, .putfield 67, 3, 10, 9, 475, .null), (47, .iconst 0, 1, 0, 0, 0, .int 0), (48, .ireturn, 1, 0, 0, 0, .null)]
set_option maxRecDepth 100000 in
theorem oX10_morning : fc_code mX10_morning lX10_morning = true := by decide +kernel
def lX10_place : List fc_I := [(0, .aload_n 0, 1, 0, 0, 0, .null), (1, .getfield 57, 3, 10, 7, 473, .null), (4, .iload_n 1, 1, 0, 0, 0, .null), (5, .invokevirtual 106, 3, 3, 2, 804, .ref 0), (8, .ifCond .ne 5, 3, 13, 0, 0, .null), (11, .iconst (-1), 1, 0, 0, 0, .int (-1)), (12, .ireturn, 1, 0, 0, 0, .null), (13, .iload_n 2, 1, 0, 0, 0, .null), (14, .tableswitch 77 0 2 #[26, 36, 49], 26, 0, 0, 0, .null), (40, .aload_n 0, 1, 0, 0, 0, .null), (41, .getfield 57, 3, 10, 7, 473, .null), (44, .getfield 110, 3, 0, 3, 368, .null), (47, .iload_n 1, 1, 0, 0, 0, .null), (48, .iaload, 1, 0, 0, 0, .null), (49, .ireturn, 1, 0, 0, 0, .null), (50, .aload_n 0, 1, 0, 0, 0, .null), (51, .getfield 33, 3, 10, 3, 469, .null), (54, .aload_n 0, 1, 0, 0, 0, .null), (55, .getfield 57, 3, 10, 7, 473, .null), (58, .iload_n 1, 1, 0, 0, 0, .null), (59, .invokevirtual 114, 3, 41, 3, 808, .ref 7), (62, .ireturn, 1, 0, 0, 0, .null), (63, .aload_n 0, 1, 0, 0, 0, .null), (64, .getfield 33, 3, 10, 3, 469, .null), (67, .aload_n 0, 1, 0, 0, 0, .null), (68, .getfield 57, 3, 10, 7, 473, .null), (71, .iload_n 1, 1, 0, 0, 0, .null), (72, .invokevirtual 114, 3, 41, 3, 808, .ref 7), (75, .aload_n 0, 1, 0, 0, 0, .null), (76, .getfield 57, 3, 10, 7, 473, .null), (79, .aload_n 0, 1, 0, 0, 0, .null), (80, .getfield 33, 3, 10, 3, 469, .null), (83, .getfield 118, 3, 7, 1, 244, .null), (86, .invokevirtual 121, 3, 8, 2, 812, .ref 0), (89, .iand, 1, 0, 0, 0, .null), (90, .ireturn, 1, 0, 0, 0, .null), (91, .iconst (-1), 1, 0, 0, 0, .int (-1)), (92, .ireturn, 1, 0, 0, 0, .null)]
set_option maxRecDepth 100000 in
theorem oX10_place : fc_code mX10_place lX10_place = true := by decide +kernel
def lX10_person : List fc_I := [(0, .aload_n 0, 1, 0, 0, 0, .null), (1, .getfield 57, 3, 10, 7, 473, .null), (4, .iload_n 1, 1, 0, 0, 0, .null), (5, .invokevirtual 125, 3, 4, 2, 824, .ref 0), (8, .ifCond .ne 5, 3, 13, 0, 0, .null), (11, .iconst (-1), 1, 0, 0, 0, .int (-1)), (12, .ireturn, 1, 0, 0, 0, .null), (13, .iload_n 2, 1, 0, 0, 0, .null), (14, .tableswitch 126 0 5 #[38, 48, 58, 68, 92, 113], 38, 0, 0, 0, .null), (52, .aload_n 0, 1, 0, 0, 0, .null), (53, .getfield 57, 3, 10, 7, 473, .null), (56, .getfield 128, 3, 0, 4, 372, .null), (59, .iload_n 1, 1, 0, 0, 0, .null), (60, .iaload, 1, 0, 0, 0, .null), (61, .ireturn, 1, 0, 0, 0, .null), (62, .aload_n 0, 1, 0, 0, 0, .null), (63, .getfield 57, 3, 10, 7, 473, .null), (66, .getfield 131, 3, 0, 5, 377, .null), (69, .iload_n 1, 1, 0, 0, 0, .null), (70, .iaload, 1, 0, 0, 0, .null), (71, .ireturn, 1, 0, 0, 0, .null), (72, .aload_n 0, 1, 0, 0, 0, .null), (73, .getfield 33, 3, 10, 3, 469, .null), (76, .getfield 134, 3, 7, 2, 246, .null), (79, .iload_n 1, 1, 0, 0, 0, .null), (80, .iaload, 1, 0, 0, 0, .null), (81, .ireturn, 1, 0, 0, 0, .null), (82, .aload_n 0, 1, 0, 0, 0, .null), (83, .getfield 57, 3, 10, 7, 473, .null), (86, .iload_n 1, 1, 0, 0, 0, .null), (87, .aload_n 0, 1, 0, 0, 0, .null), (88, .getfield 33, 3, 10, 3, 469, .null), (91, .getfield 118, 3, 7, 1, 244, .null), (94, .invokevirtual 137, 3, 6, 3, 828, .ref 0), (97, .ifCond .eq 7, 3, 104, 0, 0, .null), (100, .iconst 1, 1, 0, 0, 0, .int 1), (101, .goto 4, 3, 105, 0, 0, .null), (104, .iconst 0, 1, 0, 0, 0, .int 0), (105, .ireturn, 1, 0, 0, 0, .null), (106, .aload_n 0, 1, 0, 0, 0, .null), (107, .getfield 33, 3, 10, 3, 469, .null), (110, .aload_n 0, 1, 0, 0, 0, .null), (111, .getfield 57, 3, 10, 7, 473, .null), (114, .iload_n 1, 1, 0, 0, 0, .null), (115, .invokevirtual 141, 3, 44, 3, 829, .ref 7), (118, .ifCond .eq 7, 3, 125, 0, 0, .null), (121, .iconst 1, 1, 0, 0, 0, .int 1), (122, .goto 4, 3, 126, 0, 0, .null), (125, .iconst 0, 1, 0, 0, 0, .int 0), (126, .ireturn, 1, 0, 0, 0, .null), (127, .aload_n 0, 1, 0, 0, 0, .null), (128, .aload_n 0, 1, 0, 0, 0, .null), (129, .getfield 33, 3, 10, 3, 469, .null), (132, .getfield 145, 3, 7, 7, 255, .null), (135, .iload_n 1, 1, 0, 0, 0, .null), (136, .invokevirtual 148, 3, 123, 3, 834, .ref 10), (139, .ireturn, 1, 0, 0, 0, .null), (140, .iconst (-1), 1, 0, 0, 0, .int (-1)), (141, .ireturn, 1, 0, 0, 0, .null)]
set_option maxRecDepth 100000 in
theorem oX10_person : fc_code mX10_person lX10_person = true := by decide +kernel
def lX10_thing : List fc_I := [(0, .aload_n 0, 1, 0, 0, 0, .null), (1, .getfield 57, 3, 10, 7, 473, .null), (4, .iload_n 1, 1, 0, 0, 0, .null), (5, .invokevirtual 152, 3, 5, 2, 842, .ref 0), (8, .ifCond .ne 5, 3, 13, 0, 0, .null), (11, .iconst (-1), 1, 0, 0, 0, .int (-1)), (12, .ireturn, 1, 0, 0, 0, .null), (13, .iload_n 2, 1, 0, 0, 0, .null), (14, .tableswitch 56 0 2 #[26, 36, 46], 26, 0, 0, 0, .null), (40, .aload_n 0, 1, 0, 0, 0, .null), (41, .getfield 57, 3, 10, 7, 473, .null), (44, .getfield 155, 3, 0, 7, 382, .null), (47, .iload_n 1, 1, 0, 0, 0, .null), (48, .iaload, 1, 0, 0, 0, .null), (49, .ireturn, 1, 0, 0, 0, .null), (50, .aload_n 0, 1, 0, 0, 0, .null), (51, .getfield 33, 3, 10, 3, 469, .null), (54, .getfield 145, 3, 7, 7, 255, .null), (57, .iload_n 1, 1, 0, 0, 0, .null), (58, .iaload, 1, 0, 0, 0, .null), (59, .ireturn, 1, 0, 0, 0, .null), (60, .aload_n 0, 1, 0, 0, 0, .null), (61, .getfield 33, 3, 10, 3, 469, .null), (64, .getfield 158, 3, 7, 8, 257, .null), (67, .iload_n 1, 1, 0, 0, 0, .null), (68, .iaload, 1, 0, 0, 0, .null), (69, .ireturn, 1, 0, 0, 0, .null), (70, .iconst (-1), 1, 0, 0, 0, .int (-1)), (71, .ireturn, 1, 0, 0, 0, .null)]
set_option maxRecDepth 100000 in
theorem oX10_thing : fc_code mX10_thing lX10_thing = true := by decide +kernel
def lX10_walk : List fc_I := [(0, .aload_n 0, 1, 0, 0, 0, .null), (1, .getfield 33, 3, 10, 3, 469, .null), (4, .aload_n 0, 1, 0, 0, 0, .null), (5, .getfield 57, 3, 10, 7, 473, .null), (8, .iload_n 1, 1, 0, 0, 0, .null), (9, .iload_n 2, 1, 0, 0, 0, .null), (10, .invokevirtual 161, 3, 46, 4, 850, .ref 7), (13, .ifCond .ne 5, 3, 18, 0, 0, .null), (16, .iconst 0, 1, 0, 0, 0, .int 0), (17, .ireturn, 1, 0, 0, 0, .null), (18, .aload_n 0, 1, 0, 0, 0, .null), (19, .getfield 43, 3, 10, 5, 471, .null), (22, .aload_n 0, 1, 0, 0, 0, .null), (23, .getfield 33, 3, 10, 3, 469, .null), (26, .invokevirtual 165, 3, 29, 2, 858, .ref 4), (29, .aload_n 0, 1, 0, 0, 0, .null), (30, .getfield 33, 3, 10, 3, 469, .null), (33, .aload_n 0, 1, 0, 0, 0, .null), (34, .getfield 57, 3, 10, 7, 473, .null), (37, .iload_n 1, 1, 0, 0, 0, .null), (38, .iload_n 2, 1, 0, 0, 0, .null), (39, .invokevirtual 169, 3, 47, 4, 870, .ref 7), (42, .iconst 1, 1, 0, 0, 0, .int 1), (43, .ireturn, 1, 0, 0, 0, .null)]
set_option maxRecDepth 100000 in
theorem oX10_walk : fc_code mX10_walk lX10_walk = true := by decide +kernel
def lX10_give : List fc_I := [(0, .aload_n 0, 1, 0, 0, 0, .null), (1, .getfield 33, 3, 10, 3, 469, .null), (4, .aload_n 0, 1, 0, 0, 0, .null), (5, .getfield 57, 3, 10, 7, 473, .null), (8, .iload_n 1, 1, 0, 0, 0, .null), (9, .iload_n 2, 1, 0, 0, 0, .null), (10, .invokevirtual 173, 3, 48, 4, 878, .ref 7), (13, .ifCond .ne 5, 3, 18, 0, 0, .null), (16, .iconst (-1), 1, 0, 0, 0, .int (-1)), (17, .ireturn, 1, 0, 0, 0, .null), (18, .aload_n 0, 1, 0, 0, 0, .null), (19, .getfield 43, 3, 10, 5, 471, .null), (22, .aload_n 0, 1, 0, 0, 0, .null), (23, .getfield 33, 3, 10, 3, 469, .null), (26, .invokevirtual 165, 3, 29, 2, 858, .ref 4), (29, .aload_n 0, 1, 0, 0, 0, .null), (30, .getfield 33, 3, 10, 3, 469, .null), (33, .aload_n 0, 1, 0, 0, 0, .null), (34, .getfield 57, 3, 10, 7, 473, .null), (37, .iload_n 1, 1, 0, 0, 0, .null), (38, .iload_n 2, 1, 0, 0, 0, .null), (39, .invokevirtual 176, 3, 49, 4, 883, .ref 7), (42, .ifCond .eq 7, 3, 49, 0, 0, .null), (45, .iconst 1, 1, 0, 0, 0, .int 1), (46, .goto 4, 3, 50, 0, 0, .null), (49, .iconst 0, 1, 0, 0, 0, .int 0), (50, .ireturn, 1, 0, 0, 0, .null)]
set_option maxRecDepth 100000 in
theorem oX10_give : fc_code mX10_give lX10_give = true := by decide +kernel
def lX10_vow : List fc_I := [(0, .aload_n 0, 1, 0, 0, 0, .null), (1, .getfield 33, 3, 10, 3, 469, .null), (4, .aload_n 0, 1, 0, 0, 0, .null), (5, .getfield 57, 3, 10, 7, 473, .null), (8, .iload_n 1, 1, 0, 0, 0, .null), (9, .iload_n 2, 1, 0, 0, 0, .null), (10, .invokevirtual 179, 3, 50, 4, 917, .ref 7), (13, .ifCond .ne 5, 3, 18, 0, 0, .null), (16, .iconst (-1), 1, 0, 0, 0, .int (-1)), (17, .ireturn, 1, 0, 0, 0, .null), (18, .aload_n 0, 1, 0, 0, 0, .null), (19, .getfield 43, 3, 10, 5, 471, .null), (22, .aload_n 0, 1, 0, 0, 0, .null), (23, .getfield 33, 3, 10, 3, 469, .null), (26, .invokevirtual 165, 3, 29, 2, 858, .ref 4), (29, .aload_n 0, 1, 0, 0, 0, .null), (30, .getfield 33, 3, 10, 3, 469, .null), (33, .aload_n 0, 1, 0, 0, 0, .null), (34, .getfield 57, 3, 10, 7, 473, .null), (37, .iload_n 1, 1, 0, 0, 0, .null), (38, .iload_n 2, 1, 0, 0, 0, .null), (39, .invokevirtual 182, 3, 51, 4, 921, .ref 7), (42, .ifCond .eq 7, 3, 49, 0, 0, .null), (45, .iconst 1, 1, 0, 0, 0, .int 1), (46, .goto 4, 3, 50, 0, 0, .null), (49, .iconst 0, 1, 0, 0, 0, .int 0), (50, .ireturn, 1, 0, 0, 0, .null)]
set_option maxRecDepth 100000 in
theorem oX10_vow : fc_code mX10_vow lX10_vow = true := by decide +kernel
def lX10_minute : List fc_I := [(0, .aload_n 0, 1, 0, 0, 0, .null), (1, .getfield 43, 3, 10, 5, 471, .null), (4, .aload_n 0, 1, 0, 0, 0, .null), (5, .getfield 33, 3, 10, 3, 469, .null), (8, .invokevirtual 165, 3, 29, 2, 858, .ref 4), (11, .aload_n 0, 1, 0, 0, 0, .null), (12, .getfield 33, 3, 10, 3, 469, .null), (15, .aload_n 0, 1, 0, 0, 0, .null), (16, .getfield 57, 3, 10, 7, 473, .null), (19, .invokevirtual 185, 3, 54, 2, 929, .ref 7), (22, .ireturn, 1, 0, 0, 0, .null)]
set_option maxRecDepth 100000 in
theorem oX10_minute : fc_code mX10_minute lX10_minute = true := by decide +kernel
def lX10_undo : List fc_I := [(0, .aload_n 0, 1, 0, 0, 0, .null), (1, .getfield 43, 3, 10, 5, 471, .null), (4, .aload_n 0, 1, 0, 0, 0, .null), (5, .getfield 33, 3, 10, 3, 469, .null), (8, .invokevirtual 189, 3, 30, 2, 947, .ref 4), (11, .ireturn, 1, 0, 0, 0, .null)]
set_option maxRecDepth 100000 in
theorem oX10_undo : fc_code mX10_undo lX10_undo = true := by decide +kernel
def lX10_judged : List fc_I := [(0, .iload_n 1, 1, 0, 0, 0, .null), (1, .ifCond .lt 8, 3, 9, 0, 0, .null), (4, .iload_n 1, 1, 0, 0, 0, .null), (5, .iconst 2, 1, 0, 0, 0, .int 2), (6, .if_icmp .le 6, 3, 12, 0, 0, .null), (9, .bipush (-2), 2, 0, 0, 0, .int (-2)), (11, .ireturn, 1, 0, 0, 0, .null), (12, .aload_n 0, 1, 0, 0, 0, .null), (13, .getfield 37, 3, 10, 4, 470, .null), (16, .aload_n 0, 1, 0, 0, 0, .null), (17, .getfield 57, 3, 10, 7, 473, .null), (20, .invokevirtual 93, 3, 39, 2, 769, .ref 7), (23, .iconst (-1), 1, 0, 0, 0, .int (-1)), (24, .istore_n 2, 1, 0, 0, 0, .null), (25, .iconst (-1), 1, 0, 0, 0, .int (-1)), (26, .istore_n 3, 1, 0, 0, 0, .null), (27, .iconst 0, 1, 0, 0, 0, .int 0), (28, .istore 4, 2, 0, 0, 0, .null), (30, .iload 4, 2, 0, 0, 0, .null), (32, .aload_n 0, 1, 0, 0, 0, .null), (33, .getfield 67, 3, 10, 9, 475, .null), (36, .getfield 96, 3, 5, 3, 456, .null), (39, .if_icmp .ge 56, 3, 95, 0, 0, .null), (42, .aload_n 0, 1, 0, 0, 0, .null), (43, .getfield 67, 3, 10, 9, 475, .null), (46, .iload 4, 2, 0, 0, 0, .null), (48, .aload_n 0, 1, 0, 0, 0, .null), (49, .getfield 57, 3, 10, 7, 473, .null), (52, .aload_n 0, 1, 0, 0, 0, .null), (53, .getfield 37, 3, 10, 4, 470, .null), (56, .invokevirtual 193, 3, 36, 4, 955, .ref 5), (59, .istore 5, 2, 0, 0, 0, .null), (61, .iload 5, 2, 0, 0, 0, .null), (63, .iconst (-1), 1, 0, 0, 0, .int (-1)), (64, .if_icmp .ne 11, 3, 75, 0, 0, .null), (67, .iload_n 2, 1, 0, 0, 0, .null), (68, .iconst (-1), 1, 0, 0, 0, .int (-1)), (69, .if_icmp .ne 6, 3, 75, 0, 0, .null), (72, .iload 4, 2, 0, 0, 0, .null), (74, .istore_n 2, 1, 0, 0, 0, .null), (75, .iload 5, 2, 0, 0, 0, .null), (77, .iconst 1, 1, 0, 0, 0, .int 1), (78, .if_icmp .ne 11, 3, 89, 0, 0, .null), (81, .iload_n 3, 1, 0, 0, 0, .null), (82, .iconst (-1), 1, 0, 0, 0, .int (-1)), (83, .if_icmp .ne 6, 3, 89, 0, 0, .null), (86, .iload 4, 2, 0, 0, 0, .null), (88, .istore_n 3, 1, 0, 0, 0, .null), (89, .iinc 4 1, 3, 0, 0, 0, .null), (92, .goto (-62), 3, 30, 0, 0, .null), (95, .iload_n 1, 1, 0, 0, 0, .null), (96, .lookupswitch 32 #[(0, 28), (1, 30)], 28, 0, 0, 0, .null), (124, .iload_n 2, 1, 0, 0, 0, .null), (125, .ireturn, 1, 0, 0, 0, .null), (126, .iload_n 3, 1, 0, 0, 0, .null), (127, .ireturn, 1, 0, 0, 0, .null), (128, .aload_n 0, 1, 0, 0, 0, .null), (129, .aload_n 0, 1, 0, 0, 0, .null), (130, .getfield 37, 3, 10, 4, 470, .null), (133, .invokevirtual 197, 3, 125, 2, 966, .ref 10), (136, .ireturn, 1, 0, 0, 0, .null)]
set_option maxRecDepth 100000 in
theorem oX10_judged : fc_code mX10_judged lX10_judged = true := by decide +kernel
def lX10_soon : List fc_I := [(0, .aload_n 0, 1, 0, 0, 0, .null), (1, .getfield 57, 3, 10, 7, 473, .null), (4, .iload_n 1, 1, 0, 0, 0, .null), (5, .invokevirtual 125, 3, 4, 2, 824, .ref 0), (8, .ifCond .eq 14, 3, 22, 0, 0, .null), (11, .aload_n 0, 1, 0, 0, 0, .null), (12, .getfield 57, 3, 10, 7, 473, .null), (15, .iload_n 2, 1, 0, 0, 0, .null), (16, .invokevirtual 106, 3, 3, 2, 804, .ref 0), (19, .ifCond .ne 5, 3, 24, 0, 0, .null), (22, .iconst (-1), 1, 0, 0, 0, .int (-1)), (23, .ireturn, 1, 0, 0, 0, .null), (24, .aload_n 0, 1, 0, 0, 0, .null), (25, .iload_n 1, 1, 0, 0, 0, .null), (26, .iload_n 2, 1, 0, 0, 0, .null), (27, .invokevirtual 201, 3, 126, 3, 974, .ref 10), (30, .invokestatic 205, 3, 121, 1, 987, .retAddr 0), (33, .ireturn, 1, 0, 0, 0, .null)]
set_option maxRecDepth 100000 in
theorem oX10_soon : fc_code mX10_soon lX10_soon = true := by decide +kernel
def lX10_meet : List fc_I := [(0, .aload_n 0, 1, 0, 0, 0, .null), (1, .getfield 57, 3, 10, 7, 473, .null), (4, .iload_n 1, 1, 0, 0, 0, .null), (5, .invokevirtual 125, 3, 4, 2, 824, .ref 0), (8, .ifCond .eq 19, 3, 27, 0, 0, .null), (11, .aload_n 0, 1, 0, 0, 0, .null), (12, .getfield 57, 3, 10, 7, 473, .null), (15, .iload_n 2, 1, 0, 0, 0, .null), (16, .invokevirtual 125, 3, 4, 2, 824, .ref 0), (19, .ifCond .eq 8, 3, 27, 0, 0, .null), (22, .iload_n 1, 1, 0, 0, 0, .null), (23, .iload_n 2, 1, 0, 0, 0, .null), (24, .if_icmp .ne 5, 3, 29, 0, 0, .null), (27, .iconst (-1), 1, 0, 0, 0, .int (-1)), (28, .ireturn, 1, 0, 0, 0, .null), (29, .sipush 1000, 3, 0, 0, 0, .int 1000), (32, .istore_n 3, 1, 0, 0, 0, .null), (33, .iconst 0, 1, 0, 0, 0, .int 0), (34, .istore 4, 2, 0, 0, 0, .null), (36, .iload 4, 2, 0, 0, 0, .null), (38, .aload_n 0, 1, 0, 0, 0, .null), (39, .getfield 57, 3, 10, 7, 473, .null), (42, .getfield 208, 3, 0, 10, 396, .null), (45, .if_icmp .ge 31, 3, 76, 0, 0, .null), (48, .iload_n 3, 1, 0, 0, 0, .null), (49, .aload_n 0, 1, 0, 0, 0, .null), (50, .iload_n 1, 1, 0, 0, 0, .null), (51, .iload 4, 2, 0, 0, 0, .null), (53, .invokevirtual 201, 3, 126, 3, 974, .ref 10), (56, .aload_n 0, 1, 0, 0, 0, .null), (57, .iload_n 2, 1, 0, 0, 0, .null), (58, .iload 4, 2, 0, 0, 0, .null), (60, .invokevirtual 201, 3, 126, 3, 974, .ref 10), (63, .invokestatic 211, 3, 0, 0, 994, .retAddr 10), (66, .invokestatic 216, 3, 0, 0, 995, .retAddr 11), (69, .istore_n 3, 1, 0, 0, 0, .null), (70, .iinc 4 1, 3, 0, 0, 0, .null), (73, .goto (-37), 3, 36, 0, 0, .null), (76, .iload_n 3, 1, 0, 0, 0, .null), (77, .invokestatic 205, 3, 121, 1, 987, .retAddr 0), (80, .ireturn, 1, 0, 0, 0, .null)]
set_option maxRecDepth 100000 in
theorem oX10_meet : fc_code mX10_meet lX10_meet = true := by decide +kernel
def lX10_all : List fc_I := [(0, .aload_n 0, 1, 0, 0, 0, .null), (1, .getfield 57, 3, 10, 7, 473, .null), (4, .getfield 219, 3, 0, 12, 405, .null), (7, .ifCond .eq 12, 3, 19, 0, 0, .null), (10, .iload_n 1, 1, 0, 0, 0, .null), (11, .ifCond .lt 8, 3, 19, 0, 0, .null), (14, .iload_n 1, 1, 0, 0, 0, .null), (15, .iconst 1, 1, 0, 0, 0, .int 1), (16, .if_icmp .le 5, 3, 21, 0, 0, .null), (19, .iconst (-1), 1, 0, 0, 0, .int (-1)), (20, .ireturn, 1, 0, 0, 0, .null), (21, .iconst (-1), 1, 0, 0, 0, .int (-1)), (22, .istore_n 2, 1, 0, 0, 0, .null), (23, .sipush 1000, 3, 0, 0, 0, .int 1000), (26, .istore_n 3, 1, 0, 0, 0, .null), (27, .iconst 0, 1, 0, 0, 0, .int 0), (28, .istore 4, 2, 0, 0, 0, .null), (30, .iload 4, 2, 0, 0, 0, .null), (32, .aload_n 0, 1, 0, 0, 0, .null), (33, .getfield 57, 3, 10, 7, 473, .null), (36, .getfield 208, 3, 0, 10, 396, .null), (39, .if_icmp .ge 29, 3, 68, 0, 0, .null), (42, .aload_n 0, 1, 0, 0, 0, .null), (43, .iload 4, 2, 0, 0, 0, .null), (45, .invokevirtual 222, 3, 127, 2, 1000, .ref 10), (48, .istore 5, 2, 0, 0, 0, .null), (50, .iload 5, 2, 0, 0, 0, .null), (52, .iload_n 3, 1, 0, 0, 0, .null), (53, .if_icmp .ge 9, 3, 62, 0, 0, .null), (56, .iload 5, 2, 0, 0, 0, .null), (58, .istore_n 3, 1, 0, 0, 0, .null), (59, .iload 4, 2, 0, 0, 0, .null), (61, .istore_n 2, 1, 0, 0, 0, .null), (62, .iinc 4 1, 3, 0, 0, 0, .null), (65, .goto (-35), 3, 30, 0, 0, .null), (68, .iload_n 1, 1, 0, 0, 0, .null), (69, .ifCond .ne 7, 3, 76, 0, 0, .null), (72, .iload_n 2, 1, 0, 0, 0, .null), (73, .goto 7, 3, 80, 0, 0, .null), (76, .iload_n 3, 1, 0, 0, 0, .null), (77, .invokestatic 205, 3, 121, 1, 987, .retAddr 0), (80, .ireturn, 1, 0, 0, 0, .null)]
set_option maxRecDepth 100000 in
theorem oX10_all : fc_code mX10_all lX10_all = true := by decide +kernel
def lX10_tour : List fc_I := [(0, .aload_n 0, 1, 0, 0, 0, .null), (1, .getfield 57, 3, 10, 7, 473, .null), (4, .iload_n 1, 1, 0, 0, 0, .null), (5, .invokevirtual 125, 3, 4, 2, 824, .ref 0), (8, .ifCond .ne 5, 3, 13, 0, 0, .null), (11, .iconst (-1), 1, 0, 0, 0, .int (-1)), (12, .ireturn, 1, 0, 0, 0, .null), (13, .aload_n 0, 1, 0, 0, 0, .null), (14, .getfield 26, 3, 10, 2, 468, .null), (17, .aload_n 0, 1, 0, 0, 0, .null), (18, .getfield 57, 3, 10, 7, 473, .null), (21, .aload_n 0, 1, 0, 0, 0, .null), (22, .getfield 33, 3, 10, 3, 469, .null), (25, .getfield 134, 3, 7, 2, 246, .null), (28, .iload_n 1, 1, 0, 0, 0, .null), (29, .iaload, 1, 0, 0, 0, .null), (30, .invokevirtual 225, 3, 74, 3, 1008, .ref 9), (33, .istore_n 2, 1, 0, 0, 0, .null), (34, .aload_n 0, 1, 0, 0, 0, .null), (35, .getfield 33, 3, 10, 3, 469, .null), (38, .aload_n 0, 1, 0, 0, 0, .null), (39, .getfield 57, 3, 10, 7, 473, .null), (42, .iload_n 1, 1, 0, 0, 0, .null), (43, .iload_n 2, 1, 0, 0, 0, .null), (44, .invokevirtual 228, 3, 45, 4, 978, .ref 7), (47, .invokestatic 205, 3, 121, 1, 987, .retAddr 0), (50, .ireturn, 1, 0, 0, 0, .null)]
set_option maxRecDepth 100000 in
theorem oX10_tour : fc_code mX10_tour lX10_tour = true := by decide +kernel
def lX10_intime : List fc_I := [(0, .aload_n 0, 1, 0, 0, 0, .null), (1, .getfield 57, 3, 10, 7, 473, .null), (4, .iload_n 1, 1, 0, 0, 0, .null), (5, .invokevirtual 125, 3, 4, 2, 824, .ref 0), (8, .ifCond .eq 14, 3, 22, 0, 0, .null), (11, .aload_n 0, 1, 0, 0, 0, .null), (12, .getfield 57, 3, 10, 7, 473, .null), (15, .iload_n 2, 1, 0, 0, 0, .null), (16, .invokevirtual 106, 3, 3, 2, 804, .ref 0), (19, .ifCond .ne 5, 3, 24, 0, 0, .null), (22, .iconst 0, 1, 0, 0, 0, .int 0), (23, .ireturn, 1, 0, 0, 0, .null), (24, .aload_n 0, 1, 0, 0, 0, .null), (25, .iload_n 1, 1, 0, 0, 0, .null), (26, .iload_n 2, 1, 0, 0, 0, .null), (27, .invokevirtual 201, 3, 126, 3, 974, .ref 10), (30, .istore_n 3, 1, 0, 0, 0, .null), (31, .iload_n 3, 1, 0, 0, 0, .null), (32, .bipush 99, 2, 0, 0, 0, .int 99), (34, .if_icmp .gt 26, 3, 60, 0, 0, .null), (37, .aload_n 0, 1, 0, 0, 0, .null), (38, .getfield 33, 3, 10, 3, 469, .null), (41, .getfield 118, 3, 7, 1, 244, .null), (44, .iload_n 3, 1, 0, 0, 0, .null), (45, .iadd, 1, 0, 0, 0, .null), (46, .aload_n 0, 1, 0, 0, 0, .null), (47, .getfield 57, 3, 10, 7, 473, .null), (50, .getfield 232, 3, 0, 14, 414, .null), (53, .if_icmp .ge 7, 3, 60, 0, 0, .null), (56, .iconst 1, 1, 0, 0, 0, .int 1), (57, .goto 4, 3, 61, 0, 0, .null), (60, .iconst 0, 1, 0, 0, 0, .int 0), (61, .ireturn, 1, 0, 0, 0, .null)]
set_option maxRecDepth 100000 in
theorem oX10_intime : fc_code mX10_intime lX10_intime = true := by decide +kernel
def lX10_back : List fc_I := [(0, .aload_n 0, 1, 0, 0, 0, .null), (1, .getfield 33, 3, 10, 3, 469, .null), (4, .aload_n 0, 1, 0, 0, 0, .null), (5, .getfield 57, 3, 10, 7, 473, .null), (8, .invokevirtual 235, 3, 42, 2, 1028, .ref 7), (11, .ireturn, 1, 0, 0, 0, .null)]
set_option maxRecDepth 100000 in
theorem oX10_back : fc_code mX10_back lX10_back = true := by decide +kernel
def lX10_could : List fc_I := [(0, .aload_n 0, 1, 0, 0, 0, .null), (1, .getfield 57, 3, 10, 7, 473, .null), (4, .iload_n 1, 1, 0, 0, 0, .null), (5, .invokevirtual 152, 3, 5, 2, 842, .ref 0), (8, .ifCond .ne 5, 3, 13, 0, 0, .null), (11, .iconst (-1), 1, 0, 0, 0, .int (-1)), (12, .ireturn, 1, 0, 0, 0, .null), (13, .iconst 0, 1, 0, 0, 0, .int 0), (14, .istore_n 2, 1, 0, 0, 0, .null), (15, .iconst 0, 1, 0, 0, 0, .int 0), (16, .istore_n 3, 1, 0, 0, 0, .null), (17, .iload_n 3, 1, 0, 0, 0, .null), (18, .aload_n 0, 1, 0, 0, 0, .null), (19, .getfield 57, 3, 10, 7, 473, .null), (22, .getfield 219, 3, 0, 12, 405, .null), (25, .if_icmp .ge 31, 3, 56, 0, 0, .null), (28, .aload_n 0, 1, 0, 0, 0, .null), (29, .getfield 33, 3, 10, 3, 469, .null), (32, .aload_n 0, 1, 0, 0, 0, .null), (33, .getfield 57, 3, 10, 7, 473, .null), (36, .iload_n 1, 1, 0, 0, 0, .null), (37, .iload_n 3, 1, 0, 0, 0, .null), (38, .invokevirtual 173, 3, 48, 4, 878, .ref 7), (41, .ifCond .eq 9, 3, 50, 0, 0, .null), (44, .iload_n 2, 1, 0, 0, 0, .null), (45, .iconst 1, 1, 0, 0, 0, .int 1), (46, .iload_n 3, 1, 0, 0, 0, .null), (47, .ishl, 1, 0, 0, 0, .null), (48, .ior, 1, 0, 0, 0, .null), (49, .istore_n 2, 1, 0, 0, 0, .null), (50, .iinc 3 1, 3, 0, 0, 0, .null), (53, .goto (-36), 3, 17, 0, 0, .null), (56, .iload_n 2, 1, 0, 0, 0, .null), (57, .ireturn, 1, 0, 0, 0, .null)]
set_option maxRecDepth 100000 in
theorem oX10_could : fc_code mX10_could lX10_could = true := by decide +kernel
def lX10_would : List fc_I := [(0, .aload_n 0, 1, 0, 0, 0, .null), (1, .iload_n 1, 1, 0, 0, 0, .null), (2, .iload_n 2, 1, 0, 0, 0, .null), (3, .invokevirtual 239, 3, 128, 3, 1040, .ref 10), (6, .ifCond .eq 30, 3, 36, 0, 0, .null), (9, .aload_n 0, 1, 0, 0, 0, .null), (10, .getfield 33, 3, 10, 3, 469, .null), (13, .aload_n 0, 1, 0, 0, 0, .null), (14, .getfield 57, 3, 10, 7, 473, .null), (17, .iload_n 1, 1, 0, 0, 0, .null), (18, .iload_n 2, 1, 0, 0, 0, .null), (19, .aload_n 0, 1, 0, 0, 0, .null), (20, .getfield 33, 3, 10, 3, 469, .null), (23, .getfield 118, 3, 7, 1, 244, .null), (26, .invokevirtual 242, 3, 52, 5, 1044, .ref 7), (29, .ifCond .eq 7, 3, 36, 0, 0, .null), (32, .iconst 1, 1, 0, 0, 0, .int 1), (33, .goto 4, 3, 37, 0, 0, .null), (36, .iconst 0, 1, 0, 0, 0, .int 0), (37, .ireturn, 1, 0, 0, 0, .null)]
set_option maxRecDepth 100000 in
theorem oX10_would : fc_code mX10_would lX10_would = true := by decide +kernel
def lX10_when : List fc_I := [(0, .aload_n 0, 1, 0, 0, 0, .null), (1, .iload_n 1, 1, 0, 0, 0, .null), (2, .iload_n 2, 1, 0, 0, 0, .null), (3, .invokevirtual 239, 3, 128, 3, 1040, .ref 10), (6, .ifCond .ne 5, 3, 11, 0, 0, .null), (9, .iconst (-1), 1, 0, 0, 0, .int (-1)), (10, .ireturn, 1, 0, 0, 0, .null), (11, .aload_n 0, 1, 0, 0, 0, .null), (12, .getfield 33, 3, 10, 3, 469, .null), (15, .getfield 118, 3, 7, 1, 244, .null), (18, .istore_n 3, 1, 0, 0, 0, .null), (19, .iload_n 3, 1, 0, 0, 0, .null), (20, .aload_n 0, 1, 0, 0, 0, .null), (21, .getfield 57, 3, 10, 7, 473, .null), (24, .getfield 232, 3, 0, 14, 414, .null), (27, .if_icmp .ge 28, 3, 55, 0, 0, .null), (30, .aload_n 0, 1, 0, 0, 0, .null), (31, .getfield 33, 3, 10, 3, 469, .null), (34, .aload_n 0, 1, 0, 0, 0, .null), (35, .getfield 57, 3, 10, 7, 473, .null), (38, .iload_n 1, 1, 0, 0, 0, .null), (39, .iload_n 2, 1, 0, 0, 0, .null), (40, .iload_n 3, 1, 0, 0, 0, .null), (41, .invokevirtual 242, 3, 52, 5, 1044, .ref 7), (44, .ifCond .eq 5, 3, 49, 0, 0, .null), (47, .iload_n 3, 1, 0, 0, 0, .null), (48, .ireturn, 1, 0, 0, 0, .null), (49, .iinc 3 1, 3, 0, 0, 0, .null), (52, .goto (-33), 3, 19, 0, 0, .null), (55, .iconst (-1), 1, 0, 0, 0, .int (-1)), (56, .ireturn, 1, 0, 0, 0, .null)]
set_option maxRecDepth 100000 in
theorem oX10_when : fc_code mX10_when lX10_when = true := by decide +kernel
def lX10_vows : List fc_I := [(0, .aload_n 0, 1, 0, 0, 0, .null), (1, .getfield 57, 3, 10, 7, 473, .null), (4, .iload_n 1, 1, 0, 0, 0, .null), (5, .invokevirtual 125, 3, 4, 2, 824, .ref 0), (8, .ifCond .ne 5, 3, 13, 0, 0, .null), (11, .iconst (-1), 1, 0, 0, 0, .int (-1)), (12, .ireturn, 1, 0, 0, 0, .null), (13, .iload_n 2, 1, 0, 0, 0, .null), (14, .ifCond .eq 15, 3, 29, 0, 0, .null), (17, .aload_n 0, 1, 0, 0, 0, .null), (18, .getfield 33, 3, 10, 3, 469, .null), (21, .getfield 246, 3, 7, 6, 253, .null), (24, .iload_n 1, 1, 0, 0, 0, .null), (25, .iaload, 1, 0, 0, 0, .null), (26, .goto 12, 3, 38, 0, 0, .null), (29, .aload_n 0, 1, 0, 0, 0, .null), (30, .getfield 33, 3, 10, 3, 469, .null), (33, .getfield 249, 3, 7, 5, 251, .null), (36, .iload_n 1, 1, 0, 0, 0, .null), (37, .iaload, 1, 0, 0, 0, .null), (38, .ireturn, 1, 0, 0, 0, .null)]
set_option maxRecDepth 100000 in
theorem oX10_vows : fc_code mX10_vows lX10_vows = true := by decide +kernel
def lX10_sees : List fc_I := [(0, .aload_n 0, 1, 0, 0, 0, .null), (1, .getfield 57, 3, 10, 7, 473, .null), (4, .iload_n 1, 1, 0, 0, 0, .null), (5, .invokevirtual 125, 3, 4, 2, 824, .ref 0), (8, .ifCond .ne 5, 3, 13, 0, 0, .null), (11, .iconst (-1), 1, 0, 0, 0, .int (-1)), (12, .ireturn, 1, 0, 0, 0, .null), (13, .aload_n 0, 1, 0, 0, 0, .null), (14, .getfield 33, 3, 10, 3, 469, .null), (17, .getfield 134, 3, 7, 2, 246, .null), (20, .iload_n 1, 1, 0, 0, 0, .null), (21, .iaload, 1, 0, 0, 0, .null), (22, .istore_n 2, 1, 0, 0, 0, .null), (23, .iconst 0, 1, 0, 0, 0, .int 0), (24, .istore_n 3, 1, 0, 0, 0, .null), (25, .iconst 0, 1, 0, 0, 0, .int 0), (26, .istore 4, 2, 0, 0, 0, .null), (28, .iload 4, 2, 0, 0, 0, .null), (30, .aload_n 0, 1, 0, 0, 0, .null), (31, .getfield 57, 3, 10, 7, 473, .null), (34, .getfield 208, 3, 0, 10, 396, .null), (37, .if_icmp .ge 48, 3, 85, 0, 0, .null), (40, .iload 4, 2, 0, 0, 0, .null), (42, .iload_n 2, 1, 0, 0, 0, .null), (43, .if_icmp .eq 20, 3, 63, 0, 0, .null), (46, .aload_n 0, 1, 0, 0, 0, .null), (47, .getfield 57, 3, 10, 7, 473, .null), (50, .getfield 110, 3, 0, 3, 368, .null), (53, .iload_n 2, 1, 0, 0, 0, .null), (54, .iaload, 1, 0, 0, 0, .null), (55, .iload 4, 2, 0, 0, 0, .null), (57, .invokestatic 252, 3, 120, 2, 1057, .retAddr 0), (60, .ifCond .eq 19, 3, 79, 0, 0, .null), (63, .iload_n 3, 1, 0, 0, 0, .null), (64, .aload_n 0, 1, 0, 0, 0, .null), (65, .getfield 33, 3, 10, 3, 469, .null), (68, .aload_n 0, 1, 0, 0, 0, .null), (69, .getfield 57, 3, 10, 7, 473, .null), (72, .iload 4, 2, 0, 0, 0, .null), (74, .invokevirtual 114, 3, 41, 3, 808, .ref 7), (77, .ior, 1, 0, 0, 0, .null), (78, .istore_n 3, 1, 0, 0, 0, .null), (79, .iinc 4 1, 3, 0, 0, 0, .null), (82, .goto (-54), 3, 28, 0, 0, .null), (85, .iload_n 3, 1, 0, 0, 0, .null), (86, .iconst 1, 1, 0, 0, 0, .int 1), (87, .iload_n 1, 1, 0, 0, 0, .null), (88, .ishl, 1, 0, 0, 0, .null), (89, .iconst (-1), 1, 0, 0, 0, .int (-1)), (90, .ixor, 1, 0, 0, 0, .null), (91, .iand, 1, 0, 0, 0, .null), (92, .ireturn, 1, 0, 0, 0, .null)]
set_option maxRecDepth 100000 in
theorem oX10_sees : fc_code mX10_sees lX10_sees = true := by decide +kernel
def lX10_heard : List fc_I := [(0, .aload_n 0, 1, 0, 0, 0, .null), (1, .getfield 57, 3, 10, 7, 473, .null), (4, .iload_n 1, 1, 0, 0, 0, .null), (5, .invokevirtual 125, 3, 4, 2, 824, .ref 0), (8, .ifCond .eq 15, 3, 23, 0, 0, .null), (11, .aload_n 0, 1, 0, 0, 0, .null), (12, .getfield 33, 3, 10, 3, 469, .null), (15, .getfield 255, 3, 7, 4, 249, .null), (18, .iload_n 1, 1, 0, 0, 0, .null), (19, .iaload, 1, 0, 0, 0, .null), (20, .goto 4, 3, 24, 0, 0, .null), (23, .iconst (-1), 1, 0, 0, 0, .int (-1)), (24, .ireturn, 1, 0, 0, 0, .null)]
set_option maxRecDepth 100000 in
theorem oX10_heard : fc_code mX10_heard lX10_heard = true := by decide +kernel
def lX10_news : List fc_I := [(0, .aload_n 0, 1, 0, 0, 0, .null), (1, .getfield 37, 3, 10, 4, 470, .null), (4, .aload_n 0, 1, 0, 0, 0, .null), (5, .getfield 33, 3, 10, 3, 469, .null), (8, .invokevirtual 258, 3, 40, 2, 1066, .ref 7), (11, .iconst 0, 1, 0, 0, 0, .int 0), (12, .istore_n 1, 1, 0, 0, 0, .null), (13, .iload_n 1, 1, 0, 0, 0, .null), (14, .bipush 99, 2, 0, 0, 0, .int 99), (16, .if_icmp .gt 52, 3, 68, 0, 0, .null), (19, .aload_n 0, 1, 0, 0, 0, .null), (20, .getfield 37, 3, 10, 4, 470, .null), (23, .aload_n 0, 1, 0, 0, 0, .null), (24, .getfield 57, 3, 10, 7, 473, .null), (27, .invokevirtual 261, 3, 43, 2, 1067, .ref 7), (30, .aload_n 0, 1, 0, 0, 0, .null), (31, .getfield 57, 3, 10, 7, 473, .null), (34, .getfield 219, 3, 0, 12, 405, .null), (37, .aload_n 0, 1, 0, 0, 0, .null), (38, .getfield 57, 3, 10, 7, 473, .null), (41, .getfield 219, 3, 0, 12, 405, .null), (44, .imul, 1, 0, 0, 0, .null), (45, .if_icmp .ne 5, 3, 50, 0, 0, .null), (48, .iload_n 1, 1, 0, 0, 0, .null), (49, .ireturn, 1, 0, 0, 0, .null), (50, .aload_n 0, 1, 0, 0, 0, .null), (51, .getfield 37, 3, 10, 4, 470, .null), (54, .aload_n 0, 1, 0, 0, 0, .null), (55, .getfield 57, 3, 10, 7, 473, .null), (58, .invokevirtual 185, 3, 54, 2, 929, .ref 7), (61, .pop, 1, 0, 0, 0, .null), (62, .iinc 1 1, 3, 0, 0, 0, .null), (65, .goto (-52), 3, 13, 0, 0, .null), (68, .iconst (-1), 1, 0, 0, 0, .int (-1)), (69, .ireturn, 1, 0, 0, 0, .null)]
set_option maxRecDepth 100000 in
theorem oX10_news : fc_code mX10_news lX10_news = true := by decide +kernel
def lX10_alone : List fc_I := [(0, .aload_n 0, 1, 0, 0, 0, .null), (1, .getfield 57, 3, 10, 7, 473, .null), (4, .aload_n 0, 1, 0, 0, 0, .null), (5, .getfield 33, 3, 10, 3, 469, .null), (8, .getfield 118, 3, 7, 1, 244, .null), (11, .invokevirtual 121, 3, 8, 2, 812, .ref 0), (14, .istore_n 1, 1, 0, 0, 0, .null), (15, .iconst 0, 1, 0, 0, 0, .int 0), (16, .istore_n 2, 1, 0, 0, 0, .null), (17, .iconst 0, 1, 0, 0, 0, .int 0), (18, .istore_n 3, 1, 0, 0, 0, .null), (19, .iload_n 3, 1, 0, 0, 0, .null), (20, .aload_n 0, 1, 0, 0, 0, .null), (21, .getfield 57, 3, 10, 7, 473, .null), (24, .getfield 208, 3, 0, 10, 396, .null), (27, .if_icmp .ge 39, 3, 66, 0, 0, .null), (30, .aload_n 0, 1, 0, 0, 0, .null), (31, .getfield 33, 3, 10, 3, 469, .null), (34, .aload_n 0, 1, 0, 0, 0, .null), (35, .getfield 57, 3, 10, 7, 473, .null), (38, .iload_n 3, 1, 0, 0, 0, .null), (39, .invokevirtual 114, 3, 41, 3, 808, .ref 7), (42, .iload_n 1, 1, 0, 0, 0, .null), (43, .iand, 1, 0, 0, 0, .null), (44, .istore 4, 2, 0, 0, 0, .null), (46, .iload 4, 2, 0, 0, 0, .null), (48, .invokestatic 264, 3, 265, 1, 1075, .retAddr 0), (51, .iconst 1, 1, 0, 0, 0, .int 1), (52, .if_icmp .ne 8, 3, 60, 0, 0, .null), (55, .iload_n 2, 1, 0, 0, 0, .null), (56, .iload 4, 2, 0, 0, 0, .null), (58, .ior, 1, 0, 0, 0, .null), (59, .istore_n 2, 1, 0, 0, 0, .null), (60, .iinc 3 1, 3, 0, 0, 0, .null), (63, .goto (-44), 3, 19, 0, 0, .null), (66, .iload_n 2, 1, 0, 0, 0, .null), (67, .ireturn, 1, 0, 0, 0, .null)]
set_option maxRecDepth 100000 in
theorem oX10_alone : fc_code mX10_alone lX10_alone = true := by decide +kernel
def lX10_reach : List fc_I := [(0, .aload_n 0, 1, 0, 0, 0, .null), (1, .getfield 57, 3, 10, 7, 473, .null), (4, .iload_n 1, 1, 0, 0, 0, .null), (5, .invokevirtual 106, 3, 3, 2, 804, .ref 0), (8, .ifCond .eq 19, 3, 27, 0, 0, .null), (11, .aload_n 0, 1, 0, 0, 0, .null), (12, .getfield 26, 3, 10, 2, 468, .null), (15, .aload_n 0, 1, 0, 0, 0, .null), (16, .getfield 57, 3, 10, 7, 473, .null), (19, .iload_n 1, 1, 0, 0, 0, .null), (20, .iconst 0, 1, 0, 0, 0, .int 0), (21, .invokevirtual 269, 3, 71, 4, 1080, .ref 9), (24, .goto 4, 3, 28, 0, 0, .null), (27, .iconst (-1), 1, 0, 0, 0, .int (-1)), (28, .ireturn, 1, 0, 0, 0, .null)]
set_option maxRecDepth 100000 in
theorem oX10_reach : fc_code mX10_reach lX10_reach = true := by decide +kernel
def lX10_far : List fc_I := [(0, .aload_n 0, 1, 0, 0, 0, .null), (1, .getfield 57, 3, 10, 7, 473, .null), (4, .iload_n 1, 1, 0, 0, 0, .null), (5, .invokevirtual 106, 3, 3, 2, 804, .ref 0), (8, .ifCond .eq 14, 3, 22, 0, 0, .null), (11, .aload_n 0, 1, 0, 0, 0, .null), (12, .getfield 57, 3, 10, 7, 473, .null), (15, .iload_n 2, 1, 0, 0, 0, .null), (16, .invokevirtual 106, 3, 3, 2, 804, .ref 0), (19, .ifCond .ne 5, 3, 24, 0, 0, .null), (22, .iconst (-1), 1, 0, 0, 0, .int (-1)), (23, .ireturn, 1, 0, 0, 0, .null), (24, .aload_n 0, 1, 0, 0, 0, .null), (25, .getfield 26, 3, 10, 2, 468, .null), (28, .getfield 272, 3, 9, 0, 225, .null), (31, .iload_n 1, 1, 0, 0, 0, .null), (32, .aaload, 1, 0, 0, 0, .null), (33, .iload_n 2, 1, 0, 0, 0, .null), (34, .iaload, 1, 0, 0, 0, .null), (35, .invokestatic 205, 3, 121, 1, 987, .retAddr 0), (38, .ireturn, 1, 0, 0, 0, .null)]
set_option maxRecDepth 100000 in
theorem oX10_far : fc_code mX10_far lX10_far = true := by decide +kernel
def lX10_cuts : List fc_I := [(0, .iconst 0, 1, 0, 0, 0, .int 0), (1, .istore_n 1, 1, 0, 0, 0, .null), (2, .iconst 0, 1, 0, 0, 0, .int 0), (3, .istore_n 2, 1, 0, 0, 0, .null), (4, .iload_n 2, 1, 0, 0, 0, .null), (5, .aload_n 0, 1, 0, 0, 0, .null), (6, .getfield 57, 3, 10, 7, 473, .null), (9, .getfield 208, 3, 0, 10, 396, .null), (12, .if_icmp .ge 30, 3, 42, 0, 0, .null), (15, .aload_n 0, 1, 0, 0, 0, .null), (16, .getfield 26, 3, 10, 2, 468, .null), (19, .aload_n 0, 1, 0, 0, 0, .null), (20, .getfield 57, 3, 10, 7, 473, .null), (23, .iload_n 2, 1, 0, 0, 0, .null), (24, .invokevirtual 275, 3, 72, 3, 1089, .ref 9), (27, .ifCond .eq 9, 3, 36, 0, 0, .null), (30, .iload_n 1, 1, 0, 0, 0, .null), (31, .iconst 1, 1, 0, 0, 0, .int 1), (32, .iload_n 2, 1, 0, 0, 0, .null), (33, .ishl, 1, 0, 0, 0, .null), (34, .ior, 1, 0, 0, 0, .null), (35, .istore_n 1, 1, 0, 0, 0, .null), (36, .iinc 2 1, 3, 0, 0, 0, .null), (39, .goto (-35), 3, 4, 0, 0, .null), (42, .iload_n 1, 1, 0, 0, 0, .null), (43, .ireturn, 1, 0, 0, 0, .null)]
set_option maxRecDepth 100000 in
theorem oX10_cuts : fc_code mX10_cuts lX10_cuts = true := by decide +kernel
def lX10_hub : List fc_I := [(0, .iconst (-1), 1, 0, 0, 0, .int (-1)), (1, .istore_n 1, 1, 0, 0, 0, .null), (2, .sipush 1000, 3, 0, 0, 0, .int 1000), (5, .istore_n 2, 1, 0, 0, 0, .null), (6, .iconst 0, 1, 0, 0, 0, .int 0), (7, .istore_n 3, 1, 0, 0, 0, .null), (8, .iload_n 3, 1, 0, 0, 0, .null), (9, .aload_n 0, 1, 0, 0, 0, .null), (10, .getfield 57, 3, 10, 7, 473, .null), (13, .getfield 208, 3, 0, 10, 396, .null), (16, .if_icmp .ge 34, 3, 50, 0, 0, .null), (19, .aload_n 0, 1, 0, 0, 0, .null), (20, .getfield 26, 3, 10, 2, 468, .null), (23, .aload_n 0, 1, 0, 0, 0, .null), (24, .getfield 57, 3, 10, 7, 473, .null), (27, .iload_n 3, 1, 0, 0, 0, .null), (28, .invokevirtual 278, 3, 73, 3, 1097, .ref 9), (31, .istore 4, 2, 0, 0, 0, .null), (33, .iload 4, 2, 0, 0, 0, .null), (35, .iload_n 2, 1, 0, 0, 0, .null), (36, .if_icmp .ge 8, 3, 44, 0, 0, .null), (39, .iload 4, 2, 0, 0, 0, .null), (41, .istore_n 2, 1, 0, 0, 0, .null), (42, .iload_n 3, 1, 0, 0, 0, .null), (43, .istore_n 1, 1, 0, 0, 0, .null), (44, .iinc 3 1, 3, 0, 0, 0, .null), (47, .goto (-39), 3, 8, 0, 0, .null), (50, .iload_n 1, 1, 0, 0, 0, .null), (51, .ireturn, 1, 0, 0, 0, .null)]
set_option maxRecDepth 100000 in
theorem oX10_hub : fc_code mX10_hub lX10_hub = true := by decide +kernel
def lX10_links : List fc_I := [(0, .aload_n 0, 1, 0, 0, 0, .null), (1, .getfield 57, 3, 10, 7, 473, .null), (4, .iload_n 1, 1, 0, 0, 0, .null), (5, .invokevirtual 106, 3, 3, 2, 804, .ref 0), (8, .ifCond .eq 18, 3, 26, 0, 0, .null), (11, .aload_n 0, 1, 0, 0, 0, .null), (12, .getfield 57, 3, 10, 7, 473, .null), (15, .getfield 110, 3, 0, 3, 368, .null), (18, .iload_n 1, 1, 0, 0, 0, .null), (19, .iaload, 1, 0, 0, 0, .null), (20, .invokestatic 264, 3, 265, 1, 1075, .retAddr 0), (23, .goto 4, 3, 27, 0, 0, .null), (26, .iconst (-1), 1, 0, 0, 0, .int (-1)), (27, .ireturn, 1, 0, 0, 0, .null)]
set_option maxRecDepth 100000 in
theorem oX10_links : fc_code mX10_links lX10_links = true := by decide +kernel
def lX10_see : List fc_I := [(0, .aload_n 0, 1, 0, 0, 0, .null), (1, .getfield 57, 3, 10, 7, 473, .null), (4, .iload_n 1, 1, 0, 0, 0, .null), (5, .invokevirtual 106, 3, 3, 2, 804, .ref 0), (8, .ifCond .eq 30, 3, 38, 0, 0, .null), (11, .iconst 0, 1, 0, 0, 0, .int 0), (12, .iload_n 2, 1, 0, 0, 0, .null), (13, .bipush 99, 2, 0, 0, 0, .int 99), (15, .invokestatic 281, 3, 119, 3, 1110, .retAddr 0), (18, .ifCond .eq 20, 3, 38, 0, 0, .null), (21, .aload_n 0, 1, 0, 0, 0, .null), (22, .getfield 50, 3, 10, 6, 472, .null), (25, .iload_n 1, 1, 0, 0, 0, .null), (26, .iload_n 2, 1, 0, 0, 0, .null), (27, .iload_n 3, 1, 0, 0, 0, .null), (28, .invokevirtual 285, 3, 37, 4, 1111, .ref 6), (31, .ifCond .eq 7, 3, 38, 0, 0, .null), (34, .iconst 1, 1, 0, 0, 0, .int 1), (35, .goto 4, 3, 39, 0, 0, .null), (38, .iconst 0, 1, 0, 0, 0, .int 0), (39, .ireturn, 1, 0, 0, 0, .null)]
set_option maxRecDepth 100000 in
theorem oX10_see : fc_code mX10_see lX10_see = true := by decide +kernel
def lX10_who : List fc_I := [(0, .iconst 0, 1, 0, 0, 0, .int 0), (1, .istore_n 1, 1, 0, 0, 0, .null), (2, .iconst 0, 1, 0, 0, 0, .int 0), (3, .istore_n 2, 1, 0, 0, 0, .null), (4, .iload_n 2, 1, 0, 0, 0, .null), (5, .aload_n 0, 1, 0, 0, 0, .null), (6, .getfield 57, 3, 10, 7, 473, .null), (9, .getfield 219, 3, 0, 12, 405, .null), (12, .if_icmp .ge 23, 3, 35, 0, 0, .null), (15, .aload_n 0, 1, 0, 0, 0, .null), (16, .iload_n 2, 1, 0, 0, 0, .null), (17, .invokevirtual 289, 3, 129, 2, 1119, .ref 10), (20, .ifCond .eq 9, 3, 29, 0, 0, .null), (23, .iload_n 1, 1, 0, 0, 0, .null), (24, .iconst 1, 1, 0, 0, 0, .int 1), (25, .iload_n 2, 1, 0, 0, 0, .null), (26, .ishl, 1, 0, 0, 0, .null), (27, .ior, 1, 0, 0, 0, .null), (28, .istore_n 1, 1, 0, 0, 0, .null), (29, .iinc 2 1, 3, 0, 0, 0, .null), (32, .goto (-28), 3, 4, 0, 0, .null), (35, .iload_n 1, 1, 0, 0, 0, .null), (36, .ireturn, 1, 0, 0, 0, .null)]
set_option maxRecDepth 100000 in
theorem oX10_who : fc_code mX10_who lX10_who = true := by decide +kernel
def lX10_ask : List fc_I := [(0, .aload_n 0, 1, 0, 0, 0, .null), (1, .invokevirtual 292, 3, 108, 1, 1127, .ref 10), (4, .istore_n 1, 1, 0, 0, 0, .null), (5, .iconst (-1), 1, 0, 0, 0, .int (-1)), (6, .istore_n 2, 1, 0, 0, 0, .null), (7, .iload_n 1, 1, 0, 0, 0, .null), (8, .invokestatic 264, 3, 265, 1, 1075, .retAddr 0), (11, .istore_n 3, 1, 0, 0, 0, .null), (12, .iconst 0, 1, 0, 0, 0, .int 0), (13, .istore 4, 2, 0, 0, 0, .null), (15, .iload 4, 2, 0, 0, 0, .null), (17, .bipush 99, 2, 0, 0, 0, .int 99), (19, .if_icmp .gt 59, 3, 78, 0, 0, .null), (22, .iconst 0, 1, 0, 0, 0, .int 0), (23, .istore 5, 2, 0, 0, 0, .null), (25, .iload 5, 2, 0, 0, 0, .null), (27, .aload_n 0, 1, 0, 0, 0, .null), (28, .getfield 57, 3, 10, 7, 473, .null), (31, .getfield 208, 3, 0, 10, 396, .null), (34, .if_icmp .ge 38, 3, 72, 0, 0, .null), (37, .aload_n 0, 1, 0, 0, 0, .null), (38, .iload_n 1, 1, 0, 0, 0, .null), (39, .iload 5, 2, 0, 0, 0, .null), (41, .iload 4, 2, 0, 0, 0, .null), (43, .invokevirtual 296, 3, 130, 4, 1128, .ref 10), (46, .istore 6, 2, 0, 0, 0, .null), (48, .iload 6, 2, 0, 0, 0, .null), (50, .iload_n 3, 1, 0, 0, 0, .null), (51, .if_icmp .ge 15, 3, 66, 0, 0, .null), (54, .iload 6, 2, 0, 0, 0, .null), (56, .istore_n 3, 1, 0, 0, 0, .null), (57, .bipush 8, 2, 0, 0, 0, .int 8), (59, .iload 4, 2, 0, 0, 0, .null), (61, .imul, 1, 0, 0, 0, .null), (62, .iload 5, 2, 0, 0, 0, .null), (64, .iadd, 1, 0, 0, 0, .null), (65, .istore_n 2, 1, 0, 0, 0, .null), (66, .iinc 5 1, 3, 0, 0, 0, .null), (69, .goto (-44), 3, 25, 0, 0, .null), (72, .iinc 4 1, 3, 0, 0, 0, .null), (75, .goto (-60), 3, 15, 0, 0, .null), (78, .iload_n 2, 1, 0, 0, 0, .null), (79, .ireturn, 1, 0, 0, 0, .null)]
set_option maxRecDepth 100000 in
theorem oX10_ask : fc_code mX10_ask lX10_ask = true := by decide +kernel
def lX10_wide : List fc_I := [(0, .iconst (-1), 1, 0, 0, 0, .int (-1)), (1, .istore_n 1, 1, 0, 0, 0, .null), (2, .iconst 0, 1, 0, 0, 0, .int 0), (3, .istore_n 2, 1, 0, 0, 0, .null), (4, .iconst 0, 1, 0, 0, 0, .int 0), (5, .istore_n 3, 1, 0, 0, 0, .null), (6, .iload_n 3, 1, 0, 0, 0, .null), (7, .aload_n 0, 1, 0, 0, 0, .null), (8, .getfield 57, 3, 10, 7, 473, .null), (11, .getfield 208, 3, 0, 10, 396, .null), (14, .if_icmp .ge 71, 3, 85, 0, 0, .null), (17, .iload_n 3, 1, 0, 0, 0, .null), (18, .iconst 1, 1, 0, 0, 0, .int 1), (19, .iadd, 1, 0, 0, 0, .null), (20, .istore 4, 2, 0, 0, 0, .null), (22, .iload 4, 2, 0, 0, 0, .null), (24, .aload_n 0, 1, 0, 0, 0, .null), (25, .getfield 57, 3, 10, 7, 473, .null), (28, .getfield 208, 3, 0, 10, 396, .null), (31, .if_icmp .ge 48, 3, 79, 0, 0, .null), (34, .aload_n 0, 1, 0, 0, 0, .null), (35, .getfield 26, 3, 10, 2, 468, .null), (38, .getfield 272, 3, 9, 0, 225, .null), (41, .iload_n 3, 1, 0, 0, 0, .null), (42, .aaload, 1, 0, 0, 0, .null), (43, .iload 4, 2, 0, 0, 0, .null), (45, .iaload, 1, 0, 0, 0, .null), (46, .istore 5, 2, 0, 0, 0, .null), (48, .iload 5, 2, 0, 0, 0, .null), (50, .iload_n 2, 1, 0, 0, 0, .null), (51, .if_icmp .le 22, 3, 73, 0, 0, .null), (54, .iload 5, 2, 0, 0, 0, .null), (56, .sipush 1000, 3, 0, 0, 0, .int 1000), (59, .if_icmp .ge 14, 3, 73, 0, 0, .null), (62, .iload 5, 2, 0, 0, 0, .null), (64, .istore_n 2, 1, 0, 0, 0, .null), (65, .bipush 8, 2, 0, 0, 0, .int 8), (67, .iload_n 3, 1, 0, 0, 0, .null), (68, .imul, 1, 0, 0, 0, .null), (69, .iload 4, 2, 0, 0, 0, .null), (71, .iadd, 1, 0, 0, 0, .null), (72, .istore_n 1, 1, 0, 0, 0, .null), (73, .iinc 4 1, 3, 0, 0, 0, .null), (76, .goto (-54), 3, 22, 0, 0, .null), (79, .iinc 3 1, 3, 0, 0, 0, .null), (82, .goto (-76), 3, 6, 0, 0, .null), (85, .iload_n 1, 1, 0, 0, 0, .null), (86, .ireturn, 1, 0, 0, 0, .null)]
set_option maxRecDepth 100000 in
theorem oX10_wide : fc_code mX10_wide lX10_wide = true := by decide +kernel
def lX10_has : List fc_I := [(0, .aload_n 0, 1, 0, 0, 0, .null), (1, .getfield 57, 3, 10, 7, 473, .null), (4, .iload_n 1, 1, 0, 0, 0, .null), (5, .invokevirtual 125, 3, 4, 2, 824, .ref 0), (8, .ifCond .eq 12, 3, 20, 0, 0, .null), (11, .aload_n 0, 1, 0, 0, 0, .null), (12, .iload_n 1, 1, 0, 0, 0, .null), (13, .iload_n 2, 1, 0, 0, 0, .null), (14, .invokevirtual 300, 3, 124, 3, 1140, .ref 10), (17, .goto 4, 3, 21, 0, 0, .null), (20, .iconst (-1), 1, 0, 0, 0, .int (-1)), (21, .ireturn, 1, 0, 0, 0, .null)]
set_option maxRecDepth 100000 in
theorem oX10_has : fc_code mX10_has lX10_has = true := by decide +kernel
def lX10_sleeps : List fc_I := [(0, .aload_n 0, 1, 0, 0, 0, .null), (1, .getfield 57, 3, 10, 7, 473, .null), (4, .iload_n 1, 1, 0, 0, 0, .null), (5, .invokevirtual 125, 3, 4, 2, 824, .ref 0), (8, .ifCond .eq 21, 3, 29, 0, 0, .null), (11, .aload_n 0, 1, 0, 0, 0, .null), (12, .getfield 57, 3, 10, 7, 473, .null), (15, .iload_n 1, 1, 0, 0, 0, .null), (16, .aload_n 0, 1, 0, 0, 0, .null), (17, .getfield 33, 3, 10, 3, 469, .null), (20, .getfield 118, 3, 7, 1, 244, .null), (23, .invokevirtual 304, 3, 7, 3, 1148, .ref 0), (26, .goto 4, 3, 30, 0, 0, .null), (29, .iconst (-1), 1, 0, 0, 0, .int (-1)), (30, .ireturn, 1, 0, 0, 0, .null)]
set_option maxRecDepth 100000 in
theorem oX10_sleeps : fc_code mX10_sleeps lX10_sleeps = true := by decide +kernel
def lX10_rich : List fc_I := [(0, .iconst (-1), 1, 0, 0, 0, .int (-1)), (1, .istore_n 2, 1, 0, 0, 0, .null), (2, .iconst (-1), 1, 0, 0, 0, .int (-1)), (3, .istore_n 3, 1, 0, 0, 0, .null), (4, .iconst 0, 1, 0, 0, 0, .int 0), (5, .istore 4, 2, 0, 0, 0, .null), (7, .iload 4, 2, 0, 0, 0, .null), (9, .aload_n 0, 1, 0, 0, 0, .null), (10, .getfield 57, 3, 10, 7, 473, .null), (13, .getfield 219, 3, 0, 12, 405, .null), (16, .if_icmp .ge 30, 3, 46, 0, 0, .null), (19, .aload_n 0, 1, 0, 0, 0, .null), (20, .iload 4, 2, 0, 0, 0, .null), (22, .iload_n 1, 1, 0, 0, 0, .null), (23, .invokevirtual 300, 3, 124, 3, 1140, .ref 10), (26, .istore 5, 2, 0, 0, 0, .null), (28, .iload 5, 2, 0, 0, 0, .null), (30, .iload_n 3, 1, 0, 0, 0, .null), (31, .if_icmp .le 9, 3, 40, 0, 0, .null), (34, .iload 5, 2, 0, 0, 0, .null), (36, .istore_n 3, 1, 0, 0, 0, .null), (37, .iload 4, 2, 0, 0, 0, .null), (39, .istore_n 2, 1, 0, 0, 0, .null), (40, .iinc 4 1, 3, 0, 0, 0, .null), (43, .goto (-36), 3, 7, 0, 0, .null), (46, .iload_n 2, 1, 0, 0, 0, .null), (47, .ireturn, 1, 0, 0, 0, .null)]
set_option maxRecDepth 100000 in
theorem oX10_rich : fc_code mX10_rich lX10_rich = true := by decide +kernel
def lX10_chance : List fc_I := [(0, .iconst 1, 1, 0, 0, 0, .int 1), (1, .iload_n 1, 1, 0, 0, 0, .null), (2, .bipush 6, 2, 0, 0, 0, .int 6), (4, .invokestatic 281, 3, 119, 3, 1110, .retAddr 0), (7, .ifCond .eq 13, 3, 20, 0, 0, .null), (10, .iconst 0, 1, 0, 0, 0, .int 0), (11, .iload_n 2, 1, 0, 0, 0, .null), (12, .bipush 10, 2, 0, 0, 0, .int 10), (14, .invokestatic 281, 3, 119, 3, 1110, .retAddr 0), (17, .ifCond .ne 5, 3, 22, 0, 0, .null), (20, .iconst (-1), 1, 0, 0, 0, .int (-1)), (21, .ireturn, 1, 0, 0, 0, .null), (22, .iload_n 1, 1, 0, 0, 0, .null), (23, .aload_n 0, 1, 0, 0, 0, .null), (24, .getfield 57, 3, 10, 7, 473, .null), (27, .getfield 232, 3, 0, 14, 414, .null), (30, .aload_n 0, 1, 0, 0, 0, .null), (31, .getfield 33, 3, 10, 3, 469, .null), (34, .getfield 118, 3, 7, 1, 244, .null), (37, .isub, 1, 0, 0, 0, .null), (38, .invokestatic 216, 3, 0, 0, 995, .retAddr 11), (41, .istore_n 3, 1, 0, 0, 0, .null), (42, .iconst 1, 1, 0, 0, 0, .int 1), (43, .istore 4, 2, 0, 0, 0, .null), (45, .iconst 0, 1, 0, 0, 0, .int 0), (46, .istore 5, 2, 0, 0, 0, .null), (48, .iload 5, 2, 0, 0, 0, .null), (50, .bipush 6, 2, 0, 0, 0, .int 6), (52, .if_icmp .ge 29, 3, 81, 0, 0, .null), (55, .iload 4, 2, 0, 0, 0, .null), (57, .iload 5, 2, 0, 0, 0, .null), (59, .iload_n 3, 1, 0, 0, 0, .null), (60, .if_icmp .ge 10, 3, 70, 0, 0, .null), (63, .bipush 10, 2, 0, 0, 0, .int 10), (65, .iload_n 2, 1, 0, 0, 0, .null), (66, .isub, 1, 0, 0, 0, .null), (67, .goto 5, 3, 72, 0, 0, .null), (70, .bipush 10, 2, 0, 0, 0, .int 10), (72, .imul, 1, 0, 0, 0, .null), (73, .istore 4, 2, 0, 0, 0, .null), (75, .iinc 5 1, 3, 0, 0, 0, .null), (78, .goto (-30), 3, 48, 0, 0, .null), (81, .iload 4, 2, 0, 0, 0, .null), (83, .ireturn, 1, 0, 0, 0, .null)]
set_option maxRecDepth 100000 in
theorem oX10_chance : fc_code mX10_chance lX10_chance = true := by decide +kernel
def lX10_mornings : List fc_I := [(0, .iconst 0, 1, 0, 0, 0, .int 0), (1, .iload_n 1, 1, 0, 0, 0, .null), (2, .sipush 9999, 3, 0, 0, 0, .int 9999), (5, .invokestatic 281, 3, 119, 3, 1110, .retAddr 0), (8, .ifCond .eq 22, 3, 30, 0, 0, .null), (11, .iconst 1, 1, 0, 0, 0, .int 1), (12, .iload_n 2, 1, 0, 0, 0, .null), (13, .bipush 99, 2, 0, 0, 0, .int 99), (15, .invokestatic 281, 3, 119, 3, 1110, .retAddr 0), (18, .ifCond .eq 12, 3, 30, 0, 0, .null), (21, .iconst 0, 1, 0, 0, 0, .int 0), (22, .iload_n 3, 1, 0, 0, 0, .null), (23, .iconst 2, 1, 0, 0, 0, .int 2), (24, .invokestatic 281, 3, 119, 3, 1110, .retAddr 0), (27, .ifCond .ne 5, 3, 32, 0, 0, .null), (30, .iconst (-1), 1, 0, 0, 0, .int (-1)), (31, .ireturn, 1, 0, 0, 0, .null), (32, .aload_n 0, 1, 0, 0, 0, .null), (33, .iload_n 1, 1, 0, 0, 0, .null), (34, .i2l, 1, 0, 0, 0, .null), (35, .putfield 320, 3, 10, 11, 477, .null), (38, .aload_n 0, 1, 0, 0, 0, .null), (39, .getfield 37, 3, 10, 4, 470, .null), (42, .aload_n 0, 1, 0, 0, 0, .null), (43, .getfield 33, 3, 10, 3, 469, .null), (46, .invokevirtual 258, 3, 40, 2, 1066, .ref 7), (49, .iconst 0, 1, 0, 0, 0, .int 0), (50, .istore 4, 2, 0, 0, 0, .null), (52, .iconst 0, 1, 0, 0, 0, .int 0), (53, .istore 5, 2, 0, 0, 0, .null), (55, .iload 5, 2, 0, 0, 0, .null), (57, .iload_n 2, 1, 0, 0, 0, .null), (58, .if_icmp .ge 41, 3, 99, 0, 0, .null), (61, .aload_n 0, 1, 0, 0, 0, .null), (62, .getfield 57, 3, 10, 7, 473, .null), (65, .getfield 219, 3, 0, 12, 405, .null), (68, .ifCond .le 13, 3, 81, 0, 0, .null), (71, .aload_n 0, 1, 0, 0, 0, .null), (72, .invokevirtual 324, 3, 134, 1, 1161, .ref 10), (75, .ifCond .eq 6, 3, 81, 0, 0, .null), (78, .iinc 4 1, 3, 0, 0, 0, .null), (81, .aload_n 0, 1, 0, 0, 0, .null), (82, .getfield 37, 3, 10, 4, 470, .null), (85, .aload_n 0, 1, 0, 0, 0, .null), (86, .getfield 57, 3, 10, 7, 473, .null), (89, .invokevirtual 185, 3, 54, 2, 929, .ref 7), (92, .pop, 1, 0, 0, 0, .null), (93, .iinc 5 1, 3, 0, 0, 0, .null), (96, .goto (-41), 3, 55, 0, 0, .null), (99, .iload_n 3, 1, 0, 0, 0, .null), (100, .lookupswitch 43 #[(0, 28), (1, 31)], 28, 0, 0, 0, .null), (128, .iload 4, 2, 0, 0, 0, .null), (130, .ireturn, 1, 0, 0, 0, .null), (131, .aload_n 0, 1, 0, 0, 0, .null), (132, .getfield 37, 3, 10, 4, 470, .null), (135, .aload_n 0, 1, 0, 0, 0, .null), (136, .getfield 57, 3, 10, 7, 473, .null), (139, .invokevirtual 235, 3, 42, 2, 1028, .ref 7), (142, .ireturn, 1, 0, 0, 0, .null), (143, .aload_n 0, 1, 0, 0, 0, .null), (144, .getfield 37, 3, 10, 4, 470, .null), (147, .aload_n 0, 1, 0, 0, 0, .null), (148, .getfield 57, 3, 10, 7, 473, .null), (151, .invokevirtual 261, 3, 43, 2, 1067, .ref 7), (154, .ireturn, 1, 0, 0, 0, .null)]
set_option maxRecDepth 100000 in
theorem oX10_mornings : fc_code mX10_mornings lX10_mornings = true := by decide +kernel
def lX10_mark : List fc_I := [(0, .iconst 0, 1, 0, 0, 0, .int 0), (1, .iload_n 1, 1, 0, 0, 0, .null), (2, .iconst 3, 1, 0, 0, 0, .int 3), (3, .invokestatic 281, 3, 119, 3, 1110, .retAddr 0), (6, .ifCond .ne 5, 3, 11, 0, 0, .null), (9, .iconst 0, 1, 0, 0, 0, .int 0), (10, .ireturn, 1, 0, 0, 0, .null), (11, .iload_n 2, 1, 0, 0, 0, .null), (12, .ifCond .eq 20, 3, 32, 0, 0, .null), (15, .aload_n 0, 1, 0, 0, 0, .null), (16, .getfield 43, 3, 10, 5, 471, .null), (19, .iload_n 1, 1, 0, 0, 0, .null), (20, .aload_n 0, 1, 0, 0, 0, .null), (21, .getfield 33, 3, 10, 3, 469, .null), (24, .aload_n 0, 1, 0, 0, 0, .null), (25, .getfield 50, 3, 10, 6, 472, .null), (28, .invokevirtual 328, 3, 32, 4, 1177, .ref 4), (31, .ireturn, 1, 0, 0, 0, .null), (32, .aload_n 0, 1, 0, 0, 0, .null), (33, .getfield 43, 3, 10, 5, 471, .null), (36, .iload_n 1, 1, 0, 0, 0, .null), (37, .aload_n 0, 1, 0, 0, 0, .null), (38, .getfield 33, 3, 10, 3, 469, .null), (41, .aload_n 0, 1, 0, 0, 0, .null), (42, .getfield 50, 3, 10, 6, 472, .null), (45, .invokevirtual 332, 3, 31, 4, 1185, .ref 4), (48, .iconst 1, 1, 0, 0, 0, .int 1), (49, .ireturn, 1, 0, 0, 0, .null)]
set_option maxRecDepth 100000 in
theorem oX10_mark : fc_code mX10_mark lX10_mark = true := by decide +kernel
def lX10_count : List fc_I := [(0, .iload_n 1, 1, 0, 0, 0, .null), (1, .tableswitch 196 0 13 #[71, 79, 87, 95, 103, 111, 119, 127, 142, 153, 164, 172, 180, 188], 71, 0, 0, 0, .null), (72, .aload_n 0, 1, 0, 0, 0, .null), (73, .getfield 57, 3, 10, 7, 473, .null), (76, .getfield 208, 3, 0, 10, 396, .null), (79, .ireturn, 1, 0, 0, 0, .null), (80, .aload_n 0, 1, 0, 0, 0, .null), (81, .getfield 57, 3, 10, 7, 473, .null), (84, .getfield 336, 3, 0, 11, 400, .null), (87, .ireturn, 1, 0, 0, 0, .null), (88, .aload_n 0, 1, 0, 0, 0, .null), (89, .getfield 57, 3, 10, 7, 473, .null), (92, .getfield 219, 3, 0, 12, 405, .null), (95, .ireturn, 1, 0, 0, 0, .null), (96, .aload_n 0, 1, 0, 0, 0, .null), (97, .getfield 57, 3, 10, 7, 473, .null), (100, .getfield 339, 3, 0, 13, 410, .null), (103, .ireturn, 1, 0, 0, 0, .null), (104, .aload_n 0, 1, 0, 0, 0, .null), (105, .getfield 57, 3, 10, 7, 473, .null), (108, .getfield 232, 3, 0, 14, 414, .null), (111, .ireturn, 1, 0, 0, 0, .null), (112, .aload_n 0, 1, 0, 0, 0, .null), (113, .getfield 33, 3, 10, 3, 469, .null), (116, .getfield 342, 3, 7, 0, 242, .null), (119, .ireturn, 1, 0, 0, 0, .null), (120, .aload_n 0, 1, 0, 0, 0, .null), (121, .getfield 33, 3, 10, 3, 469, .null), (124, .getfield 118, 3, 7, 1, 244, .null), (127, .ireturn, 1, 0, 0, 0, .null), (128, .aload_n 0, 1, 0, 0, 0, .null), (129, .getfield 57, 3, 10, 7, 473, .null), (132, .aload_n 0, 1, 0, 0, 0, .null), (133, .getfield 33, 3, 10, 3, 469, .null), (136, .getfield 118, 3, 7, 1, 244, .null), (139, .invokevirtual 121, 3, 8, 2, 812, .ref 0), (142, .ireturn, 1, 0, 0, 0, .null), (143, .aload_n 0, 1, 0, 0, 0, .null), (144, .getfield 33, 3, 10, 3, 469, .null), (147, .getfield 249, 3, 7, 5, 251, .null), (150, .invokestatic 345, 3, 122, 1, 1193, .retAddr 0), (153, .ireturn, 1, 0, 0, 0, .null), (154, .aload_n 0, 1, 0, 0, 0, .null), (155, .getfield 33, 3, 10, 3, 469, .null), (158, .getfield 246, 3, 7, 6, 253, .null), (161, .invokestatic 345, 3, 122, 1, 1193, .retAddr 0), (164, .ireturn, 1, 0, 0, 0, .null), (165, .aload_n 0, 1, 0, 0, 0, .null), (166, .getfield 67, 3, 10, 9, 475, .null), (169, .getfield 96, 3, 5, 3, 456, .null), (172, .ireturn, 1, 0, 0, 0, .null), (173, .aload_n 0, 1, 0, 0, 0, .null), (174, .getfield 50, 3, 10, 6, 472, .null), (177, .getfield 99, 3, 6, 3, 300, .null), (180, .ireturn, 1, 0, 0, 0, .null), (181, .aload_n 0, 1, 0, 0, 0, .null), (182, .getfield 43, 3, 10, 5, 471, .null), (185, .getfield 349, 3, 4, 5, 317, .null), (188, .ireturn, 1, 0, 0, 0, .null), (189, .aload_n 0, 1, 0, 0, 0, .null), (190, .getfield 12, 3, 10, 0, 466, .null), (193, .getfield 78, 3, 8, 1, 146, .null), (196, .ireturn, 1, 0, 0, 0, .null), (197, .iconst (-1), 1, 0, 0, 0, .int (-1)), (198, .ireturn, 1, 0, 0, 0, .null)]
set_option maxRecDepth 100000 in
theorem oX10_count : fc_code mX10_count lX10_count = true := by decide +kernel
def lX10_isFrom : List fc_I := [(0, .iload_n 1, 1, 0, 0, 0, .null), (1, .iload_n 0, 1, 0, 0, 0, .null), (2, .if_icmp .lt 12, 3, 14, 0, 0, .null), (5, .iload_n 1, 1, 0, 0, 0, .null), (6, .iload_n 2, 1, 0, 0, 0, .null), (7, .if_icmp .gt 7, 3, 14, 0, 0, .null), (10, .iconst 1, 1, 0, 0, 0, .int 1), (11, .goto 4, 3, 15, 0, 0, .null), (14, .iconst 0, 1, 0, 0, 0, .int 0), (15, .ireturn, 1, 0, 0, 0, .null)]
set_option maxRecDepth 100000 in
theorem oX10_isFrom : fc_code mX10_isFrom lX10_isFrom = true := by decide +kernel
def lX10_isIn : List fc_I := [(0, .iload_n 0, 1, 0, 0, 0, .null), (1, .iload_n 1, 1, 0, 0, 0, .null), (2, .ishr, 1, 0, 0, 0, .null), (3, .iconst 1, 1, 0, 0, 0, .int 1), (4, .iand, 1, 0, 0, 0, .null), (5, .iconst 1, 1, 0, 0, 0, .int 1), (6, .if_icmp .ne 7, 3, 13, 0, 0, .null), (9, .iconst 1, 1, 0, 0, 0, .int 1), (10, .goto 4, 3, 14, 0, 0, .null), (13, .iconst 0, 1, 0, 0, 0, .int 0), (14, .ireturn, 1, 0, 0, 0, .null)]
set_option maxRecDepth 100000 in
theorem oX10_isIn : fc_code mX10_isIn lX10_isIn = true := by decide +kernel
def lX10_orNone : List fc_I := [(0, .iload_n 0, 1, 0, 0, 0, .null), (1, .bipush 99, 2, 0, 0, 0, .int 99), (3, .if_icmp .gt 7, 3, 10, 0, 0, .null), (6, .iload_n 0, 1, 0, 0, 0, .null), (7, .goto 4, 3, 11, 0, 0, .null), (10, .iconst (-1), 1, 0, 0, 0, .int (-1)), (11, .ireturn, 1, 0, 0, 0, .null)]
set_option maxRecDepth 100000 in
theorem oX10_orNone : fc_code mX10_orNone lX10_orNone = true := by decide +kernel
def lX10_pairsIn : List fc_I := [(0, .iconst 0, 1, 0, 0, 0, .int 0), (1, .istore_n 1, 1, 0, 0, 0, .null), (2, .iconst 0, 1, 0, 0, 0, .int 0), (3, .istore_n 2, 1, 0, 0, 0, .null), (4, .iload_n 2, 1, 0, 0, 0, .null), (5, .iconst 5, 1, 0, 0, 0, .int 5), (6, .if_icmp .ge 18, 3, 24, 0, 0, .null), (9, .iload_n 1, 1, 0, 0, 0, .null), (10, .aload_n 0, 1, 0, 0, 0, .null), (11, .iload_n 2, 1, 0, 0, 0, .null), (12, .iaload, 1, 0, 0, 0, .null), (13, .invokestatic 264, 3, 265, 1, 1075, .retAddr 0), (16, .iadd, 1, 0, 0, 0, .null), (17, .istore_n 1, 1, 0, 0, 0, .null), (18, .iinc 2 1, 3, 0, 0, 0, .null), (21, .goto (-17), 3, 4, 0, 0, .null), (24, .iload_n 1, 1, 0, 0, 0, .null), (25, .iconst 2, 1, 0, 0, 0, .int 2), (26, .idiv, 1, 0, 0, 0, .null), (27, .ireturn, 1, 0, 0, 0, .null)]
set_option maxRecDepth 100000 in
theorem oX10_pairsIn : fc_code mX10_pairsIn lX10_pairsIn = true := by decide +kernel
def lX10_thingsOf : List fc_I := [(0, .iconst 0, 1, 0, 0, 0, .int 0), (1, .istore_n 3, 1, 0, 0, 0, .null), (2, .iconst 0, 1, 0, 0, 0, .int 0), (3, .istore 4, 2, 0, 0, 0, .null), (5, .iload 4, 2, 0, 0, 0, .null), (7, .aload_n 0, 1, 0, 0, 0, .null), (8, .getfield 57, 3, 10, 7, 473, .null), (11, .getfield 339, 3, 0, 13, 410, .null), (14, .if_icmp .ge 24, 3, 38, 0, 0, .null), (17, .aload_n 1, 1, 0, 0, 0, .null), (18, .iload 4, 2, 0, 0, 0, .null), (20, .iaload, 1, 0, 0, 0, .null), (21, .iload_n 2, 1, 0, 0, 0, .null), (22, .if_icmp .ne 10, 3, 32, 0, 0, .null), (25, .iload_n 3, 1, 0, 0, 0, .null), (26, .iconst 1, 1, 0, 0, 0, .int 1), (27, .iload 4, 2, 0, 0, 0, .null), (29, .ishl, 1, 0, 0, 0, .null), (30, .ior, 1, 0, 0, 0, .null), (31, .istore_n 3, 1, 0, 0, 0, .null), (32, .iinc 4 1, 3, 0, 0, 0, .null), (35, .goto (-30), 3, 5, 0, 0, .null), (38, .iload_n 3, 1, 0, 0, 0, .null), (39, .ireturn, 1, 0, 0, 0, .null)]
set_option maxRecDepth 100000 in
theorem oX10_thingsOf : fc_code mX10_thingsOf lX10_thingsOf = true := by decide +kernel
def lX10_worthOf : List fc_I := [(0, .aload_n 0, 1, 0, 0, 0, .null), (1, .iload_n 2, 1, 0, 0, 0, .null), (2, .ifCond .eq 13, 3, 15, 0, 0, .null), (5, .aload_n 0, 1, 0, 0, 0, .null), (6, .getfield 33, 3, 10, 3, 469, .null), (9, .getfield 158, 3, 7, 8, 257, .null), (12, .goto 10, 3, 22, 0, 0, .null), (15, .aload_n 0, 1, 0, 0, 0, .null), (16, .getfield 33, 3, 10, 3, 469, .null), (19, .getfield 145, 3, 7, 7, 255, .null), (22, .iload_n 1, 1, 0, 0, 0, .null), (23, .invokevirtual 148, 3, 123, 3, 834, .ref 10), (26, .istore_n 3, 1, 0, 0, 0, .null), (27, .iconst 0, 1, 0, 0, 0, .int 0), (28, .istore 4, 2, 0, 0, 0, .null), (30, .iconst 0, 1, 0, 0, 0, .int 0), (31, .istore 5, 2, 0, 0, 0, .null), (33, .iload 5, 2, 0, 0, 0, .null), (35, .aload_n 0, 1, 0, 0, 0, .null), (36, .getfield 57, 3, 10, 7, 473, .null), (39, .getfield 339, 3, 0, 13, 410, .null), (42, .if_icmp .ge 33, 3, 75, 0, 0, .null), (45, .iload_n 3, 1, 0, 0, 0, .null), (46, .iload 5, 2, 0, 0, 0, .null), (48, .invokestatic 252, 3, 120, 2, 1057, .retAddr 0), (51, .ifCond .eq 18, 3, 69, 0, 0, .null), (54, .iload 4, 2, 0, 0, 0, .null), (56, .aload_n 0, 1, 0, 0, 0, .null), (57, .getfield 57, 3, 10, 7, 473, .null), (60, .getfield 155, 3, 0, 7, 382, .null), (63, .iload 5, 2, 0, 0, 0, .null), (65, .iaload, 1, 0, 0, 0, .null), (66, .iadd, 1, 0, 0, 0, .null), (67, .istore 4, 2, 0, 0, 0, .null), (69, .iinc 5 1, 3, 0, 0, 0, .null), (72, .goto (-39), 3, 33, 0, 0, .null), (75, .iload 4, 2, 0, 0, 0, .null), (77, .ireturn, 1, 0, 0, 0, .null)]
set_option maxRecDepth 100000 in
theorem oX10_worthOf : fc_code mX10_worthOf lX10_worthOf = true := by decide +kernel
def lX10_movedThings : List fc_I := [(0, .iconst 0, 1, 0, 0, 0, .int 0), (1, .istore_n 2, 1, 0, 0, 0, .null), (2, .iconst 0, 1, 0, 0, 0, .int 0), (3, .istore_n 3, 1, 0, 0, 0, .null), (4, .iload_n 3, 1, 0, 0, 0, .null), (5, .aload_n 0, 1, 0, 0, 0, .null), (6, .getfield 57, 3, 10, 7, 473, .null), (9, .getfield 339, 3, 0, 13, 410, .null), (12, .if_icmp .ge 30, 3, 42, 0, 0, .null), (15, .aload_n 1, 1, 0, 0, 0, .null), (16, .getfield 145, 3, 7, 7, 255, .null), (19, .iload_n 3, 1, 0, 0, 0, .null), (20, .iaload, 1, 0, 0, 0, .null), (21, .aload_n 0, 1, 0, 0, 0, .null), (22, .getfield 57, 3, 10, 7, 473, .null), (25, .getfield 352, 3, 0, 8, 388, .null), (28, .iload_n 3, 1, 0, 0, 0, .null), (29, .iaload, 1, 0, 0, 0, .null), (30, .if_icmp .eq 6, 3, 36, 0, 0, .null), (33, .iinc 2 1, 3, 0, 0, 0, .null), (36, .iinc 3 1, 3, 0, 0, 0, .null), (39, .goto (-35), 3, 4, 0, 0, .null), (42, .iload_n 2, 1, 0, 0, 0, .null), (43, .ireturn, 1, 0, 0, 0, .null)]
set_option maxRecDepth 100000 in
theorem oX10_movedThings : fc_code mX10_movedThings lX10_movedThings = true := by decide +kernel
def lX10_minutesTo : List fc_I := [(0, .aload_n 0, 1, 0, 0, 0, .null), (1, .getfield 33, 3, 10, 3, 469, .null), (4, .aload_n 0, 1, 0, 0, 0, .null), (5, .getfield 57, 3, 10, 7, 473, .null), (8, .iload_n 1, 1, 0, 0, 0, .null), (9, .aload_n 0, 1, 0, 0, 0, .null), (10, .getfield 26, 3, 10, 2, 468, .null), (13, .getfield 272, 3, 9, 0, 225, .null), (16, .aload_n 0, 1, 0, 0, 0, .null), (17, .getfield 33, 3, 10, 3, 469, .null), (20, .getfield 134, 3, 7, 2, 246, .null), (23, .iload_n 1, 1, 0, 0, 0, .null), (24, .iaload, 1, 0, 0, 0, .null), (25, .aaload, 1, 0, 0, 0, .null), (26, .iload_n 2, 1, 0, 0, 0, .null), (27, .iaload, 1, 0, 0, 0, .null), (28, .invokevirtual 228, 3, 45, 4, 978, .ref 7), (31, .ireturn, 1, 0, 0, 0, .null)]
set_option maxRecDepth 100000 in
theorem oX10_minutesTo : fc_code mX10_minutesTo lX10_minutesTo = true := by decide +kernel
def lX10_minutesOfAllTo : List fc_I := [(0, .iconst 0, 1, 0, 0, 0, .int 0), (1, .istore_n 2, 1, 0, 0, 0, .null), (2, .iconst 0, 1, 0, 0, 0, .int 0), (3, .istore_n 3, 1, 0, 0, 0, .null), (4, .iload_n 3, 1, 0, 0, 0, .null), (5, .aload_n 0, 1, 0, 0, 0, .null), (6, .getfield 57, 3, 10, 7, 473, .null), (9, .getfield 219, 3, 0, 12, 405, .null), (12, .if_icmp .ge 20, 3, 32, 0, 0, .null), (15, .iload_n 2, 1, 0, 0, 0, .null), (16, .aload_n 0, 1, 0, 0, 0, .null), (17, .iload_n 3, 1, 0, 0, 0, .null), (18, .iload_n 1, 1, 0, 0, 0, .null), (19, .invokevirtual 201, 3, 126, 3, 974, .ref 10), (22, .invokestatic 211, 3, 0, 0, 994, .retAddr 10), (25, .istore_n 2, 1, 0, 0, 0, .null), (26, .iinc 3 1, 3, 0, 0, 0, .null), (29, .goto (-25), 3, 4, 0, 0, .null), (32, .iload_n 2, 1, 0, 0, 0, .null), (33, .ireturn, 1, 0, 0, 0, .null)]
set_option maxRecDepth 100000 in
theorem oX10_minutesOfAllTo : fc_code mX10_minutesOfAllTo lX10_minutesOfAllTo = true := by decide +kernel
def lX10_isGift : List fc_I := [(0, .aload_n 0, 1, 0, 0, 0, .null), (1, .getfield 57, 3, 10, 7, 473, .null), (4, .iload_n 1, 1, 0, 0, 0, .null), (5, .invokevirtual 152, 3, 5, 2, 842, .ref 0), (8, .ifCond .eq 31, 3, 39, 0, 0, .null), (11, .aload_n 0, 1, 0, 0, 0, .null), (12, .getfield 57, 3, 10, 7, 473, .null), (15, .iload_n 2, 1, 0, 0, 0, .null), (16, .invokevirtual 125, 3, 4, 2, 824, .ref 0), (19, .ifCond .eq 20, 3, 39, 0, 0, .null), (22, .aload_n 0, 1, 0, 0, 0, .null), (23, .getfield 33, 3, 10, 3, 469, .null), (26, .getfield 145, 3, 7, 7, 255, .null), (29, .iload_n 1, 1, 0, 0, 0, .null), (30, .iaload, 1, 0, 0, 0, .null), (31, .iload_n 2, 1, 0, 0, 0, .null), (32, .if_icmp .eq 7, 3, 39, 0, 0, .null), (35, .iconst 1, 1, 0, 0, 0, .int 1), (36, .goto 4, 3, 40, 0, 0, .null), (39, .iconst 0, 1, 0, 0, 0, .int 0), (40, .ireturn, 1, 0, 0, 0, .null)]
set_option maxRecDepth 100000 in
theorem oX10_isGift : fc_code mX10_isGift lX10_isGift = true := by decide +kernel
def lX10_fitsSeen : List fc_I := [(0, .iconst 0, 1, 0, 0, 0, .int 0), (1, .istore_n 2, 1, 0, 0, 0, .null), (2, .iload_n 2, 1, 0, 0, 0, .null), (3, .aload_n 0, 1, 0, 0, 0, .null), (4, .getfield 50, 3, 10, 6, 472, .null), (7, .getfield 99, 3, 6, 3, 300, .null), (10, .if_icmp .ge 56, 3, 66, 0, 0, .null), (13, .aload_n 0, 1, 0, 0, 0, .null), (14, .iload_n 1, 1, 0, 0, 0, .null), (15, .aload_n 0, 1, 0, 0, 0, .null), (16, .getfield 50, 3, 10, 6, 472, .null), (19, .getfield 355, 3, 6, 0, 294, .null), (22, .iload_n 2, 1, 0, 0, 0, .null), (23, .iaload, 1, 0, 0, 0, .null), (24, .invokevirtual 201, 3, 126, 3, 974, .ref 10), (27, .aload_n 0, 1, 0, 0, 0, .null), (28, .getfield 50, 3, 10, 6, 472, .null), (31, .getfield 357, 3, 6, 1, 296, .null), (34, .iload_n 2, 1, 0, 0, 0, .null), (35, .iaload, 1, 0, 0, 0, .null), (36, .if_icmp .gt 7, 3, 43, 0, 0, .null), (39, .iconst 1, 1, 0, 0, 0, .int 1), (40, .goto 4, 3, 44, 0, 0, .null), (43, .iconst 0, 1, 0, 0, 0, .int 0), (44, .istore_n 3, 1, 0, 0, 0, .null), (45, .iload_n 3, 1, 0, 0, 0, .null), (46, .aload_n 0, 1, 0, 0, 0, .null), (47, .getfield 50, 3, 10, 6, 472, .null), (50, .getfield 360, 3, 6, 2, 298, .null), (53, .iload_n 2, 1, 0, 0, 0, .null), (54, .baload, 1, 0, 0, 0, .null), (55, .if_icmp .eq 5, 3, 60, 0, 0, .null), (58, .iconst 0, 1, 0, 0, 0, .int 0), (59, .ireturn, 1, 0, 0, 0, .null), (60, .iinc 2 1, 3, 0, 0, 0, .null), (63, .goto (-61), 3, 2, 0, 0, .null), (66, .iconst 1, 1, 0, 0, 0, .int 1), (67, .ireturn, 1, 0, 0, 0, .null)]
set_option maxRecDepth 100000 in
theorem oX10_fitsSeen : fc_code mX10_fitsSeen lX10_fitsSeen = true := by decide +kernel
def lX10_leftAtWorst : List fc_I := [(0, .iconst 0, 1, 0, 0, 0, .int 0), (1, .istore 4, 2, 0, 0, 0, .null), (3, .iconst 0, 1, 0, 0, 0, .int 0), (4, .istore 5, 2, 0, 0, 0, .null), (6, .iload 5, 2, 0, 0, 0, .null), (8, .aload_n 0, 1, 0, 0, 0, .null), (9, .getfield 57, 3, 10, 7, 473, .null), (12, .getfield 219, 3, 0, 12, 405, .null), (15, .if_icmp .ge 32, 3, 47, 0, 0, .null), (18, .iload_n 1, 1, 0, 0, 0, .null), (19, .iload 5, 2, 0, 0, 0, .null), (21, .invokestatic 252, 3, 120, 2, 1057, .retAddr 0), (24, .ifCond .eq 17, 3, 41, 0, 0, .null), (27, .aload_n 0, 1, 0, 0, 0, .null), (28, .iload 5, 2, 0, 0, 0, .null), (30, .iload_n 2, 1, 0, 0, 0, .null), (31, .invokevirtual 201, 3, 126, 3, 974, .ref 10), (34, .iload_n 3, 1, 0, 0, 0, .null), (35, .if_icmp .gt 6, 3, 41, 0, 0, .null), (38, .iinc 4 1, 3, 0, 0, 0, .null), (41, .iinc 5 1, 3, 0, 0, 0, .null), (44, .goto (-38), 3, 6, 0, 0, .null), (47, .iload 4, 2, 0, 0, 0, .null), (49, .iload_n 1, 1, 0, 0, 0, .null), (50, .invokestatic 264, 3, 265, 1, 1075, .retAddr 0), (53, .iload 4, 2, 0, 0, 0, .null), (55, .isub, 1, 0, 0, 0, .null), (56, .invokestatic 211, 3, 0, 0, 994, .retAddr 10), (59, .ireturn, 1, 0, 0, 0, .null)]
set_option maxRecDepth 100000 in
theorem oX10_leftAtWorst : fc_code mX10_leftAtWorst lX10_leftAtWorst = true := by decide +kernel
def lX10_isRest : List fc_I := [(0, .iload_n 3, 1, 0, 0, 0, .null), (1, .iconst 2, 1, 0, 0, 0, .int 2), (2, .idiv, 1, 0, 0, 0, .null), (3, .istore 4, 2, 0, 0, 0, .null), (5, .iload_n 3, 1, 0, 0, 0, .null), (6, .iconst 2, 1, 0, 0, 0, .int 2), (7, .irem, 1, 0, 0, 0, .null), (8, .istore 5, 2, 0, 0, 0, .null), (10, .iload_n 0, 1, 0, 0, 0, .null), (11, .iload_n 1, 1, 0, 0, 0, .null), (12, .iload_n 2, 1, 0, 0, 0, .null), (13, .iload 4, 2, 0, 0, 0, .null), (15, .iload 5, 2, 0, 0, 0, .null), (17, .invokestatic 364, 3, 132, 5, 1272, .retAddr 0), (20, .iload_n 0, 1, 0, 0, 0, .null), (21, .iload_n 1, 1, 0, 0, 0, .null), (22, .iload_n 2, 1, 0, 0, 0, .null), (23, .iconst 1, 1, 0, 0, 0, .int 1), (24, .iload 4, 2, 0, 0, 0, .null), (26, .isub, 1, 0, 0, 0, .null), (27, .iload 5, 2, 0, 0, 0, .null), (29, .invokestatic 364, 3, 132, 5, 1272, .retAddr 0), (32, .if_icmp .lt 32, 3, 64, 0, 0, .null), (35, .iload_n 0, 1, 0, 0, 0, .null), (36, .iload_n 1, 1, 0, 0, 0, .null), (37, .iload_n 2, 1, 0, 0, 0, .null), (38, .iload 5, 2, 0, 0, 0, .null), (40, .iload 4, 2, 0, 0, 0, .null), (42, .invokestatic 364, 3, 132, 5, 1272, .retAddr 0), (45, .iload_n 0, 1, 0, 0, 0, .null), (46, .iload_n 1, 1, 0, 0, 0, .null), (47, .iload_n 2, 1, 0, 0, 0, .null), (48, .iconst 1, 1, 0, 0, 0, .int 1), (49, .iload 5, 2, 0, 0, 0, .null), (51, .isub, 1, 0, 0, 0, .null), (52, .iload 4, 2, 0, 0, 0, .null), (54, .invokestatic 364, 3, 132, 5, 1272, .retAddr 0), (57, .if_icmp .lt 7, 3, 64, 0, 0, .null), (60, .iconst 1, 1, 0, 0, 0, .int 1), (61, .goto 4, 3, 65, 0, 0, .null), (64, .iconst 0, 1, 0, 0, 0, .int 0), (65, .ireturn, 1, 0, 0, 0, .null)]
set_option maxRecDepth 100000 in
theorem oX10_isRest : fc_code mX10_isRest lX10_isRest = true := by decide +kernel
def lX10_gets : List fc_I := [(0, .iload_n 3, 1, 0, 0, 0, .null), (1, .iconst 1, 1, 0, 0, 0, .int 1), (2, .if_icmp .ne 17, 3, 19, 0, 0, .null), (5, .iload 4, 2, 0, 0, 0, .null), (7, .iconst 1, 1, 0, 0, 0, .int 1), (8, .if_icmp .ne 8, 3, 16, 0, 0, .null), (11, .iload_n 0, 1, 0, 0, 0, .null), (12, .ineg, 1, 0, 0, 0, .null), (13, .goto 5, 3, 18, 0, 0, .null), (16, .iload_n 1, 1, 0, 0, 0, .null), (17, .ineg, 1, 0, 0, 0, .null), (18, .ireturn, 1, 0, 0, 0, .null), (19, .iload 4, 2, 0, 0, 0, .null), (21, .iconst 1, 1, 0, 0, 0, .int 1), (22, .if_icmp .ne 7, 3, 29, 0, 0, .null), (25, .iload_n 2, 1, 0, 0, 0, .null), (26, .goto 4, 3, 30, 0, 0, .null), (29, .iconst 0, 1, 0, 0, 0, .int 0), (30, .ireturn, 1, 0, 0, 0, .null)]
set_option maxRecDepth 100000 in
theorem oX10_gets : fc_code mX10_gets lX10_gets = true := by decide +kernel
def lX10_drawBelow : List fc_I := [(0, .aload_n 0, 1, 0, 0, 0, .null), (1, .aload_n 0, 1, 0, 0, 0, .null), (2, .getfield 320, 3, 10, 11, 477, .null), (5, .ldc2_w 368, 3, 0, 0, 1169, .long 1103515245), (8, .lmul, 1, 0, 0, 0, .null), (9, .ldc2_w 370, 3, 0, 0, 1170, .long 12345), (12, .ladd, 1, 0, 0, 0, .null), (13, .ldc2_w 372, 3, 0, 0, 1171, .long 2147483648), (16, .lrem, 1, 0, 0, 0, .null), (17, .putfield 320, 3, 10, 11, 477, .null), (20, .iload_n 1, 1, 0, 0, 0, .null), (21, .ifCond .le 18, 3, 39, 0, 0, .null), (24, .aload_n 0, 1, 0, 0, 0, .null), (25, .getfield 320, 3, 10, 11, 477, .null), (28, .ldc2_w 374, 3, 0, 0, 1172, .long 65536), (31, .ldiv, 1, 0, 0, 0, .null), (32, .iload_n 1, 1, 0, 0, 0, .null), (33, .i2l, 1, 0, 0, 0, .null), (34, .lrem, 1, 0, 0, 0, .null), (35, .l2i, 1, 0, 0, 0, .null), (36, .goto 4, 3, 40, 0, 0, .null), (39, .iconst 0, 1, 0, 0, 0, .int 0), (40, .ireturn, 1, 0, 0, 0, .null)]
set_option maxRecDepth 100000 in
theorem oX10_drawBelow : fc_code mX10_drawBelow lX10_drawBelow = true := by decide +kernel
def lX10_playDrawn : List fc_I := [(0, .aload_n 0, 1, 0, 0, 0, .null), (1, .aload_n 0, 1, 0, 0, 0, .null), (2, .getfield 57, 3, 10, 7, 473, .null), (5, .getfield 219, 3, 0, 12, 405, .null), (8, .invokevirtual 376, 3, 133, 2, 1165, .ref 10), (11, .istore_n 1, 1, 0, 0, 0, .null), (12, .aload_n 0, 1, 0, 0, 0, .null), (13, .aload_n 0, 1, 0, 0, 0, .null), (14, .getfield 57, 3, 10, 7, 473, .null), (17, .getfield 208, 3, 0, 10, 396, .null), (20, .invokevirtual 376, 3, 133, 2, 1165, .ref 10), (23, .istore_n 2, 1, 0, 0, 0, .null), (24, .aload_n 0, 1, 0, 0, 0, .null), (25, .iconst 5, 1, 0, 0, 0, .int 5), (26, .invokevirtual 376, 3, 133, 2, 1165, .ref 10), (29, .istore_n 3, 1, 0, 0, 0, .null), (30, .iload_n 3, 1, 0, 0, 0, .null), (31, .iconst 1, 1, 0, 0, 0, .int 1), (32, .if_icmp .gt 34, 3, 66, 0, 0, .null), (35, .aload_n 0, 1, 0, 0, 0, .null), (36, .getfield 37, 3, 10, 4, 470, .null), (39, .aload_n 0, 1, 0, 0, 0, .null), (40, .getfield 57, 3, 10, 7, 473, .null), (43, .iload_n 1, 1, 0, 0, 0, .null), (44, .iload_n 2, 1, 0, 0, 0, .null), (45, .invokevirtual 161, 3, 46, 4, 850, .ref 7), (48, .ifCond .eq 16, 3, 64, 0, 0, .null), (51, .aload_n 0, 1, 0, 0, 0, .null), (52, .getfield 37, 3, 10, 4, 470, .null), (55, .aload_n 0, 1, 0, 0, 0, .null), (56, .getfield 57, 3, 10, 7, 473, .null), (59, .iload_n 1, 1, 0, 0, 0, .null), (60, .iload_n 2, 1, 0, 0, 0, .null), (61, .invokevirtual 169, 3, 47, 4, 870, .ref 7), (64, .iconst 0, 1, 0, 0, 0, .int 0), (65, .ireturn, 1, 0, 0, 0, .null), (66, .iload_n 3, 1, 0, 0, 0, .null), (67, .iconst 2, 1, 0, 0, 0, .int 2), (68, .if_icmp .ne 60, 3, 128, 0, 0, .null), (71, .aload_n 0, 1, 0, 0, 0, .null), (72, .getfield 57, 3, 10, 7, 473, .null), (75, .getfield 339, 3, 0, 13, 410, .null), (78, .ifCond .le 50, 3, 128, 0, 0, .null), (81, .aload_n 0, 1, 0, 0, 0, .null), (82, .aload_n 0, 1, 0, 0, 0, .null), (83, .getfield 57, 3, 10, 7, 473, .null), (86, .getfield 339, 3, 0, 13, 410, .null), (89, .invokevirtual 376, 3, 133, 2, 1165, .ref 10), (92, .istore 4, 2, 0, 0, 0, .null), (94, .aload_n 0, 1, 0, 0, 0, .null), (95, .getfield 37, 3, 10, 4, 470, .null), (98, .aload_n 0, 1, 0, 0, 0, .null), (99, .getfield 57, 3, 10, 7, 473, .null), (102, .iload 4, 2, 0, 0, 0, .null), (104, .iload_n 1, 1, 0, 0, 0, .null), (105, .invokevirtual 173, 3, 48, 4, 878, .ref 7), (108, .ifCond .eq 20, 3, 128, 0, 0, .null), (111, .aload_n 0, 1, 0, 0, 0, .null), (112, .getfield 37, 3, 10, 4, 470, .null), (115, .aload_n 0, 1, 0, 0, 0, .null), (116, .getfield 57, 3, 10, 7, 473, .null), (119, .iload 4, 2, 0, 0, 0, .null), (121, .iload_n 1, 1, 0, 0, 0, .null), (122, .invokevirtual 176, 3, 49, 4, 883, .ref 7), (125, .pop, 1, 0, 0, 0, .null), (126, .iconst 1, 1, 0, 0, 0, .int 1), (127, .ireturn, 1, 0, 0, 0, .null), (128, .iload_n 3, 1, 0, 0, 0, .null), (129, .iconst 3, 1, 0, 0, 0, .int 3), (130, .if_icmp .ne 50, 3, 180, 0, 0, .null), (133, .aload_n 0, 1, 0, 0, 0, .null), (134, .aload_n 0, 1, 0, 0, 0, .null), (135, .getfield 57, 3, 10, 7, 473, .null), (138, .getfield 219, 3, 0, 12, 405, .null), (141, .invokevirtual 376, 3, 133, 2, 1165, .ref 10), (144, .istore 4, 2, 0, 0, 0, .null), (146, .aload_n 0, 1, 0, 0, 0, .null), (147, .getfield 37, 3, 10, 4, 470, .null), (150, .aload_n 0, 1, 0, 0, 0, .null), (151, .getfield 57, 3, 10, 7, 473, .null), (154, .iload_n 1, 1, 0, 0, 0, .null), (155, .iload 4, 2, 0, 0, 0, .null), (157, .invokevirtual 179, 3, 50, 4, 917, .ref 7), (160, .ifCond .eq 20, 3, 180, 0, 0, .null), (163, .aload_n 0, 1, 0, 0, 0, .null), (164, .getfield 37, 3, 10, 4, 470, .null), (167, .aload_n 0, 1, 0, 0, 0, .null), (168, .getfield 57, 3, 10, 7, 473, .null), (171, .iload_n 1, 1, 0, 0, 0, .null), (172, .iload 4, 2, 0, 0, 0, .null), (174, .invokevirtual 182, 3, 51, 4, 921, .ref 7), (177, .pop, 1, 0, 0, 0, .null), (178, .iconst 1, 1, 0, 0, 0, .int 1), (179, .ireturn, 1, 0, 0, 0, .null), (180, .iconst 0, 1, 0, 0, 0, .int 0), (181, .ireturn, 1, 0, 0, 0, .null)]
set_option maxRecDepth 100000 in
theorem oX10_playDrawn : fc_code mX10_playDrawn lX10_playDrawn = true := by decide +kernel
end
section
/-! ===== code of the methods, with what it links to ===== -/
def lX11_thrown : List fc_I := [(0, .aload_n 0, 1, 0, 0, 0, .null), (1, .getfield 1, 3, 11, 0, 1347, .null), (4, .ireturn, 1, 0, 0, 0, .null)]
set_option maxRecDepth 100000 in
theorem oX11_thrown : fc_code mX11_thrown lX11_thrown = true := by decide +kernel
def lX11_feed : List fc_I := [(0, .aload_n 0, 1, 0, 0, 0, .null), (1, .iconst 0, 1, 0, 0, 0, .int 0), (2, .putfield 1, 3, 11, 0, 1347, .null), (5, .aload_n 0, 1, 0, 0, 0, .null), (6, .lload_n 1, 1, 0, 0, 0, .null), (7, .invokevirtual 7, 3, 137, 2, 1284, .ref 11), (10, .aload_n 0, 1, 0, 0, 0, .null), (11, .lload_n 3, 1, 0, 0, 0, .null), (12, .invokevirtual 7, 3, 137, 2, 1284, .ref 11), (15, .aload_n 0, 1, 0, 0, 0, .null), (16, .lload 5, 2, 0, 0, 0, .null), (18, .invokevirtual 7, 3, 137, 2, 1284, .ref 11), (21, .aload_n 0, 1, 0, 0, 0, .null), (22, .getfield 11, 3, 11, 2, 1349, .null), (25, .ireturn, 1, 0, 0, 0, .null)]
set_option maxRecDepth 100000 in
theorem oX11_feed : fc_code mX11_feed lX11_feed = true := by decide +kernel
def lX11_lay : List fc_I := [(0, .bipush 56, 2, 0, 0, 0, .int 56), (2, .istore_n 3, 1, 0, 0, 0, .null), (3, .iload_n 3, 1, 0, 0, 0, .null), (4, .ifCond .lt 71, 3, 75, 0, 0, .null), (7, .lload_n 1, 1, 0, 0, 0, .null), (8, .iload_n 3, 1, 0, 0, 0, .null), (9, .lshr, 1, 0, 0, 0, .null), (10, .l2i, 1, 0, 0, 0, .null), (11, .sipush 255, 3, 0, 0, 0, .int 255), (14, .iand, 1, 0, 0, 0, .null), (15, .istore 4, 2, 0, 0, 0, .null), (17, .iload 4, 2, 0, 0, 0, .null), (19, .bipush 10, 2, 0, 0, 0, .int 10), (21, .if_icmp .eq 17, 3, 38, 0, 0, .null), (24, .iload 4, 2, 0, 0, 0, .null), (26, .bipush 32, 2, 0, 0, 0, .int 32), (28, .if_icmp .lt 41, 3, 69, 0, 0, .null), (31, .iload 4, 2, 0, 0, 0, .null), (33, .bipush 126, 2, 0, 0, 0, .int 126), (35, .if_icmp .gt 34, 3, 69, 0, 0, .null), (38, .aload_n 0, 1, 0, 0, 0, .null), (39, .getfield 11, 3, 11, 2, 1349, .null), (42, .sipush 1000, 3, 0, 0, 0, .int 1000), (45, .if_icmp .ge 24, 3, 69, 0, 0, .null), (48, .aload_n 0, 1, 0, 0, 0, .null), (49, .getfield 14, 3, 11, 1, 1348, .null), (52, .aload_n 0, 1, 0, 0, 0, .null), (53, .getfield 11, 3, 11, 2, 1349, .null), (56, .iload 4, 2, 0, 0, 0, .null), (58, .iastore, 1, 0, 0, 0, .null), (59, .aload_n 0, 1, 0, 0, 0, .null), (60, .dup, 1, 0, 0, 0, .null), (61, .getfield 11, 3, 11, 2, 1349, .null), (64, .iconst 1, 1, 0, 0, 0, .int 1), (65, .iadd, 1, 0, 0, 0, .null), (66, .putfield 11, 3, 11, 2, 1349, .null), (69, .iinc 3 (-8), 3, 0, 0, 0, .null), (72, .goto (-69), 3, 3, 0, 0, .null), (75, .return_, 1, 0, 0, 0, .null)]
set_option maxRecDepth 100000 in
theorem oX11_lay : fc_code mX11_lay lX11_lay = true := by decide +kernel
def lX11_isLetter : List fc_I := [(0, .iload_n 0, 1, 0, 0, 0, .null), (1, .bipush 97, 2, 0, 0, 0, .int 97), (3, .if_icmp .lt 13, 3, 16, 0, 0, .null), (6, .iload_n 0, 1, 0, 0, 0, .null), (7, .bipush 122, 2, 0, 0, 0, .int 122), (9, .if_icmp .gt 7, 3, 16, 0, 0, .null), (12, .iconst 1, 1, 0, 0, 0, .int 1), (13, .goto 4, 3, 17, 0, 0, .null), (16, .iconst 0, 1, 0, 0, 0, .int 0), (17, .ireturn, 1, 0, 0, 0, .null)]
set_option maxRecDepth 100000 in
theorem oX11_isLetter : fc_code mX11_isLetter lX11_isLetter = true := by decide +kernel
def lX11_isDigit : List fc_I := [(0, .iload_n 0, 1, 0, 0, 0, .null), (1, .bipush 48, 2, 0, 0, 0, .int 48), (3, .if_icmp .lt 13, 3, 16, 0, 0, .null), (6, .iload_n 0, 1, 0, 0, 0, .null), (7, .bipush 57, 2, 0, 0, 0, .int 57), (9, .if_icmp .gt 7, 3, 16, 0, 0, .null), (12, .iconst 1, 1, 0, 0, 0, .int 1), (13, .goto 4, 3, 17, 0, 0, .null), (16, .iconst 0, 1, 0, 0, 0, .int 0), (17, .ireturn, 1, 0, 0, 0, .null)]
set_option maxRecDepth 100000 in
theorem oX11_isDigit : fc_code mX11_isDigit lX11_isDigit = true := by decide +kernel
def lX11_rank : List fc_I := [(0, .iload_n 0, 1, 0, 0, 0, .null), (1, .invokestatic 137, 3, 138, 1, 1446, .retAddr 0), (4, .ifCond .eq 10, 3, 14, 0, 0, .null), (7, .iload_n 0, 1, 0, 0, 0, .null), (8, .bipush 96, 2, 0, 0, 0, .int 96), (10, .isub, 1, 0, 0, 0, .null), (11, .goto 7, 3, 18, 0, 0, .null), (14, .iload_n 0, 1, 0, 0, 0, .null), (15, .bipush 21, 2, 0, 0, 0, .int 21), (17, .isub, 1, 0, 0, 0, .null), (18, .ireturn, 1, 0, 0, 0, .null)]
set_option maxRecDepth 100000 in
theorem oX11_rank : fc_code mX11_rank lX11_rank = true := by decide +kernel
def lX11_isSignOf : List fc_I := [(0, .iload_n 0, 1, 0, 0, 0, .null), (1, .bipush 40, 2, 0, 0, 0, .int 40), (3, .if_icmp .eq 45, 3, 48, 0, 0, .null), (6, .iload_n 0, 1, 0, 0, 0, .null), (7, .bipush 41, 2, 0, 0, 0, .int 41), (9, .if_icmp .eq 39, 3, 48, 0, 0, .null), (12, .iload_n 0, 1, 0, 0, 0, .null), (13, .bipush 59, 2, 0, 0, 0, .int 59), (15, .if_icmp .eq 33, 3, 48, 0, 0, .null), (18, .iload_n 0, 1, 0, 0, 0, .null), (19, .bipush 61, 2, 0, 0, 0, .int 61), (21, .if_icmp .eq 27, 3, 48, 0, 0, .null), (24, .iload_n 0, 1, 0, 0, 0, .null), (25, .bipush 60, 2, 0, 0, 0, .int 60), (27, .if_icmp .eq 21, 3, 48, 0, 0, .null), (30, .iload_n 0, 1, 0, 0, 0, .null), (31, .bipush 43, 2, 0, 0, 0, .int 43), (33, .if_icmp .eq 15, 3, 48, 0, 0, .null), (36, .iload_n 0, 1, 0, 0, 0, .null), (37, .bipush 45, 2, 0, 0, 0, .int 45), (39, .if_icmp .eq 9, 3, 48, 0, 0, .null), (42, .iload_n 0, 1, 0, 0, 0, .null), (43, .bipush 42, 2, 0, 0, 0, .int 42), (45, .if_icmp .ne 7, 3, 52, 0, 0, .null), (48, .iconst 1, 1, 0, 0, 0, .int 1), (49, .goto 4, 3, 53, 0, 0, .null), (52, .iconst 0, 1, 0, 0, 0, .int 0), (53, .ireturn, 1, 0, 0, 0, .null)]
set_option maxRecDepth 100000 in
theorem oX11_isSignOf : fc_code mX11_isSignOf lX11_isSignOf = true := by decide +kernel
def lX11_cutAll : List fc_I := [(0, .aload_n 0, 1, 0, 0, 0, .null), (1, .aload_n 0, 1, 0, 0, 0, .null), (2, .getfield 11, 3, 11, 2, 1349, .null), (5, .putfield 141, 3, 11, 3, 1350, .null), (8, .aload_n 0, 1, 0, 0, 0, .null), (9, .iconst 0, 1, 0, 0, 0, .int 0), (10, .putfield 11, 3, 11, 2, 1349, .null), (13, .iconst 0, 1, 0, 0, 0, .int 0), (14, .istore_n 1, 1, 0, 0, 0, .null), (15, .iconst 0, 1, 0, 0, 0, .int 0), (16, .istore_n 2, 1, 0, 0, 0, .null), (17, .iload_n 2, 1, 0, 0, 0, .null), (18, .aload_n 0, 1, 0, 0, 0, .null), (19, .getfield 141, 3, 11, 3, 1350, .null), (22, .if_icmp .ge 257, 3, 279, 0, 0, .null), (25, .aload_n 0, 1, 0, 0, 0, .null), (26, .getfield 14, 3, 11, 1, 1348, .null), (29, .iload_n 2, 1, 0, 0, 0, .null), (30, .iaload, 1, 0, 0, 0, .null), (31, .istore_n 3, 1, 0, 0, 0, .null), (32, .iload_n 3, 1, 0, 0, 0, .null), (33, .bipush 10, 2, 0, 0, 0, .int 10), (35, .if_icmp .eq 9, 3, 44, 0, 0, .null), (38, .iload_n 3, 1, 0, 0, 0, .null), (39, .bipush 32, 2, 0, 0, 0, .int 32), (41, .if_icmp .ne 9, 3, 50, 0, 0, .null), (44, .iinc 2 1, 3, 0, 0, 0, .null), (47, .goto (-30), 3, 17, 0, 0, .null), (50, .iload_n 2, 1, 0, 0, 0, .null), (51, .istore 4, 2, 0, 0, 0, .null), (53, .lconst 0, 1, 0, 0, 0, .long 0), (54, .lstore 5, 2, 0, 0, 0, .null), (56, .aload_n 0, 1, 0, 0, 0, .null), (57, .getfield 27, 3, 11, 5, 1352, .null), (60, .iload_n 1, 1, 0, 0, 0, .null), (61, .iload_n 2, 1, 0, 0, 0, .null), (62, .iastore, 1, 0, 0, 0, .null), (63, .iload_n 3, 1, 0, 0, 0, .null), (64, .invokestatic 137, 3, 138, 1, 1446, .retAddr 0), (67, .ifCond .eq 85, 3, 152, 0, 0, .null), (70, .iload_n 2, 1, 0, 0, 0, .null), (71, .aload_n 0, 1, 0, 0, 0, .null), (72, .getfield 141, 3, 11, 3, 1350, .null), (75, .if_icmp .ge 54, 3, 129, 0, 0, .null), (78, .aload_n 0, 1, 0, 0, 0, .null), (79, .getfield 14, 3, 11, 1, 1348, .null), (82, .iload_n 2, 1, 0, 0, 0, .null), (83, .iaload, 1, 0, 0, 0, .null), (84, .invokestatic 137, 3, 138, 1, 1446, .retAddr 0), (87, .ifCond .eq 42, 3, 129, 0, 0, .null), (90, .iload_n 2, 1, 0, 0, 0, .null), (91, .iload 4, 2, 0, 0, 0, .null), (93, .isub, 1, 0, 0, 0, .null), (94, .bipush 8, 2, 0, 0, 0, .int 8), (96, .if_icmp .ge 23, 3, 119, 0, 0, .null), (99, .ldc2_w 144, 3, 0, 0, 1449, .long 37), (102, .lload 5, 2, 0, 0, 0, .null), (104, .lmul, 1, 0, 0, 0, .null), (105, .aload_n 0, 1, 0, 0, 0, .null), (106, .getfield 14, 3, 11, 1, 1348, .null), (109, .iload_n 2, 1, 0, 0, 0, .null), (110, .iaload, 1, 0, 0, 0, .null), (111, .invokestatic 146, 3, 140, 1, 1450, .retAddr 0), (114, .i2l, 1, 0, 0, 0, .null), (115, .ladd, 1, 0, 0, 0, .null), (116, .goto 5, 3, 121, 0, 0, .null), (119, .lload 5, 2, 0, 0, 0, .null), (121, .lstore 5, 2, 0, 0, 0, .null), (123, .iinc 2 1, 3, 0, 0, 0, .null), (126, .goto (-56), 3, 70, 0, 0, .null), (129, .aload_n 0, 1, 0, 0, 0, .null), (130, .getfield 24, 3, 11, 4, 1351, .null), (133, .iload_n 1, 1, 0, 0, 0, .null), (134, .iload_n 2, 1, 0, 0, 0, .null), (135, .iload 4, 2, 0, 0, 0, .null), (137, .isub, 1, 0, 0, 0, .null), (138, .bipush 8, 2, 0, 0, 0, .int 8), (140, .if_icmp .le 7, 3, 147, 0, 0, .null), (143, .iconst 4, 1, 0, 0, 0, .int 4), (144, .goto 4, 3, 148, 0, 0, .null), (147, .iconst 1, 1, 0, 0, 0, .int 1), (148, .iastore, 1, 0, 0, 0, .null), (149, .goto 116, 3, 265, 0, 0, .null), (152, .iload_n 3, 1, 0, 0, 0, .null), (153, .invokestatic 150, 3, 139, 1, 1453, .retAddr 0), (156, .ifCond .eq 84, 3, 240, 0, 0, .null), (159, .iload_n 2, 1, 0, 0, 0, .null), (160, .aload_n 0, 1, 0, 0, 0, .null), (161, .getfield 141, 3, 11, 3, 1350, .null), (164, .if_icmp .ge 54, 3, 218, 0, 0, .null), (167, .aload_n 0, 1, 0, 0, 0, .null), (168, .getfield 14, 3, 11, 1, 1348, .null), (171, .iload_n 2, 1, 0, 0, 0, .null), (172, .iaload, 1, 0, 0, 0, .null), (173, .invokestatic 150, 3, 139, 1, 1453, .retAddr 0), (176, .ifCond .eq 42, 3, 218, 0, 0, .null), (179, .iload_n 2, 1, 0, 0, 0, .null), (180, .iload 4, 2, 0, 0, 0, .null), (182, .isub, 1, 0, 0, 0, .null), (183, .iconst 4, 1, 0, 0, 0, .int 4), (184, .if_icmp .ge 24, 3, 208, 0, 0, .null), (187, .ldc2_w 153, 3, 0, 0, 1456, .long 10), (190, .lload 5, 2, 0, 0, 0, .null), (192, .lmul, 1, 0, 0, 0, .null), (193, .aload_n 0, 1, 0, 0, 0, .null), (194, .getfield 14, 3, 11, 1, 1348, .null), (197, .iload_n 2, 1, 0, 0, 0, .null), (198, .iaload, 1, 0, 0, 0, .null), (199, .i2l, 1, 0, 0, 0, .null), (200, .ladd, 1, 0, 0, 0, .null), (201, .ldc2_w 155, 3, 0, 0, 1457, .long 48), (204, .lsub, 1, 0, 0, 0, .null), (205, .goto 5, 3, 210, 0, 0, .null), (208, .lload 5, 2, 0, 0, 0, .null), (210, .lstore 5, 2, 0, 0, 0, .null), (212, .iinc 2 1, 3, 0, 0, 0, .null), (215, .goto (-56), 3, 159, 0, 0, .null), (218, .aload_n 0, 1, 0, 0, 0, .null), (219, .getfield 24, 3, 11, 4, 1351, .null), (222, .iload_n 1, 1, 0, 0, 0, .null), (223, .iload_n 2, 1, 0, 0, 0, .null), (224, .iload 4, 2, 0, 0, 0, .null), (226, .isub, 1, 0, 0, 0, .null), (227, .iconst 4, 1, 0, 0, 0, .int 4), (228, .if_icmp .le 7, 3, 235, 0, 0, .null), (231, .iconst 4, 1, 0, 0, 0, .int 4), (232, .goto 4, 3, 236, 0, 0, .null), (235, .iconst 2, 1, 0, 0, 0, .int 2), (236, .iastore, 1, 0, 0, 0, .null), (237, .goto 28, 3, 265, 0, 0, .null), (240, .iload_n 3, 1, 0, 0, 0, .null), (241, .i2l, 1, 0, 0, 0, .null), (242, .lstore 5, 2, 0, 0, 0, .null), (244, .aload_n 0, 1, 0, 0, 0, .null), (245, .getfield 24, 3, 11, 4, 1351, .null), (248, .iload_n 1, 1, 0, 0, 0, .null), (249, .iload_n 3, 1, 0, 0, 0, .null), (250, .invokestatic 157, 3, 141, 1, 1458, .retAddr 0), (253, .ifCond .eq 7, 3, 260, 0, 0, .null), (256, .iconst 3, 1, 0, 0, 0, .int 3), (257, .goto 4, 3, 261, 0, 0, .null), (260, .iconst 4, 1, 0, 0, 0, .int 4), (261, .iastore, 1, 0, 0, 0, .null), (262, .iinc 2 1, 3, 0, 0, 0, .null), (265, .aload_n 0, 1, 0, 0, 0, .null), (266, .getfield 30, 3, 11, 6, 1353, .null), (269, .iload_n 1, 1, 0, 0, 0, .null), (270, .lload 5, 2, 0, 0, 0, .null), (272, .lastore, 1, 0, 0, 0, .null), (273, .iinc 1 1, 3, 0, 0, 0, .null), (276, .goto (-259), 3, 17, 0, 0, .null), (279, .aload_n 0, 1, 0, 0, 0, .null), (280, .getfield 24, 3, 11, 4, 1351, .null), (283, .iload_n 1, 1, 0, 0, 0, .null), (284, .iconst 0, 1, 0, 0, 0, .int 0), (285, .iastore, 1, 0, 0, 0, .null), (286, .aload_n 0, 1, 0, 0, 0, .null), (287, .getfield 27, 3, 11, 5, 1352, .null), (290, .iload_n 1, 1, 0, 0, 0, .null), (291, .aload_n 0, 1, 0, 0, 0, .null), (292, .getfield 141, 3, 11, 3, 1350, .null), (295, .iastore, 1, 0, 0, 0, .null), (296, .aload_n 0, 1, 0, 0, 0, .null), (297, .iconst 0, 1, 0, 0, 0, .int 0), (298, .putfield 160, 3, 11, 7, 1354, .null), (301, .aload_n 0, 1, 0, 0, 0, .null), (302, .iconst 0, 1, 0, 0, 0, .int 0), (303, .putfield 163, 3, 11, 8, 1355, .null), (306, .return_, 1, 0, 0, 0, .null)]
set_option maxRecDepth 100000 in
theorem oX11_cutAll : fc_code mX11_cutAll lX11_cutAll = true := by decide +kernel
def lX11_wrong : List fc_I := [(0, .aload_n 0, 1, 0, 0, 0, .null), (1, .getfield 163, 3, 11, 8, 1355, .null), (4, .ifCond .ne 21, 3, 25, 0, 0, .null), (7, .aload_n 0, 1, 0, 0, 0, .null), (8, .iload_n 1, 1, 0, 0, 0, .null), (9, .bipush 16, 2, 0, 0, 0, .int 16), (11, .aload_n 0, 1, 0, 0, 0, .null), (12, .getfield 27, 3, 11, 5, 1352, .null), (15, .aload_n 0, 1, 0, 0, 0, .null), (16, .getfield 160, 3, 11, 7, 1354, .null), (19, .iaload, 1, 0, 0, 0, .null), (20, .imul, 1, 0, 0, 0, .null), (21, .iadd, 1, 0, 0, 0, .null), (22, .putfield 163, 3, 11, 8, 1355, .null), (25, .return_, 1, 0, 0, 0, .null)]
set_option maxRecDepth 100000 in
theorem oX11_wrong : fc_code mX11_wrong lX11_wrong = true := by decide +kernel
def lX11_isSign : List fc_I := [(0, .aload_n 0, 1, 0, 0, 0, .null), (1, .getfield 163, 3, 11, 8, 1355, .null), (4, .ifCond .ne 35, 3, 39, 0, 0, .null), (7, .aload_n 0, 1, 0, 0, 0, .null), (8, .getfield 24, 3, 11, 4, 1351, .null), (11, .aload_n 0, 1, 0, 0, 0, .null), (12, .getfield 160, 3, 11, 7, 1354, .null), (15, .iaload, 1, 0, 0, 0, .null), (16, .iconst 3, 1, 0, 0, 0, .int 3), (17, .if_icmp .ne 22, 3, 39, 0, 0, .null), (20, .aload_n 0, 1, 0, 0, 0, .null), (21, .getfield 30, 3, 11, 6, 1353, .null), (24, .aload_n 0, 1, 0, 0, 0, .null), (25, .getfield 160, 3, 11, 7, 1354, .null), (28, .laload, 1, 0, 0, 0, .null), (29, .iload_n 1, 1, 0, 0, 0, .null), (30, .i2l, 1, 0, 0, 0, .null), (31, .lcmp, 1, 0, 0, 0, .null), (32, .ifCond .ne 7, 3, 39, 0, 0, .null), (35, .iconst 1, 1, 0, 0, 0, .int 1), (36, .goto 4, 3, 40, 0, 0, .null), (39, .iconst 0, 1, 0, 0, 0, .int 0), (40, .ireturn, 1, 0, 0, 0, .null)]
set_option maxRecDepth 100000 in
theorem oX11_isSign : fc_code mX11_isSign lX11_isSign = true := by decide +kernel
def lX11_isWord : List fc_I := [(0, .aload_n 0, 1, 0, 0, 0, .null), (1, .getfield 163, 3, 11, 8, 1355, .null), (4, .ifCond .ne 39, 3, 43, 0, 0, .null), (7, .aload_n 0, 1, 0, 0, 0, .null), (8, .getfield 24, 3, 11, 4, 1351, .null), (11, .aload_n 0, 1, 0, 0, 0, .null), (12, .getfield 160, 3, 11, 7, 1354, .null), (15, .iaload, 1, 0, 0, 0, .null), (16, .iconst 1, 1, 0, 0, 0, .int 1), (17, .if_icmp .ne 26, 3, 43, 0, 0, .null), (20, .aload_n 0, 1, 0, 0, 0, .null), (21, .getfield 30, 3, 11, 6, 1353, .null), (24, .aload_n 0, 1, 0, 0, 0, .null), (25, .getfield 160, 3, 11, 7, 1354, .null), (28, .laload, 1, 0, 0, 0, .null), (29, .aload_n 0, 1, 0, 0, 0, .null), (30, .getfield 84, 3, 11, 9, 1356, .null), (33, .iload_n 1, 1, 0, 0, 0, .null), (34, .laload, 1, 0, 0, 0, .null), (35, .lcmp, 1, 0, 0, 0, .null), (36, .ifCond .ne 7, 3, 43, 0, 0, .null), (39, .iconst 1, 1, 0, 0, 0, .int 1), (40, .goto 4, 3, 44, 0, 0, .null), (43, .iconst 0, 1, 0, 0, 0, .int 0), (44, .ireturn, 1, 0, 0, 0, .null)]
set_option maxRecDepth 100000 in
theorem oX11_isWord : fc_code mX11_isWord lX11_isWord = true := by decide +kernel
def lX11_takeSign : List fc_I := [(0, .aload_n 0, 1, 0, 0, 0, .null), (1, .iload_n 1, 1, 0, 0, 0, .null), (2, .invokevirtual 166, 3, 144, 2, 1544, .ref 11), (5, .ifCond .eq 16, 3, 21, 0, 0, .null), (8, .aload_n 0, 1, 0, 0, 0, .null), (9, .dup, 1, 0, 0, 0, .null), (10, .getfield 160, 3, 11, 7, 1354, .null), (13, .iconst 1, 1, 0, 0, 0, .int 1), (14, .iadd, 1, 0, 0, 0, .null), (15, .putfield 160, 3, 11, 7, 1354, .null), (18, .goto 8, 3, 26, 0, 0, .null), (21, .aload_n 0, 1, 0, 0, 0, .null), (22, .iconst 1, 1, 0, 0, 0, .int 1), (23, .invokevirtual 169, 3, 143, 2, 1473, .ref 11), (26, .return_, 1, 0, 0, 0, .null)]
set_option maxRecDepth 100000 in
theorem oX11_takeSign : fc_code mX11_takeSign lX11_takeSign = true := by decide +kernel
def lX11_hasSign : List fc_I := [(0, .aload_n 0, 1, 0, 0, 0, .null), (1, .iload_n 1, 1, 0, 0, 0, .null), (2, .invokevirtual 166, 3, 144, 2, 1544, .ref 11), (5, .istore_n 2, 1, 0, 0, 0, .null), (6, .aload_n 0, 1, 0, 0, 0, .null), (7, .dup, 1, 0, 0, 0, .null), (8, .getfield 160, 3, 11, 7, 1354, .null), (11, .iload_n 2, 1, 0, 0, 0, .null), (12, .ifCond .eq 7, 3, 19, 0, 0, .null), (15, .iconst 1, 1, 0, 0, 0, .int 1), (16, .goto 4, 3, 20, 0, 0, .null), (19, .iconst 0, 1, 0, 0, 0, .int 0), (20, .iadd, 1, 0, 0, 0, .null), (21, .putfield 160, 3, 11, 7, 1354, .null), (24, .iload_n 2, 1, 0, 0, 0, .null), (25, .ireturn, 1, 0, 0, 0, .null)]
set_option maxRecDepth 100000 in
theorem oX11_hasSign : fc_code mX11_hasSign lX11_hasSign = true := by decide +kernel
def lX11_hasWord : List fc_I := [(0, .aload_n 0, 1, 0, 0, 0, .null), (1, .iload_n 1, 1, 0, 0, 0, .null), (2, .invokevirtual 172, 3, 145, 2, 1465, .ref 11), (5, .istore_n 2, 1, 0, 0, 0, .null), (6, .aload_n 0, 1, 0, 0, 0, .null), (7, .dup, 1, 0, 0, 0, .null), (8, .getfield 160, 3, 11, 7, 1354, .null), (11, .iload_n 2, 1, 0, 0, 0, .null), (12, .ifCond .eq 7, 3, 19, 0, 0, .null), (15, .iconst 1, 1, 0, 0, 0, .int 1), (16, .goto 4, 3, 20, 0, 0, .null), (19, .iconst 0, 1, 0, 0, 0, .int 0), (20, .iadd, 1, 0, 0, 0, .null), (21, .putfield 160, 3, 11, 7, 1354, .null), (24, .iload_n 2, 1, 0, 0, 0, .null), (25, .ireturn, 1, 0, 0, 0, .null)]
set_option maxRecDepth 100000 in
theorem oX11_hasWord : fc_code mX11_hasWord lX11_hasWord = true := by decide +kernel
def lX11_takeWord : List fc_I := [(0, .aload_n 0, 1, 0, 0, 0, .null), (1, .iload_n 1, 1, 0, 0, 0, .null), (2, .invokevirtual 175, 3, 148, 2, 1508, .ref 11), (5, .ifCond .ne 8, 3, 13, 0, 0, .null), (8, .aload_n 0, 1, 0, 0, 0, .null), (9, .iconst 1, 1, 0, 0, 0, .int 1), (10, .invokevirtual 169, 3, 143, 2, 1473, .ref 11), (13, .return_, 1, 0, 0, 0, .null)]
set_option maxRecDepth 100000 in
theorem oX11_takeWord : fc_code mX11_takeWord lX11_takeWord = true := by decide +kernel
def lX11_within : List fc_I := [(0, .iload_n 0, 1, 0, 0, 0, .null), (1, .iload_n 1, 1, 0, 0, 0, .null), (2, .if_icmp .lt 12, 3, 14, 0, 0, .null), (5, .iload_n 0, 1, 0, 0, 0, .null), (6, .iload_n 2, 1, 0, 0, 0, .null), (7, .if_icmp .gt 7, 3, 14, 0, 0, .null), (10, .iconst 1, 1, 0, 0, 0, .int 1), (11, .goto 4, 3, 15, 0, 0, .null), (14, .iconst 0, 1, 0, 0, 0, .int 0), (15, .ireturn, 1, 0, 0, 0, .null)]
set_option maxRecDepth 100000 in
theorem oX11_within : fc_code mX11_within lX11_within = true := by decide +kernel
def lX11_standsAsAlways : List fc_I := [(0, .iconst 0, 1, 0, 0, 0, .int 0), (1, .istore_n 2, 1, 0, 0, 0, .null), (2, .iload_n 2, 1, 0, 0, 0, .null), (3, .bipush 50, 2, 0, 0, 0, .int 50), (5, .if_icmp .ge 18, 3, 23, 0, 0, .null), (8, .aload_n 0, 1, 0, 0, 0, .null), (9, .getfield 87, 3, 11, 10, 1357, .null), (12, .iload_n 1, 1, 0, 0, 0, .null), (13, .iload_n 2, 1, 0, 0, 0, .null), (14, .iadd, 1, 0, 0, 0, .null), (15, .iconst 0, 1, 0, 0, 0, .int 0), (16, .iastore, 1, 0, 0, 0, .null), (17, .iinc 2 1, 3, 0, 0, 0, .null), (20, .goto (-18), 3, 2, 0, 0, .null), (23, .aload_n 0, 1, 0, 0, 0, .null), (24, .getfield 87, 3, 11, 10, 1357, .null), (27, .iload_n 1, 1, 0, 0, 0, .null), (28, .iconst 4, 1, 0, 0, 0, .int 4), (29, .iadd, 1, 0, 0, 0, .null), (30, .bipush 30, 2, 0, 0, 0, .int 30), (32, .iastore, 1, 0, 0, 0, .null), (33, .aload_n 0, 1, 0, 0, 0, .null), (34, .getfield 87, 3, 11, 10, 1357, .null), (37, .iload_n 1, 1, 0, 0, 0, .null), (38, .iconst 5, 1, 0, 0, 0, .int 5), (39, .iadd, 1, 0, 0, 0, .null), (40, .iconst (-1), 1, 0, 0, 0, .int (-1)), (41, .iastore, 1, 0, 0, 0, .null), (42, .return_, 1, 0, 0, 0, .null)]
set_option maxRecDepth 100000 in
theorem oX11_standsAsAlways : fc_code mX11_standsAsAlways lX11_standsAsAlways = true := by decide +kernel
def lX11_takeNumber : List fc_I := [(0, .aload_n 0, 1, 0, 0, 0, .null), (1, .getfield 163, 3, 11, 8, 1355, .null), (4, .ifCond .ne 24, 3, 28, 0, 0, .null), (7, .aload_n 0, 1, 0, 0, 0, .null), (8, .getfield 24, 3, 11, 4, 1351, .null), (11, .aload_n 0, 1, 0, 0, 0, .null), (12, .getfield 160, 3, 11, 7, 1354, .null), (15, .iaload, 1, 0, 0, 0, .null), (16, .iconst 2, 1, 0, 0, 0, .int 2), (17, .if_icmp .eq 11, 3, 28, 0, 0, .null), (20, .aload_n 0, 1, 0, 0, 0, .null), (21, .iconst 1, 1, 0, 0, 0, .int 1), (22, .invokevirtual 169, 3, 143, 2, 1473, .ref 11), (25, .goto 45, 3, 70, 0, 0, .null), (28, .aload_n 0, 1, 0, 0, 0, .null), (29, .getfield 163, 3, 11, 8, 1355, .null), (32, .ifCond .ne 38, 3, 70, 0, 0, .null), (35, .aload_n 0, 1, 0, 0, 0, .null), (36, .getfield 30, 3, 11, 6, 1353, .null), (39, .aload_n 0, 1, 0, 0, 0, .null), (40, .getfield 160, 3, 11, 7, 1354, .null), (43, .laload, 1, 0, 0, 0, .null), (44, .iload_n 1, 1, 0, 0, 0, .null), (45, .i2l, 1, 0, 0, 0, .null), (46, .lcmp, 1, 0, 0, 0, .null), (47, .ifCond .lt 18, 3, 65, 0, 0, .null), (50, .aload_n 0, 1, 0, 0, 0, .null), (51, .getfield 30, 3, 11, 6, 1353, .null), (54, .aload_n 0, 1, 0, 0, 0, .null), (55, .getfield 160, 3, 11, 7, 1354, .null), (58, .laload, 1, 0, 0, 0, .null), (59, .iload_n 2, 1, 0, 0, 0, .null), (60, .i2l, 1, 0, 0, 0, .null), (61, .lcmp, 1, 0, 0, 0, .null), (62, .ifCond .le 8, 3, 70, 0, 0, .null), (65, .aload_n 0, 1, 0, 0, 0, .null), (66, .iconst 4, 1, 0, 0, 0, .int 4), (67, .invokevirtual 169, 3, 143, 2, 1473, .ref 11), (70, .aload_n 0, 1, 0, 0, 0, .null), (71, .getfield 163, 3, 11, 8, 1355, .null), (74, .ifCond .le 5, 3, 79, 0, 0, .null), (77, .iconst 0, 1, 0, 0, 0, .int 0), (78, .ireturn, 1, 0, 0, 0, .null), (79, .aload_n 0, 1, 0, 0, 0, .null), (80, .dup, 1, 0, 0, 0, .null), (81, .getfield 160, 3, 11, 7, 1354, .null), (84, .iconst 1, 1, 0, 0, 0, .int 1), (85, .iadd, 1, 0, 0, 0, .null), (86, .putfield 160, 3, 11, 7, 1354, .null), (89, .aload_n 0, 1, 0, 0, 0, .null), (90, .getfield 30, 3, 11, 6, 1353, .null), (93, .aload_n 0, 1, 0, 0, 0, .null), (94, .getfield 160, 3, 11, 7, 1354, .null), (97, .iconst 1, 1, 0, 0, 0, .int 1), (98, .isub, 1, 0, 0, 0, .null), (99, .laload, 1, 0, 0, 0, .null), (100, .l2i, 1, 0, 0, 0, .null), (101, .ireturn, 1, 0, 0, 0, .null)]
set_option maxRecDepth 100000 in
theorem oX11_takeNumber : fc_code mX11_takeNumber lX11_takeNumber = true := by decide +kernel
def lX11_takeAfter : List fc_I := [(0, .aload_n 0, 1, 0, 0, 0, .null), (1, .iload_n 1, 1, 0, 0, 0, .null), (2, .invokevirtual 178, 3, 149, 2, 1504, .ref 11), (5, .aload_n 0, 1, 0, 0, 0, .null), (6, .iload_n 2, 1, 0, 0, 0, .null), (7, .iload_n 3, 1, 0, 0, 0, .null), (8, .invokevirtual 181, 3, 152, 3, 1516, .ref 11), (11, .ireturn, 1, 0, 0, 0, .null)]
set_option maxRecDepth 100000 in
theorem oX11_takeAfter : fc_code mX11_takeAfter lX11_takeAfter = true := by decide +kernel
def lX11_wordHere : List fc_I := [(0, .iconst (-1), 1, 0, 0, 0, .int (-1)), (1, .istore_n 3, 1, 0, 0, 0, .null), (2, .iconst 0, 1, 0, 0, 0, .int 0), (3, .istore 4, 2, 0, 0, 0, .null), (5, .iload 4, 2, 0, 0, 0, .null), (7, .iload_n 2, 1, 0, 0, 0, .null), (8, .if_icmp .ge 27, 3, 35, 0, 0, .null), (11, .aload_n 0, 1, 0, 0, 0, .null), (12, .iload_n 1, 1, 0, 0, 0, .null), (13, .iload 4, 2, 0, 0, 0, .null), (15, .iadd, 1, 0, 0, 0, .null), (16, .invokevirtual 172, 3, 145, 2, 1465, .ref 11), (19, .ifCond .eq 8, 3, 27, 0, 0, .null), (22, .iload 4, 2, 0, 0, 0, .null), (24, .goto 4, 3, 28, 0, 0, .null), (27, .iload_n 3, 1, 0, 0, 0, .null), (28, .istore_n 3, 1, 0, 0, 0, .null), (29, .iinc 4 1, 3, 0, 0, 0, .null), (32, .goto (-27), 3, 5, 0, 0, .null), (35, .iload_n 3, 1, 0, 0, 0, .null), (36, .ireturn, 1, 0, 0, 0, .null)]
set_option maxRecDepth 100000 in
theorem oX11_wordHere : fc_code mX11_wordHere lX11_wordHere = true := by decide +kernel
def lX11_takeOne : List fc_I := [(0, .aload_n 0, 1, 0, 0, 0, .null), (1, .getfield 163, 3, 11, 8, 1355, .null), (4, .ifCond .le 7, 3, 11, 0, 0, .null), (7, .iconst (-1), 1, 0, 0, 0, .int (-1)), (8, .goto 9, 3, 17, 0, 0, .null), (11, .aload_n 0, 1, 0, 0, 0, .null), (12, .iload_n 1, 1, 0, 0, 0, .null), (13, .iload_n 2, 1, 0, 0, 0, .null), (14, .invokevirtual 185, 3, 154, 3, 1481, .ref 11), (17, .istore_n 3, 1, 0, 0, 0, .null), (18, .aload_n 0, 1, 0, 0, 0, .null), (19, .getfield 163, 3, 11, 8, 1355, .null), (22, .ifCond .ne 12, 3, 34, 0, 0, .null), (25, .iload_n 3, 1, 0, 0, 0, .null), (26, .ifCond .ge 8, 3, 34, 0, 0, .null), (29, .aload_n 0, 1, 0, 0, 0, .null), (30, .iconst 1, 1, 0, 0, 0, .int 1), (31, .invokevirtual 169, 3, 143, 2, 1473, .ref 11), (34, .aload_n 0, 1, 0, 0, 0, .null), (35, .dup, 1, 0, 0, 0, .null), (36, .getfield 160, 3, 11, 7, 1354, .null), (39, .aload_n 0, 1, 0, 0, 0, .null), (40, .getfield 163, 3, 11, 8, 1355, .null), (43, .ifCond .le 7, 3, 50, 0, 0, .null), (46, .iconst 0, 1, 0, 0, 0, .int 0), (47, .goto 4, 3, 51, 0, 0, .null), (50, .iconst 1, 1, 0, 0, 0, .int 1), (51, .iadd, 1, 0, 0, 0, .null), (52, .putfield 160, 3, 11, 7, 1354, .null), (55, .aload_n 0, 1, 0, 0, 0, .null), (56, .getfield 163, 3, 11, 8, 1355, .null), (59, .ifCond .le 7, 3, 66, 0, 0, .null), (62, .iconst 0, 1, 0, 0, 0, .int 0), (63, .goto 4, 3, 67, 0, 0, .null), (66, .iload_n 3, 1, 0, 0, 0, .null), (67, .ireturn, 1, 0, 0, 0, .null)]
set_option maxRecDepth 100000 in
theorem oX11_takeOne : fc_code mX11_takeOne lX11_takeOne = true := by decide +kernel
def lX11_isName : List fc_I := [(0, .aload_n 0, 1, 0, 0, 0, .null), (1, .getfield 163, 3, 11, 8, 1355, .null), (4, .ifCond .ne 30, 3, 34, 0, 0, .null), (7, .aload_n 0, 1, 0, 0, 0, .null), (8, .getfield 24, 3, 11, 4, 1351, .null), (11, .aload_n 0, 1, 0, 0, 0, .null), (12, .getfield 160, 3, 11, 7, 1354, .null), (15, .iaload, 1, 0, 0, 0, .null), (16, .iconst 1, 1, 0, 0, 0, .int 1), (17, .if_icmp .ne 17, 3, 34, 0, 0, .null), (20, .aload_n 0, 1, 0, 0, 0, .null), (21, .iconst 0, 1, 0, 0, 0, .int 0), (22, .bipush 21, 2, 0, 0, 0, .int 21), (24, .invokevirtual 185, 3, 154, 3, 1481, .ref 11), (27, .ifCond .ge 7, 3, 34, 0, 0, .null), (30, .iconst 1, 1, 0, 0, 0, .int 1), (31, .goto 4, 3, 35, 0, 0, .null), (34, .iconst 0, 1, 0, 0, 0, .int 0), (35, .ireturn, 1, 0, 0, 0, .null)]
set_option maxRecDepth 100000 in
theorem oX11_isName : fc_code mX11_isName lX11_isName = true := by decide +kernel
def lX11_nameAt : List fc_I := [(0, .iconst 0, 1, 0, 0, 0, .int 0), (1, .istore_n 2, 1, 0, 0, 0, .null), (2, .iload_n 2, 1, 0, 0, 0, .null), (3, .iload_n 1, 1, 0, 0, 0, .null), (4, .ifCond .eq 10, 3, 14, 0, 0, .null), (7, .aload_n 0, 1, 0, 0, 0, .null), (8, .getfield 188, 3, 11, 19, 1366, .null), (11, .goto 7, 3, 18, 0, 0, .null), (14, .aload_n 0, 1, 0, 0, 0, .null), (15, .getfield 191, 3, 11, 18, 1365, .null), (18, .if_icmp .ge 61, 3, 79, 0, 0, .null), (21, .iload_n 1, 1, 0, 0, 0, .null), (22, .ifCond .eq 12, 3, 34, 0, 0, .null), (25, .aload_n 0, 1, 0, 0, 0, .null), (26, .getfield 99, 3, 11, 15, 1362, .null), (29, .iload_n 2, 1, 0, 0, 0, .null), (30, .laload, 1, 0, 0, 0, .null), (31, .goto 9, 3, 40, 0, 0, .null), (34, .aload_n 0, 1, 0, 0, 0, .null), (35, .getfield 96, 3, 11, 14, 1361, .null), (38, .iload_n 2, 1, 0, 0, 0, .null), (39, .laload, 1, 0, 0, 0, .null), (40, .aload_n 0, 1, 0, 0, 0, .null), (41, .getfield 30, 3, 11, 6, 1353, .null), (44, .aload_n 0, 1, 0, 0, 0, .null), (45, .getfield 160, 3, 11, 7, 1354, .null), (48, .laload, 1, 0, 0, 0, .null), (49, .lcmp, 1, 0, 0, 0, .null), (50, .ifCond .ne 23, 3, 73, 0, 0, .null), (53, .iload_n 1, 1, 0, 0, 0, .null), (54, .ifCond .eq 12, 3, 66, 0, 0, .null), (57, .aload_n 0, 1, 0, 0, 0, .null), (58, .getfield 105, 3, 11, 17, 1364, .null), (61, .iload_n 2, 1, 0, 0, 0, .null), (62, .iaload, 1, 0, 0, 0, .null), (63, .goto 9, 3, 72, 0, 0, .null), (66, .aload_n 0, 1, 0, 0, 0, .null), (67, .getfield 102, 3, 11, 16, 1363, .null), (70, .iload_n 2, 1, 0, 0, 0, .null), (71, .iaload, 1, 0, 0, 0, .null), (72, .ireturn, 1, 0, 0, 0, .null), (73, .iinc 2 1, 3, 0, 0, 0, .null), (76, .goto (-74), 3, 2, 0, 0, .null), (79, .iconst (-1), 1, 0, 0, 0, .int (-1)), (80, .ireturn, 1, 0, 0, 0, .null)]
set_option maxRecDepth 100000 in
theorem oX11_nameAt : fc_code mX11_nameAt lX11_nameAt = true := by decide +kernel
def lX11_takeTold : List fc_I := [(0, .aload_n 0, 1, 0, 0, 0, .null), (1, .getfield 163, 3, 11, 8, 1355, .null), (4, .ifCond .ne 15, 3, 19, 0, 0, .null), (7, .aload_n 0, 1, 0, 0, 0, .null), (8, .invokevirtual 194, 3, 156, 1, 1477, .ref 11), (11, .ifCond .ne 8, 3, 19, 0, 0, .null), (14, .aload_n 0, 1, 0, 0, 0, .null), (15, .iconst 1, 1, 0, 0, 0, .int 1), (16, .invokevirtual 169, 3, 143, 2, 1473, .ref 11), (19, .aload_n 0, 1, 0, 0, 0, .null), (20, .getfield 163, 3, 11, 8, 1355, .null), (23, .ifCond .le 7, 3, 30, 0, 0, .null), (26, .iconst (-1), 1, 0, 0, 0, .int (-1)), (27, .goto 10, 3, 37, 0, 0, .null), (30, .aload_n 0, 1, 0, 0, 0, .null), (31, .iload_n 1, 1, 0, 0, 0, .null), (32, .invokevirtual 198, 3, 157, 2, 1485, .ref 11), (35, .iload_n 2, 1, 0, 0, 0, .null), (36, .isub, 1, 0, 0, 0, .null), (37, .istore 4, 2, 0, 0, 0, .null), (39, .aload_n 0, 1, 0, 0, 0, .null), (40, .getfield 163, 3, 11, 8, 1355, .null), (43, .ifCond .ne 22, 3, 65, 0, 0, .null), (46, .iload 4, 2, 0, 0, 0, .null), (48, .iconst 0, 1, 0, 0, 0, .int 0), (49, .bipush 6, 2, 0, 0, 0, .int 6), (51, .invokestatic 202, 3, 150, 3, 1497, .retAddr 0), (54, .ifCond .ne 11, 3, 65, 0, 0, .null), (57, .aload_n 0, 1, 0, 0, 0, .null), (58, .iconst 2, 1, 0, 0, 0, .int 2), (59, .invokevirtual 169, 3, 143, 2, 1473, .ref 11), (62, .goto 25, 3, 87, 0, 0, .null), (65, .aload_n 0, 1, 0, 0, 0, .null), (66, .getfield 163, 3, 11, 8, 1355, .null), (69, .ifCond .ne 18, 3, 87, 0, 0, .null), (72, .iload_n 3, 1, 0, 0, 0, .null), (73, .iload 4, 2, 0, 0, 0, .null), (75, .ishr, 1, 0, 0, 0, .null), (76, .iconst 1, 1, 0, 0, 0, .int 1), (77, .iand, 1, 0, 0, 0, .null), (78, .iconst 1, 1, 0, 0, 0, .int 1), (79, .if_icmp .ne 8, 3, 87, 0, 0, .null), (82, .aload_n 0, 1, 0, 0, 0, .null), (83, .iconst 3, 1, 0, 0, 0, .int 3), (84, .invokevirtual 169, 3, 143, 2, 1473, .ref 11), (87, .aload_n 0, 1, 0, 0, 0, .null), (88, .dup, 1, 0, 0, 0, .null), (89, .getfield 160, 3, 11, 7, 1354, .null), (92, .aload_n 0, 1, 0, 0, 0, .null), (93, .getfield 163, 3, 11, 8, 1355, .null), (96, .ifCond .le 7, 3, 103, 0, 0, .null), (99, .iconst 0, 1, 0, 0, 0, .int 0), (100, .goto 4, 3, 104, 0, 0, .null), (103, .iconst 1, 1, 0, 0, 0, .int 1), (104, .iadd, 1, 0, 0, 0, .null), (105, .putfield 160, 3, 11, 7, 1354, .null), (108, .aload_n 0, 1, 0, 0, 0, .null), (109, .getfield 163, 3, 11, 8, 1355, .null), (112, .ifCond .le 7, 3, 119, 0, 0, .null), (115, .iconst 0, 1, 0, 0, 0, .int 0), (116, .goto 5, 3, 121, 0, 0, .null), (119, .iload 4, 2, 0, 0, 0, .null), (121, .ireturn, 1, 0, 0, 0, .null)]
set_option maxRecDepth 100000 in
theorem oX11_takeTold : fc_code mX11_takeTold lX11_takeTold = true := by decide +kernel
def lX11_land : List fc_I := [(0, .aload_n 0, 1, 0, 0, 0, .null), (1, .iconst 0, 1, 0, 0, 0, .int 0), (2, .putfield 1, 3, 11, 0, 1347, .null), (5, .aload_n 0, 1, 0, 0, 0, .null), (6, .invokevirtual 206, 3, 142, 1, 1442, .ref 11), (9, .aload_n 0, 1, 0, 0, 0, .null), (10, .iconst 0, 1, 0, 0, 0, .int 0), (11, .putfield 209, 3, 11, 13, 1360, .null), (14, .aload_n 0, 1, 0, 0, 0, .null), (15, .iconst 0, 1, 0, 0, 0, .int 0), (16, .putfield 188, 3, 11, 19, 1366, .null), (19, .aload_n 0, 1, 0, 0, 0, .null), (20, .iconst 0, 1, 0, 0, 0, .int 0), (21, .putfield 212, 3, 11, 20, 1367, .null), (24, .aload_n 0, 1, 0, 0, 0, .null), (25, .bipush 50, 2, 0, 0, 0, .int 50), (27, .invokevirtual 130, 3, 151, 2, 1319, .ref 11), (30, .aload_n 0, 1, 0, 0, 0, .null), (31, .getfield 163, 3, 11, 8, 1355, .null), (34, .ifCond .ne 28, 3, 62, 0, 0, .null), (37, .aload_n 0, 1, 0, 0, 0, .null), (38, .getfield 24, 3, 11, 4, 1351, .null), (41, .aload_n 0, 1, 0, 0, 0, .null), (42, .getfield 160, 3, 11, 7, 1354, .null), (45, .iaload, 1, 0, 0, 0, .null), (46, .ifCond .eq 16, 3, 62, 0, 0, .null), (49, .aload_n 0, 1, 0, 0, 0, .null), (50, .invokevirtual 215, 3, 160, 1, 1461, .ref 11), (53, .aload_n 0, 1, 0, 0, 0, .null), (54, .bipush 59, 2, 0, 0, 0, .int 59), (56, .invokevirtual 218, 3, 146, 2, 1556, .ref 11), (59, .goto (-29), 3, 30, 0, 0, .null), (62, .aload_n 0, 1, 0, 0, 0, .null), (63, .getfield 163, 3, 11, 8, 1355, .null), (66, .ifCond .le 8, 3, 74, 0, 0, .null), (69, .aload_n 0, 1, 0, 0, 0, .null), (70, .getfield 163, 3, 11, 8, 1355, .null), (73, .ireturn, 1, 0, 0, 0, .null), (74, .iconst 0, 1, 0, 0, 0, .int 0), (75, .istore_n 1, 1, 0, 0, 0, .null), (76, .iload_n 1, 1, 0, 0, 0, .null), (77, .bipush 50, 2, 0, 0, 0, .int 50), (79, .if_icmp .ge 24, 3, 103, 0, 0, .null), (82, .aload_n 0, 1, 0, 0, 0, .null), (83, .getfield 87, 3, 11, 10, 1357, .null), (86, .iload_n 1, 1, 0, 0, 0, .null), (87, .aload_n 0, 1, 0, 0, 0, .null), (88, .getfield 87, 3, 11, 10, 1357, .null), (91, .bipush 50, 2, 0, 0, 0, .int 50), (93, .iload_n 1, 1, 0, 0, 0, .null), (94, .iadd, 1, 0, 0, 0, .null), (95, .iaload, 1, 0, 0, 0, .null), (96, .iastore, 1, 0, 0, 0, .null), (97, .iinc 1 1, 3, 0, 0, 0, .null), (100, .goto (-24), 3, 76, 0, 0, .null), (103, .iconst 0, 1, 0, 0, 0, .int 0), (104, .istore_n 1, 1, 0, 0, 0, .null), (105, .iload_n 1, 1, 0, 0, 0, .null), (106, .aload_n 0, 1, 0, 0, 0, .null), (107, .getfield 209, 3, 11, 13, 1360, .null), (110, .if_icmp .ge 41, 3, 151, 0, 0, .null), (113, .aload_n 0, 1, 0, 0, 0, .null), (114, .getfield 90, 3, 11, 11, 1358, .null), (117, .iload_n 1, 1, 0, 0, 0, .null), (118, .aload_n 0, 1, 0, 0, 0, .null), (119, .getfield 90, 3, 11, 11, 1358, .null), (122, .sipush 1100, 3, 0, 0, 0, .int 1100), (125, .iload_n 1, 1, 0, 0, 0, .null), (126, .iadd, 1, 0, 0, 0, .null), (127, .iaload, 1, 0, 0, 0, .null), (128, .iastore, 1, 0, 0, 0, .null), (129, .aload_n 0, 1, 0, 0, 0, .null), (130, .getfield 93, 3, 11, 12, 1359, .null), (133, .iload_n 1, 1, 0, 0, 0, .null), (134, .aload_n 0, 1, 0, 0, 0, .null), (135, .getfield 93, 3, 11, 12, 1359, .null), (138, .sipush 1100, 3, 0, 0, 0, .int 1100), (141, .iload_n 1, 1, 0, 0, 0, .null), (142, .iadd, 1, 0, 0, 0, .null), (143, .iaload, 1, 0, 0, 0, .null), (144, .iastore, 1, 0, 0, 0, .null), (145, .iinc 1 1, 3, 0, 0, 0, .null), (148, .goto (-43), 3, 105, 0, 0, .null), (151, .iconst 0, 1, 0, 0, 0, .int 0), (152, .istore_n 1, 1, 0, 0, 0, .null), (153, .iload_n 1, 1, 0, 0, 0, .null), (154, .aload_n 0, 1, 0, 0, 0, .null), (155, .getfield 188, 3, 11, 19, 1366, .null), (158, .if_icmp .ge 33, 3, 191, 0, 0, .null), (161, .aload_n 0, 1, 0, 0, 0, .null), (162, .getfield 96, 3, 11, 14, 1361, .null), (165, .iload_n 1, 1, 0, 0, 0, .null), (166, .aload_n 0, 1, 0, 0, 0, .null), (167, .getfield 99, 3, 11, 15, 1362, .null), (170, .iload_n 1, 1, 0, 0, 0, .null), (171, .laload, 1, 0, 0, 0, .null), (172, .lastore, 1, 0, 0, 0, .null), (173, .aload_n 0, 1, 0, 0, 0, .null), (174, .getfield 102, 3, 11, 16, 1363, .null), (177, .iload_n 1, 1, 0, 0, 0, .null), (178, .aload_n 0, 1, 0, 0, 0, .null), (179, .getfield 105, 3, 11, 17, 1364, .null), (182, .iload_n 1, 1, 0, 0, 0, .null), (183, .iaload, 1, 0, 0, 0, .null), (184, .iastore, 1, 0, 0, 0, .null), (185, .iinc 1 1, 3, 0, 0, 0, .null), (188, .goto (-35), 3, 153, 0, 0, .null), (191, .aload_n 0, 1, 0, 0, 0, .null), (192, .aload_n 0, 1, 0, 0, 0, .null), (193, .getfield 188, 3, 11, 19, 1366, .null), (196, .putfield 191, 3, 11, 18, 1365, .null), (199, .aload_n 0, 1, 0, 0, 0, .null), (200, .invokevirtual 134, 3, 176, 1, 1323, .ref 11), (203, .iconst 0, 1, 0, 0, 0, .int 0), (204, .ireturn, 1, 0, 0, 0, .null)]
set_option maxRecDepth 100000 in
theorem oX11_land : fc_code mX11_land lX11_land = true := by decide +kernel
def lX11_readLine : List fc_I := [(0, .aload_n 0, 1, 0, 0, 0, .null), (1, .iconst 0, 1, 0, 0, 0, .int 0), (2, .invokevirtual 172, 3, 145, 2, 1465, .ref 11), (5, .ifCond .eq 14, 3, 19, 0, 0, .null), (8, .aload_n 0, 1, 0, 0, 0, .null), (9, .iconst 0, 1, 0, 0, 0, .int 0), (10, .bipush 7, 2, 0, 0, 0, .int 7), (12, .iconst 0, 1, 0, 0, 0, .int 0), (13, .invokevirtual 221, 3, 161, 4, 1469, .ref 11), (16, .goto 199, 3, 215, 0, 0, .null), (19, .aload_n 0, 1, 0, 0, 0, .null), (20, .iconst 1, 1, 0, 0, 0, .int 1), (21, .invokevirtual 172, 3, 145, 2, 1465, .ref 11), (24, .ifCond .eq 10, 3, 34, 0, 0, .null), (27, .aload_n 0, 1, 0, 0, 0, .null), (28, .invokevirtual 225, 3, 162, 1, 1489, .ref 11), (31, .goto 184, 3, 215, 0, 0, .null), (34, .aload_n 0, 1, 0, 0, 0, .null), (35, .iconst 2, 1, 0, 0, 0, .int 2), (36, .invokevirtual 172, 3, 145, 2, 1465, .ref 11), (39, .ifCond .eq 91, 3, 130, 0, 0, .null), (42, .bipush 63, 2, 0, 0, 0, .int 63), (44, .iconst 3, 1, 0, 0, 0, .int 3), (45, .aload_n 0, 1, 0, 0, 0, .null), (46, .getfield 87, 3, 11, 10, 1357, .null), (49, .bipush 52, 2, 0, 0, 0, .int 52), (51, .iaload, 1, 0, 0, 0, .null), (52, .imul, 1, 0, 0, 0, .null), (53, .iadd, 1, 0, 0, 0, .null), (54, .istore_n 1, 1, 0, 0, 0, .null), (55, .aload_n 0, 1, 0, 0, 0, .null), (56, .iconst 2, 1, 0, 0, 0, .int 2), (57, .iconst 5, 1, 0, 0, 0, .int 5), (58, .bipush 20, 2, 0, 0, 0, .int 20), (60, .invokevirtual 221, 3, 161, 4, 1469, .ref 11), (63, .aload_n 0, 1, 0, 0, 0, .null), (64, .bipush 14, 2, 0, 0, 0, .int 14), (66, .iconst 4, 1, 0, 0, 0, .int 4), (67, .invokevirtual 228, 3, 155, 3, 1500, .ref 11), (70, .istore_n 2, 1, 0, 0, 0, .null), (71, .aload_n 0, 1, 0, 0, 0, .null), (72, .iconst 3, 1, 0, 0, 0, .int 3), (73, .invokevirtual 178, 3, 149, 2, 1504, .ref 11), (76, .aload_n 0, 1, 0, 0, 0, .null), (77, .iconst 1, 1, 0, 0, 0, .int 1), (78, .iconst 0, 1, 0, 0, 0, .int 0), (79, .iconst 0, 1, 0, 0, 0, .int 0), (80, .invokevirtual 231, 3, 158, 4, 1493, .ref 11), (83, .istore_n 3, 1, 0, 0, 0, .null), (84, .aload_n 0, 1, 0, 0, 0, .null), (85, .iconst 4, 1, 0, 0, 0, .int 4), (86, .iconst 0, 1, 0, 0, 0, .int 0), (87, .bipush 30, 2, 0, 0, 0, .int 30), (89, .invokevirtual 235, 3, 153, 4, 1512, .ref 11), (92, .istore 4, 2, 0, 0, 0, .null), (94, .aload_n 0, 1, 0, 0, 0, .null), (95, .getfield 163, 3, 11, 8, 1355, .null), (98, .ifCond .ne 29, 3, 127, 0, 0, .null), (101, .aload_n 0, 1, 0, 0, 0, .null), (102, .getfield 87, 3, 11, 10, 1357, .null), (105, .iload_n 1, 1, 0, 0, 0, .null), (106, .iload_n 2, 1, 0, 0, 0, .null), (107, .iastore, 1, 0, 0, 0, .null), (108, .aload_n 0, 1, 0, 0, 0, .null), (109, .getfield 87, 3, 11, 10, 1357, .null), (112, .iload_n 1, 1, 0, 0, 0, .null), (113, .iconst 1, 1, 0, 0, 0, .int 1), (114, .iadd, 1, 0, 0, 0, .null), (115, .iload_n 3, 1, 0, 0, 0, .null), (116, .iastore, 1, 0, 0, 0, .null), (117, .aload_n 0, 1, 0, 0, 0, .null), (118, .getfield 87, 3, 11, 10, 1357, .null), (121, .iload_n 1, 1, 0, 0, 0, .null), (122, .iconst 2, 1, 0, 0, 0, .int 2), (123, .iadd, 1, 0, 0, 0, .null), (124, .iload 4, 2, 0, 0, 0, .null), (126, .iastore, 1, 0, 0, 0, .null), (127, .goto 88, 3, 215, 0, 0, .null), (130, .aload_n 0, 1, 0, 0, 0, .null), (131, .iconst 5, 1, 0, 0, 0, .int 5), (132, .invokevirtual 172, 3, 145, 2, 1465, .ref 11), (135, .ifCond .eq 76, 3, 211, 0, 0, .null), (138, .bipush 78, 2, 0, 0, 0, .int 78), (140, .iconst 2, 1, 0, 0, 0, .int 2), (141, .aload_n 0, 1, 0, 0, 0, .null), (142, .getfield 87, 3, 11, 10, 1357, .null), (145, .bipush 53, 2, 0, 0, 0, .int 53), (147, .iaload, 1, 0, 0, 0, .null), (148, .imul, 1, 0, 0, 0, .null), (149, .iadd, 1, 0, 0, 0, .null), (150, .istore_n 1, 1, 0, 0, 0, .null), (151, .aload_n 0, 1, 0, 0, 0, .null), (152, .iconst 3, 1, 0, 0, 0, .int 3), (153, .bipush 6, 2, 0, 0, 0, .int 6), (155, .bipush 40, 2, 0, 0, 0, .int 40), (157, .invokevirtual 221, 3, 161, 4, 1469, .ref 11), (160, .aload_n 0, 1, 0, 0, 0, .null), (161, .bipush 6, 2, 0, 0, 0, .int 6), (163, .iconst 0, 1, 0, 0, 0, .int 0), (164, .bipush 30, 2, 0, 0, 0, .int 30), (166, .invokevirtual 235, 3, 153, 4, 1512, .ref 11), (169, .istore_n 2, 1, 0, 0, 0, .null), (170, .aload_n 0, 1, 0, 0, 0, .null), (171, .bipush 7, 2, 0, 0, 0, .int 7), (173, .invokevirtual 178, 3, 149, 2, 1504, .ref 11), (176, .aload_n 0, 1, 0, 0, 0, .null), (177, .iconst 1, 1, 0, 0, 0, .int 1), (178, .bipush 20, 2, 0, 0, 0, .int 20), (180, .iconst 0, 1, 0, 0, 0, .int 0), (181, .invokevirtual 231, 3, 158, 4, 1493, .ref 11), (184, .istore_n 3, 1, 0, 0, 0, .null), (185, .aload_n 0, 1, 0, 0, 0, .null), (186, .getfield 163, 3, 11, 8, 1355, .null), (189, .ifCond .ne 19, 3, 208, 0, 0, .null), (192, .aload_n 0, 1, 0, 0, 0, .null), (193, .getfield 87, 3, 11, 10, 1357, .null), (196, .iload_n 1, 1, 0, 0, 0, .null), (197, .iload_n 2, 1, 0, 0, 0, .null), (198, .iastore, 1, 0, 0, 0, .null), (199, .aload_n 0, 1, 0, 0, 0, .null), (200, .getfield 87, 3, 11, 10, 1357, .null), (203, .iload_n 1, 1, 0, 0, 0, .null), (204, .iconst 1, 1, 0, 0, 0, .int 1), (205, .iadd, 1, 0, 0, 0, .null), (206, .iload_n 3, 1, 0, 0, 0, .null), (207, .iastore, 1, 0, 0, 0, .null), (208, .goto 7, 3, 215, 0, 0, .null), (211, .aload_n 0, 1, 0, 0, 0, .null), (212, .invokevirtual 239, 3, 163, 1, 1520, .ref 11), (215, .return_, 1, 0, 0, 0, .null)]
set_option maxRecDepth 100000 in
theorem oX11_readLine : fc_code mX11_readLine lX11_readLine = true := by decide +kernel
def lX11_readName : List fc_I := [(0, .aload_n 0, 1, 0, 0, 0, .null), (1, .getfield 87, 3, 11, 10, 1357, .null), (4, .bipush 50, 2, 0, 0, 0, .int 50), (6, .iload_n 1, 1, 0, 0, 0, .null), (7, .iadd, 1, 0, 0, 0, .null), (8, .iaload, 1, 0, 0, 0, .null), (9, .istore 4, 2, 0, 0, 0, .null), (11, .iload 4, 2, 0, 0, 0, .null), (13, .iload_n 2, 1, 0, 0, 0, .null), (14, .if_icmp .ne 9, 3, 23, 0, 0, .null), (17, .aload_n 0, 1, 0, 0, 0, .null), (18, .iconst 5, 1, 0, 0, 0, .int 5), (19, .invokevirtual 169, 3, 143, 2, 1473, .ref 11), (22, .return_, 1, 0, 0, 0, .null), (23, .aload_n 0, 1, 0, 0, 0, .null), (24, .dup, 1, 0, 0, 0, .null), (25, .getfield 160, 3, 11, 7, 1354, .null), (28, .iconst 1, 1, 0, 0, 0, .int 1), (29, .iadd, 1, 0, 0, 0, .null), (30, .putfield 160, 3, 11, 7, 1354, .null), (33, .aload_n 0, 1, 0, 0, 0, .null), (34, .invokevirtual 194, 3, 156, 1, 1477, .ref 11), (37, .ifCond .ne 11, 3, 48, 0, 0, .null), (40, .aload_n 0, 1, 0, 0, 0, .null), (41, .iconst 1, 1, 0, 0, 0, .int 1), (42, .invokevirtual 169, 3, 143, 2, 1473, .ref 11), (45, .goto 16, 3, 61, 0, 0, .null), (48, .aload_n 0, 1, 0, 0, 0, .null), (49, .iconst 1, 1, 0, 0, 0, .int 1), (50, .invokevirtual 198, 3, 157, 2, 1485, .ref 11), (53, .ifCond .lt 8, 3, 61, 0, 0, .null), (56, .aload_n 0, 1, 0, 0, 0, .null), (57, .iconst 3, 1, 0, 0, 0, .int 3), (58, .invokevirtual 169, 3, 143, 2, 1473, .ref 11), (61, .aload_n 0, 1, 0, 0, 0, .null), (62, .getfield 163, 3, 11, 8, 1355, .null), (65, .ifCond .ne 67, 3, 132, 0, 0, .null), (68, .aload_n 0, 1, 0, 0, 0, .null), (69, .getfield 99, 3, 11, 15, 1362, .null), (72, .aload_n 0, 1, 0, 0, 0, .null), (73, .getfield 188, 3, 11, 19, 1366, .null), (76, .aload_n 0, 1, 0, 0, 0, .null), (77, .getfield 30, 3, 11, 6, 1353, .null), (80, .aload_n 0, 1, 0, 0, 0, .null), (81, .getfield 160, 3, 11, 7, 1354, .null), (84, .laload, 1, 0, 0, 0, .null), (85, .lastore, 1, 0, 0, 0, .null), (86, .aload_n 0, 1, 0, 0, 0, .null), (87, .getfield 105, 3, 11, 17, 1364, .null), (90, .aload_n 0, 1, 0, 0, 0, .null), (91, .getfield 188, 3, 11, 19, 1366, .null), (94, .iload_n 3, 1, 0, 0, 0, .null), (95, .iload 4, 2, 0, 0, 0, .null), (97, .iadd, 1, 0, 0, 0, .null), (98, .iastore, 1, 0, 0, 0, .null), (99, .aload_n 0, 1, 0, 0, 0, .null), (100, .dup, 1, 0, 0, 0, .null), (101, .getfield 188, 3, 11, 19, 1366, .null), (104, .iconst 1, 1, 0, 0, 0, .int 1), (105, .iadd, 1, 0, 0, 0, .null), (106, .putfield 188, 3, 11, 19, 1366, .null), (109, .aload_n 0, 1, 0, 0, 0, .null), (110, .dup, 1, 0, 0, 0, .null), (111, .getfield 160, 3, 11, 7, 1354, .null), (114, .iconst 1, 1, 0, 0, 0, .int 1), (115, .iadd, 1, 0, 0, 0, .null), (116, .putfield 160, 3, 11, 7, 1354, .null), (119, .aload_n 0, 1, 0, 0, 0, .null), (120, .getfield 87, 3, 11, 10, 1357, .null), (123, .bipush 50, 2, 0, 0, 0, .int 50), (125, .iload_n 1, 1, 0, 0, 0, .null), (126, .iadd, 1, 0, 0, 0, .null), (127, .dup2, 1, 0, 0, 0, .null), (128, .iaload, 1, 0, 0, 0, .null), (129, .iconst 1, 1, 0, 0, 0, .int 1), (130, .iadd, 1, 0, 0, 0, .null), (131, .iastore, 1, 0, 0, 0, .null), (132, .return_, 1, 0, 0, 0, .null)]
set_option maxRecDepth 100000 in
theorem oX11_readName : fc_code mX11_readName lX11_readName = true := by decide +kernel
def lX11_readPath : List fc_I := [(0, .aload_n 0, 1, 0, 0, 0, .null), (1, .getfield 87, 3, 11, 10, 1357, .null), (4, .bipush 51, 2, 0, 0, 0, .int 51), (6, .iaload, 1, 0, 0, 0, .null), (7, .bipush 10, 2, 0, 0, 0, .int 10), (9, .if_icmp .ne 9, 3, 18, 0, 0, .null), (12, .aload_n 0, 1, 0, 0, 0, .null), (13, .iconst 5, 1, 0, 0, 0, .int 5), (14, .invokevirtual 169, 3, 143, 2, 1473, .ref 11), (17, .return_, 1, 0, 0, 0, .null), (18, .aload_n 0, 1, 0, 0, 0, .null), (19, .dup, 1, 0, 0, 0, .null), (20, .getfield 160, 3, 11, 7, 1354, .null), (23, .iconst 1, 1, 0, 0, 0, .int 1), (24, .iadd, 1, 0, 0, 0, .null), (25, .putfield 160, 3, 11, 7, 1354, .null), (28, .aload_n 0, 1, 0, 0, 0, .null), (29, .iconst 1, 1, 0, 0, 0, .int 1), (30, .iconst 0, 1, 0, 0, 0, .int 0), (31, .iconst 0, 1, 0, 0, 0, .int 0), (32, .invokevirtual 231, 3, 158, 4, 1493, .ref 11), (35, .istore_n 1, 1, 0, 0, 0, .null), (36, .aload_n 0, 1, 0, 0, 0, .null), (37, .iconst 1, 1, 0, 0, 0, .int 1), (38, .iconst 0, 1, 0, 0, 0, .int 0), (39, .aload_n 0, 1, 0, 0, 0, .null), (40, .getfield 87, 3, 11, 10, 1357, .null), (43, .bipush 56, 2, 0, 0, 0, .int 56), (45, .iload_n 1, 1, 0, 0, 0, .null), (46, .iadd, 1, 0, 0, 0, .null), (47, .iaload, 1, 0, 0, 0, .null), (48, .iconst 1, 1, 0, 0, 0, .int 1), (49, .iload_n 1, 1, 0, 0, 0, .null), (50, .ishl, 1, 0, 0, 0, .null), (51, .ior, 1, 0, 0, 0, .null), (52, .invokevirtual 231, 3, 158, 4, 1493, .ref 11), (55, .istore_n 2, 1, 0, 0, 0, .null), (56, .aload_n 0, 1, 0, 0, 0, .null), (57, .getfield 163, 3, 11, 8, 1355, .null), (60, .ifCond .ne 44, 3, 104, 0, 0, .null), (63, .aload_n 0, 1, 0, 0, 0, .null), (64, .getfield 87, 3, 11, 10, 1357, .null), (67, .bipush 56, 2, 0, 0, 0, .int 56), (69, .iload_n 1, 1, 0, 0, 0, .null), (70, .iadd, 1, 0, 0, 0, .null), (71, .dup2, 1, 0, 0, 0, .null), (72, .iaload, 1, 0, 0, 0, .null), (73, .iconst 1, 1, 0, 0, 0, .int 1), (74, .iload_n 2, 1, 0, 0, 0, .null), (75, .ishl, 1, 0, 0, 0, .null), (76, .ior, 1, 0, 0, 0, .null), (77, .iastore, 1, 0, 0, 0, .null), (78, .aload_n 0, 1, 0, 0, 0, .null), (79, .getfield 87, 3, 11, 10, 1357, .null), (82, .bipush 56, 2, 0, 0, 0, .int 56), (84, .iload_n 2, 1, 0, 0, 0, .null), (85, .iadd, 1, 0, 0, 0, .null), (86, .dup2, 1, 0, 0, 0, .null), (87, .iaload, 1, 0, 0, 0, .null), (88, .iconst 1, 1, 0, 0, 0, .int 1), (89, .iload_n 1, 1, 0, 0, 0, .null), (90, .ishl, 1, 0, 0, 0, .null), (91, .ior, 1, 0, 0, 0, .null), (92, .iastore, 1, 0, 0, 0, .null), (93, .aload_n 0, 1, 0, 0, 0, .null), (94, .getfield 87, 3, 11, 10, 1357, .null), (97, .bipush 51, 2, 0, 0, 0, .int 51), (99, .dup2, 1, 0, 0, 0, .null), (100, .iaload, 1, 0, 0, 0, .null), (101, .iconst 1, 1, 0, 0, 0, .int 1), (102, .iadd, 1, 0, 0, 0, .null), (103, .iastore, 1, 0, 0, 0, .null), (104, .return_, 1, 0, 0, 0, .null)]
set_option maxRecDepth 100000 in
theorem oX11_readPath : fc_code mX11_readPath lX11_readPath = true := by decide +kernel
def lX11_readOnce : List fc_I := [(0, .aload_n 0, 1, 0, 0, 0, .null), (1, .bipush 8, 2, 0, 0, 0, .int 8), (3, .iconst 2, 1, 0, 0, 0, .int 2), (4, .invokevirtual 185, 3, 154, 3, 1481, .ref 11), (7, .istore_n 1, 1, 0, 0, 0, .null), (8, .iload_n 1, 1, 0, 0, 0, .null), (9, .ifCond .ge 11, 3, 20, 0, 0, .null), (12, .aload_n 0, 1, 0, 0, 0, .null), (13, .iconst 1, 1, 0, 0, 0, .int 1), (14, .invokevirtual 169, 3, 143, 2, 1473, .ref 11), (17, .goto 20, 3, 37, 0, 0, .null), (20, .aload_n 0, 1, 0, 0, 0, .null), (21, .getfield 212, 3, 11, 20, 1367, .null), (24, .iload_n 1, 1, 0, 0, 0, .null), (25, .ishr, 1, 0, 0, 0, .null), (26, .iconst 1, 1, 0, 0, 0, .int 1), (27, .iand, 1, 0, 0, 0, .null), (28, .iconst 1, 1, 0, 0, 0, .int 1), (29, .if_icmp .ne 8, 3, 37, 0, 0, .null), (32, .aload_n 0, 1, 0, 0, 0, .null), (33, .iconst 3, 1, 0, 0, 0, .int 3), (34, .invokevirtual 169, 3, 143, 2, 1473, .ref 11), (37, .aload_n 0, 1, 0, 0, 0, .null), (38, .getfield 163, 3, 11, 8, 1355, .null), (41, .ifCond .le 4, 3, 45, 0, 0, .null), (44, .return_, 1, 0, 0, 0, .null), (45, .aload_n 0, 1, 0, 0, 0, .null), (46, .dup, 1, 0, 0, 0, .null), (47, .getfield 212, 3, 11, 20, 1367, .null), (50, .iconst 1, 1, 0, 0, 0, .int 1), (51, .iload_n 1, 1, 0, 0, 0, .null), (52, .ishl, 1, 0, 0, 0, .null), (53, .ior, 1, 0, 0, 0, .null), (54, .putfield 212, 3, 11, 20, 1367, .null), (57, .aload_n 0, 1, 0, 0, 0, .null), (58, .dup, 1, 0, 0, 0, .null), (59, .getfield 160, 3, 11, 7, 1354, .null), (62, .iconst 1, 1, 0, 0, 0, .int 1), (63, .iadd, 1, 0, 0, 0, .null), (64, .putfield 160, 3, 11, 7, 1354, .null), (67, .iload_n 1, 1, 0, 0, 0, .null), (68, .ifCond .ne 20, 3, 88, 0, 0, .null), (71, .aload_n 0, 1, 0, 0, 0, .null), (72, .getfield 87, 3, 11, 10, 1357, .null), (75, .bipush 54, 2, 0, 0, 0, .int 54), (77, .aload_n 0, 1, 0, 0, 0, .null), (78, .iconst 1, 1, 0, 0, 0, .int 1), (79, .bipush 60, 2, 0, 0, 0, .int 60), (81, .invokevirtual 181, 3, 152, 3, 1516, .ref 11), (84, .iastore, 1, 0, 0, 0, .null), (85, .goto 25, 3, 110, 0, 0, .null), (88, .aload_n 0, 1, 0, 0, 0, .null), (89, .getfield 87, 3, 11, 10, 1357, .null), (92, .bipush 55, 2, 0, 0, 0, .int 55), (94, .aload_n 0, 1, 0, 0, 0, .null), (95, .getfield 209, 3, 11, 13, 1360, .null), (98, .iastore, 1, 0, 0, 0, .null), (99, .aload_n 0, 1, 0, 0, 0, .null), (100, .iconst 0, 1, 0, 0, 0, .int 0), (101, .invokevirtual 242, 3, 167, 2, 1524, .ref 11), (104, .aload_n 0, 1, 0, 0, 0, .null), (105, .iconst 0, 1, 0, 0, 0, .int 0), (106, .iconst 0, 1, 0, 0, 0, .int 0), (107, .invokevirtual 245, 3, 166, 3, 1548, .ref 11), (110, .return_, 1, 0, 0, 0, .null)]
set_option maxRecDepth 100000 in
theorem oX11_readOnce : fc_code mX11_readOnce lX11_readOnce = true := by decide +kernel
def lX11_morning : List fc_I := [(0, .aload_n 0, 1, 0, 0, 0, .null), (1, .iconst 0, 1, 0, 0, 0, .int 0), (2, .putfield 1, 3, 11, 0, 1347, .null), (5, .aload_n 0, 1, 0, 0, 0, .null), (6, .invokevirtual 206, 3, 142, 1, 1442, .ref 11), (9, .iconst 0, 1, 0, 0, 0, .int 0), (10, .istore_n 1, 1, 0, 0, 0, .null), (11, .aload_n 0, 1, 0, 0, 0, .null), (12, .getfield 163, 3, 11, 8, 1355, .null), (15, .ifCond .ne 82, 3, 97, 0, 0, .null), (18, .aload_n 0, 1, 0, 0, 0, .null), (19, .getfield 24, 3, 11, 4, 1351, .null), (22, .aload_n 0, 1, 0, 0, 0, .null), (23, .getfield 160, 3, 11, 7, 1354, .null), (26, .iaload, 1, 0, 0, 0, .null), (27, .ifCond .eq 70, 3, 97, 0, 0, .null), (30, .aload_n 0, 1, 0, 0, 0, .null), (31, .bipush 10, 2, 0, 0, 0, .int 10), (33, .iconst 4, 1, 0, 0, 0, .int 4), (34, .invokevirtual 185, 3, 154, 3, 1481, .ref 11), (37, .istore_n 2, 1, 0, 0, 0, .null), (38, .iload_n 2, 1, 0, 0, 0, .null), (39, .ifCond .ge 11, 3, 50, 0, 0, .null), (42, .aload_n 0, 1, 0, 0, 0, .null), (43, .iconst 1, 1, 0, 0, 0, .int 1), (44, .invokevirtual 169, 3, 143, 2, 1473, .ref 11), (47, .goto 41, 3, 88, 0, 0, .null), (50, .iload_n 1, 1, 0, 0, 0, .null), (51, .bipush 40, 2, 0, 0, 0, .int 40), (53, .if_icmp .ne 11, 3, 64, 0, 0, .null), (56, .aload_n 0, 1, 0, 0, 0, .null), (57, .iconst 5, 1, 0, 0, 0, .int 5), (58, .invokevirtual 169, 3, 143, 2, 1473, .ref 11), (61, .goto 27, 3, 88, 0, 0, .null), (64, .aload_n 0, 1, 0, 0, 0, .null), (65, .dup, 1, 0, 0, 0, .null), (66, .getfield 160, 3, 11, 7, 1354, .null), (69, .iconst 1, 1, 0, 0, 0, .int 1), (70, .iadd, 1, 0, 0, 0, .null), (71, .putfield 160, 3, 11, 7, 1354, .null), (74, .aload_n 0, 1, 0, 0, 0, .null), (75, .bipush 125, 2, 0, 0, 0, .int 125), (77, .iconst 3, 1, 0, 0, 0, .int 3), (78, .iload_n 1, 1, 0, 0, 0, .null), (79, .imul, 1, 0, 0, 0, .null), (80, .iadd, 1, 0, 0, 0, .null), (81, .iload_n 2, 1, 0, 0, 0, .null), (82, .invokevirtual 249, 3, 165, 3, 1564, .ref 11), (85, .iinc 1 1, 3, 0, 0, 0, .null), (88, .aload_n 0, 1, 0, 0, 0, .null), (89, .bipush 59, 2, 0, 0, 0, .int 59), (91, .invokevirtual 218, 3, 146, 2, 1556, .ref 11), (94, .goto (-83), 3, 11, 0, 0, .null), (97, .aload_n 0, 1, 0, 0, 0, .null), (98, .getfield 163, 3, 11, 8, 1355, .null), (101, .ifCond .le 8, 3, 109, 0, 0, .null), (104, .aload_n 0, 1, 0, 0, 0, .null), (105, .getfield 163, 3, 11, 8, 1355, .null), (108, .ireturn, 1, 0, 0, 0, .null), (109, .aload_n 0, 1, 0, 0, 0, .null), (110, .getfield 108, 3, 11, 21, 1368, .null), (113, .iconst 0, 1, 0, 0, 0, .int 0), (114, .iload_n 1, 1, 0, 0, 0, .null), (115, .iastore, 1, 0, 0, 0, .null), (116, .iconst 0, 1, 0, 0, 0, .int 0), (117, .istore_n 2, 1, 0, 0, 0, .null), (118, .iload_n 2, 1, 0, 0, 0, .null), (119, .iconst 3, 1, 0, 0, 0, .int 3), (120, .iload_n 1, 1, 0, 0, 0, .null), (121, .imul, 1, 0, 0, 0, .null), (122, .if_icmp .ge 26, 3, 148, 0, 0, .null), (125, .aload_n 0, 1, 0, 0, 0, .null), (126, .getfield 108, 3, 11, 21, 1368, .null), (129, .iconst 1, 1, 0, 0, 0, .int 1), (130, .iload_n 2, 1, 0, 0, 0, .null), (131, .iadd, 1, 0, 0, 0, .null), (132, .aload_n 0, 1, 0, 0, 0, .null), (133, .getfield 108, 3, 11, 21, 1368, .null), (136, .bipush 125, 2, 0, 0, 0, .int 125), (138, .iload_n 2, 1, 0, 0, 0, .null), (139, .iadd, 1, 0, 0, 0, .null), (140, .iaload, 1, 0, 0, 0, .null), (141, .iastore, 1, 0, 0, 0, .null), (142, .iinc 2 1, 3, 0, 0, 0, .null), (145, .goto (-27), 3, 118, 0, 0, .null), (148, .iconst 0, 1, 0, 0, 0, .int 0), (149, .ireturn, 1, 0, 0, 0, .null)]
set_option maxRecDepth 100000 in
theorem oX11_morning : fc_code mX11_morning lX11_morning = true := by decide +kernel
def lX11_readMorning : List fc_I := [(0, .aload_n 0, 1, 0, 0, 0, .null), (1, .getfield 108, 3, 11, 21, 1368, .null), (4, .iload_n 1, 1, 0, 0, 0, .null), (5, .iload_n 2, 1, 0, 0, 0, .null), (6, .iastore, 1, 0, 0, 0, .null), (7, .aload_n 0, 1, 0, 0, 0, .null), (8, .getfield 108, 3, 11, 21, 1368, .null), (11, .iload_n 1, 1, 0, 0, 0, .null), (12, .iconst 1, 1, 0, 0, 0, .int 1), (13, .iadd, 1, 0, 0, 0, .null), (14, .iload_n 2, 1, 0, 0, 0, .null), (15, .ifCond .ne 7, 3, 22, 0, 0, .null), (18, .iconst 0, 1, 0, 0, 0, .int 0), (19, .goto 21, 3, 40, 0, 0, .null), (22, .aload_n 0, 1, 0, 0, 0, .null), (23, .iconst 0, 1, 0, 0, 0, .int 0), (24, .iload_n 2, 1, 0, 0, 0, .null), (25, .iconst 2, 1, 0, 0, 0, .int 2), (26, .if_icmp .ne 8, 3, 34, 0, 0, .null), (29, .bipush 40, 2, 0, 0, 0, .int 40), (31, .goto 5, 3, 36, 0, 0, .null), (34, .bipush 20, 2, 0, 0, 0, .int 20), (36, .iconst 0, 1, 0, 0, 0, .int 0), (37, .invokevirtual 231, 3, 158, 4, 1493, .ref 11), (40, .iastore, 1, 0, 0, 0, .null), (41, .aload_n 0, 1, 0, 0, 0, .null), (42, .getfield 108, 3, 11, 21, 1368, .null), (45, .iload_n 1, 1, 0, 0, 0, .null), (46, .iconst 2, 1, 0, 0, 0, .int 2), (47, .iadd, 1, 0, 0, 0, .null), (48, .iload_n 2, 1, 0, 0, 0, .null), (49, .ifCond .ne 7, 3, 56, 0, 0, .null), (52, .iconst 0, 1, 0, 0, 0, .int 0), (53, .goto 38, 3, 91, 0, 0, .null), (56, .aload_n 0, 1, 0, 0, 0, .null), (57, .iconst 0, 1, 0, 0, 0, .int 0), (58, .iload_n 2, 1, 0, 0, 0, .null), (59, .iconst 1, 1, 0, 0, 0, .int 1), (60, .if_icmp .ne 7, 3, 67, 0, 0, .null), (63, .iconst 0, 1, 0, 0, 0, .int 0), (64, .goto 5, 3, 69, 0, 0, .null), (67, .bipush 20, 2, 0, 0, 0, .int 20), (69, .iload_n 2, 1, 0, 0, 0, .null), (70, .iconst 3, 1, 0, 0, 0, .int 3), (71, .if_icmp .ne 16, 3, 87, 0, 0, .null), (74, .iconst 1, 1, 0, 0, 0, .int 1), (75, .aload_n 0, 1, 0, 0, 0, .null), (76, .getfield 108, 3, 11, 21, 1368, .null), (79, .iload_n 1, 1, 0, 0, 0, .null), (80, .iconst 1, 1, 0, 0, 0, .int 1), (81, .iadd, 1, 0, 0, 0, .null), (82, .iaload, 1, 0, 0, 0, .null), (83, .ishl, 1, 0, 0, 0, .null), (84, .goto 4, 3, 88, 0, 0, .null), (87, .iconst 0, 1, 0, 0, 0, .int 0), (88, .invokevirtual 231, 3, 158, 4, 1493, .ref 11), (91, .iastore, 1, 0, 0, 0, .null), (92, .return_, 1, 0, 0, 0, .null)]
set_option maxRecDepth 100000 in
theorem oX11_readMorning : fc_code mX11_readMorning lX11_readMorning = true := by decide +kernel
def lX11_emit : List fc_I := [(0, .aload_n 0, 1, 0, 0, 0, .null), (1, .getfield 90, 3, 11, 11, 1358, .null), (4, .sipush 1100, 3, 0, 0, 0, .int 1100), (7, .aload_n 0, 1, 0, 0, 0, .null), (8, .getfield 209, 3, 11, 13, 1360, .null), (11, .iadd, 1, 0, 0, 0, .null), (12, .iload_n 1, 1, 0, 0, 0, .null), (13, .iastore, 1, 0, 0, 0, .null), (14, .aload_n 0, 1, 0, 0, 0, .null), (15, .getfield 93, 3, 11, 12, 1359, .null), (18, .sipush 1100, 3, 0, 0, 0, .int 1100), (21, .aload_n 0, 1, 0, 0, 0, .null), (22, .getfield 209, 3, 11, 13, 1360, .null), (25, .iadd, 1, 0, 0, 0, .null), (26, .iload_n 2, 1, 0, 0, 0, .null), (27, .iastore, 1, 0, 0, 0, .null), (28, .aload_n 0, 1, 0, 0, 0, .null), (29, .dup, 1, 0, 0, 0, .null), (30, .getfield 209, 3, 11, 13, 1360, .null), (33, .iconst 1, 1, 0, 0, 0, .int 1), (34, .iadd, 1, 0, 0, 0, .null), (35, .putfield 209, 3, 11, 13, 1360, .null), (38, .return_, 1, 0, 0, 0, .null)]
set_option maxRecDepth 100000 in
theorem oX11_emit : fc_code mX11_emit lX11_emit = true := by decide +kernel
def lX11_whole : List fc_I := [(0, .aload_n 0, 1, 0, 0, 0, .null), (1, .iload_n 1, 1, 0, 0, 0, .null), (2, .invokevirtual 252, 3, 168, 2, 1528, .ref 11), (5, .aload_n 0, 1, 0, 0, 0, .null), (6, .bipush 19, 2, 0, 0, 0, .int 19), (8, .invokevirtual 172, 3, 145, 2, 1465, .ref 11), (11, .ifCond .ne 12, 3, 23, 0, 0, .null), (14, .aload_n 0, 1, 0, 0, 0, .null), (15, .bipush 20, 2, 0, 0, 0, .int 20), (17, .invokevirtual 172, 3, 145, 2, 1465, .ref 11), (20, .ifCond .eq 44, 3, 64, 0, 0, .null), (23, .aload_n 0, 1, 0, 0, 0, .null), (24, .bipush 19, 2, 0, 0, 0, .int 19), (26, .invokevirtual 172, 3, 145, 2, 1465, .ref 11), (29, .istore_n 2, 1, 0, 0, 0, .null), (30, .aload_n 0, 1, 0, 0, 0, .null), (31, .dup, 1, 0, 0, 0, .null), (32, .getfield 160, 3, 11, 7, 1354, .null), (35, .iconst 1, 1, 0, 0, 0, .int 1), (36, .iadd, 1, 0, 0, 0, .null), (37, .putfield 160, 3, 11, 7, 1354, .null), (40, .aload_n 0, 1, 0, 0, 0, .null), (41, .iload_n 1, 1, 0, 0, 0, .null), (42, .invokevirtual 252, 3, 168, 2, 1528, .ref 11), (45, .aload_n 0, 1, 0, 0, 0, .null), (46, .iload_n 2, 1, 0, 0, 0, .null), (47, .ifCond .eq 8, 3, 55, 0, 0, .null), (50, .bipush 9, 2, 0, 0, 0, .int 9), (52, .goto 5, 3, 57, 0, 0, .null), (55, .bipush 10, 2, 0, 0, 0, .int 10), (57, .iconst 0, 1, 0, 0, 0, .int 0), (58, .invokevirtual 245, 3, 166, 3, 1548, .ref 11), (61, .goto (-56), 3, 5, 0, 0, .null), (64, .return_, 1, 0, 0, 0, .null)]
set_option maxRecDepth 100000 in
theorem oX11_whole : fc_code mX11_whole lX11_whole = true := by decide +kernel
def lX11_test : List fc_I := [(0, .aload_n 0, 1, 0, 0, 0, .null), (1, .iload_n 1, 1, 0, 0, 0, .null), (2, .invokevirtual 255, 3, 169, 2, 1532, .ref 11), (5, .aload_n 0, 1, 0, 0, 0, .null), (6, .bipush 60, 2, 0, 0, 0, .int 60), (8, .invokevirtual 166, 3, 144, 2, 1544, .ref 11), (11, .istore_n 2, 1, 0, 0, 0, .null), (12, .aload_n 0, 1, 0, 0, 0, .null), (13, .bipush 60, 2, 0, 0, 0, .int 60), (15, .invokevirtual 258, 3, 147, 2, 1552, .ref 11), (18, .ifCond .ne 12, 3, 30, 0, 0, .null), (21, .aload_n 0, 1, 0, 0, 0, .null), (22, .bipush 61, 2, 0, 0, 0, .int 61), (24, .invokevirtual 258, 3, 147, 2, 1552, .ref 11), (27, .ifCond .eq 24, 3, 51, 0, 0, .null), (30, .aload_n 0, 1, 0, 0, 0, .null), (31, .iload_n 1, 1, 0, 0, 0, .null), (32, .invokevirtual 255, 3, 169, 2, 1532, .ref 11), (35, .aload_n 0, 1, 0, 0, 0, .null), (36, .iload_n 2, 1, 0, 0, 0, .null), (37, .ifCond .eq 8, 3, 45, 0, 0, .null), (40, .bipush 7, 2, 0, 0, 0, .int 7), (42, .goto 5, 3, 47, 0, 0, .null), (45, .bipush 8, 2, 0, 0, 0, .int 8), (47, .iconst 0, 1, 0, 0, 0, .int 0), (48, .invokevirtual 245, 3, 166, 3, 1548, .ref 11), (51, .return_, 1, 0, 0, 0, .null)]
set_option maxRecDepth 100000 in
theorem oX11_test : fc_code mX11_test lX11_test = true := by decide +kernel
def lX11_sums : List fc_I := [(0, .aload_n 0, 1, 0, 0, 0, .null), (1, .iload_n 1, 1, 0, 0, 0, .null), (2, .invokevirtual 261, 3, 170, 2, 1536, .ref 11), (5, .aload_n 0, 1, 0, 0, 0, .null), (6, .bipush 43, 2, 0, 0, 0, .int 43), (8, .invokevirtual 166, 3, 144, 2, 1544, .ref 11), (11, .ifCond .ne 12, 3, 23, 0, 0, .null), (14, .aload_n 0, 1, 0, 0, 0, .null), (15, .bipush 45, 2, 0, 0, 0, .int 45), (17, .invokevirtual 166, 3, 144, 2, 1544, .ref 11), (20, .ifCond .eq 42, 3, 62, 0, 0, .null), (23, .aload_n 0, 1, 0, 0, 0, .null), (24, .bipush 43, 2, 0, 0, 0, .int 43), (26, .invokevirtual 166, 3, 144, 2, 1544, .ref 11), (29, .istore_n 2, 1, 0, 0, 0, .null), (30, .aload_n 0, 1, 0, 0, 0, .null), (31, .dup, 1, 0, 0, 0, .null), (32, .getfield 160, 3, 11, 7, 1354, .null), (35, .iconst 1, 1, 0, 0, 0, .int 1), (36, .iadd, 1, 0, 0, 0, .null), (37, .putfield 160, 3, 11, 7, 1354, .null), (40, .aload_n 0, 1, 0, 0, 0, .null), (41, .iload_n 1, 1, 0, 0, 0, .null), (42, .invokevirtual 261, 3, 170, 2, 1536, .ref 11), (45, .aload_n 0, 1, 0, 0, 0, .null), (46, .iload_n 2, 1, 0, 0, 0, .null), (47, .ifCond .eq 7, 3, 54, 0, 0, .null), (50, .iconst 4, 1, 0, 0, 0, .int 4), (51, .goto 4, 3, 55, 0, 0, .null), (54, .iconst 5, 1, 0, 0, 0, .int 5), (55, .iconst 0, 1, 0, 0, 0, .int 0), (56, .invokevirtual 245, 3, 166, 3, 1548, .ref 11), (59, .goto (-54), 3, 5, 0, 0, .null), (62, .return_, 1, 0, 0, 0, .null)]
set_option maxRecDepth 100000 in
theorem oX11_sums : fc_code mX11_sums lX11_sums = true := by decide +kernel
def lX11_products : List fc_I := [(0, .aload_n 0, 1, 0, 0, 0, .null), (1, .iload_n 1, 1, 0, 0, 0, .null), (2, .invokevirtual 264, 3, 171, 2, 1540, .ref 11), (5, .aload_n 0, 1, 0, 0, 0, .null), (6, .bipush 42, 2, 0, 0, 0, .int 42), (8, .invokevirtual 258, 3, 147, 2, 1552, .ref 11), (11, .ifCond .eq 18, 3, 29, 0, 0, .null), (14, .aload_n 0, 1, 0, 0, 0, .null), (15, .iload_n 1, 1, 0, 0, 0, .null), (16, .invokevirtual 264, 3, 171, 2, 1540, .ref 11), (19, .aload_n 0, 1, 0, 0, 0, .null), (20, .bipush 6, 2, 0, 0, 0, .int 6), (22, .iconst 0, 1, 0, 0, 0, .int 0), (23, .invokevirtual 245, 3, 166, 3, 1548, .ref 11), (26, .goto (-21), 3, 5, 0, 0, .null), (29, .return_, 1, 0, 0, 0, .null)]
set_option maxRecDepth 100000 in
theorem oX11_products : fc_code mX11_products lX11_products = true := by decide +kernel
def lX11_takePart : List fc_I := [(0, .aload_n 0, 1, 0, 0, 0, .null), (1, .getfield 163, 3, 11, 8, 1355, .null), (4, .ifCond .le 4, 3, 8, 0, 0, .null), (7, .return_, 1, 0, 0, 0, .null), (8, .aload_n 0, 1, 0, 0, 0, .null), (9, .getfield 24, 3, 11, 4, 1351, .null), (12, .aload_n 0, 1, 0, 0, 0, .null), (13, .getfield 160, 3, 11, 7, 1354, .null), (16, .iaload, 1, 0, 0, 0, .null), (17, .iconst 2, 1, 0, 0, 0, .int 2), (18, .if_icmp .ne 7, 3, 25, 0, 0, .null), (21, .iconst 1, 1, 0, 0, 0, .int 1), (22, .goto 4, 3, 26, 0, 0, .null), (25, .iconst 0, 1, 0, 0, 0, .int 0), (26, .istore_n 2, 1, 0, 0, 0, .null), (27, .aload_n 0, 1, 0, 0, 0, .null), (28, .bipush 21, 2, 0, 0, 0, .int 21), (30, .iconst 4, 1, 0, 0, 0, .int 4), (31, .invokevirtual 185, 3, 154, 3, 1481, .ref 11), (34, .istore_n 3, 1, 0, 0, 0, .null), (35, .iload_n 3, 1, 0, 0, 0, .null), (36, .ifCond .ge 33, 3, 69, 0, 0, .null), (39, .iload_n 2, 1, 0, 0, 0, .null), (40, .ifCond .ne 29, 3, 69, 0, 0, .null), (43, .aload_n 0, 1, 0, 0, 0, .null), (44, .bipush 40, 2, 0, 0, 0, .int 40), (46, .invokevirtual 166, 3, 144, 2, 1544, .ref 11), (49, .ifCond .ne 20, 3, 69, 0, 0, .null), (52, .aload_n 0, 1, 0, 0, 0, .null), (53, .bipush 18, 2, 0, 0, 0, .int 18), (55, .invokevirtual 172, 3, 145, 2, 1465, .ref 11), (58, .ifCond .ne 11, 3, 69, 0, 0, .null), (61, .aload_n 0, 1, 0, 0, 0, .null), (62, .iconst 1, 1, 0, 0, 0, .int 1), (63, .invokevirtual 169, 3, 143, 2, 1473, .ref 11), (66, .goto 13, 3, 79, 0, 0, .null), (69, .iload_n 1, 1, 0, 0, 0, .null), (70, .iconst 5, 1, 0, 0, 0, .int 5), (71, .if_icmp .ne 8, 3, 79, 0, 0, .null), (74, .aload_n 0, 1, 0, 0, 0, .null), (75, .iconst 5, 1, 0, 0, 0, .int 5), (76, .invokevirtual 169, 3, 143, 2, 1473, .ref 11), (79, .aload_n 0, 1, 0, 0, 0, .null), (80, .getfield 163, 3, 11, 8, 1355, .null), (83, .ifCond .le 4, 3, 87, 0, 0, .null), (86, .return_, 1, 0, 0, 0, .null), (87, .aload_n 0, 1, 0, 0, 0, .null), (88, .bipush 18, 2, 0, 0, 0, .int 18), (90, .invokevirtual 175, 3, 148, 2, 1508, .ref 11), (93, .ifCond .eq 19, 3, 112, 0, 0, .null), (96, .aload_n 0, 1, 0, 0, 0, .null), (97, .iload_n 1, 1, 0, 0, 0, .null), (98, .iconst 1, 1, 0, 0, 0, .int 1), (99, .iadd, 1, 0, 0, 0, .null), (100, .invokevirtual 264, 3, 171, 2, 1540, .ref 11), (103, .aload_n 0, 1, 0, 0, 0, .null), (104, .iconst 3, 1, 0, 0, 0, .int 3), (105, .iconst 0, 1, 0, 0, 0, .int 0), (106, .invokevirtual 245, 3, 166, 3, 1548, .ref 11), (109, .goto 69, 3, 178, 0, 0, .null), (112, .aload_n 0, 1, 0, 0, 0, .null), (113, .bipush 40, 2, 0, 0, 0, .int 40), (115, .invokevirtual 258, 3, 147, 2, 1552, .ref 11), (118, .ifCond .eq 19, 3, 137, 0, 0, .null), (121, .aload_n 0, 1, 0, 0, 0, .null), (122, .iload_n 1, 1, 0, 0, 0, .null), (123, .iconst 1, 1, 0, 0, 0, .int 1), (124, .iadd, 1, 0, 0, 0, .null), (125, .invokevirtual 242, 3, 167, 2, 1524, .ref 11), (128, .aload_n 0, 1, 0, 0, 0, .null), (129, .bipush 41, 2, 0, 0, 0, .int 41), (131, .invokevirtual 218, 3, 146, 2, 1556, .ref 11), (134, .goto 44, 3, 178, 0, 0, .null), (137, .aload_n 0, 1, 0, 0, 0, .null), (138, .iload_n 2, 1, 0, 0, 0, .null), (139, .ifCond .eq 7, 3, 146, 0, 0, .null), (142, .iconst 1, 1, 0, 0, 0, .int 1), (143, .goto 4, 3, 147, 0, 0, .null), (146, .iconst 2, 1, 0, 0, 0, .int 2), (147, .iload_n 2, 1, 0, 0, 0, .null), (148, .ifCond .eq 16, 3, 164, 0, 0, .null), (151, .aload_n 0, 1, 0, 0, 0, .null), (152, .getfield 30, 3, 11, 6, 1353, .null), (155, .aload_n 0, 1, 0, 0, 0, .null), (156, .getfield 160, 3, 11, 7, 1354, .null), (159, .laload, 1, 0, 0, 0, .null), (160, .l2i, 1, 0, 0, 0, .null), (161, .goto 4, 3, 165, 0, 0, .null), (164, .iload_n 3, 1, 0, 0, 0, .null), (165, .invokevirtual 245, 3, 166, 3, 1548, .ref 11), (168, .aload_n 0, 1, 0, 0, 0, .null), (169, .dup, 1, 0, 0, 0, .null), (170, .getfield 160, 3, 11, 7, 1354, .null), (173, .iconst 1, 1, 0, 0, 0, .int 1), (174, .iadd, 1, 0, 0, 0, .null), (175, .putfield 160, 3, 11, 7, 1354, .null), (178, .return_, 1, 0, 0, 0, .null)]
set_option maxRecDepth 100000 in
theorem oX11_takePart : fc_code mX11_takePart lX11_takePart = true := by decide +kernel
def lX11_worthAt : List fc_I := [(0, .iconst 0, 1, 0, 0, 0, .int 0), (1, .istore_n 2, 1, 0, 0, 0, .null), (2, .iload_n 1, 1, 0, 0, 0, .null), (3, .istore_n 3, 1, 0, 0, 0, .null), (4, .aload_n 0, 1, 0, 0, 0, .null), (5, .getfield 90, 3, 11, 11, 1358, .null), (8, .iload_n 3, 1, 0, 0, 0, .null), (9, .iaload, 1, 0, 0, 0, .null), (10, .ifCond .eq 130, 3, 140, 0, 0, .null), (13, .aload_n 0, 1, 0, 0, 0, .null), (14, .getfield 90, 3, 11, 11, 1358, .null), (17, .iload_n 3, 1, 0, 0, 0, .null), (18, .iaload, 1, 0, 0, 0, .null), (19, .istore 4, 2, 0, 0, 0, .null), (21, .iload 4, 2, 0, 0, 0, .null), (23, .iconst 1, 1, 0, 0, 0, .int 1), (24, .if_icmp .eq 9, 3, 33, 0, 0, .null), (27, .iload 4, 2, 0, 0, 0, .null), (29, .iconst 2, 1, 0, 0, 0, .int 2), (30, .if_icmp .ne 41, 3, 71, 0, 0, .null), (33, .aload_n 0, 1, 0, 0, 0, .null), (34, .getfield 114, 3, 11, 23, 1370, .null), (37, .iload_n 2, 1, 0, 0, 0, .null), (38, .iload 4, 2, 0, 0, 0, .null), (40, .iconst 1, 1, 0, 0, 0, .int 1), (41, .if_icmp .ne 12, 3, 53, 0, 0, .null), (44, .aload_n 0, 1, 0, 0, 0, .null), (45, .getfield 93, 3, 11, 12, 1359, .null), (48, .iload_n 3, 1, 0, 0, 0, .null), (49, .iaload, 1, 0, 0, 0, .null), (50, .goto 14, 3, 64, 0, 0, .null), (53, .aload_n 0, 1, 0, 0, 0, .null), (54, .getfield 111, 3, 11, 22, 1369, .null), (57, .aload_n 0, 1, 0, 0, 0, .null), (58, .getfield 93, 3, 11, 12, 1359, .null), (61, .iload_n 3, 1, 0, 0, 0, .null), (62, .iaload, 1, 0, 0, 0, .null), (63, .iaload, 1, 0, 0, 0, .null), (64, .iastore, 1, 0, 0, 0, .null), (65, .iinc 2 1, 3, 0, 0, 0, .null), (68, .goto 66, 3, 134, 0, 0, .null), (71, .iload 4, 2, 0, 0, 0, .null), (73, .iconst 3, 1, 0, 0, 0, .int 3), (74, .if_icmp .ne 30, 3, 104, 0, 0, .null), (77, .aload_n 0, 1, 0, 0, 0, .null), (78, .getfield 114, 3, 11, 23, 1370, .null), (81, .iload_n 2, 1, 0, 0, 0, .null), (82, .iconst 1, 1, 0, 0, 0, .int 1), (83, .isub, 1, 0, 0, 0, .null), (84, .aload_n 0, 1, 0, 0, 0, .null), (85, .getfield 114, 3, 11, 23, 1370, .null), (88, .iload_n 2, 1, 0, 0, 0, .null), (89, .iconst 1, 1, 0, 0, 0, .int 1), (90, .isub, 1, 0, 0, 0, .null), (91, .iaload, 1, 0, 0, 0, .null), (92, .ifCond .ne 7, 3, 99, 0, 0, .null), (95, .iconst 1, 1, 0, 0, 0, .int 1), (96, .goto 4, 3, 100, 0, 0, .null), (99, .iconst 0, 1, 0, 0, 0, .int 0), (100, .iastore, 1, 0, 0, 0, .null), (101, .goto 33, 3, 134, 0, 0, .null), (104, .iinc 2 (-1), 3, 0, 0, 0, .null), (107, .aload_n 0, 1, 0, 0, 0, .null), (108, .getfield 114, 3, 11, 23, 1370, .null), (111, .iload_n 2, 1, 0, 0, 0, .null), (112, .iconst 1, 1, 0, 0, 0, .int 1), (113, .isub, 1, 0, 0, 0, .null), (114, .iload 4, 2, 0, 0, 0, .null), (116, .aload_n 0, 1, 0, 0, 0, .null), (117, .getfield 114, 3, 11, 23, 1370, .null), (120, .iload_n 2, 1, 0, 0, 0, .null), (121, .iconst 1, 1, 0, 0, 0, .int 1), (122, .isub, 1, 0, 0, 0, .null), (123, .iaload, 1, 0, 0, 0, .null), (124, .aload_n 0, 1, 0, 0, 0, .null), (125, .getfield 114, 3, 11, 23, 1370, .null), (128, .iload_n 2, 1, 0, 0, 0, .null), (129, .iaload, 1, 0, 0, 0, .null), (130, .invokestatic 267, 3, 173, 3, 1667, .retAddr 0), (133, .iastore, 1, 0, 0, 0, .null), (134, .iinc 3 1, 3, 0, 0, 0, .null), (137, .goto (-133), 3, 4, 0, 0, .null), (140, .aload_n 0, 1, 0, 0, 0, .null), (141, .getfield 114, 3, 11, 23, 1370, .null), (144, .iconst 0, 1, 0, 0, 0, .int 0), (145, .iaload, 1, 0, 0, 0, .null), (146, .ireturn, 1, 0, 0, 0, .null)]
set_option maxRecDepth 100000 in
theorem oX11_worthAt : fc_code mX11_worthAt lX11_worthAt = true := by decide +kernel
def lX11_both : List fc_I := [(0, .iload_n 0, 1, 0, 0, 0, .null), (1, .tableswitch 87 4 9 #[39, 43, 47, 51, 62, 73], 39, 0, 0, 0, .null), (40, .iload_n 1, 1, 0, 0, 0, .null), (41, .iload_n 2, 1, 0, 0, 0, .null), (42, .iadd, 1, 0, 0, 0, .null), (43, .ireturn, 1, 0, 0, 0, .null), (44, .iload_n 1, 1, 0, 0, 0, .null), (45, .iload_n 2, 1, 0, 0, 0, .null), (46, .isub, 1, 0, 0, 0, .null), (47, .ireturn, 1, 0, 0, 0, .null), (48, .iload_n 1, 1, 0, 0, 0, .null), (49, .iload_n 2, 1, 0, 0, 0, .null), (50, .imul, 1, 0, 0, 0, .null), (51, .ireturn, 1, 0, 0, 0, .null), (52, .iload_n 1, 1, 0, 0, 0, .null), (53, .iload_n 2, 1, 0, 0, 0, .null), (54, .if_icmp .ge 7, 3, 61, 0, 0, .null), (57, .iconst 1, 1, 0, 0, 0, .int 1), (58, .goto 4, 3, 62, 0, 0, .null), (61, .iconst 0, 1, 0, 0, 0, .int 0), (62, .ireturn, 1, 0, 0, 0, .null), (63, .iload_n 1, 1, 0, 0, 0, .null), (64, .iload_n 2, 1, 0, 0, 0, .null), (65, .if_icmp .ne 7, 3, 72, 0, 0, .null), (68, .iconst 1, 1, 0, 0, 0, .int 1), (69, .goto 4, 3, 73, 0, 0, .null), (72, .iconst 0, 1, 0, 0, 0, .int 0), (73, .ireturn, 1, 0, 0, 0, .null), (74, .iload_n 1, 1, 0, 0, 0, .null), (75, .ifCond .eq 11, 3, 86, 0, 0, .null), (78, .iload_n 2, 1, 0, 0, 0, .null), (79, .ifCond .eq 7, 3, 86, 0, 0, .null), (82, .iconst 1, 1, 0, 0, 0, .int 1), (83, .goto 4, 3, 87, 0, 0, .null), (86, .iconst 0, 1, 0, 0, 0, .int 0), (87, .ireturn, 1, 0, 0, 0, .null), (88, .iload_n 1, 1, 0, 0, 0, .null), (89, .ifCond .ne 7, 3, 96, 0, 0, .null), (92, .iload_n 2, 1, 0, 0, 0, .null), (93, .ifCond .eq 7, 3, 100, 0, 0, .null), (96, .iconst 1, 1, 0, 0, 0, .int 1), (97, .goto 4, 3, 101, 0, 0, .null), (100, .iconst 0, 1, 0, 0, 0, .int 0), (101, .ireturn, 1, 0, 0, 0, .null)]
set_option maxRecDepth 100000 in
theorem oX11_both : fc_code mX11_both lX11_both = true := by decide +kernel
def lX11_copies : List fc_I := [(0, .iconst 0, 1, 0, 0, 0, .int 0), (1, .istore 4, 2, 0, 0, 0, .null), (3, .iload 4, 2, 0, 0, 0, .null), (5, .iload_n 3, 1, 0, 0, 0, .null), (6, .if_icmp .ge 27, 3, 33, 0, 0, .null), (9, .aload_n 0, 1, 0, 0, 0, .null), (10, .getfield 117, 3, 11, 24, 1371, .null), (13, .iload_n 2, 1, 0, 0, 0, .null), (14, .iload 4, 2, 0, 0, 0, .null), (16, .iadd, 1, 0, 0, 0, .null), (17, .aload_n 0, 1, 0, 0, 0, .null), (18, .getfield 117, 3, 11, 24, 1371, .null), (21, .iload_n 1, 1, 0, 0, 0, .null), (22, .iload 4, 2, 0, 0, 0, .null), (24, .iadd, 1, 0, 0, 0, .null), (25, .iaload, 1, 0, 0, 0, .null), (26, .iastore, 1, 0, 0, 0, .null), (27, .iinc 4 1, 3, 0, 0, 0, .null), (30, .goto (-27), 3, 3, 0, 0, .null), (33, .return_, 1, 0, 0, 0, .null)]
set_option maxRecDepth 100000 in
theorem oX11_copies : fc_code mX11_copies lX11_copies = true := by decide +kernel
def lX11_starts : List fc_I := [(0, .iconst 0, 1, 0, 0, 0, .int 0), (1, .istore_n 2, 1, 0, 0, 0, .null), (2, .iload_n 2, 1, 0, 0, 0, .null), (3, .bipush 39, 2, 0, 0, 0, .int 39), (5, .if_icmp .ge 18, 3, 23, 0, 0, .null), (8, .aload_n 0, 1, 0, 0, 0, .null), (9, .getfield 117, 3, 11, 24, 1371, .null), (12, .iload_n 1, 1, 0, 0, 0, .null), (13, .iload_n 2, 1, 0, 0, 0, .null), (14, .iadd, 1, 0, 0, 0, .null), (15, .iconst 0, 1, 0, 0, 0, .int 0), (16, .iastore, 1, 0, 0, 0, .null), (17, .iinc 2 1, 3, 0, 0, 0, .null), (20, .goto (-18), 3, 2, 0, 0, .null), (23, .iconst 0, 1, 0, 0, 0, .int 0), (24, .istore_n 2, 1, 0, 0, 0, .null), (25, .iload_n 2, 1, 0, 0, 0, .null), (26, .aload_n 0, 1, 0, 0, 0, .null), (27, .invokevirtual 270, 3, 179, 1, 1331, .ref 11), (30, .if_icmp .ge 39, 3, 69, 0, 0, .null), (33, .aload_n 0, 1, 0, 0, 0, .null), (34, .getfield 117, 3, 11, 24, 1371, .null), (37, .iload_n 1, 1, 0, 0, 0, .null), (38, .iconst 2, 1, 0, 0, 0, .int 2), (39, .iadd, 1, 0, 0, 0, .null), (40, .iload_n 2, 1, 0, 0, 0, .null), (41, .iadd, 1, 0, 0, 0, .null), (42, .aload_n 0, 1, 0, 0, 0, .null), (43, .iload_n 2, 1, 0, 0, 0, .null), (44, .iconst 1, 1, 0, 0, 0, .int 1), (45, .invokevirtual 274, 3, 183, 3, 1335, .ref 11), (48, .iastore, 1, 0, 0, 0, .null), (49, .aload_n 0, 1, 0, 0, 0, .null), (50, .getfield 117, 3, 11, 24, 1371, .null), (53, .iload_n 1, 1, 0, 0, 0, .null), (54, .bipush 34, 2, 0, 0, 0, .int 34), (56, .iadd, 1, 0, 0, 0, .null), (57, .iload_n 2, 1, 0, 0, 0, .null), (58, .iadd, 1, 0, 0, 0, .null), (59, .iconst 1, 1, 0, 0, 0, .int 1), (60, .iload_n 2, 1, 0, 0, 0, .null), (61, .ishl, 1, 0, 0, 0, .null), (62, .iastore, 1, 0, 0, 0, .null), (63, .iinc 2 1, 3, 0, 0, 0, .null), (66, .goto (-41), 3, 25, 0, 0, .null), (69, .iconst 0, 1, 0, 0, 0, .int 0), (70, .istore_n 2, 1, 0, 0, 0, .null), (71, .iload_n 2, 1, 0, 0, 0, .null), (72, .aload_n 0, 1, 0, 0, 0, .null), (73, .invokevirtual 277, 3, 180, 1, 1339, .ref 11), (76, .if_icmp .ge 43, 3, 119, 0, 0, .null), (79, .aload_n 0, 1, 0, 0, 0, .null), (80, .getfield 117, 3, 11, 24, 1371, .null), (83, .iload_n 1, 1, 0, 0, 0, .null), (84, .bipush 12, 2, 0, 0, 0, .int 12), (86, .iadd, 1, 0, 0, 0, .null), (87, .iload_n 2, 1, 0, 0, 0, .null), (88, .iadd, 1, 0, 0, 0, .null), (89, .aload_n 0, 1, 0, 0, 0, .null), (90, .iload_n 2, 1, 0, 0, 0, .null), (91, .iconst 1, 1, 0, 0, 0, .int 1), (92, .invokevirtual 280, 3, 184, 3, 1343, .ref 11), (95, .iastore, 1, 0, 0, 0, .null), (96, .aload_n 0, 1, 0, 0, 0, .null), (97, .getfield 117, 3, 11, 24, 1371, .null), (100, .iload_n 1, 1, 0, 0, 0, .null), (101, .bipush 18, 2, 0, 0, 0, .int 18), (103, .iadd, 1, 0, 0, 0, .null), (104, .iload_n 2, 1, 0, 0, 0, .null), (105, .iadd, 1, 0, 0, 0, .null), (106, .aload_n 0, 1, 0, 0, 0, .null), (107, .iload_n 2, 1, 0, 0, 0, .null), (108, .iconst 1, 1, 0, 0, 0, .int 1), (109, .invokevirtual 280, 3, 184, 3, 1343, .ref 11), (112, .iastore, 1, 0, 0, 0, .null), (113, .iinc 2 1, 3, 0, 0, 0, .null), (116, .goto (-45), 3, 71, 0, 0, .null), (119, .return_, 1, 0, 0, 0, .null)]
set_option maxRecDepth 100000 in
theorem oX11_starts : fc_code mX11_starts lX11_starts = true := by decide +kernel
def lX11_begins : List fc_I := [(0, .aload_n 0, 1, 0, 0, 0, .null), (1, .iconst 0, 1, 0, 0, 0, .int 0), (2, .invokevirtual 283, 3, 175, 2, 1327, .ref 11), (5, .aload_n 0, 1, 0, 0, 0, .null), (6, .getfield 117, 3, 11, 24, 1371, .null), (9, .bipush 39, 2, 0, 0, 0, .int 39), (11, .iconst 0, 1, 0, 0, 0, .int 0), (12, .iastore, 1, 0, 0, 0, .null), (13, .aload_n 0, 1, 0, 0, 0, .null), (14, .getfield 108, 3, 11, 21, 1368, .null), (17, .iconst 0, 1, 0, 0, 0, .int 0), (18, .iconst 0, 1, 0, 0, 0, .int 0), (19, .iastore, 1, 0, 0, 0, .null), (20, .aload_n 0, 1, 0, 0, 0, .null), (21, .iconst 0, 1, 0, 0, 0, .int 0), (22, .putfield 286, 3, 11, 25, 1372, .null), (25, .iconst 0, 1, 0, 0, 0, .int 0), (26, .istore_n 1, 1, 0, 0, 0, .null), (27, .iload_n 1, 1, 0, 0, 0, .null), (28, .iconst 4, 1, 0, 0, 0, .int 4), (29, .if_icmp .ge 16, 3, 45, 0, 0, .null), (32, .aload_n 0, 1, 0, 0, 0, .null), (33, .getfield 120, 3, 11, 26, 1373, .null), (36, .iload_n 1, 1, 0, 0, 0, .null), (37, .iconst 0, 1, 0, 0, 0, .int 0), (38, .bastore, 1, 0, 0, 0, .null), (39, .iinc 1 1, 3, 0, 0, 0, .null), (42, .goto (-15), 3, 27, 0, 0, .null), (45, .return_, 1, 0, 0, 0, .null)]
set_option maxRecDepth 100000 in
theorem oX11_begins : fc_code mX11_begins lX11_begins = true := by decide +kernel
def lX11_keeps : List fc_I := [(0, .aload_n 0, 1, 0, 0, 0, .null), (1, .getfield 286, 3, 11, 25, 1372, .null), (4, .bipush 16, 2, 0, 0, 0, .int 16), (6, .if_icmp .ne 47, 3, 53, 0, 0, .null), (9, .iconst 1, 1, 0, 0, 0, .int 1), (10, .istore_n 1, 1, 0, 0, 0, .null), (11, .iload_n 1, 1, 0, 0, 0, .null), (12, .bipush 16, 2, 0, 0, 0, .int 16), (14, .if_icmp .ge 29, 3, 43, 0, 0, .null), (17, .aload_n 0, 1, 0, 0, 0, .null), (18, .bipush 64, 2, 0, 0, 0, .int 64), (20, .iconst 5, 1, 0, 0, 0, .int 5), (21, .iload_n 1, 1, 0, 0, 0, .null), (22, .iadd, 1, 0, 0, 0, .null), (23, .imul, 1, 0, 0, 0, .null), (24, .bipush 64, 2, 0, 0, 0, .int 64), (26, .iconst 5, 1, 0, 0, 0, .int 5), (27, .iload_n 1, 1, 0, 0, 0, .null), (28, .iadd, 1, 0, 0, 0, .null), (29, .iconst 1, 1, 0, 0, 0, .int 1), (30, .isub, 1, 0, 0, 0, .null), (31, .imul, 1, 0, 0, 0, .null), (32, .bipush 39, 2, 0, 0, 0, .int 39), (34, .invokevirtual 289, 3, 174, 4, 1632, .ref 11), (37, .iinc 1 1, 3, 0, 0, 0, .null), (40, .goto (-29), 3, 11, 0, 0, .null), (43, .aload_n 0, 1, 0, 0, 0, .null), (44, .dup, 1, 0, 0, 0, .null), (45, .getfield 286, 3, 11, 25, 1372, .null), (48, .iconst 1, 1, 0, 0, 0, .int 1), (49, .isub, 1, 0, 0, 0, .null), (50, .putfield 286, 3, 11, 25, 1372, .null), (53, .aload_n 0, 1, 0, 0, 0, .null), (54, .iconst 0, 1, 0, 0, 0, .int 0), (55, .bipush 64, 2, 0, 0, 0, .int 64), (57, .iconst 5, 1, 0, 0, 0, .int 5), (58, .aload_n 0, 1, 0, 0, 0, .null), (59, .getfield 286, 3, 11, 25, 1372, .null), (62, .iadd, 1, 0, 0, 0, .null), (63, .imul, 1, 0, 0, 0, .null), (64, .bipush 39, 2, 0, 0, 0, .int 39), (66, .invokevirtual 289, 3, 174, 4, 1632, .ref 11), (69, .aload_n 0, 1, 0, 0, 0, .null), (70, .dup, 1, 0, 0, 0, .null), (71, .getfield 286, 3, 11, 25, 1372, .null), (74, .iconst 1, 1, 0, 0, 0, .int 1), (75, .iadd, 1, 0, 0, 0, .null), (76, .putfield 286, 3, 11, 25, 1372, .null), (79, .return_, 1, 0, 0, 0, .null)]
set_option maxRecDepth 100000 in
theorem oX11_keeps : fc_code mX11_keeps lX11_keeps = true := by decide +kernel
def lX11_places : List fc_I := [(0, .aload_n 0, 1, 0, 0, 0, .null), (1, .getfield 87, 3, 11, 10, 1357, .null), (4, .iconst 0, 1, 0, 0, 0, .int 0), (5, .iaload, 1, 0, 0, 0, .null), (6, .ireturn, 1, 0, 0, 0, .null)]
set_option maxRecDepth 100000 in
theorem oX11_places : fc_code mX11_places lX11_places = true := by decide +kernel
def lX11_persons : List fc_I := [(0, .aload_n 0, 1, 0, 0, 0, .null), (1, .getfield 87, 3, 11, 10, 1357, .null), (4, .iconst 2, 1, 0, 0, 0, .int 2), (5, .iaload, 1, 0, 0, 0, .null), (6, .ireturn, 1, 0, 0, 0, .null)]
set_option maxRecDepth 100000 in
theorem oX11_persons : fc_code mX11_persons lX11_persons = true := by decide +kernel
def lX11_things : List fc_I := [(0, .aload_n 0, 1, 0, 0, 0, .null), (1, .getfield 87, 3, 11, 10, 1357, .null), (4, .iconst 3, 1, 0, 0, 0, .int 3), (5, .iaload, 1, 0, 0, 0, .null), (6, .ireturn, 1, 0, 0, 0, .null)]
set_option maxRecDepth 100000 in
theorem oX11_things : fc_code mX11_things lX11_things = true := by decide +kernel
def lX11_smokeAt : List fc_I := [(0, .aload_n 0, 1, 0, 0, 0, .null), (1, .getfield 87, 3, 11, 10, 1357, .null), (4, .iconst 4, 1, 0, 0, 0, .int 4), (5, .iaload, 1, 0, 0, 0, .null), (6, .ireturn, 1, 0, 0, 0, .null)]
set_option maxRecDepth 100000 in
theorem oX11_smokeAt : fc_code mX11_smokeAt lX11_smokeAt = true := by decide +kernel
def lX11_pathsFrom : List fc_I := [(0, .aload_n 0, 1, 0, 0, 0, .null), (1, .getfield 87, 3, 11, 10, 1357, .null), (4, .bipush 6, 2, 0, 0, 0, .int 6), (6, .iload_n 1, 1, 0, 0, 0, .null), (7, .iadd, 1, 0, 0, 0, .null), (8, .iaload, 1, 0, 0, 0, .null), (9, .ireturn, 1, 0, 0, 0, .null)]
set_option maxRecDepth 100000 in
theorem oX11_pathsFrom : fc_code mX11_pathsFrom lX11_pathsFrom = true := by decide +kernel
def lX11_personOf : List fc_I := [(0, .aload_n 0, 1, 0, 0, 0, .null), (1, .getfield 87, 3, 11, 10, 1357, .null), (4, .bipush 13, 2, 0, 0, 0, .int 13), (6, .iconst 3, 1, 0, 0, 0, .int 3), (7, .iload_n 1, 1, 0, 0, 0, .null), (8, .imul, 1, 0, 0, 0, .null), (9, .iadd, 1, 0, 0, 0, .null), (10, .iload_n 2, 1, 0, 0, 0, .null), (11, .iadd, 1, 0, 0, 0, .null), (12, .iaload, 1, 0, 0, 0, .null), (13, .ireturn, 1, 0, 0, 0, .null)]
set_option maxRecDepth 100000 in
theorem oX11_personOf : fc_code mX11_personOf lX11_personOf = true := by decide +kernel
def lX11_thingOf : List fc_I := [(0, .aload_n 0, 1, 0, 0, 0, .null), (1, .getfield 87, 3, 11, 10, 1357, .null), (4, .bipush 28, 2, 0, 0, 0, .int 28), (6, .iconst 2, 1, 0, 0, 0, .int 2), (7, .iload_n 1, 1, 0, 0, 0, .null), (8, .imul, 1, 0, 0, 0, .null), (9, .iadd, 1, 0, 0, 0, .null), (10, .iload_n 2, 1, 0, 0, 0, .null), (11, .iadd, 1, 0, 0, 0, .null), (12, .iaload, 1, 0, 0, 0, .null), (13, .ireturn, 1, 0, 0, 0, .null)]
set_option maxRecDepth 100000 in
theorem oX11_thingOf : fc_code mX11_thingOf lX11_thingOf = true := by decide +kernel
def lX11_isPlace : List fc_I := [(0, .iload_n 1, 1, 0, 0, 0, .null), (1, .ifCond .lt 15, 3, 16, 0, 0, .null), (4, .iload_n 1, 1, 0, 0, 0, .null), (5, .aload_n 0, 1, 0, 0, 0, .null), (6, .invokevirtual 292, 3, 178, 1, 1576, .ref 11), (9, .if_icmp .ge 7, 3, 16, 0, 0, .null), (12, .iconst 1, 1, 0, 0, 0, .int 1), (13, .goto 4, 3, 17, 0, 0, .null), (16, .iconst 0, 1, 0, 0, 0, .int 0), (17, .ireturn, 1, 0, 0, 0, .null)]
set_option maxRecDepth 100000 in
theorem oX11_isPlace : fc_code mX11_isPlace lX11_isPlace = true := by decide +kernel
def lX11_isPerson : List fc_I := [(0, .iload_n 1, 1, 0, 0, 0, .null), (1, .ifCond .lt 15, 3, 16, 0, 0, .null), (4, .iload_n 1, 1, 0, 0, 0, .null), (5, .aload_n 0, 1, 0, 0, 0, .null), (6, .invokevirtual 270, 3, 179, 1, 1331, .ref 11), (9, .if_icmp .ge 7, 3, 16, 0, 0, .null), (12, .iconst 1, 1, 0, 0, 0, .int 1), (13, .goto 4, 3, 17, 0, 0, .null), (16, .iconst 0, 1, 0, 0, 0, .int 0), (17, .ireturn, 1, 0, 0, 0, .null)]
set_option maxRecDepth 100000 in
theorem oX11_isPerson : fc_code mX11_isPerson lX11_isPerson = true := by decide +kernel
def lX11_isThing : List fc_I := [(0, .iload_n 1, 1, 0, 0, 0, .null), (1, .ifCond .lt 15, 3, 16, 0, 0, .null), (4, .iload_n 1, 1, 0, 0, 0, .null), (5, .aload_n 0, 1, 0, 0, 0, .null), (6, .invokevirtual 277, 3, 180, 1, 1339, .ref 11), (9, .if_icmp .ge 7, 3, 16, 0, 0, .null), (12, .iconst 1, 1, 0, 0, 0, .int 1), (13, .goto 4, 3, 17, 0, 0, .null), (16, .iconst 0, 1, 0, 0, 0, .int 0), (17, .ireturn, 1, 0, 0, 0, .null)]
set_option maxRecDepth 100000 in
theorem oX11_isThing : fc_code mX11_isThing lX11_isThing = true := by decide +kernel
def lX11_bits : List fc_I := [(0, .iconst 0, 1, 0, 0, 0, .int 0), (1, .istore_n 1, 1, 0, 0, 0, .null), (2, .iconst 0, 1, 0, 0, 0, .int 0), (3, .istore_n 2, 1, 0, 0, 0, .null), (4, .iload_n 2, 1, 0, 0, 0, .null), (5, .bipush 30, 2, 0, 0, 0, .int 30), (7, .if_icmp .ge 17, 3, 24, 0, 0, .null), (10, .iload_n 1, 1, 0, 0, 0, .null), (11, .iload_n 0, 1, 0, 0, 0, .null), (12, .iload_n 2, 1, 0, 0, 0, .null), (13, .ishr, 1, 0, 0, 0, .null), (14, .iconst 1, 1, 0, 0, 0, .int 1), (15, .iand, 1, 0, 0, 0, .null), (16, .iadd, 1, 0, 0, 0, .null), (17, .istore_n 1, 1, 0, 0, 0, .null), (18, .iinc 2 1, 3, 0, 0, 0, .null), (21, .goto (-17), 3, 4, 0, 0, .null), (24, .iload_n 1, 1, 0, 0, 0, .null), (25, .ireturn, 1, 0, 0, 0, .null)]
set_option maxRecDepth 100000 in
theorem oX11_bits : fc_code mX11_bits lX11_bits = true := by decide +kernel
def lX11_awakeAt : List fc_I := [(0, .iconst 0, 1, 0, 0, 0, .int 0), (1, .istore_n 2, 1, 0, 0, 0, .null), (2, .iconst 0, 1, 0, 0, 0, .int 0), (3, .istore_n 3, 1, 0, 0, 0, .null), (4, .iload_n 3, 1, 0, 0, 0, .null), (5, .aload_n 0, 1, 0, 0, 0, .null), (6, .invokevirtual 270, 3, 179, 1, 1331, .ref 11), (9, .if_icmp .ge 29, 3, 38, 0, 0, .null), (12, .iload_n 2, 1, 0, 0, 0, .null), (13, .aload_n 0, 1, 0, 0, 0, .null), (14, .iload_n 3, 1, 0, 0, 0, .null), (15, .iconst 2, 1, 0, 0, 0, .int 2), (16, .invokevirtual 274, 3, 183, 3, 1335, .ref 11), (19, .iload_n 1, 1, 0, 0, 0, .null), (20, .if_icmp .gt 9, 3, 29, 0, 0, .null), (23, .iconst 1, 1, 0, 0, 0, .int 1), (24, .iload_n 3, 1, 0, 0, 0, .null), (25, .ishl, 1, 0, 0, 0, .null), (26, .goto 4, 3, 30, 0, 0, .null), (29, .iconst 0, 1, 0, 0, 0, .int 0), (30, .ior, 1, 0, 0, 0, .null), (31, .istore_n 2, 1, 0, 0, 0, .null), (32, .iinc 3 1, 3, 0, 0, 0, .null), (35, .goto (-31), 3, 4, 0, 0, .null), (38, .iload_n 2, 1, 0, 0, 0, .null), (39, .ireturn, 1, 0, 0, 0, .null)]
set_option maxRecDepth 100000 in
theorem oX11_awakeAt : fc_code mX11_awakeAt lX11_awakeAt = true := by decide +kernel
def lX11_isAwake : List fc_I := [(0, .aload_n 0, 1, 0, 0, 0, .null), (1, .iload_n 2, 1, 0, 0, 0, .null), (2, .iconst 2, 1, 0, 0, 0, .int 2), (3, .invokevirtual 274, 3, 183, 3, 1335, .ref 11), (6, .aload_n 0, 1, 0, 0, 0, .null), (7, .getfield 117, 3, 11, 24, 1371, .null), (10, .iload_n 1, 1, 0, 0, 0, .null), (11, .iconst 1, 1, 0, 0, 0, .int 1), (12, .iadd, 1, 0, 0, 0, .null), (13, .iaload, 1, 0, 0, 0, .null), (14, .if_icmp .gt 7, 3, 21, 0, 0, .null), (17, .iconst 1, 1, 0, 0, 0, .int 1), (18, .goto 4, 3, 22, 0, 0, .null), (21, .iconst 0, 1, 0, 0, 0, .int 0), (22, .ireturn, 1, 0, 0, 0, .null)]
set_option maxRecDepth 100000 in
theorem oX11_isAwake : fc_code mX11_isAwake lX11_isAwake = true := by decide +kernel
def lX11_isReady : List fc_I := [(0, .aload_n 0, 1, 0, 0, 0, .null), (1, .iload_n 1, 1, 0, 0, 0, .null), (2, .iload_n 2, 1, 0, 0, 0, .null), (3, .invokevirtual 295, 3, 190, 3, 1600, .ref 11), (6, .ifCond .eq 21, 3, 27, 0, 0, .null), (9, .aload_n 0, 1, 0, 0, 0, .null), (10, .getfield 117, 3, 11, 24, 1371, .null), (13, .iload_n 1, 1, 0, 0, 0, .null), (14, .bipush 7, 2, 0, 0, 0, .int 7), (16, .iadd, 1, 0, 0, 0, .null), (17, .iload_n 2, 1, 0, 0, 0, .null), (18, .iadd, 1, 0, 0, 0, .null), (19, .iaload, 1, 0, 0, 0, .null), (20, .ifCond .ne 7, 3, 27, 0, 0, .null), (23, .iconst 1, 1, 0, 0, 0, .int 1), (24, .goto 4, 3, 28, 0, 0, .null), (27, .iconst 0, 1, 0, 0, 0, .int 0), (28, .ireturn, 1, 0, 0, 0, .null)]
set_option maxRecDepth 100000 in
theorem oX11_isReady : fc_code mX11_isReady lX11_isReady = true := by decide +kernel
def lX11_whoIn : List fc_I := [(0, .iconst 0, 1, 0, 0, 0, .int 0), (1, .istore_n 3, 1, 0, 0, 0, .null), (2, .iconst 0, 1, 0, 0, 0, .int 0), (3, .istore 4, 2, 0, 0, 0, .null), (5, .iload 4, 2, 0, 0, 0, .null), (7, .aload_n 0, 1, 0, 0, 0, .null), (8, .invokevirtual 270, 3, 179, 1, 1331, .ref 11), (11, .if_icmp .ge 35, 3, 46, 0, 0, .null), (14, .iload_n 3, 1, 0, 0, 0, .null), (15, .aload_n 0, 1, 0, 0, 0, .null), (16, .getfield 117, 3, 11, 24, 1371, .null), (19, .iload_n 1, 1, 0, 0, 0, .null), (20, .iconst 2, 1, 0, 0, 0, .int 2), (21, .iadd, 1, 0, 0, 0, .null), (22, .iload 4, 2, 0, 0, 0, .null), (24, .iadd, 1, 0, 0, 0, .null), (25, .iaload, 1, 0, 0, 0, .null), (26, .iload_n 2, 1, 0, 0, 0, .null), (27, .if_icmp .ne 10, 3, 37, 0, 0, .null), (30, .iconst 1, 1, 0, 0, 0, .int 1), (31, .iload 4, 2, 0, 0, 0, .null), (33, .ishl, 1, 0, 0, 0, .null), (34, .goto 4, 3, 38, 0, 0, .null), (37, .iconst 0, 1, 0, 0, 0, .int 0), (38, .ior, 1, 0, 0, 0, .null), (39, .istore_n 3, 1, 0, 0, 0, .null), (40, .iinc 4 1, 3, 0, 0, 0, .null), (43, .goto (-38), 3, 5, 0, 0, .null), (46, .iload_n 3, 1, 0, 0, 0, .null), (47, .ireturn, 1, 0, 0, 0, .null)]
set_option maxRecDepth 100000 in
theorem oX11_whoIn : fc_code mX11_whoIn lX11_whoIn = true := by decide +kernel
def lX11_benches : List fc_I := [(0, .iconst 0, 1, 0, 0, 0, .int 0), (1, .istore_n 1, 1, 0, 0, 0, .null), (2, .iconst 0, 1, 0, 0, 0, .int 0), (3, .istore_n 2, 1, 0, 0, 0, .null), (4, .iload_n 2, 1, 0, 0, 0, .null), (5, .aload_n 0, 1, 0, 0, 0, .null), (6, .invokevirtual 270, 3, 179, 1, 1331, .ref 11), (9, .if_icmp .ge 29, 3, 38, 0, 0, .null), (12, .iload_n 1, 1, 0, 0, 0, .null), (13, .aload_n 0, 1, 0, 0, 0, .null), (14, .iload_n 2, 1, 0, 0, 0, .null), (15, .iconst 0, 1, 0, 0, 0, .int 0), (16, .invokevirtual 274, 3, 183, 3, 1335, .ref 11), (19, .iconst 1, 1, 0, 0, 0, .int 1), (20, .if_icmp .ne 9, 3, 29, 0, 0, .null), (23, .iconst 1, 1, 0, 0, 0, .int 1), (24, .iload_n 2, 1, 0, 0, 0, .null), (25, .ishl, 1, 0, 0, 0, .null), (26, .goto 4, 3, 30, 0, 0, .null), (29, .iconst 0, 1, 0, 0, 0, .int 0), (30, .ior, 1, 0, 0, 0, .null), (31, .istore_n 1, 1, 0, 0, 0, .null), (32, .iinc 2 1, 3, 0, 0, 0, .null), (35, .goto (-31), 3, 4, 0, 0, .null), (38, .iload_n 1, 1, 0, 0, 0, .null), (39, .ireturn, 1, 0, 0, 0, .null)]
set_option maxRecDepth 100000 in
theorem oX11_benches : fc_code mX11_benches lX11_benches = true := by decide +kernel
def lX11_doesBind : List fc_I := [(0, .aload_n 0, 1, 0, 0, 0, .null), (1, .iload_n 1, 1, 0, 0, 0, .null), (2, .aload_n 0, 1, 0, 0, 0, .null), (3, .getfield 117, 3, 11, 24, 1371, .null), (6, .iload_n 1, 1, 0, 0, 0, .null), (7, .iconst 2, 1, 0, 0, 0, .int 2), (8, .iadd, 1, 0, 0, 0, .null), (9, .iload_n 2, 1, 0, 0, 0, .null), (10, .iadd, 1, 0, 0, 0, .null), (11, .iaload, 1, 0, 0, 0, .null), (12, .invokevirtual 299, 3, 192, 3, 1584, .ref 11), (15, .aload_n 0, 1, 0, 0, 0, .null), (16, .iload 5, 2, 0, 0, 0, .null), (18, .invokevirtual 302, 3, 189, 2, 1588, .ref 11), (21, .iand, 1, 0, 0, 0, .null), (22, .iconst 1, 1, 0, 0, 0, .int 1), (23, .iload_n 2, 1, 0, 0, 0, .null), (24, .ishl, 1, 0, 0, 0, .null), (25, .iconst (-1), 1, 0, 0, 0, .int (-1)), (26, .ixor, 1, 0, 0, 0, .null), (27, .iand, 1, 0, 0, 0, .null), (28, .iconst 1, 1, 0, 0, 0, .int 1), (29, .iload_n 3, 1, 0, 0, 0, .null), (30, .ishl, 1, 0, 0, 0, .null), (31, .iconst (-1), 1, 0, 0, 0, .int (-1)), (32, .ixor, 1, 0, 0, 0, .null), (33, .iand, 1, 0, 0, 0, .null), (34, .istore 6, 2, 0, 0, 0, .null), (36, .aload_n 0, 1, 0, 0, 0, .null), (37, .getfield 111, 3, 11, 22, 1369, .null), (40, .iconst 0, 1, 0, 0, 0, .int 0), (41, .iload 5, 2, 0, 0, 0, .null), (43, .iastore, 1, 0, 0, 0, .null), (44, .aload_n 0, 1, 0, 0, 0, .null), (45, .getfield 111, 3, 11, 22, 1369, .null), (48, .iconst 1, 1, 0, 0, 0, .int 1), (49, .iload 4, 2, 0, 0, 0, .null), (51, .iastore, 1, 0, 0, 0, .null), (52, .aload_n 0, 1, 0, 0, 0, .null), (53, .getfield 111, 3, 11, 22, 1369, .null), (56, .iconst 2, 1, 0, 0, 0, .int 2), (57, .iload 6, 2, 0, 0, 0, .null), (59, .invokestatic 305, 3, 188, 1, 1656, .retAddr 0), (62, .iastore, 1, 0, 0, 0, .null), (63, .aload_n 0, 1, 0, 0, 0, .null), (64, .getfield 111, 3, 11, 22, 1369, .null), (67, .iconst 3, 1, 0, 0, 0, .int 3), (68, .iload 6, 2, 0, 0, 0, .null), (70, .aload_n 0, 1, 0, 0, 0, .null), (71, .invokevirtual 308, 3, 193, 1, 1659, .ref 11), (74, .iand, 1, 0, 0, 0, .null), (75, .invokestatic 305, 3, 188, 1, 1656, .retAddr 0), (78, .iastore, 1, 0, 0, 0, .null), (79, .aload_n 0, 1, 0, 0, 0, .null), (80, .getfield 87, 3, 11, 10, 1357, .null), (83, .iconst 5, 1, 0, 0, 0, .int 5), (84, .iaload, 1, 0, 0, 0, .null), (85, .ifCond .lt 20, 3, 105, 0, 0, .null), (88, .aload_n 0, 1, 0, 0, 0, .null), (89, .aload_n 0, 1, 0, 0, 0, .null), (90, .getfield 87, 3, 11, 10, 1357, .null), (93, .iconst 5, 1, 0, 0, 0, .int 5), (94, .iaload, 1, 0, 0, 0, .null), (95, .invokevirtual 311, 3, 172, 2, 1663, .ref 11), (98, .ifCond .eq 7, 3, 105, 0, 0, .null), (101, .iconst 1, 1, 0, 0, 0, .int 1), (102, .goto 4, 3, 106, 0, 0, .null), (105, .iconst 0, 1, 0, 0, 0, .int 0), (106, .ireturn, 1, 0, 0, 0, .null)]
set_option maxRecDepth 100000 in
theorem oX11_doesBind : fc_code mX11_doesBind lX11_doesBind = true := by decide +kernel
def lX11_mayWalk : List fc_I := [(0, .aload_n 0, 1, 0, 0, 0, .null), (1, .iload_n 1, 1, 0, 0, 0, .null), (2, .iload_n 2, 1, 0, 0, 0, .null), (3, .invokevirtual 314, 3, 191, 3, 1604, .ref 11), (6, .ifCond .eq 29, 3, 35, 0, 0, .null), (9, .aload_n 0, 1, 0, 0, 0, .null), (10, .aload_n 0, 1, 0, 0, 0, .null), (11, .getfield 117, 3, 11, 24, 1371, .null), (14, .iload_n 1, 1, 0, 0, 0, .null), (15, .iconst 2, 1, 0, 0, 0, .int 2), (16, .iadd, 1, 0, 0, 0, .null), (17, .iload_n 2, 1, 0, 0, 0, .null), (18, .iadd, 1, 0, 0, 0, .null), (19, .iaload, 1, 0, 0, 0, .null), (20, .invokevirtual 317, 3, 182, 2, 1580, .ref 11), (23, .iload_n 3, 1, 0, 0, 0, .null), (24, .ishr, 1, 0, 0, 0, .null), (25, .iconst 1, 1, 0, 0, 0, .int 1), (26, .iand, 1, 0, 0, 0, .null), (27, .iconst 1, 1, 0, 0, 0, .int 1), (28, .if_icmp .ne 7, 3, 35, 0, 0, .null), (31, .iconst 1, 1, 0, 0, 0, .int 1), (32, .goto 4, 3, 36, 0, 0, .null), (35, .iconst 0, 1, 0, 0, 0, .int 0), (36, .ireturn, 1, 0, 0, 0, .null)]
set_option maxRecDepth 100000 in
theorem oX11_mayWalk : fc_code mX11_mayWalk lX11_mayWalk = true := by decide +kernel
def lX11_walks : List fc_I := [(0, .aload_n 0, 1, 0, 0, 0, .null), (1, .getfield 117, 3, 11, 24, 1371, .null), (4, .iload_n 1, 1, 0, 0, 0, .null), (5, .iconst 2, 1, 0, 0, 0, .int 2), (6, .iadd, 1, 0, 0, 0, .null), (7, .iload_n 2, 1, 0, 0, 0, .null), (8, .iadd, 1, 0, 0, 0, .null), (9, .iload_n 3, 1, 0, 0, 0, .null), (10, .iastore, 1, 0, 0, 0, .null), (11, .aload_n 0, 1, 0, 0, 0, .null), (12, .getfield 117, 3, 11, 24, 1371, .null), (15, .iload_n 1, 1, 0, 0, 0, .null), (16, .bipush 7, 2, 0, 0, 0, .int 7), (18, .iadd, 1, 0, 0, 0, .null), (19, .iload_n 2, 1, 0, 0, 0, .null), (20, .iadd, 1, 0, 0, 0, .null), (21, .aload_n 0, 1, 0, 0, 0, .null), (22, .iload_n 2, 1, 0, 0, 0, .null), (23, .iconst 0, 1, 0, 0, 0, .int 0), (24, .invokevirtual 274, 3, 183, 3, 1335, .ref 11), (27, .iconst 2, 1, 0, 0, 0, .int 2), (28, .if_icmp .ne 7, 3, 35, 0, 0, .null), (31, .iconst 2, 1, 0, 0, 0, .int 2), (32, .goto 4, 3, 36, 0, 0, .null), (35, .iconst 1, 1, 0, 0, 0, .int 1), (36, .iastore, 1, 0, 0, 0, .null), (37, .return_, 1, 0, 0, 0, .null)]
set_option maxRecDepth 100000 in
theorem oX11_walks : fc_code mX11_walks lX11_walks = true := by decide +kernel
def lX11_mayGive : List fc_I := [(0, .aload_n 0, 1, 0, 0, 0, .null), (1, .getfield 117, 3, 11, 24, 1371, .null), (4, .iload_n 1, 1, 0, 0, 0, .null), (5, .bipush 12, 2, 0, 0, 0, .int 12), (7, .iadd, 1, 0, 0, 0, .null), (8, .iload_n 2, 1, 0, 0, 0, .null), (9, .iadd, 1, 0, 0, 0, .null), (10, .iaload, 1, 0, 0, 0, .null), (11, .istore 4, 2, 0, 0, 0, .null), (13, .iload 4, 2, 0, 0, 0, .null), (15, .iload_n 3, 1, 0, 0, 0, .null), (16, .if_icmp .eq 50, 3, 66, 0, 0, .null), (19, .aload_n 0, 1, 0, 0, 0, .null), (20, .iload_n 1, 1, 0, 0, 0, .null), (21, .iload 4, 2, 0, 0, 0, .null), (23, .invokevirtual 314, 3, 191, 3, 1604, .ref 11), (26, .ifCond .eq 40, 3, 66, 0, 0, .null), (29, .aload_n 0, 1, 0, 0, 0, .null), (30, .iload_n 1, 1, 0, 0, 0, .null), (31, .iload_n 3, 1, 0, 0, 0, .null), (32, .invokevirtual 295, 3, 190, 3, 1600, .ref 11), (35, .ifCond .eq 31, 3, 66, 0, 0, .null), (38, .aload_n 0, 1, 0, 0, 0, .null), (39, .getfield 117, 3, 11, 24, 1371, .null), (42, .iload_n 1, 1, 0, 0, 0, .null), (43, .iconst 2, 1, 0, 0, 0, .int 2), (44, .iadd, 1, 0, 0, 0, .null), (45, .iload 4, 2, 0, 0, 0, .null), (47, .iadd, 1, 0, 0, 0, .null), (48, .iaload, 1, 0, 0, 0, .null), (49, .aload_n 0, 1, 0, 0, 0, .null), (50, .getfield 117, 3, 11, 24, 1371, .null), (53, .iload_n 1, 1, 0, 0, 0, .null), (54, .iconst 2, 1, 0, 0, 0, .int 2), (55, .iadd, 1, 0, 0, 0, .null), (56, .iload_n 3, 1, 0, 0, 0, .null), (57, .iadd, 1, 0, 0, 0, .null), (58, .iaload, 1, 0, 0, 0, .null), (59, .if_icmp .ne 7, 3, 66, 0, 0, .null), (62, .iconst 1, 1, 0, 0, 0, .int 1), (63, .goto 4, 3, 67, 0, 0, .null), (66, .iconst 0, 1, 0, 0, 0, .int 0), (67, .ireturn, 1, 0, 0, 0, .null)]
set_option maxRecDepth 100000 in
theorem oX11_mayGive : fc_code mX11_mayGive lX11_mayGive = true := by decide +kernel
def lX11_gives : List fc_I := [(0, .aload_n 0, 1, 0, 0, 0, .null), (1, .getfield 117, 3, 11, 24, 1371, .null), (4, .iload_n 1, 1, 0, 0, 0, .null), (5, .bipush 12, 2, 0, 0, 0, .int 12), (7, .iadd, 1, 0, 0, 0, .null), (8, .iload_n 2, 1, 0, 0, 0, .null), (9, .iadd, 1, 0, 0, 0, .null), (10, .iaload, 1, 0, 0, 0, .null), (11, .istore 4, 2, 0, 0, 0, .null), (13, .aload_n 0, 1, 0, 0, 0, .null), (14, .iload_n 1, 1, 0, 0, 0, .null), (15, .iload 4, 2, 0, 0, 0, .null), (17, .iload_n 3, 1, 0, 0, 0, .null), (18, .aload_n 0, 1, 0, 0, 0, .null), (19, .iload_n 2, 1, 0, 0, 0, .null), (20, .iconst 0, 1, 0, 0, 0, .int 0), (21, .invokevirtual 280, 3, 184, 3, 1343, .ref 11), (24, .aload_n 0, 1, 0, 0, 0, .null), (25, .getfield 117, 3, 11, 24, 1371, .null), (28, .iload_n 1, 1, 0, 0, 0, .null), (29, .iconst 1, 1, 0, 0, 0, .int 1), (30, .iadd, 1, 0, 0, 0, .null), (31, .iaload, 1, 0, 0, 0, .null), (32, .invokevirtual 320, 3, 194, 6, 1652, .ref 11), (35, .istore 5, 2, 0, 0, 0, .null), (37, .aload_n 0, 1, 0, 0, 0, .null), (38, .getfield 117, 3, 11, 24, 1371, .null), (41, .iload_n 1, 1, 0, 0, 0, .null), (42, .bipush 12, 2, 0, 0, 0, .int 12), (44, .iadd, 1, 0, 0, 0, .null), (45, .iload_n 2, 1, 0, 0, 0, .null), (46, .iadd, 1, 0, 0, 0, .null), (47, .iload_n 3, 1, 0, 0, 0, .null), (48, .iastore, 1, 0, 0, 0, .null), (49, .aload_n 0, 1, 0, 0, 0, .null), (50, .getfield 117, 3, 11, 24, 1371, .null), (53, .iload_n 1, 1, 0, 0, 0, .null), (54, .bipush 18, 2, 0, 0, 0, .int 18), (56, .iadd, 1, 0, 0, 0, .null), (57, .iload_n 2, 1, 0, 0, 0, .null), (58, .iadd, 1, 0, 0, 0, .null), (59, .iload 5, 2, 0, 0, 0, .null), (61, .ifCond .eq 7, 3, 68, 0, 0, .null), (64, .iload_n 3, 1, 0, 0, 0, .null), (65, .goto 14, 3, 79, 0, 0, .null), (68, .aload_n 0, 1, 0, 0, 0, .null), (69, .getfield 117, 3, 11, 24, 1371, .null), (72, .iload_n 1, 1, 0, 0, 0, .null), (73, .bipush 18, 2, 0, 0, 0, .int 18), (75, .iadd, 1, 0, 0, 0, .null), (76, .iload_n 2, 1, 0, 0, 0, .null), (77, .iadd, 1, 0, 0, 0, .null), (78, .iaload, 1, 0, 0, 0, .null), (79, .iastore, 1, 0, 0, 0, .null), (80, .aload_n 0, 1, 0, 0, 0, .null), (81, .getfield 117, 3, 11, 24, 1371, .null), (84, .iload_n 1, 1, 0, 0, 0, .null), (85, .bipush 7, 2, 0, 0, 0, .int 7), (87, .iadd, 1, 0, 0, 0, .null), (88, .iload 4, 2, 0, 0, 0, .null), (90, .iadd, 1, 0, 0, 0, .null), (91, .iconst 1, 1, 0, 0, 0, .int 1), (92, .iastore, 1, 0, 0, 0, .null), (93, .iload 5, 2, 0, 0, 0, .null), (95, .ireturn, 1, 0, 0, 0, .null)]
set_option maxRecDepth 100000 in
theorem oX11_gives : fc_code mX11_gives lX11_gives = true := by decide +kernel
def lX11_mayVow : List fc_I := [(0, .iload_n 2, 1, 0, 0, 0, .null), (1, .iload_n 3, 1, 0, 0, 0, .null), (2, .if_icmp .eq 48, 3, 50, 0, 0, .null), (5, .aload_n 0, 1, 0, 0, 0, .null), (6, .iload_n 1, 1, 0, 0, 0, .null), (7, .iload_n 2, 1, 0, 0, 0, .null), (8, .invokevirtual 314, 3, 191, 3, 1604, .ref 11), (11, .ifCond .eq 39, 3, 50, 0, 0, .null), (14, .aload_n 0, 1, 0, 0, 0, .null), (15, .iload_n 1, 1, 0, 0, 0, .null), (16, .iload_n 3, 1, 0, 0, 0, .null), (17, .invokevirtual 314, 3, 191, 3, 1604, .ref 11), (20, .ifCond .eq 30, 3, 50, 0, 0, .null), (23, .aload_n 0, 1, 0, 0, 0, .null), (24, .getfield 117, 3, 11, 24, 1371, .null), (27, .iload_n 1, 1, 0, 0, 0, .null), (28, .iconst 2, 1, 0, 0, 0, .int 2), (29, .iadd, 1, 0, 0, 0, .null), (30, .iload_n 2, 1, 0, 0, 0, .null), (31, .iadd, 1, 0, 0, 0, .null), (32, .iaload, 1, 0, 0, 0, .null), (33, .aload_n 0, 1, 0, 0, 0, .null), (34, .getfield 117, 3, 11, 24, 1371, .null), (37, .iload_n 1, 1, 0, 0, 0, .null), (38, .iconst 2, 1, 0, 0, 0, .int 2), (39, .iadd, 1, 0, 0, 0, .null), (40, .iload_n 3, 1, 0, 0, 0, .null), (41, .iadd, 1, 0, 0, 0, .null), (42, .iaload, 1, 0, 0, 0, .null), (43, .if_icmp .ne 7, 3, 50, 0, 0, .null), (46, .iconst 1, 1, 0, 0, 0, .int 1), (47, .goto 4, 3, 51, 0, 0, .null), (50, .iconst 0, 1, 0, 0, 0, .int 0), (51, .istore 4, 2, 0, 0, 0, .null), (53, .iload 4, 2, 0, 0, 0, .null), (55, .ifCond .eq 45, 3, 100, 0, 0, .null), (58, .aload_n 0, 1, 0, 0, 0, .null), (59, .iload_n 2, 1, 0, 0, 0, .null), (60, .iconst 0, 1, 0, 0, 0, .int 0), (61, .invokevirtual 274, 3, 183, 3, 1335, .ref 11), (64, .iconst 3, 1, 0, 0, 0, .int 3), (65, .if_icmp .eq 35, 3, 100, 0, 0, .null), (68, .aload_n 0, 1, 0, 0, 0, .null), (69, .iload_n 3, 1, 0, 0, 0, .null), (70, .iconst 0, 1, 0, 0, 0, .int 0), (71, .invokevirtual 274, 3, 183, 3, 1335, .ref 11), (74, .iconst 3, 1, 0, 0, 0, .int 3), (75, .if_icmp .eq 25, 3, 100, 0, 0, .null), (78, .aload_n 0, 1, 0, 0, 0, .null), (79, .getfield 117, 3, 11, 24, 1371, .null), (82, .iload_n 1, 1, 0, 0, 0, .null), (83, .bipush 24, 2, 0, 0, 0, .int 24), (85, .iadd, 1, 0, 0, 0, .null), (86, .iload_n 2, 1, 0, 0, 0, .null), (87, .iadd, 1, 0, 0, 0, .null), (88, .iaload, 1, 0, 0, 0, .null), (89, .iload_n 3, 1, 0, 0, 0, .null), (90, .ishr, 1, 0, 0, 0, .null), (91, .iconst 1, 1, 0, 0, 0, .int 1), (92, .iand, 1, 0, 0, 0, .null), (93, .ifCond .ne 7, 3, 100, 0, 0, .null), (96, .iconst 1, 1, 0, 0, 0, .int 1), (97, .goto 4, 3, 101, 0, 0, .null), (100, .iconst 0, 1, 0, 0, 0, .int 0), (101, .ireturn, 1, 0, 0, 0, .null)]
set_option maxRecDepth 100000 in
theorem oX11_mayVow : fc_code mX11_mayVow lX11_mayVow = true := by decide +kernel
def lX11_vowsBy : List fc_I := [(0, .aload_n 0, 1, 0, 0, 0, .null), (1, .iload_n 1, 1, 0, 0, 0, .null), (2, .iload_n 2, 1, 0, 0, 0, .null), (3, .iload_n 3, 1, 0, 0, 0, .null), (4, .iconst 0, 1, 0, 0, 0, .int 0), (5, .aload_n 0, 1, 0, 0, 0, .null), (6, .getfield 117, 3, 11, 24, 1371, .null), (9, .iload_n 1, 1, 0, 0, 0, .null), (10, .iconst 1, 1, 0, 0, 0, .int 1), (11, .iadd, 1, 0, 0, 0, .null), (12, .iaload, 1, 0, 0, 0, .null), (13, .invokevirtual 320, 3, 194, 6, 1652, .ref 11), (16, .istore 4, 2, 0, 0, 0, .null), (18, .aload_n 0, 1, 0, 0, 0, .null), (19, .getfield 117, 3, 11, 24, 1371, .null), (22, .iload_n 1, 1, 0, 0, 0, .null), (23, .bipush 24, 2, 0, 0, 0, .int 24), (25, .iadd, 1, 0, 0, 0, .null), (26, .iload_n 2, 1, 0, 0, 0, .null), (27, .iadd, 1, 0, 0, 0, .null), (28, .dup2, 1, 0, 0, 0, .null), (29, .iaload, 1, 0, 0, 0, .null), (30, .iconst 1, 1, 0, 0, 0, .int 1), (31, .iload_n 3, 1, 0, 0, 0, .null), (32, .ishl, 1, 0, 0, 0, .null), (33, .ior, 1, 0, 0, 0, .null), (34, .iastore, 1, 0, 0, 0, .null), (35, .aload_n 0, 1, 0, 0, 0, .null), (36, .getfield 117, 3, 11, 24, 1371, .null), (39, .iload_n 1, 1, 0, 0, 0, .null), (40, .bipush 24, 2, 0, 0, 0, .int 24), (42, .iadd, 1, 0, 0, 0, .null), (43, .iload_n 3, 1, 0, 0, 0, .null), (44, .iadd, 1, 0, 0, 0, .null), (45, .dup2, 1, 0, 0, 0, .null), (46, .iaload, 1, 0, 0, 0, .null), (47, .iconst 1, 1, 0, 0, 0, .int 1), (48, .iload_n 2, 1, 0, 0, 0, .null), (49, .ishl, 1, 0, 0, 0, .null), (50, .ior, 1, 0, 0, 0, .null), (51, .iastore, 1, 0, 0, 0, .null), (52, .aload_n 0, 1, 0, 0, 0, .null), (53, .getfield 117, 3, 11, 24, 1371, .null), (56, .iload_n 1, 1, 0, 0, 0, .null), (57, .bipush 29, 2, 0, 0, 0, .int 29), (59, .iadd, 1, 0, 0, 0, .null), (60, .iload_n 2, 1, 0, 0, 0, .null), (61, .iadd, 1, 0, 0, 0, .null), (62, .dup2, 1, 0, 0, 0, .null), (63, .iaload, 1, 0, 0, 0, .null), (64, .iload 4, 2, 0, 0, 0, .null), (66, .ifCond .eq 9, 3, 75, 0, 0, .null), (69, .iconst 1, 1, 0, 0, 0, .int 1), (70, .iload_n 3, 1, 0, 0, 0, .null), (71, .ishl, 1, 0, 0, 0, .null), (72, .goto 4, 3, 76, 0, 0, .null), (75, .iconst 0, 1, 0, 0, 0, .int 0), (76, .ior, 1, 0, 0, 0, .null), (77, .iastore, 1, 0, 0, 0, .null), (78, .aload_n 0, 1, 0, 0, 0, .null), (79, .getfield 117, 3, 11, 24, 1371, .null), (82, .iload_n 1, 1, 0, 0, 0, .null), (83, .bipush 29, 2, 0, 0, 0, .int 29), (85, .iadd, 1, 0, 0, 0, .null), (86, .iload_n 3, 1, 0, 0, 0, .null), (87, .iadd, 1, 0, 0, 0, .null), (88, .dup2, 1, 0, 0, 0, .null), (89, .iaload, 1, 0, 0, 0, .null), (90, .iload 4, 2, 0, 0, 0, .null), (92, .ifCond .eq 9, 3, 101, 0, 0, .null), (95, .iconst 1, 1, 0, 0, 0, .int 1), (96, .iload_n 2, 1, 0, 0, 0, .null), (97, .ishl, 1, 0, 0, 0, .null), (98, .goto 4, 3, 102, 0, 0, .null), (101, .iconst 0, 1, 0, 0, 0, .int 0), (102, .ior, 1, 0, 0, 0, .null), (103, .iastore, 1, 0, 0, 0, .null), (104, .aload_n 0, 1, 0, 0, 0, .null), (105, .getfield 117, 3, 11, 24, 1371, .null), (108, .iload_n 1, 1, 0, 0, 0, .null), (109, .bipush 7, 2, 0, 0, 0, .int 7), (111, .iadd, 1, 0, 0, 0, .null), (112, .iload_n 2, 1, 0, 0, 0, .null), (113, .iadd, 1, 0, 0, 0, .null), (114, .iconst 1, 1, 0, 0, 0, .int 1), (115, .iastore, 1, 0, 0, 0, .null), (116, .aload_n 0, 1, 0, 0, 0, .null), (117, .getfield 117, 3, 11, 24, 1371, .null), (120, .iload_n 1, 1, 0, 0, 0, .null), (121, .bipush 7, 2, 0, 0, 0, .int 7), (123, .iadd, 1, 0, 0, 0, .null), (124, .iload_n 3, 1, 0, 0, 0, .null), (125, .iadd, 1, 0, 0, 0, .null), (126, .iconst 1, 1, 0, 0, 0, .int 1), (127, .iastore, 1, 0, 0, 0, .null), (128, .iload 4, 2, 0, 0, 0, .null), (130, .ireturn, 1, 0, 0, 0, .null)]
set_option maxRecDepth 100000 in
theorem oX11_vowsBy : fc_code mX11_vowsBy lX11_vowsBy = true := by decide +kernel
def lX11_smokes : List fc_I := [(0, .iconst 0, 1, 0, 0, 0, .int 0), (1, .istore_n 2, 1, 0, 0, 0, .null), (2, .iload_n 2, 1, 0, 0, 0, .null), (3, .aload_n 0, 1, 0, 0, 0, .null), (4, .invokevirtual 277, 3, 180, 1, 1339, .ref 11), (7, .if_icmp .ge 31, 3, 38, 0, 0, .null), (10, .aload_n 0, 1, 0, 0, 0, .null), (11, .getfield 117, 3, 11, 24, 1371, .null), (14, .iload_n 1, 1, 0, 0, 0, .null), (15, .bipush 12, 2, 0, 0, 0, .int 12), (17, .iadd, 1, 0, 0, 0, .null), (18, .iload_n 2, 1, 0, 0, 0, .null), (19, .iadd, 1, 0, 0, 0, .null), (20, .aload_n 0, 1, 0, 0, 0, .null), (21, .getfield 117, 3, 11, 24, 1371, .null), (24, .iload_n 1, 1, 0, 0, 0, .null), (25, .bipush 18, 2, 0, 0, 0, .int 18), (27, .iadd, 1, 0, 0, 0, .null), (28, .iload_n 2, 1, 0, 0, 0, .null), (29, .iadd, 1, 0, 0, 0, .null), (30, .iaload, 1, 0, 0, 0, .null), (31, .iastore, 1, 0, 0, 0, .null), (32, .iinc 2 1, 3, 0, 0, 0, .null), (35, .goto (-33), 3, 2, 0, 0, .null), (38, .iconst 0, 1, 0, 0, 0, .int 0), (39, .istore_n 2, 1, 0, 0, 0, .null), (40, .iload_n 2, 1, 0, 0, 0, .null), (41, .aload_n 0, 1, 0, 0, 0, .null), (42, .invokevirtual 270, 3, 179, 1, 1331, .ref 11), (45, .if_icmp .ge 59, 3, 104, 0, 0, .null), (48, .aload_n 0, 1, 0, 0, 0, .null), (49, .getfield 117, 3, 11, 24, 1371, .null), (52, .iload_n 1, 1, 0, 0, 0, .null), (53, .bipush 24, 2, 0, 0, 0, .int 24), (55, .iadd, 1, 0, 0, 0, .null), (56, .iload_n 2, 1, 0, 0, 0, .null), (57, .iadd, 1, 0, 0, 0, .null), (58, .aload_n 0, 1, 0, 0, 0, .null), (59, .getfield 117, 3, 11, 24, 1371, .null), (62, .iload_n 1, 1, 0, 0, 0, .null), (63, .bipush 29, 2, 0, 0, 0, .int 29), (65, .iadd, 1, 0, 0, 0, .null), (66, .iload_n 2, 1, 0, 0, 0, .null), (67, .iadd, 1, 0, 0, 0, .null), (68, .iaload, 1, 0, 0, 0, .null), (69, .iastore, 1, 0, 0, 0, .null), (70, .aload_n 0, 1, 0, 0, 0, .null), (71, .getfield 117, 3, 11, 24, 1371, .null), (74, .iload_n 1, 1, 0, 0, 0, .null), (75, .iconst 2, 1, 0, 0, 0, .int 2), (76, .iadd, 1, 0, 0, 0, .null), (77, .iload_n 2, 1, 0, 0, 0, .null), (78, .iadd, 1, 0, 0, 0, .null), (79, .aload_n 0, 1, 0, 0, 0, .null), (80, .iload_n 2, 1, 0, 0, 0, .null), (81, .iconst 1, 1, 0, 0, 0, .int 1), (82, .invokevirtual 274, 3, 183, 3, 1335, .ref 11), (85, .iastore, 1, 0, 0, 0, .null), (86, .aload_n 0, 1, 0, 0, 0, .null), (87, .getfield 117, 3, 11, 24, 1371, .null), (90, .iload_n 1, 1, 0, 0, 0, .null), (91, .bipush 7, 2, 0, 0, 0, .int 7), (93, .iadd, 1, 0, 0, 0, .null), (94, .iload_n 2, 1, 0, 0, 0, .null), (95, .iadd, 1, 0, 0, 0, .null), (96, .iconst 0, 1, 0, 0, 0, .int 0), (97, .iastore, 1, 0, 0, 0, .null), (98, .iinc 2 1, 3, 0, 0, 0, .null), (101, .goto (-61), 3, 40, 0, 0, .null), (104, .aload_n 0, 1, 0, 0, 0, .null), (105, .getfield 117, 3, 11, 24, 1371, .null), (108, .iload_n 1, 1, 0, 0, 0, .null), (109, .iconst 0, 1, 0, 0, 0, .int 0), (110, .iadd, 1, 0, 0, 0, .null), (111, .dup2, 1, 0, 0, 0, .null), (112, .iaload, 1, 0, 0, 0, .null), (113, .iconst 1, 1, 0, 0, 0, .int 1), (114, .iadd, 1, 0, 0, 0, .null), (115, .iastore, 1, 0, 0, 0, .null), (116, .aload_n 0, 1, 0, 0, 0, .null), (117, .getfield 117, 3, 11, 24, 1371, .null), (120, .iload_n 1, 1, 0, 0, 0, .null), (121, .iconst 1, 1, 0, 0, 0, .int 1), (122, .iadd, 1, 0, 0, 0, .null), (123, .iconst 0, 1, 0, 0, 0, .int 0), (124, .iastore, 1, 0, 0, 0, .null), (125, .return_, 1, 0, 0, 0, .null)]
set_option maxRecDepth 100000 in
theorem oX11_smokes : fc_code mX11_smokes lX11_smokes = true := by decide +kernel
def lX11_passes : List fc_I := [(0, .aload_n 0, 1, 0, 0, 0, .null), (1, .aload_n 0, 1, 0, 0, 0, .null), (2, .getfield 117, 3, 11, 24, 1371, .null), (5, .iload_n 1, 1, 0, 0, 0, .null), (6, .iconst 1, 1, 0, 0, 0, .int 1), (7, .iadd, 1, 0, 0, 0, .null), (8, .iaload, 1, 0, 0, 0, .null), (9, .invokevirtual 302, 3, 189, 2, 1588, .ref 11), (12, .istore_n 2, 1, 0, 0, 0, .null), (13, .iconst 0, 1, 0, 0, 0, .int 0), (14, .istore_n 3, 1, 0, 0, 0, .null), (15, .iload_n 3, 1, 0, 0, 0, .null), (16, .aload_n 0, 1, 0, 0, 0, .null), (17, .invokevirtual 292, 3, 178, 1, 1576, .ref 11), (20, .if_icmp .ge 16, 3, 36, 0, 0, .null), (23, .aload_n 0, 1, 0, 0, 0, .null), (24, .getfield 124, 3, 11, 27, 1374, .null), (27, .iload_n 3, 1, 0, 0, 0, .null), (28, .iconst 0, 1, 0, 0, 0, .int 0), (29, .iastore, 1, 0, 0, 0, .null), (30, .iinc 3 1, 3, 0, 0, 0, .null), (33, .goto (-18), 3, 15, 0, 0, .null), (36, .iconst 0, 1, 0, 0, 0, .int 0), (37, .istore_n 3, 1, 0, 0, 0, .null), (38, .iload_n 3, 1, 0, 0, 0, .null), (39, .aload_n 0, 1, 0, 0, 0, .null), (40, .invokevirtual 270, 3, 179, 1, 1331, .ref 11), (43, .if_icmp .ge 51, 3, 94, 0, 0, .null), (46, .aload_n 0, 1, 0, 0, 0, .null), (47, .getfield 124, 3, 11, 27, 1374, .null), (50, .aload_n 0, 1, 0, 0, 0, .null), (51, .getfield 117, 3, 11, 24, 1371, .null), (54, .iload_n 1, 1, 0, 0, 0, .null), (55, .iconst 2, 1, 0, 0, 0, .int 2), (56, .iadd, 1, 0, 0, 0, .null), (57, .iload_n 3, 1, 0, 0, 0, .null), (58, .iadd, 1, 0, 0, 0, .null), (59, .iaload, 1, 0, 0, 0, .null), (60, .dup2, 1, 0, 0, 0, .null), (61, .iaload, 1, 0, 0, 0, .null), (62, .iload_n 2, 1, 0, 0, 0, .null), (63, .iload_n 3, 1, 0, 0, 0, .null), (64, .ishr, 1, 0, 0, 0, .null), (65, .iconst 1, 1, 0, 0, 0, .int 1), (66, .iand, 1, 0, 0, 0, .null), (67, .iconst 1, 1, 0, 0, 0, .int 1), (68, .if_icmp .ne 17, 3, 85, 0, 0, .null), (71, .aload_n 0, 1, 0, 0, 0, .null), (72, .getfield 117, 3, 11, 24, 1371, .null), (75, .iload_n 1, 1, 0, 0, 0, .null), (76, .bipush 34, 2, 0, 0, 0, .int 34), (78, .iadd, 1, 0, 0, 0, .null), (79, .iload_n 3, 1, 0, 0, 0, .null), (80, .iadd, 1, 0, 0, 0, .null), (81, .iaload, 1, 0, 0, 0, .null), (82, .goto 4, 3, 86, 0, 0, .null), (85, .iconst 0, 1, 0, 0, 0, .int 0), (86, .ior, 1, 0, 0, 0, .null), (87, .iastore, 1, 0, 0, 0, .null), (88, .iinc 3 1, 3, 0, 0, 0, .null), (91, .goto (-53), 3, 38, 0, 0, .null), (94, .iconst 0, 1, 0, 0, 0, .int 0), (95, .istore_n 3, 1, 0, 0, 0, .null), (96, .iload_n 3, 1, 0, 0, 0, .null), (97, .aload_n 0, 1, 0, 0, 0, .null), (98, .invokevirtual 270, 3, 179, 1, 1331, .ref 11), (101, .if_icmp .ge 84, 3, 185, 0, 0, .null), (104, .aload_n 0, 1, 0, 0, 0, .null), (105, .getfield 117, 3, 11, 24, 1371, .null), (108, .iload_n 1, 1, 0, 0, 0, .null), (109, .bipush 34, 2, 0, 0, 0, .int 34), (111, .iadd, 1, 0, 0, 0, .null), (112, .iload_n 3, 1, 0, 0, 0, .null), (113, .iadd, 1, 0, 0, 0, .null), (114, .dup2, 1, 0, 0, 0, .null), (115, .iaload, 1, 0, 0, 0, .null), (116, .iload_n 2, 1, 0, 0, 0, .null), (117, .iload_n 3, 1, 0, 0, 0, .null), (118, .ishr, 1, 0, 0, 0, .null), (119, .iconst 1, 1, 0, 0, 0, .int 1), (120, .iand, 1, 0, 0, 0, .null), (121, .iconst 1, 1, 0, 0, 0, .int 1), (122, .if_icmp .ne 21, 3, 143, 0, 0, .null), (125, .aload_n 0, 1, 0, 0, 0, .null), (126, .getfield 124, 3, 11, 27, 1374, .null), (129, .aload_n 0, 1, 0, 0, 0, .null), (130, .getfield 117, 3, 11, 24, 1371, .null), (133, .iload_n 1, 1, 0, 0, 0, .null), (134, .iconst 2, 1, 0, 0, 0, .int 2), (135, .iadd, 1, 0, 0, 0, .null), (136, .iload_n 3, 1, 0, 0, 0, .null), (137, .iadd, 1, 0, 0, 0, .null), (138, .iaload, 1, 0, 0, 0, .null), (139, .iaload, 1, 0, 0, 0, .null), (140, .goto 4, 3, 144, 0, 0, .null), (143, .iconst 0, 1, 0, 0, 0, .int 0), (144, .ior, 1, 0, 0, 0, .null), (145, .iastore, 1, 0, 0, 0, .null), (146, .aload_n 0, 1, 0, 0, 0, .null), (147, .getfield 117, 3, 11, 24, 1371, .null), (150, .iload_n 1, 1, 0, 0, 0, .null), (151, .bipush 7, 2, 0, 0, 0, .int 7), (153, .iadd, 1, 0, 0, 0, .null), (154, .iload_n 3, 1, 0, 0, 0, .null), (155, .iadd, 1, 0, 0, 0, .null), (156, .dup2, 1, 0, 0, 0, .null), (157, .iaload, 1, 0, 0, 0, .null), (158, .aload_n 0, 1, 0, 0, 0, .null), (159, .getfield 117, 3, 11, 24, 1371, .null), (162, .iload_n 1, 1, 0, 0, 0, .null), (163, .bipush 7, 2, 0, 0, 0, .int 7), (165, .iadd, 1, 0, 0, 0, .null), (166, .iload_n 3, 1, 0, 0, 0, .null), (167, .iadd, 1, 0, 0, 0, .null), (168, .iaload, 1, 0, 0, 0, .null), (169, .ifCond .le 7, 3, 176, 0, 0, .null), (172, .iconst 1, 1, 0, 0, 0, .int 1), (173, .goto 4, 3, 177, 0, 0, .null), (176, .iconst 0, 1, 0, 0, 0, .int 0), (177, .isub, 1, 0, 0, 0, .null), (178, .iastore, 1, 0, 0, 0, .null), (179, .iinc 3 1, 3, 0, 0, 0, .null), (182, .goto (-86), 3, 96, 0, 0, .null), (185, .aload_n 0, 1, 0, 0, 0, .null), (186, .getfield 117, 3, 11, 24, 1371, .null), (189, .iload_n 1, 1, 0, 0, 0, .null), (190, .iconst 1, 1, 0, 0, 0, .int 1), (191, .iadd, 1, 0, 0, 0, .null), (192, .dup2, 1, 0, 0, 0, .null), (193, .iaload, 1, 0, 0, 0, .null), (194, .iconst 1, 1, 0, 0, 0, .int 1), (195, .iadd, 1, 0, 0, 0, .null), (196, .iastore, 1, 0, 0, 0, .null), (197, .aload_n 0, 1, 0, 0, 0, .null), (198, .getfield 117, 3, 11, 24, 1371, .null), (201, .iload_n 1, 1, 0, 0, 0, .null), (202, .iconst 1, 1, 0, 0, 0, .int 1), (203, .iadd, 1, 0, 0, 0, .null), (204, .iaload, 1, 0, 0, 0, .null), (205, .aload_n 0, 1, 0, 0, 0, .null), (206, .invokevirtual 324, 3, 181, 1, 1690, .ref 11), (209, .if_icmp .ne 7, 3, 216, 0, 0, .null), (212, .iconst 1, 1, 0, 0, 0, .int 1), (213, .goto 4, 3, 217, 0, 0, .null), (216, .iconst 0, 1, 0, 0, 0, .int 0), (217, .istore_n 3, 1, 0, 0, 0, .null), (218, .iload_n 3, 1, 0, 0, 0, .null), (219, .ifCond .eq 8, 3, 227, 0, 0, .null), (222, .aload_n 0, 1, 0, 0, 0, .null), (223, .iload_n 1, 1, 0, 0, 0, .null), (224, .invokevirtual 327, 3, 201, 2, 1694, .ref 11), (227, .iload_n 3, 1, 0, 0, 0, .null), (228, .ireturn, 1, 0, 0, 0, .null)]
set_option maxRecDepth 100000 in
theorem oX11_passes : fc_code mX11_passes lX11_passes = true := by decide +kernel
def lX11_thingsWith : List fc_I := [(0, .iconst 0, 1, 0, 0, 0, .int 0), (1, .istore_n 3, 1, 0, 0, 0, .null), (2, .iconst 0, 1, 0, 0, 0, .int 0), (3, .istore 4, 2, 0, 0, 0, .null), (5, .iload 4, 2, 0, 0, 0, .null), (7, .aload_n 0, 1, 0, 0, 0, .null), (8, .invokevirtual 277, 3, 180, 1, 1339, .ref 11), (11, .if_icmp .ge 36, 3, 47, 0, 0, .null), (14, .iload_n 3, 1, 0, 0, 0, .null), (15, .aload_n 0, 1, 0, 0, 0, .null), (16, .getfield 117, 3, 11, 24, 1371, .null), (19, .iload_n 1, 1, 0, 0, 0, .null), (20, .bipush 12, 2, 0, 0, 0, .int 12), (22, .iadd, 1, 0, 0, 0, .null), (23, .iload 4, 2, 0, 0, 0, .null), (25, .iadd, 1, 0, 0, 0, .null), (26, .iaload, 1, 0, 0, 0, .null), (27, .iload_n 2, 1, 0, 0, 0, .null), (28, .if_icmp .ne 10, 3, 38, 0, 0, .null), (31, .iconst 1, 1, 0, 0, 0, .int 1), (32, .iload 4, 2, 0, 0, 0, .null), (34, .ishl, 1, 0, 0, 0, .null), (35, .goto 4, 3, 39, 0, 0, .null), (38, .iconst 0, 1, 0, 0, 0, .int 0), (39, .ior, 1, 0, 0, 0, .null), (40, .istore_n 3, 1, 0, 0, 0, .null), (41, .iinc 4 1, 3, 0, 0, 0, .null), (44, .goto (-39), 3, 5, 0, 0, .null), (47, .iload_n 3, 1, 0, 0, 0, .null), (48, .ireturn, 1, 0, 0, 0, .null)]
set_option maxRecDepth 100000 in
theorem oX11_thingsWith : fc_code mX11_thingsWith lX11_thingsWith = true := by decide +kernel
def lX11_wrongThings : List fc_I := [(0, .iconst 0, 1, 0, 0, 0, .int 0), (1, .istore_n 2, 1, 0, 0, 0, .null), (2, .iconst 0, 1, 0, 0, 0, .int 0), (3, .istore_n 3, 1, 0, 0, 0, .null), (4, .iload_n 3, 1, 0, 0, 0, .null), (5, .aload_n 0, 1, 0, 0, 0, .null), (6, .invokevirtual 277, 3, 180, 1, 1339, .ref 11), (9, .if_icmp .ge 44, 3, 53, 0, 0, .null), (12, .iload_n 2, 1, 0, 0, 0, .null), (13, .aload_n 0, 1, 0, 0, 0, .null), (14, .getfield 117, 3, 11, 24, 1371, .null), (17, .iload_n 1, 1, 0, 0, 0, .null), (18, .bipush 12, 2, 0, 0, 0, .int 12), (20, .iadd, 1, 0, 0, 0, .null), (21, .iload_n 3, 1, 0, 0, 0, .null), (22, .iadd, 1, 0, 0, 0, .null), (23, .iaload, 1, 0, 0, 0, .null), (24, .aload_n 0, 1, 0, 0, 0, .null), (25, .getfield 117, 3, 11, 24, 1371, .null), (28, .iload_n 1, 1, 0, 0, 0, .null), (29, .bipush 18, 2, 0, 0, 0, .int 18), (31, .iadd, 1, 0, 0, 0, .null), (32, .iload_n 3, 1, 0, 0, 0, .null), (33, .iadd, 1, 0, 0, 0, .null), (34, .iaload, 1, 0, 0, 0, .null), (35, .if_icmp .eq 9, 3, 44, 0, 0, .null), (38, .iconst 1, 1, 0, 0, 0, .int 1), (39, .iload_n 3, 1, 0, 0, 0, .null), (40, .ishl, 1, 0, 0, 0, .null), (41, .goto 4, 3, 45, 0, 0, .null), (44, .iconst 0, 1, 0, 0, 0, .int 0), (45, .ior, 1, 0, 0, 0, .null), (46, .istore_n 2, 1, 0, 0, 0, .null), (47, .iinc 3 1, 3, 0, 0, 0, .null), (50, .goto (-46), 3, 4, 0, 0, .null), (53, .iload_n 2, 1, 0, 0, 0, .null), (54, .ireturn, 1, 0, 0, 0, .null)]
set_option maxRecDepth 100000 in
theorem oX11_wrongThings : fc_code mX11_wrongThings lX11_wrongThings = true := by decide +kernel
def lX11_place : List fc_I := [(0, .aload_n 0, 1, 0, 0, 0, .null), (1, .iconst 0, 1, 0, 0, 0, .int 0), (2, .putfield 1, 3, 11, 0, 1347, .null), (5, .aload_n 0, 1, 0, 0, 0, .null), (6, .iload_n 1, 1, 0, 0, 0, .null), (7, .invokevirtual 330, 3, 185, 2, 1572, .ref 11), (10, .ifCond .eq 12, 3, 22, 0, 0, .null), (13, .iload_n 2, 1, 0, 0, 0, .null), (14, .iconst 0, 1, 0, 0, 0, .int 0), (15, .iconst 2, 1, 0, 0, 0, .int 2), (16, .invokestatic 202, 3, 150, 3, 1497, .retAddr 0), (19, .ifCond .ne 5, 3, 24, 0, 0, .null), (22, .iconst (-1), 1, 0, 0, 0, .int (-1)), (23, .ireturn, 1, 0, 0, 0, .null), (24, .iload_n 2, 1, 0, 0, 0, .null), (25, .ifCond .ne 11, 3, 36, 0, 0, .null), (28, .aload_n 0, 1, 0, 0, 0, .null), (29, .iload_n 1, 1, 0, 0, 0, .null), (30, .invokevirtual 317, 3, 182, 2, 1580, .ref 11), (33, .goto 34, 3, 67, 0, 0, .null), (36, .iload_n 2, 1, 0, 0, 0, .null), (37, .iconst 1, 1, 0, 0, 0, .int 1), (38, .if_icmp .ne 12, 3, 50, 0, 0, .null), (41, .aload_n 0, 1, 0, 0, 0, .null), (42, .iconst 0, 1, 0, 0, 0, .int 0), (43, .iload_n 1, 1, 0, 0, 0, .null), (44, .invokevirtual 299, 3, 192, 3, 1584, .ref 11), (47, .goto 20, 3, 67, 0, 0, .null), (50, .aload_n 0, 1, 0, 0, 0, .null), (51, .iconst 0, 1, 0, 0, 0, .int 0), (52, .iload_n 1, 1, 0, 0, 0, .null), (53, .invokevirtual 299, 3, 192, 3, 1584, .ref 11), (56, .aload_n 0, 1, 0, 0, 0, .null), (57, .aload_n 0, 1, 0, 0, 0, .null), (58, .getfield 117, 3, 11, 24, 1371, .null), (61, .iconst 1, 1, 0, 0, 0, .int 1), (62, .iaload, 1, 0, 0, 0, .null), (63, .invokevirtual 302, 3, 189, 2, 1588, .ref 11), (66, .iand, 1, 0, 0, 0, .null), (67, .ireturn, 1, 0, 0, 0, .null)]
set_option maxRecDepth 100000 in
theorem oX11_place : fc_code mX11_place lX11_place = true := by decide +kernel
def lX11_person : List fc_I := [(0, .aload_n 0, 1, 0, 0, 0, .null), (1, .iconst 0, 1, 0, 0, 0, .int 0), (2, .putfield 1, 3, 11, 0, 1347, .null), (5, .aload_n 0, 1, 0, 0, 0, .null), (6, .iload_n 1, 1, 0, 0, 0, .null), (7, .invokevirtual 333, 3, 186, 2, 1596, .ref 11), (10, .ifCond .eq 12, 3, 22, 0, 0, .null), (13, .iload_n 2, 1, 0, 0, 0, .null), (14, .iconst 0, 1, 0, 0, 0, .int 0), (15, .iconst 5, 1, 0, 0, 0, .int 5), (16, .invokestatic 202, 3, 150, 3, 1497, .retAddr 0), (19, .ifCond .ne 5, 3, 24, 0, 0, .null), (22, .iconst (-1), 1, 0, 0, 0, .int (-1)), (23, .ireturn, 1, 0, 0, 0, .null), (24, .iload_n 2, 1, 0, 0, 0, .null), (25, .tableswitch 77 2 5 #[31, 40, 55, 70], 31, 0, 0, 0, .null), (56, .aload_n 0, 1, 0, 0, 0, .null), (57, .getfield 117, 3, 11, 24, 1371, .null), (60, .iconst 2, 1, 0, 0, 0, .int 2), (61, .iload_n 1, 1, 0, 0, 0, .null), (62, .iadd, 1, 0, 0, 0, .null), (63, .iaload, 1, 0, 0, 0, .null), (64, .ireturn, 1, 0, 0, 0, .null), (65, .aload_n 0, 1, 0, 0, 0, .null), (66, .iconst 0, 1, 0, 0, 0, .int 0), (67, .iload_n 1, 1, 0, 0, 0, .null), (68, .invokevirtual 295, 3, 190, 3, 1600, .ref 11), (71, .ifCond .eq 7, 3, 78, 0, 0, .null), (74, .iconst 1, 1, 0, 0, 0, .int 1), (75, .goto 4, 3, 79, 0, 0, .null), (78, .iconst 0, 1, 0, 0, 0, .int 0), (79, .ireturn, 1, 0, 0, 0, .null), (80, .aload_n 0, 1, 0, 0, 0, .null), (81, .iconst 0, 1, 0, 0, 0, .int 0), (82, .iload_n 1, 1, 0, 0, 0, .null), (83, .invokevirtual 314, 3, 191, 3, 1604, .ref 11), (86, .ifCond .eq 7, 3, 93, 0, 0, .null), (89, .iconst 1, 1, 0, 0, 0, .int 1), (90, .goto 4, 3, 94, 0, 0, .null), (93, .iconst 0, 1, 0, 0, 0, .int 0), (94, .ireturn, 1, 0, 0, 0, .null), (95, .aload_n 0, 1, 0, 0, 0, .null), (96, .iconst 0, 1, 0, 0, 0, .int 0), (97, .iload_n 1, 1, 0, 0, 0, .null), (98, .invokevirtual 336, 3, 203, 3, 1608, .ref 11), (101, .ireturn, 1, 0, 0, 0, .null), (102, .aload_n 0, 1, 0, 0, 0, .null), (103, .iload_n 1, 1, 0, 0, 0, .null), (104, .iload_n 2, 1, 0, 0, 0, .null), (105, .invokevirtual 274, 3, 183, 3, 1335, .ref 11), (108, .ireturn, 1, 0, 0, 0, .null)]
set_option maxRecDepth 100000 in
theorem oX11_person : fc_code mX11_person lX11_person = true := by decide +kernel
def lX11_thing : List fc_I := [(0, .aload_n 0, 1, 0, 0, 0, .null), (1, .iconst 0, 1, 0, 0, 0, .int 0), (2, .putfield 1, 3, 11, 0, 1347, .null), (5, .aload_n 0, 1, 0, 0, 0, .null), (6, .iload_n 1, 1, 0, 0, 0, .null), (7, .invokevirtual 339, 3, 187, 2, 1616, .ref 11), (10, .ifCond .eq 12, 3, 22, 0, 0, .null), (13, .iload_n 2, 1, 0, 0, 0, .null), (14, .iconst 0, 1, 0, 0, 0, .int 0), (15, .iconst 2, 1, 0, 0, 0, .int 2), (16, .invokestatic 202, 3, 150, 3, 1497, .retAddr 0), (19, .ifCond .ne 5, 3, 24, 0, 0, .null), (22, .iconst (-1), 1, 0, 0, 0, .int (-1)), (23, .ireturn, 1, 0, 0, 0, .null), (24, .iload_n 2, 1, 0, 0, 0, .null), (25, .ifCond .ne 12, 3, 37, 0, 0, .null), (28, .aload_n 0, 1, 0, 0, 0, .null), (29, .iload_n 1, 1, 0, 0, 0, .null), (30, .iconst 0, 1, 0, 0, 0, .int 0), (31, .invokevirtual 280, 3, 184, 3, 1343, .ref 11), (34, .goto 29, 3, 63, 0, 0, .null), (37, .iload_n 2, 1, 0, 0, 0, .null), (38, .iconst 1, 1, 0, 0, 0, .int 1), (39, .if_icmp .ne 15, 3, 54, 0, 0, .null), (42, .aload_n 0, 1, 0, 0, 0, .null), (43, .getfield 117, 3, 11, 24, 1371, .null), (46, .bipush 12, 2, 0, 0, 0, .int 12), (48, .iload_n 1, 1, 0, 0, 0, .null), (49, .iadd, 1, 0, 0, 0, .null), (50, .iaload, 1, 0, 0, 0, .null), (51, .goto 12, 3, 63, 0, 0, .null), (54, .aload_n 0, 1, 0, 0, 0, .null), (55, .getfield 117, 3, 11, 24, 1371, .null), (58, .bipush 18, 2, 0, 0, 0, .int 18), (60, .iload_n 1, 1, 0, 0, 0, .null), (61, .iadd, 1, 0, 0, 0, .null), (62, .iaload, 1, 0, 0, 0, .null), (63, .ireturn, 1, 0, 0, 0, .null)]
set_option maxRecDepth 100000 in
theorem oX11_thing : fc_code mX11_thing lX11_thing = true := by decide +kernel
def lX11_walk : List fc_I := [(0, .aload_n 0, 1, 0, 0, 0, .null), (1, .iconst 0, 1, 0, 0, 0, .int 0), (2, .putfield 1, 3, 11, 0, 1347, .null), (5, .aload_n 0, 1, 0, 0, 0, .null), (6, .iload_n 1, 1, 0, 0, 0, .null), (7, .invokevirtual 333, 3, 186, 2, 1596, .ref 11), (10, .ifCond .eq 21, 3, 31, 0, 0, .null), (13, .aload_n 0, 1, 0, 0, 0, .null), (14, .iload_n 2, 1, 0, 0, 0, .null), (15, .invokevirtual 330, 3, 185, 2, 1572, .ref 11), (18, .ifCond .eq 13, 3, 31, 0, 0, .null), (21, .aload_n 0, 1, 0, 0, 0, .null), (22, .iconst 0, 1, 0, 0, 0, .int 0), (23, .iload_n 1, 1, 0, 0, 0, .null), (24, .iload_n 2, 1, 0, 0, 0, .null), (25, .invokevirtual 342, 3, 195, 4, 1624, .ref 11), (28, .ifCond .ne 5, 3, 33, 0, 0, .null), (31, .iconst 0, 1, 0, 0, 0, .int 0), (32, .ireturn, 1, 0, 0, 0, .null), (33, .aload_n 0, 1, 0, 0, 0, .null), (34, .invokevirtual 345, 3, 177, 1, 1628, .ref 11), (37, .aload_n 0, 1, 0, 0, 0, .null), (38, .iconst 0, 1, 0, 0, 0, .int 0), (39, .iload_n 1, 1, 0, 0, 0, .null), (40, .iload_n 2, 1, 0, 0, 0, .null), (41, .invokevirtual 348, 3, 196, 4, 1636, .ref 11), (44, .iconst 1, 1, 0, 0, 0, .int 1), (45, .ireturn, 1, 0, 0, 0, .null)]
set_option maxRecDepth 100000 in
theorem oX11_walk : fc_code mX11_walk lX11_walk = true := by decide +kernel
def lX11_give : List fc_I := [(0, .aload_n 0, 1, 0, 0, 0, .null), (1, .iconst 0, 1, 0, 0, 0, .int 0), (2, .putfield 1, 3, 11, 0, 1347, .null), (5, .aload_n 0, 1, 0, 0, 0, .null), (6, .iload_n 1, 1, 0, 0, 0, .null), (7, .invokevirtual 339, 3, 187, 2, 1616, .ref 11), (10, .ifCond .eq 21, 3, 31, 0, 0, .null), (13, .aload_n 0, 1, 0, 0, 0, .null), (14, .iload_n 2, 1, 0, 0, 0, .null), (15, .invokevirtual 333, 3, 186, 2, 1596, .ref 11), (18, .ifCond .eq 13, 3, 31, 0, 0, .null), (21, .aload_n 0, 1, 0, 0, 0, .null), (22, .iconst 0, 1, 0, 0, 0, .int 0), (23, .iload_n 1, 1, 0, 0, 0, .null), (24, .iload_n 2, 1, 0, 0, 0, .null), (25, .invokevirtual 351, 3, 197, 4, 1644, .ref 11), (28, .ifCond .ne 5, 3, 33, 0, 0, .null), (31, .iconst (-1), 1, 0, 0, 0, .int (-1)), (32, .ireturn, 1, 0, 0, 0, .null), (33, .aload_n 0, 1, 0, 0, 0, .null), (34, .invokevirtual 345, 3, 177, 1, 1628, .ref 11), (37, .aload_n 0, 1, 0, 0, 0, .null), (38, .iconst 0, 1, 0, 0, 0, .int 0), (39, .iload_n 1, 1, 0, 0, 0, .null), (40, .iload_n 2, 1, 0, 0, 0, .null), (41, .invokevirtual 354, 3, 198, 4, 1648, .ref 11), (44, .ifCond .eq 7, 3, 51, 0, 0, .null), (47, .iconst 1, 1, 0, 0, 0, .int 1), (48, .goto 4, 3, 52, 0, 0, .null), (51, .iconst 0, 1, 0, 0, 0, .int 0), (52, .ireturn, 1, 0, 0, 0, .null)]
set_option maxRecDepth 100000 in
theorem oX11_give : fc_code mX11_give lX11_give = true := by decide +kernel
def lX11_vow : List fc_I := [(0, .aload_n 0, 1, 0, 0, 0, .null), (1, .iconst 0, 1, 0, 0, 0, .int 0), (2, .putfield 1, 3, 11, 0, 1347, .null), (5, .aload_n 0, 1, 0, 0, 0, .null), (6, .iload_n 1, 1, 0, 0, 0, .null), (7, .invokevirtual 333, 3, 186, 2, 1596, .ref 11), (10, .ifCond .eq 21, 3, 31, 0, 0, .null), (13, .aload_n 0, 1, 0, 0, 0, .null), (14, .iload_n 2, 1, 0, 0, 0, .null), (15, .invokevirtual 333, 3, 186, 2, 1596, .ref 11), (18, .ifCond .eq 13, 3, 31, 0, 0, .null), (21, .aload_n 0, 1, 0, 0, 0, .null), (22, .iconst 0, 1, 0, 0, 0, .int 0), (23, .iload_n 1, 1, 0, 0, 0, .null), (24, .iload_n 2, 1, 0, 0, 0, .null), (25, .invokevirtual 357, 3, 199, 4, 1674, .ref 11), (28, .ifCond .ne 5, 3, 33, 0, 0, .null), (31, .iconst (-1), 1, 0, 0, 0, .int (-1)), (32, .ireturn, 1, 0, 0, 0, .null), (33, .aload_n 0, 1, 0, 0, 0, .null), (34, .invokevirtual 345, 3, 177, 1, 1628, .ref 11), (37, .aload_n 0, 1, 0, 0, 0, .null), (38, .iconst 0, 1, 0, 0, 0, .int 0), (39, .iload_n 1, 1, 0, 0, 0, .null), (40, .iload_n 2, 1, 0, 0, 0, .null), (41, .invokevirtual 360, 3, 200, 4, 1678, .ref 11), (44, .ifCond .eq 7, 3, 51, 0, 0, .null), (47, .iconst 1, 1, 0, 0, 0, .int 1), (48, .goto 4, 3, 52, 0, 0, .null), (51, .iconst 0, 1, 0, 0, 0, .int 0), (52, .ireturn, 1, 0, 0, 0, .null)]
set_option maxRecDepth 100000 in
theorem oX11_vow : fc_code mX11_vow lX11_vow = true := by decide +kernel
def lX11_minute : List fc_I := [(0, .aload_n 0, 1, 0, 0, 0, .null), (1, .iconst 0, 1, 0, 0, 0, .int 0), (2, .putfield 1, 3, 11, 0, 1347, .null), (5, .aload_n 0, 1, 0, 0, 0, .null), (6, .invokevirtual 345, 3, 177, 1, 1628, .ref 11), (9, .aload_n 0, 1, 0, 0, 0, .null), (10, .iconst 0, 1, 0, 0, 0, .int 0), (11, .invokevirtual 363, 3, 202, 2, 1686, .ref 11), (14, .ireturn, 1, 0, 0, 0, .null)]
set_option maxRecDepth 100000 in
theorem oX11_minute : fc_code mX11_minute lX11_minute = true := by decide +kernel
def lX11_undo : List fc_I := [(0, .aload_n 0, 1, 0, 0, 0, .null), (1, .iconst 0, 1, 0, 0, 0, .int 0), (2, .putfield 1, 3, 11, 0, 1347, .null), (5, .aload_n 0, 1, 0, 0, 0, .null), (6, .getfield 286, 3, 11, 25, 1372, .null), (9, .ifCond .ne 5, 3, 14, 0, 0, .null), (12, .iconst 0, 1, 0, 0, 0, .int 0), (13, .ireturn, 1, 0, 0, 0, .null), (14, .aload_n 0, 1, 0, 0, 0, .null), (15, .dup, 1, 0, 0, 0, .null), (16, .getfield 286, 3, 11, 25, 1372, .null), (19, .iconst 1, 1, 0, 0, 0, .int 1), (20, .isub, 1, 0, 0, 0, .null), (21, .putfield 286, 3, 11, 25, 1372, .null), (24, .aload_n 0, 1, 0, 0, 0, .null), (25, .bipush 64, 2, 0, 0, 0, .int 64), (27, .iconst 5, 1, 0, 0, 0, .int 5), (28, .aload_n 0, 1, 0, 0, 0, .null), (29, .getfield 286, 3, 11, 25, 1372, .null), (32, .iadd, 1, 0, 0, 0, .null), (33, .imul, 1, 0, 0, 0, .null), (34, .iconst 0, 1, 0, 0, 0, .int 0), (35, .bipush 39, 2, 0, 0, 0, .int 39), (37, .invokevirtual 289, 3, 174, 4, 1632, .ref 11), (40, .iconst 1, 1, 0, 0, 0, .int 1), (41, .ireturn, 1, 0, 0, 0, .null)]
set_option maxRecDepth 100000 in
theorem oX11_undo : fc_code mX11_undo lX11_undo = true := by decide +kernel
def lX11_judged : List fc_I := [(0, .aload_n 0, 1, 0, 0, 0, .null), (1, .iconst 0, 1, 0, 0, 0, .int 0), (2, .putfield 1, 3, 11, 0, 1347, .null), (5, .iload_n 1, 1, 0, 0, 0, .null), (6, .iconst 0, 1, 0, 0, 0, .int 0), (7, .iconst 2, 1, 0, 0, 0, .int 2), (8, .invokestatic 202, 3, 150, 3, 1497, .retAddr 0), (11, .ifCond .ne 6, 3, 17, 0, 0, .null), (14, .bipush (-2), 2, 0, 0, 0, .int (-2)), (16, .ireturn, 1, 0, 0, 0, .null), (17, .aload_n 0, 1, 0, 0, 0, .null), (18, .sipush 1344, 3, 0, 0, 0, .int 1344), (21, .invokevirtual 283, 3, 175, 2, 1327, .ref 11), (24, .iconst (-1), 1, 0, 0, 0, .int (-1)), (25, .istore_n 2, 1, 0, 0, 0, .null), (26, .iconst (-1), 1, 0, 0, 0, .int (-1)), (27, .istore_n 3, 1, 0, 0, 0, .null), (28, .iconst 0, 1, 0, 0, 0, .int 0), (29, .istore 4, 2, 0, 0, 0, .null), (31, .iload 4, 2, 0, 0, 0, .null), (33, .aload_n 0, 1, 0, 0, 0, .null), (34, .getfield 108, 3, 11, 21, 1368, .null), (37, .iconst 0, 1, 0, 0, 0, .int 0), (38, .iaload, 1, 0, 0, 0, .null), (39, .if_icmp .ge 234, 3, 273, 0, 0, .null), (42, .aload_n 0, 1, 0, 0, 0, .null), (43, .getfield 108, 3, 11, 21, 1368, .null), (46, .iconst 1, 1, 0, 0, 0, .int 1), (47, .iconst 3, 1, 0, 0, 0, .int 3), (48, .iload 4, 2, 0, 0, 0, .null), (50, .imul, 1, 0, 0, 0, .null), (51, .iadd, 1, 0, 0, 0, .null), (52, .iaload, 1, 0, 0, 0, .null), (53, .istore 5, 2, 0, 0, 0, .null), (55, .aload_n 0, 1, 0, 0, 0, .null), (56, .getfield 108, 3, 11, 21, 1368, .null), (59, .iconst 2, 1, 0, 0, 0, .int 2), (60, .iconst 3, 1, 0, 0, 0, .int 3), (61, .iload 4, 2, 0, 0, 0, .null), (63, .imul, 1, 0, 0, 0, .null), (64, .iadd, 1, 0, 0, 0, .null), (65, .iaload, 1, 0, 0, 0, .null), (66, .istore 6, 2, 0, 0, 0, .null), (68, .aload_n 0, 1, 0, 0, 0, .null), (69, .getfield 108, 3, 11, 21, 1368, .null), (72, .iconst 3, 1, 0, 0, 0, .int 3), (73, .iconst 3, 1, 0, 0, 0, .int 3), (74, .iload 4, 2, 0, 0, 0, .null), (76, .imul, 1, 0, 0, 0, .null), (77, .iadd, 1, 0, 0, 0, .null), (78, .iaload, 1, 0, 0, 0, .null), (79, .istore 7, 2, 0, 0, 0, .null), (81, .iload 5, 2, 0, 0, 0, .null), (83, .ifCond .eq 63, 3, 146, 0, 0, .null), (86, .iload 5, 2, 0, 0, 0, .null), (88, .iconst 1, 1, 0, 0, 0, .int 1), (89, .if_icmp .ne 20, 3, 109, 0, 0, .null), (92, .aload_n 0, 1, 0, 0, 0, .null), (93, .sipush 1344, 3, 0, 0, 0, .int 1344), (96, .iload 6, 2, 0, 0, 0, .null), (98, .iload 7, 2, 0, 0, 0, .null), (100, .invokevirtual 342, 3, 195, 4, 1624, .ref 11), (103, .ifCond .eq 47, 3, 150, 0, 0, .null), (106, .goto 40, 3, 146, 0, 0, .null), (109, .iload 5, 2, 0, 0, 0, .null), (111, .iconst 2, 1, 0, 0, 0, .int 2), (112, .if_icmp .ne 20, 3, 132, 0, 0, .null), (115, .aload_n 0, 1, 0, 0, 0, .null), (116, .sipush 1344, 3, 0, 0, 0, .int 1344), (119, .iload 6, 2, 0, 0, 0, .null), (121, .iload 7, 2, 0, 0, 0, .null), (123, .invokevirtual 351, 3, 197, 4, 1644, .ref 11), (126, .ifCond .eq 24, 3, 150, 0, 0, .null), (129, .goto 17, 3, 146, 0, 0, .null), (132, .aload_n 0, 1, 0, 0, 0, .null), (133, .sipush 1344, 3, 0, 0, 0, .int 1344), (136, .iload 6, 2, 0, 0, 0, .null), (138, .iload 7, 2, 0, 0, 0, .null), (140, .invokevirtual 357, 3, 199, 4, 1674, .ref 11), (143, .ifCond .eq 7, 3, 150, 0, 0, .null), (146, .iconst 1, 1, 0, 0, 0, .int 1), (147, .goto 4, 3, 151, 0, 0, .null), (150, .iconst 0, 1, 0, 0, 0, .int 0), (151, .istore 8, 2, 0, 0, 0, .null), (153, .iload 8, 2, 0, 0, 0, .null), (155, .ifCond .ne 12, 3, 167, 0, 0, .null), (158, .iload_n 2, 1, 0, 0, 0, .null), (159, .ifCond .ge 8, 3, 167, 0, 0, .null), (162, .iload 4, 2, 0, 0, 0, .null), (164, .goto 4, 3, 168, 0, 0, .null), (167, .iload_n 2, 1, 0, 0, 0, .null), (168, .istore_n 2, 1, 0, 0, 0, .null), (169, .iconst 0, 1, 0, 0, 0, .int 0), (170, .istore 9, 2, 0, 0, 0, .null), (172, .iload 5, 2, 0, 0, 0, .null), (174, .ifCond .ne 14, 3, 188, 0, 0, .null), (177, .aload_n 0, 1, 0, 0, 0, .null), (178, .sipush 1344, 3, 0, 0, 0, .int 1344), (181, .invokevirtual 363, 3, 202, 2, 1686, .ref 11), (184, .pop, 1, 0, 0, 0, .null), (185, .goto 66, 3, 251, 0, 0, .null), (188, .iload 8, 2, 0, 0, 0, .null), (190, .ifCond .eq 23, 3, 213, 0, 0, .null), (193, .iload 5, 2, 0, 0, 0, .null), (195, .iconst 1, 1, 0, 0, 0, .int 1), (196, .if_icmp .ne 17, 3, 213, 0, 0, .null), (199, .aload_n 0, 1, 0, 0, 0, .null), (200, .sipush 1344, 3, 0, 0, 0, .int 1344), (203, .iload 6, 2, 0, 0, 0, .null), (205, .iload 7, 2, 0, 0, 0, .null), (207, .invokevirtual 348, 3, 196, 4, 1636, .ref 11), (210, .goto 41, 3, 251, 0, 0, .null), (213, .iload 8, 2, 0, 0, 0, .null), (215, .ifCond .eq 36, 3, 251, 0, 0, .null), (218, .iload 5, 2, 0, 0, 0, .null), (220, .iconst 2, 1, 0, 0, 0, .int 2), (221, .if_icmp .ne 17, 3, 238, 0, 0, .null), (224, .aload_n 0, 1, 0, 0, 0, .null), (225, .sipush 1344, 3, 0, 0, 0, .int 1344), (228, .iload 6, 2, 0, 0, 0, .null), (230, .iload 7, 2, 0, 0, 0, .null), (232, .invokevirtual 354, 3, 198, 4, 1648, .ref 11), (235, .goto 14, 3, 249, 0, 0, .null), (238, .aload_n 0, 1, 0, 0, 0, .null), (239, .sipush 1344, 3, 0, 0, 0, .int 1344), (242, .iload 6, 2, 0, 0, 0, .null), (244, .iload 7, 2, 0, 0, 0, .null), (246, .invokevirtual 360, 3, 200, 4, 1678, .ref 11), (249, .istore 9, 2, 0, 0, 0, .null), (251, .iload 9, 2, 0, 0, 0, .null), (253, .ifCond .eq 12, 3, 265, 0, 0, .null), (256, .iload_n 3, 1, 0, 0, 0, .null), (257, .ifCond .ge 8, 3, 265, 0, 0, .null), (260, .iload 4, 2, 0, 0, 0, .null), (262, .goto 4, 3, 266, 0, 0, .null), (265, .iload_n 3, 1, 0, 0, 0, .null), (266, .istore_n 3, 1, 0, 0, 0, .null), (267, .iinc 4 1, 3, 0, 0, 0, .null), (270, .goto (-239), 3, 31, 0, 0, .null), (273, .iconst 0, 1, 0, 0, 0, .int 0), (274, .istore 4, 2, 0, 0, 0, .null), (276, .iconst 0, 1, 0, 0, 0, .int 0), (277, .istore 5, 2, 0, 0, 0, .null), (279, .iload 5, 2, 0, 0, 0, .null), (281, .aload_n 0, 1, 0, 0, 0, .null), (282, .invokevirtual 277, 3, 180, 1, 1339, .ref 11), (285, .if_icmp .ge 40, 3, 325, 0, 0, .null), (288, .iload 4, 2, 0, 0, 0, .null), (290, .aload_n 0, 1, 0, 0, 0, .null), (291, .getfield 117, 3, 11, 24, 1371, .null), (294, .sipush 1356, 3, 0, 0, 0, .int 1356), (297, .iload 5, 2, 0, 0, 0, .null), (299, .iadd, 1, 0, 0, 0, .null), (300, .iaload, 1, 0, 0, 0, .null), (301, .aload_n 0, 1, 0, 0, 0, .null), (302, .iload 5, 2, 0, 0, 0, .null), (304, .iconst 1, 1, 0, 0, 0, .int 1), (305, .invokevirtual 280, 3, 184, 3, 1343, .ref 11), (308, .if_icmp .eq 7, 3, 315, 0, 0, .null), (311, .iconst 1, 1, 0, 0, 0, .int 1), (312, .goto 4, 3, 316, 0, 0, .null), (315, .iconst 0, 1, 0, 0, 0, .int 0), (316, .iadd, 1, 0, 0, 0, .null), (317, .istore 4, 2, 0, 0, 0, .null), (319, .iinc 5 1, 3, 0, 0, 0, .null), (322, .goto (-43), 3, 279, 0, 0, .null), (325, .iload_n 1, 1, 0, 0, 0, .null), (326, .ifCond .ne 7, 3, 333, 0, 0, .null), (329, .iload_n 2, 1, 0, 0, 0, .null), (330, .goto 14, 3, 344, 0, 0, .null), (333, .iload_n 1, 1, 0, 0, 0, .null), (334, .iconst 1, 1, 0, 0, 0, .int 1), (335, .if_icmp .ne 7, 3, 342, 0, 0, .null), (338, .iload_n 3, 1, 0, 0, 0, .null), (339, .goto 5, 3, 344, 0, 0, .null), (342, .iload 4, 2, 0, 0, 0, .null), (344, .ireturn, 1, 0, 0, 0, .null)]
set_option maxRecDepth 100000 in
theorem oX11_judged : fc_code mX11_judged lX11_judged = true := by decide +kernel
def lX11_onFrom : List fc_I := [(0, .iload_n 1, 1, 0, 0, 0, .null), (1, .istore_n 3, 1, 0, 0, 0, .null), (2, .iconst 0, 1, 0, 0, 0, .int 0), (3, .istore 4, 2, 0, 0, 0, .null), (5, .iload 4, 2, 0, 0, 0, .null), (7, .aload_n 0, 1, 0, 0, 0, .null), (8, .invokevirtual 292, 3, 178, 1, 1576, .ref 11), (11, .if_icmp .ge 32, 3, 43, 0, 0, .null), (14, .iload_n 3, 1, 0, 0, 0, .null), (15, .iload_n 1, 1, 0, 0, 0, .null), (16, .iload 4, 2, 0, 0, 0, .null), (18, .ishr, 1, 0, 0, 0, .null), (19, .iconst 1, 1, 0, 0, 0, .int 1), (20, .iand, 1, 0, 0, 0, .null), (21, .iconst 1, 1, 0, 0, 0, .int 1), (22, .if_icmp .ne 12, 3, 34, 0, 0, .null), (25, .aload_n 0, 1, 0, 0, 0, .null), (26, .iload 4, 2, 0, 0, 0, .null), (28, .invokevirtual 317, 3, 182, 2, 1580, .ref 11), (31, .goto 4, 3, 35, 0, 0, .null), (34, .iconst 0, 1, 0, 0, 0, .int 0), (35, .ior, 1, 0, 0, 0, .null), (36, .istore_n 3, 1, 0, 0, 0, .null), (37, .iinc 4 1, 3, 0, 0, 0, .null), (40, .goto (-35), 3, 5, 0, 0, .null), (43, .iload_n 3, 1, 0, 0, 0, .null), (44, .iload_n 2, 1, 0, 0, 0, .null), (45, .iconst (-1), 1, 0, 0, 0, .int (-1)), (46, .ixor, 1, 0, 0, 0, .null), (47, .iand, 1, 0, 0, 0, .null), (48, .ireturn, 1, 0, 0, 0, .null)]
set_option maxRecDepth 100000 in
theorem oX11_onFrom : fc_code mX11_onFrom lX11_onFrom = true := by decide +kernel
def lX11_reachBy : List fc_I := [(0, .iconst 1, 1, 0, 0, 0, .int 1), (1, .iload_n 1, 1, 0, 0, 0, .null), (2, .ishl, 1, 0, 0, 0, .null), (3, .istore_n 3, 1, 0, 0, 0, .null), (4, .iconst 0, 1, 0, 0, 0, .int 0), (5, .istore 4, 2, 0, 0, 0, .null), (7, .iload 4, 2, 0, 0, 0, .null), (9, .bipush 7, 2, 0, 0, 0, .int 7), (11, .if_icmp .ge 16, 3, 27, 0, 0, .null), (14, .aload_n 0, 1, 0, 0, 0, .null), (15, .iload_n 3, 1, 0, 0, 0, .null), (16, .iload_n 2, 1, 0, 0, 0, .null), (17, .invokevirtual 366, 3, 214, 3, 1714, .ref 11), (20, .istore_n 3, 1, 0, 0, 0, .null), (21, .iinc 4 1, 3, 0, 0, 0, .null), (24, .goto (-17), 3, 7, 0, 0, .null), (27, .iload_n 3, 1, 0, 0, 0, .null), (28, .ireturn, 1, 0, 0, 0, .null)]
set_option maxRecDepth 100000 in
theorem oX11_reachBy : fc_code mX11_reachBy lX11_reachBy = true := by decide +kernel
def lX11_farOf : List fc_I := [(0, .iconst 1, 1, 0, 0, 0, .int 1), (1, .iload_n 1, 1, 0, 0, 0, .null), (2, .ishl, 1, 0, 0, 0, .null), (3, .istore_n 3, 1, 0, 0, 0, .null), (4, .iconst 0, 1, 0, 0, 0, .int 0), (5, .istore 4, 2, 0, 0, 0, .null), (7, .iload 4, 2, 0, 0, 0, .null), (9, .bipush 7, 2, 0, 0, 0, .int 7), (11, .if_icmp .ge 28, 3, 39, 0, 0, .null), (14, .iload_n 3, 1, 0, 0, 0, .null), (15, .iload_n 2, 1, 0, 0, 0, .null), (16, .ishr, 1, 0, 0, 0, .null), (17, .iconst 1, 1, 0, 0, 0, .int 1), (18, .iand, 1, 0, 0, 0, .null), (19, .iconst 1, 1, 0, 0, 0, .int 1), (20, .if_icmp .ne 6, 3, 26, 0, 0, .null), (23, .iload 4, 2, 0, 0, 0, .null), (25, .ireturn, 1, 0, 0, 0, .null), (26, .aload_n 0, 1, 0, 0, 0, .null), (27, .iload_n 3, 1, 0, 0, 0, .null), (28, .iconst 0, 1, 0, 0, 0, .int 0), (29, .invokevirtual 366, 3, 214, 3, 1714, .ref 11), (32, .istore_n 3, 1, 0, 0, 0, .null), (33, .iinc 4 1, 3, 0, 0, 0, .null), (36, .goto (-29), 3, 7, 0, 0, .null), (39, .sipush 1000, 3, 0, 0, 0, .int 1000), (42, .ireturn, 1, 0, 0, 0, .null)]
set_option maxRecDepth 100000 in
theorem oX11_farOf : fc_code mX11_farOf lX11_farOf = true := by decide +kernel
def lX11_reach : List fc_I := [(0, .aload_n 0, 1, 0, 0, 0, .null), (1, .iconst 0, 1, 0, 0, 0, .int 0), (2, .putfield 1, 3, 11, 0, 1347, .null), (5, .aload_n 0, 1, 0, 0, 0, .null), (6, .iload_n 1, 1, 0, 0, 0, .null), (7, .invokevirtual 330, 3, 185, 2, 1572, .ref 11), (10, .ifCond .eq 12, 3, 22, 0, 0, .null), (13, .aload_n 0, 1, 0, 0, 0, .null), (14, .iload_n 1, 1, 0, 0, 0, .null), (15, .iconst 0, 1, 0, 0, 0, .int 0), (16, .invokevirtual 369, 3, 215, 3, 1710, .ref 11), (19, .goto 4, 3, 23, 0, 0, .null), (22, .iconst (-1), 1, 0, 0, 0, .int (-1)), (23, .ireturn, 1, 0, 0, 0, .null)]
set_option maxRecDepth 100000 in
theorem oX11_reach : fc_code mX11_reach lX11_reach = true := by decide +kernel
def lX11_far : List fc_I := [(0, .aload_n 0, 1, 0, 0, 0, .null), (1, .iconst 0, 1, 0, 0, 0, .int 0), (2, .putfield 1, 3, 11, 0, 1347, .null), (5, .aload_n 0, 1, 0, 0, 0, .null), (6, .iload_n 1, 1, 0, 0, 0, .null), (7, .invokevirtual 330, 3, 185, 2, 1572, .ref 11), (10, .ifCond .eq 20, 3, 30, 0, 0, .null), (13, .aload_n 0, 1, 0, 0, 0, .null), (14, .iload_n 2, 1, 0, 0, 0, .null), (15, .invokevirtual 330, 3, 185, 2, 1572, .ref 11), (18, .ifCond .eq 12, 3, 30, 0, 0, .null), (21, .aload_n 0, 1, 0, 0, 0, .null), (22, .iload_n 1, 1, 0, 0, 0, .null), (23, .iload_n 2, 1, 0, 0, 0, .null), (24, .invokevirtual 372, 3, 216, 3, 1722, .ref 11), (27, .goto 6, 3, 33, 0, 0, .null), (30, .sipush 1000, 3, 0, 0, 0, .int 1000), (33, .istore_n 3, 1, 0, 0, 0, .null), (34, .iload_n 3, 1, 0, 0, 0, .null), (35, .sipush 1000, 3, 0, 0, 0, .int 1000), (38, .if_icmp .ne 7, 3, 45, 0, 0, .null), (41, .iconst (-1), 1, 0, 0, 0, .int (-1)), (42, .goto 4, 3, 46, 0, 0, .null), (45, .iload_n 3, 1, 0, 0, 0, .null), (46, .ireturn, 1, 0, 0, 0, .null)]
set_option maxRecDepth 100000 in
theorem oX11_far : fc_code mX11_far lX11_far = true := by decide +kernel
def lX11_cuts : List fc_I := [(0, .aload_n 0, 1, 0, 0, 0, .null), (1, .iconst 0, 1, 0, 0, 0, .int 0), (2, .putfield 1, 3, 11, 0, 1347, .null), (5, .iconst 0, 1, 0, 0, 0, .int 0), (6, .istore_n 1, 1, 0, 0, 0, .null), (7, .iconst 0, 1, 0, 0, 0, .int 0), (8, .istore_n 2, 1, 0, 0, 0, .null), (9, .iload_n 2, 1, 0, 0, 0, .null), (10, .aload_n 0, 1, 0, 0, 0, .null), (11, .invokevirtual 292, 3, 178, 1, 1576, .ref 11), (14, .if_icmp .ge 88, 3, 102, 0, 0, .null), (17, .aload_n 0, 1, 0, 0, 0, .null), (18, .iload_n 2, 1, 0, 0, 0, .null), (19, .iconst 0, 1, 0, 0, 0, .int 0), (20, .invokevirtual 369, 3, 215, 3, 1710, .ref 11), (23, .iconst 1, 1, 0, 0, 0, .int 1), (24, .iload_n 2, 1, 0, 0, 0, .null), (25, .ishl, 1, 0, 0, 0, .null), (26, .iconst (-1), 1, 0, 0, 0, .int (-1)), (27, .ixor, 1, 0, 0, 0, .null), (28, .iand, 1, 0, 0, 0, .null), (29, .istore_n 3, 1, 0, 0, 0, .null), (30, .iconst 0, 1, 0, 0, 0, .int 0), (31, .istore 4, 2, 0, 0, 0, .null), (33, .iload 4, 2, 0, 0, 0, .null), (35, .aload_n 0, 1, 0, 0, 0, .null), (36, .invokevirtual 292, 3, 178, 1, 1576, .ref 11), (39, .if_icmp .ge 57, 3, 96, 0, 0, .null), (42, .iload_n 3, 1, 0, 0, 0, .null), (43, .iload 4, 2, 0, 0, 0, .null), (45, .ishr, 1, 0, 0, 0, .null), (46, .iconst 1, 1, 0, 0, 0, .int 1), (47, .iand, 1, 0, 0, 0, .null), (48, .iconst 1, 1, 0, 0, 0, .int 1), (49, .if_icmp .ne 23, 3, 72, 0, 0, .null), (52, .iload_n 3, 1, 0, 0, 0, .null), (53, .aload_n 0, 1, 0, 0, 0, .null), (54, .iload 4, 2, 0, 0, 0, .null), (56, .iconst 1, 1, 0, 0, 0, .int 1), (57, .iload_n 2, 1, 0, 0, 0, .null), (58, .ishl, 1, 0, 0, 0, .null), (59, .invokevirtual 369, 3, 215, 3, 1710, .ref 11), (62, .iconst (-1), 1, 0, 0, 0, .int (-1)), (63, .ixor, 1, 0, 0, 0, .null), (64, .iand, 1, 0, 0, 0, .null), (65, .ifCond .eq 7, 3, 72, 0, 0, .null), (68, .iconst 1, 1, 0, 0, 0, .int 1), (69, .goto 4, 3, 73, 0, 0, .null), (72, .iconst 0, 1, 0, 0, 0, .int 0), (73, .istore 5, 2, 0, 0, 0, .null), (75, .iload_n 1, 1, 0, 0, 0, .null), (76, .iload 5, 2, 0, 0, 0, .null), (78, .ifCond .eq 9, 3, 87, 0, 0, .null), (81, .iconst 1, 1, 0, 0, 0, .int 1), (82, .iload_n 2, 1, 0, 0, 0, .null), (83, .ishl, 1, 0, 0, 0, .null), (84, .goto 4, 3, 88, 0, 0, .null), (87, .iconst 0, 1, 0, 0, 0, .int 0), (88, .ior, 1, 0, 0, 0, .null), (89, .istore_n 1, 1, 0, 0, 0, .null), (90, .iinc 4 1, 3, 0, 0, 0, .null), (93, .goto (-60), 3, 33, 0, 0, .null), (96, .iinc 2 1, 3, 0, 0, 0, .null), (99, .goto (-90), 3, 9, 0, 0, .null), (102, .iload_n 1, 1, 0, 0, 0, .null), (103, .ireturn, 1, 0, 0, 0, .null)]
set_option maxRecDepth 100000 in
theorem oX11_cuts : fc_code mX11_cuts lX11_cuts = true := by decide +kernel
def lX11_hub : List fc_I := [(0, .aload_n 0, 1, 0, 0, 0, .null), (1, .iconst 0, 1, 0, 0, 0, .int 0), (2, .putfield 1, 3, 11, 0, 1347, .null), (5, .iconst (-1), 1, 0, 0, 0, .int (-1)), (6, .istore_n 1, 1, 0, 0, 0, .null), (7, .sipush 1000, 3, 0, 0, 0, .int 1000), (10, .istore_n 2, 1, 0, 0, 0, .null), (11, .iconst 0, 1, 0, 0, 0, .int 0), (12, .istore_n 3, 1, 0, 0, 0, .null), (13, .iload_n 3, 1, 0, 0, 0, .null), (14, .aload_n 0, 1, 0, 0, 0, .null), (15, .invokevirtual 292, 3, 178, 1, 1576, .ref 11), (18, .if_icmp .ge 88, 3, 106, 0, 0, .null), (21, .iconst 0, 1, 0, 0, 0, .int 0), (22, .istore 4, 2, 0, 0, 0, .null), (24, .iconst 0, 1, 0, 0, 0, .int 0), (25, .istore 5, 2, 0, 0, 0, .null), (27, .iload 5, 2, 0, 0, 0, .null), (29, .aload_n 0, 1, 0, 0, 0, .null), (30, .invokevirtual 292, 3, 178, 1, 1576, .ref 11), (33, .if_icmp .ge 42, 3, 75, 0, 0, .null), (36, .aload_n 0, 1, 0, 0, 0, .null), (37, .iload_n 3, 1, 0, 0, 0, .null), (38, .iload 5, 2, 0, 0, 0, .null), (40, .invokevirtual 372, 3, 216, 3, 1722, .ref 11), (43, .istore 6, 2, 0, 0, 0, .null), (45, .iload 6, 2, 0, 0, 0, .null), (47, .sipush 1000, 3, 0, 0, 0, .int 1000), (50, .if_icmp .ge 15, 3, 65, 0, 0, .null), (53, .iload 6, 2, 0, 0, 0, .null), (55, .iload 4, 2, 0, 0, 0, .null), (57, .if_icmp .le 8, 3, 65, 0, 0, .null), (60, .iload 6, 2, 0, 0, 0, .null), (62, .goto 5, 3, 67, 0, 0, .null), (65, .iload 4, 2, 0, 0, 0, .null), (67, .istore 4, 2, 0, 0, 0, .null), (69, .iinc 5 1, 3, 0, 0, 0, .null), (72, .goto (-45), 3, 27, 0, 0, .null), (75, .iload 4, 2, 0, 0, 0, .null), (77, .iload_n 2, 1, 0, 0, 0, .null), (78, .if_icmp .ge 7, 3, 85, 0, 0, .null), (81, .iload_n 3, 1, 0, 0, 0, .null), (82, .goto 4, 3, 86, 0, 0, .null), (85, .iload_n 1, 1, 0, 0, 0, .null), (86, .istore_n 1, 1, 0, 0, 0, .null), (87, .iload 4, 2, 0, 0, 0, .null), (89, .iload_n 2, 1, 0, 0, 0, .null), (90, .if_icmp .ge 8, 3, 98, 0, 0, .null), (93, .iload 4, 2, 0, 0, 0, .null), (95, .goto 4, 3, 99, 0, 0, .null), (98, .iload_n 2, 1, 0, 0, 0, .null), (99, .istore_n 2, 1, 0, 0, 0, .null), (100, .iinc 3 1, 3, 0, 0, 0, .null), (103, .goto (-90), 3, 13, 0, 0, .null), (106, .iload_n 1, 1, 0, 0, 0, .null), (107, .ireturn, 1, 0, 0, 0, .null)]
set_option maxRecDepth 100000 in
theorem oX11_hub : fc_code mX11_hub lX11_hub = true := by decide +kernel
def lX11_links : List fc_I := [(0, .aload_n 0, 1, 0, 0, 0, .null), (1, .iconst 0, 1, 0, 0, 0, .int 0), (2, .putfield 1, 3, 11, 0, 1347, .null), (5, .aload_n 0, 1, 0, 0, 0, .null), (6, .iload_n 1, 1, 0, 0, 0, .null), (7, .invokevirtual 330, 3, 185, 2, 1572, .ref 11), (10, .ifCond .eq 14, 3, 24, 0, 0, .null), (13, .aload_n 0, 1, 0, 0, 0, .null), (14, .iload_n 1, 1, 0, 0, 0, .null), (15, .invokevirtual 317, 3, 182, 2, 1580, .ref 11), (18, .invokestatic 305, 3, 188, 1, 1656, .retAddr 0), (21, .goto 4, 3, 25, 0, 0, .null), (24, .iconst (-1), 1, 0, 0, 0, .int (-1)), (25, .ireturn, 1, 0, 0, 0, .null)]
set_option maxRecDepth 100000 in
theorem oX11_links : fc_code mX11_links lX11_links = true := by decide +kernel
def lX11_wide : List fc_I := [(0, .aload_n 0, 1, 0, 0, 0, .null), (1, .iconst 0, 1, 0, 0, 0, .int 0), (2, .putfield 1, 3, 11, 0, 1347, .null), (5, .iconst (-1), 1, 0, 0, 0, .int (-1)), (6, .istore_n 1, 1, 0, 0, 0, .null), (7, .iconst 0, 1, 0, 0, 0, .int 0), (8, .istore_n 2, 1, 0, 0, 0, .null), (9, .iconst 0, 1, 0, 0, 0, .int 0), (10, .istore_n 3, 1, 0, 0, 0, .null), (11, .iload_n 3, 1, 0, 0, 0, .null), (12, .aload_n 0, 1, 0, 0, 0, .null), (13, .invokevirtual 292, 3, 178, 1, 1576, .ref 11), (16, .if_icmp .ge 88, 3, 104, 0, 0, .null), (19, .iload_n 3, 1, 0, 0, 0, .null), (20, .iconst 1, 1, 0, 0, 0, .int 1), (21, .iadd, 1, 0, 0, 0, .null), (22, .istore 4, 2, 0, 0, 0, .null), (24, .iload 4, 2, 0, 0, 0, .null), (26, .aload_n 0, 1, 0, 0, 0, .null), (27, .invokevirtual 292, 3, 178, 1, 1576, .ref 11), (30, .if_icmp .ge 68, 3, 98, 0, 0, .null), (33, .aload_n 0, 1, 0, 0, 0, .null), (34, .iload_n 3, 1, 0, 0, 0, .null), (35, .iload 4, 2, 0, 0, 0, .null), (37, .invokevirtual 372, 3, 216, 3, 1722, .ref 11), (40, .istore 5, 2, 0, 0, 0, .null), (42, .iload 5, 2, 0, 0, 0, .null), (44, .sipush 1000, 3, 0, 0, 0, .int 1000), (47, .if_icmp .ge 13, 3, 60, 0, 0, .null), (50, .iload 5, 2, 0, 0, 0, .null), (52, .iload_n 2, 1, 0, 0, 0, .null), (53, .if_icmp .le 7, 3, 60, 0, 0, .null), (56, .iconst 1, 1, 0, 0, 0, .int 1), (57, .goto 4, 3, 61, 0, 0, .null), (60, .iconst 0, 1, 0, 0, 0, .int 0), (61, .istore 6, 2, 0, 0, 0, .null), (63, .iload 6, 2, 0, 0, 0, .null), (65, .ifCond .eq 13, 3, 78, 0, 0, .null), (68, .bipush 8, 2, 0, 0, 0, .int 8), (70, .iload_n 3, 1, 0, 0, 0, .null), (71, .imul, 1, 0, 0, 0, .null), (72, .iload 4, 2, 0, 0, 0, .null), (74, .iadd, 1, 0, 0, 0, .null), (75, .goto 4, 3, 79, 0, 0, .null), (78, .iload_n 1, 1, 0, 0, 0, .null), (79, .istore_n 1, 1, 0, 0, 0, .null), (80, .iload 6, 2, 0, 0, 0, .null), (82, .ifCond .eq 8, 3, 90, 0, 0, .null), (85, .iload 5, 2, 0, 0, 0, .null), (87, .goto 4, 3, 91, 0, 0, .null), (90, .iload_n 2, 1, 0, 0, 0, .null), (91, .istore_n 2, 1, 0, 0, 0, .null), (92, .iinc 4 1, 3, 0, 0, 0, .null), (95, .goto (-71), 3, 24, 0, 0, .null), (98, .iinc 3 1, 3, 0, 0, 0, .null), (101, .goto (-90), 3, 11, 0, 0, .null), (104, .iload_n 1, 1, 0, 0, 0, .null), (105, .ireturn, 1, 0, 0, 0, .null)]
set_option maxRecDepth 100000 in
theorem oX11_wide : fc_code mX11_wide lX11_wide = true := by decide +kernel
def lX11_readyIn : List fc_I := [(0, .aload_n 0, 1, 0, 0, 0, .null), (1, .iload_n 1, 1, 0, 0, 0, .null), (2, .iconst 2, 1, 0, 0, 0, .int 2), (3, .invokevirtual 274, 3, 183, 3, 1335, .ref 11), (6, .aload_n 0, 1, 0, 0, 0, .null), (7, .getfield 117, 3, 11, 24, 1371, .null), (10, .iconst 1, 1, 0, 0, 0, .int 1), (11, .iaload, 1, 0, 0, 0, .null), (12, .isub, 1, 0, 0, 0, .null), (13, .istore_n 2, 1, 0, 0, 0, .null), (14, .aload_n 0, 1, 0, 0, 0, .null), (15, .getfield 117, 3, 11, 24, 1371, .null), (18, .bipush 7, 2, 0, 0, 0, .int 7), (20, .iload_n 1, 1, 0, 0, 0, .null), (21, .iadd, 1, 0, 0, 0, .null), (22, .iaload, 1, 0, 0, 0, .null), (23, .istore_n 3, 1, 0, 0, 0, .null), (24, .iload_n 2, 1, 0, 0, 0, .null), (25, .iload_n 3, 1, 0, 0, 0, .null), (26, .if_icmp .le 7, 3, 33, 0, 0, .null), (29, .iload_n 2, 1, 0, 0, 0, .null), (30, .goto 4, 3, 34, 0, 0, .null), (33, .iload_n 3, 1, 0, 0, 0, .null), (34, .ireturn, 1, 0, 0, 0, .null)]
set_option maxRecDepth 100000 in
theorem oX11_readyIn : fc_code mX11_readyIn lX11_readyIn = true := by decide +kernel
def lX11_paceOf : List fc_I := [(0, .aload_n 0, 1, 0, 0, 0, .null), (1, .iload_n 1, 1, 0, 0, 0, .null), (2, .iconst 0, 1, 0, 0, 0, .int 0), (3, .invokevirtual 274, 3, 183, 3, 1335, .ref 11), (6, .iconst 2, 1, 0, 0, 0, .int 2), (7, .if_icmp .ne 7, 3, 14, 0, 0, .null), (10, .iconst 2, 1, 0, 0, 0, .int 2), (11, .goto 4, 3, 15, 0, 0, .null), (14, .iconst 1, 1, 0, 0, 0, .int 1), (15, .ireturn, 1, 0, 0, 0, .null)]
set_option maxRecDepth 100000 in
theorem oX11_paceOf : fc_code mX11_paceOf lX11_paceOf = true := by decide +kernel
def lX11_soonOf : List fc_I := [(0, .aload_n 0, 1, 0, 0, 0, .null), (1, .aload_n 0, 1, 0, 0, 0, .null), (2, .getfield 117, 3, 11, 24, 1371, .null), (5, .iconst 2, 1, 0, 0, 0, .int 2), (6, .iload_n 1, 1, 0, 0, 0, .null), (7, .iadd, 1, 0, 0, 0, .null), (8, .iaload, 1, 0, 0, 0, .null), (9, .iload_n 2, 1, 0, 0, 0, .null), (10, .invokevirtual 372, 3, 216, 3, 1722, .ref 11), (13, .istore_n 3, 1, 0, 0, 0, .null), (14, .iload_n 3, 1, 0, 0, 0, .null), (15, .ifCond .ne 7, 3, 22, 0, 0, .null), (18, .iconst 0, 1, 0, 0, 0, .int 0), (19, .goto 29, 3, 48, 0, 0, .null), (22, .iload_n 3, 1, 0, 0, 0, .null), (23, .sipush 1000, 3, 0, 0, 0, .int 1000), (26, .if_icmp .ne 9, 3, 35, 0, 0, .null), (29, .sipush 1000, 3, 0, 0, 0, .int 1000), (32, .goto 16, 3, 48, 0, 0, .null), (35, .aload_n 0, 1, 0, 0, 0, .null), (36, .iload_n 1, 1, 0, 0, 0, .null), (37, .invokevirtual 375, 3, 223, 2, 1750, .ref 11), (40, .iload_n 3, 1, 0, 0, 0, .null), (41, .aload_n 0, 1, 0, 0, 0, .null), (42, .iload_n 1, 1, 0, 0, 0, .null), (43, .invokevirtual 378, 3, 224, 2, 1754, .ref 11), (46, .imul, 1, 0, 0, 0, .null), (47, .iadd, 1, 0, 0, 0, .null), (48, .ireturn, 1, 0, 0, 0, .null)]
set_option maxRecDepth 100000 in
theorem oX11_soonOf : fc_code mX11_soonOf lX11_soonOf = true := by decide +kernel
def lX11_told : List fc_I := [(0, .iload_n 0, 1, 0, 0, 0, .null), (1, .bipush 99, 2, 0, 0, 0, .int 99), (3, .if_icmp .le 7, 3, 10, 0, 0, .null), (6, .iconst (-1), 1, 0, 0, 0, .int (-1)), (7, .goto 4, 3, 11, 0, 0, .null), (10, .iload_n 0, 1, 0, 0, 0, .null), (11, .ireturn, 1, 0, 0, 0, .null)]
set_option maxRecDepth 100000 in
theorem oX11_told : fc_code mX11_told lX11_told = true := by decide +kernel
def lX11_soon : List fc_I := [(0, .aload_n 0, 1, 0, 0, 0, .null), (1, .iconst 0, 1, 0, 0, 0, .int 0), (2, .putfield 1, 3, 11, 0, 1347, .null), (5, .aload_n 0, 1, 0, 0, 0, .null), (6, .iload_n 1, 1, 0, 0, 0, .null), (7, .invokevirtual 333, 3, 186, 2, 1596, .ref 11), (10, .ifCond .eq 23, 3, 33, 0, 0, .null), (13, .aload_n 0, 1, 0, 0, 0, .null), (14, .iload_n 2, 1, 0, 0, 0, .null), (15, .invokevirtual 330, 3, 185, 2, 1572, .ref 11), (18, .ifCond .eq 15, 3, 33, 0, 0, .null), (21, .aload_n 0, 1, 0, 0, 0, .null), (22, .iload_n 1, 1, 0, 0, 0, .null), (23, .iload_n 2, 1, 0, 0, 0, .null), (24, .invokevirtual 381, 3, 225, 3, 1746, .ref 11), (27, .invokestatic 384, 3, 226, 1, 1758, .retAddr 0), (30, .goto 4, 3, 34, 0, 0, .null), (33, .iconst (-1), 1, 0, 0, 0, .int (-1)), (34, .ireturn, 1, 0, 0, 0, .null)]
set_option maxRecDepth 100000 in
theorem oX11_soon : fc_code mX11_soon lX11_soon = true := by decide +kernel
def lX11_meet : List fc_I := [(0, .aload_n 0, 1, 0, 0, 0, .null), (1, .iconst 0, 1, 0, 0, 0, .int 0), (2, .putfield 1, 3, 11, 0, 1347, .null), (5, .sipush 1000, 3, 0, 0, 0, .int 1000), (8, .istore_n 3, 1, 0, 0, 0, .null), (9, .iconst 0, 1, 0, 0, 0, .int 0), (10, .istore 4, 2, 0, 0, 0, .null), (12, .iload 4, 2, 0, 0, 0, .null), (14, .aload_n 0, 1, 0, 0, 0, .null), (15, .invokevirtual 292, 3, 178, 1, 1576, .ref 11), (18, .if_icmp .ge 77, 3, 95, 0, 0, .null), (21, .aload_n 0, 1, 0, 0, 0, .null), (22, .iload_n 1, 1, 0, 0, 0, .null), (23, .invokevirtual 333, 3, 186, 2, 1596, .ref 11), (26, .ifCond .eq 69, 3, 95, 0, 0, .null), (29, .aload_n 0, 1, 0, 0, 0, .null), (30, .iload_n 2, 1, 0, 0, 0, .null), (31, .invokevirtual 333, 3, 186, 2, 1596, .ref 11), (34, .ifCond .eq 61, 3, 95, 0, 0, .null), (37, .iload_n 1, 1, 0, 0, 0, .null), (38, .iload_n 2, 1, 0, 0, 0, .null), (39, .if_icmp .eq 56, 3, 95, 0, 0, .null), (42, .aload_n 0, 1, 0, 0, 0, .null), (43, .iload_n 1, 1, 0, 0, 0, .null), (44, .iload 4, 2, 0, 0, 0, .null), (46, .invokevirtual 381, 3, 225, 3, 1746, .ref 11), (49, .istore 5, 2, 0, 0, 0, .null), (51, .aload_n 0, 1, 0, 0, 0, .null), (52, .iload_n 2, 1, 0, 0, 0, .null), (53, .iload 4, 2, 0, 0, 0, .null), (55, .invokevirtual 381, 3, 225, 3, 1746, .ref 11), (58, .istore 6, 2, 0, 0, 0, .null), (60, .iload 5, 2, 0, 0, 0, .null), (62, .iload 6, 2, 0, 0, 0, .null), (64, .if_icmp .le 8, 3, 72, 0, 0, .null), (67, .iload 5, 2, 0, 0, 0, .null), (69, .goto 5, 3, 74, 0, 0, .null), (72, .iload 6, 2, 0, 0, 0, .null), (74, .istore 7, 2, 0, 0, 0, .null), (76, .iload 7, 2, 0, 0, 0, .null), (78, .iload_n 3, 1, 0, 0, 0, .null), (79, .if_icmp .ge 8, 3, 87, 0, 0, .null), (82, .iload 7, 2, 0, 0, 0, .null), (84, .goto 4, 3, 88, 0, 0, .null), (87, .iload_n 3, 1, 0, 0, 0, .null), (88, .istore_n 3, 1, 0, 0, 0, .null), (89, .iinc 4 1, 3, 0, 0, 0, .null), (92, .goto (-80), 3, 12, 0, 0, .null), (95, .iload_n 3, 1, 0, 0, 0, .null), (96, .invokestatic 384, 3, 226, 1, 1758, .retAddr 0), (99, .ireturn, 1, 0, 0, 0, .null)]
set_option maxRecDepth 100000 in
theorem oX11_meet : fc_code mX11_meet lX11_meet = true := by decide +kernel
def lX11_all : List fc_I := [(0, .aload_n 0, 1, 0, 0, 0, .null), (1, .iconst 0, 1, 0, 0, 0, .int 0), (2, .putfield 1, 3, 11, 0, 1347, .null), (5, .iconst (-1), 1, 0, 0, 0, .int (-1)), (6, .istore_n 2, 1, 0, 0, 0, .null), (7, .sipush 1000, 3, 0, 0, 0, .int 1000), (10, .istore_n 3, 1, 0, 0, 0, .null), (11, .iconst 0, 1, 0, 0, 0, .int 0), (12, .istore 4, 2, 0, 0, 0, .null), (14, .iload 4, 2, 0, 0, 0, .null), (16, .aload_n 0, 1, 0, 0, 0, .null), (17, .invokevirtual 292, 3, 178, 1, 1576, .ref 11), (20, .if_icmp .ge 89, 3, 109, 0, 0, .null), (23, .aload_n 0, 1, 0, 0, 0, .null), (24, .invokevirtual 270, 3, 179, 1, 1331, .ref 11), (27, .ifCond .le 82, 3, 109, 0, 0, .null), (30, .iconst 0, 1, 0, 0, 0, .int 0), (31, .istore 5, 2, 0, 0, 0, .null), (33, .iconst 0, 1, 0, 0, 0, .int 0), (34, .istore 6, 2, 0, 0, 0, .null), (36, .iload 6, 2, 0, 0, 0, .null), (38, .aload_n 0, 1, 0, 0, 0, .null), (39, .invokevirtual 270, 3, 179, 1, 1331, .ref 11), (42, .if_icmp .ge 35, 3, 77, 0, 0, .null), (45, .aload_n 0, 1, 0, 0, 0, .null), (46, .iload 6, 2, 0, 0, 0, .null), (48, .iload 4, 2, 0, 0, 0, .null), (50, .invokevirtual 381, 3, 225, 3, 1746, .ref 11), (53, .istore 7, 2, 0, 0, 0, .null), (55, .iload 7, 2, 0, 0, 0, .null), (57, .iload 5, 2, 0, 0, 0, .null), (59, .if_icmp .le 8, 3, 67, 0, 0, .null), (62, .iload 7, 2, 0, 0, 0, .null), (64, .goto 5, 3, 69, 0, 0, .null), (67, .iload 5, 2, 0, 0, 0, .null), (69, .istore 5, 2, 0, 0, 0, .null), (71, .iinc 6 1, 3, 0, 0, 0, .null), (74, .goto (-38), 3, 36, 0, 0, .null), (77, .iload 5, 2, 0, 0, 0, .null), (79, .iload_n 3, 1, 0, 0, 0, .null), (80, .if_icmp .ge 8, 3, 88, 0, 0, .null), (83, .iload 4, 2, 0, 0, 0, .null), (85, .goto 4, 3, 89, 0, 0, .null), (88, .iload_n 2, 1, 0, 0, 0, .null), (89, .istore_n 2, 1, 0, 0, 0, .null), (90, .iload 5, 2, 0, 0, 0, .null), (92, .iload_n 3, 1, 0, 0, 0, .null), (93, .if_icmp .ge 8, 3, 101, 0, 0, .null), (96, .iload 5, 2, 0, 0, 0, .null), (98, .goto 4, 3, 102, 0, 0, .null), (101, .iload_n 3, 1, 0, 0, 0, .null), (102, .istore_n 3, 1, 0, 0, 0, .null), (103, .iinc 4 1, 3, 0, 0, 0, .null), (106, .goto (-92), 3, 14, 0, 0, .null), (109, .iload_n 3, 1, 0, 0, 0, .null), (110, .bipush 99, 2, 0, 0, 0, .int 99), (112, .if_icmp .le 7, 3, 119, 0, 0, .null), (115, .iconst (-1), 1, 0, 0, 0, .int (-1)), (116, .goto 21, 3, 137, 0, 0, .null), (119, .iload_n 1, 1, 0, 0, 0, .null), (120, .ifCond .ne 7, 3, 127, 0, 0, .null), (123, .iload_n 2, 1, 0, 0, 0, .null), (124, .goto 13, 3, 137, 0, 0, .null), (127, .iload_n 1, 1, 0, 0, 0, .null), (128, .iconst 1, 1, 0, 0, 0, .int 1), (129, .if_icmp .ne 7, 3, 136, 0, 0, .null), (132, .iload_n 3, 1, 0, 0, 0, .null), (133, .goto 4, 3, 137, 0, 0, .null), (136, .iconst (-1), 1, 0, 0, 0, .int (-1)), (137, .ireturn, 1, 0, 0, 0, .null)]
set_option maxRecDepth 100000 in
theorem oX11_all : fc_code mX11_all lX11_all = true := by decide +kernel
def lX11_tour : List fc_I := [(0, .aload_n 0, 1, 0, 0, 0, .null), (1, .iconst 0, 1, 0, 0, 0, .int 0), (2, .putfield 1, 3, 11, 0, 1347, .null), (5, .aload_n 0, 1, 0, 0, 0, .null), (6, .iload_n 1, 1, 0, 0, 0, .null), (7, .invokevirtual 333, 3, 186, 2, 1596, .ref 11), (10, .ifCond .ne 5, 3, 15, 0, 0, .null), (13, .iconst (-1), 1, 0, 0, 0, .int (-1)), (14, .ireturn, 1, 0, 0, 0, .null), (15, .aload_n 0, 1, 0, 0, 0, .null), (16, .getfield 117, 3, 11, 24, 1371, .null), (19, .iconst 2, 1, 0, 0, 0, .int 2), (20, .iload_n 1, 1, 0, 0, 0, .null), (21, .iadd, 1, 0, 0, 0, .null), (22, .iaload, 1, 0, 0, 0, .null), (23, .istore_n 2, 1, 0, 0, 0, .null), (24, .aload_n 0, 1, 0, 0, 0, .null), (25, .iload_n 2, 1, 0, 0, 0, .null), (26, .iconst 0, 1, 0, 0, 0, .int 0), (27, .invokevirtual 369, 3, 215, 3, 1710, .ref 11), (30, .istore_n 3, 1, 0, 0, 0, .null), (31, .iload_n 3, 1, 0, 0, 0, .null), (32, .iconst 1, 1, 0, 0, 0, .int 1), (33, .iload_n 2, 1, 0, 0, 0, .null), (34, .ishl, 1, 0, 0, 0, .null), (35, .if_icmp .ne 5, 3, 40, 0, 0, .null), (38, .iconst 0, 1, 0, 0, 0, .int 0), (39, .ireturn, 1, 0, 0, 0, .null), (40, .iconst 0, 1, 0, 0, 0, .int 0), (41, .istore 4, 2, 0, 0, 0, .null), (43, .iload 4, 2, 0, 0, 0, .null), (45, .sipush 896, 3, 0, 0, 0, .int 896), (48, .if_icmp .ge 17, 3, 65, 0, 0, .null), (51, .aload_n 0, 1, 0, 0, 0, .null), (52, .getfield 127, 3, 11, 28, 1375, .null), (55, .iload 4, 2, 0, 0, 0, .null), (57, .iconst 0, 1, 0, 0, 0, .int 0), (58, .bastore, 1, 0, 0, 0, .null), (59, .iinc 4 1, 3, 0, 0, 0, .null), (62, .goto (-19), 3, 43, 0, 0, .null), (65, .aload_n 0, 1, 0, 0, 0, .null), (66, .getfield 127, 3, 11, 28, 1375, .null), (69, .sipush 128, 3, 0, 0, 0, .int 128), (72, .iload_n 2, 1, 0, 0, 0, .null), (73, .imul, 1, 0, 0, 0, .null), (74, .iconst 1, 1, 0, 0, 0, .int 1), (75, .iload_n 2, 1, 0, 0, 0, .null), (76, .ishl, 1, 0, 0, 0, .null), (77, .iadd, 1, 0, 0, 0, .null), (78, .iconst 1, 1, 0, 0, 0, .int 1), (79, .bastore, 1, 0, 0, 0, .null), (80, .iconst 0, 1, 0, 0, 0, .int 0), (81, .istore 4, 2, 0, 0, 0, .null), (83, .iload 4, 2, 0, 0, 0, .null), (85, .bipush 14, 2, 0, 0, 0, .int 14), (87, .if_icmp .gt 238, 3, 325, 0, 0, .null), (90, .iconst 0, 1, 0, 0, 0, .int 0), (91, .istore 5, 2, 0, 0, 0, .null), (93, .iload 5, 2, 0, 0, 0, .null), (95, .aload_n 0, 1, 0, 0, 0, .null), (96, .invokevirtual 292, 3, 178, 1, 1576, .ref 11), (99, .if_icmp .ge 43, 3, 142, 0, 0, .null), (102, .aload_n 0, 1, 0, 0, 0, .null), (103, .getfield 127, 3, 11, 28, 1375, .null), (106, .sipush 128, 3, 0, 0, 0, .int 128), (109, .iload 5, 2, 0, 0, 0, .null), (111, .imul, 1, 0, 0, 0, .null), (112, .iload_n 3, 1, 0, 0, 0, .null), (113, .iadd, 1, 0, 0, 0, .null), (114, .baload, 1, 0, 0, 0, .null), (115, .ifCond .eq 21, 3, 136, 0, 0, .null), (118, .aload_n 0, 1, 0, 0, 0, .null), (119, .iload_n 1, 1, 0, 0, 0, .null), (120, .invokevirtual 375, 3, 223, 2, 1750, .ref 11), (123, .iload 4, 2, 0, 0, 0, .null), (125, .aload_n 0, 1, 0, 0, 0, .null), (126, .iload_n 1, 1, 0, 0, 0, .null), (127, .invokevirtual 378, 3, 224, 2, 1754, .ref 11), (130, .imul, 1, 0, 0, 0, .null), (131, .iadd, 1, 0, 0, 0, .null), (132, .invokestatic 384, 3, 226, 1, 1758, .retAddr 0), (135, .ireturn, 1, 0, 0, 0, .null), (136, .iinc 5 1, 3, 0, 0, 0, .null), (139, .goto (-46), 3, 93, 0, 0, .null), (142, .sipush 896, 3, 0, 0, 0, .int 896), (145, .istore 5, 2, 0, 0, 0, .null), (147, .iload 5, 2, 0, 0, 0, .null), (149, .sipush 1792, 3, 0, 0, 0, .int 1792), (152, .if_icmp .ge 17, 3, 169, 0, 0, .null), (155, .aload_n 0, 1, 0, 0, 0, .null), (156, .getfield 127, 3, 11, 28, 1375, .null), (159, .iload 5, 2, 0, 0, 0, .null), (161, .iconst 0, 1, 0, 0, 0, .int 0), (162, .bastore, 1, 0, 0, 0, .null), (163, .iinc 5 1, 3, 0, 0, 0, .null), (166, .goto (-19), 3, 147, 0, 0, .null), (169, .iconst 0, 1, 0, 0, 0, .int 0), (170, .istore 5, 2, 0, 0, 0, .null), (172, .iload 5, 2, 0, 0, 0, .null), (174, .sipush 128, 3, 0, 0, 0, .int 128), (177, .aload_n 0, 1, 0, 0, 0, .null), (178, .invokevirtual 292, 3, 178, 1, 1576, .ref 11), (181, .imul, 1, 0, 0, 0, .null), (182, .if_icmp .ge 102, 3, 284, 0, 0, .null), (185, .iconst 0, 1, 0, 0, 0, .int 0), (186, .istore 6, 2, 0, 0, 0, .null), (188, .iload 6, 2, 0, 0, 0, .null), (190, .aload_n 0, 1, 0, 0, 0, .null), (191, .invokevirtual 292, 3, 178, 1, 1576, .ref 11), (194, .if_icmp .ge 84, 3, 278, 0, 0, .null), (197, .aload_n 0, 1, 0, 0, 0, .null), (198, .getfield 127, 3, 11, 28, 1375, .null), (201, .iload 5, 2, 0, 0, 0, .null), (203, .baload, 1, 0, 0, 0, .null), (204, .ifCond .eq 74, 3, 278, 0, 0, .null), (207, .sipush 896, 3, 0, 0, 0, .int 896), (210, .sipush 128, 3, 0, 0, 0, .int 128), (213, .iload 6, 2, 0, 0, 0, .null), (215, .imul, 1, 0, 0, 0, .null), (216, .iadd, 1, 0, 0, 0, .null), (217, .iload 5, 2, 0, 0, 0, .null), (219, .sipush 128, 3, 0, 0, 0, .int 128), (222, .irem, 1, 0, 0, 0, .null), (223, .iconst 1, 1, 0, 0, 0, .int 1), (224, .iload 6, 2, 0, 0, 0, .null), (226, .ishl, 1, 0, 0, 0, .null), (227, .ior, 1, 0, 0, 0, .null), (228, .iadd, 1, 0, 0, 0, .null), (229, .istore 7, 2, 0, 0, 0, .null), (231, .aload_n 0, 1, 0, 0, 0, .null), (232, .getfield 127, 3, 11, 28, 1375, .null), (235, .iload 7, 2, 0, 0, 0, .null), (237, .aload_n 0, 1, 0, 0, 0, .null), (238, .getfield 127, 3, 11, 28, 1375, .null), (241, .iload 7, 2, 0, 0, 0, .null), (243, .baload, 1, 0, 0, 0, .null), (244, .ifCond .ne 22, 3, 266, 0, 0, .null), (247, .aload_n 0, 1, 0, 0, 0, .null), (248, .iload 5, 2, 0, 0, 0, .null), (250, .sipush 128, 3, 0, 0, 0, .int 128), (253, .idiv, 1, 0, 0, 0, .null), (254, .invokevirtual 317, 3, 182, 2, 1580, .ref 11), (257, .iload 6, 2, 0, 0, 0, .null), (259, .ishr, 1, 0, 0, 0, .null), (260, .iconst 1, 1, 0, 0, 0, .int 1), (261, .iand, 1, 0, 0, 0, .null), (262, .iconst 1, 1, 0, 0, 0, .int 1), (263, .if_icmp .ne 7, 3, 270, 0, 0, .null), (266, .iconst 1, 1, 0, 0, 0, .int 1), (267, .goto 4, 3, 271, 0, 0, .null), (270, .iconst 0, 1, 0, 0, 0, .int 0), (271, .bastore, 1, 0, 0, 0, .null), (272, .iinc 6 1, 3, 0, 0, 0, .null), (275, .goto (-87), 3, 188, 0, 0, .null), (278, .iinc 5 1, 3, 0, 0, 0, .null), (281, .goto (-109), 3, 172, 0, 0, .null), (284, .iconst 0, 1, 0, 0, 0, .int 0), (285, .istore 5, 2, 0, 0, 0, .null), (287, .iload 5, 2, 0, 0, 0, .null), (289, .sipush 896, 3, 0, 0, 0, .int 896), (292, .if_icmp .ge 27, 3, 319, 0, 0, .null), (295, .aload_n 0, 1, 0, 0, 0, .null), (296, .getfield 127, 3, 11, 28, 1375, .null), (299, .iload 5, 2, 0, 0, 0, .null), (301, .aload_n 0, 1, 0, 0, 0, .null), (302, .getfield 127, 3, 11, 28, 1375, .null), (305, .sipush 896, 3, 0, 0, 0, .int 896), (308, .iload 5, 2, 0, 0, 0, .null), (310, .iadd, 1, 0, 0, 0, .null), (311, .baload, 1, 0, 0, 0, .null), (312, .bastore, 1, 0, 0, 0, .null), (313, .iinc 5 1, 3, 0, 0, 0, .null), (316, .goto (-29), 3, 287, 0, 0, .null), (319, .iinc 4 1, 3, 0, 0, 0, .null), (322, .goto (-239), 3, 83, 0, 0, .null), (325, .iconst (-1), 1, 0, 0, 0, .int (-1)), (326, .ireturn, 1, 0, 0, 0, .null)]
set_option maxRecDepth 100000 in
theorem oX11_tour : fc_code mX11_tour lX11_tour = true := by decide +kernel
def lX11_intime : List fc_I := [(0, .aload_n 0, 1, 0, 0, 0, .null), (1, .iconst 0, 1, 0, 0, 0, .int 0), (2, .putfield 1, 3, 11, 0, 1347, .null), (5, .aload_n 0, 1, 0, 0, 0, .null), (6, .iload_n 1, 1, 0, 0, 0, .null), (7, .invokevirtual 333, 3, 186, 2, 1596, .ref 11), (10, .ifCond .eq 46, 3, 56, 0, 0, .null), (13, .aload_n 0, 1, 0, 0, 0, .null), (14, .iload_n 2, 1, 0, 0, 0, .null), (15, .invokevirtual 330, 3, 185, 2, 1572, .ref 11), (18, .ifCond .eq 38, 3, 56, 0, 0, .null), (21, .aload_n 0, 1, 0, 0, 0, .null), (22, .iload_n 1, 1, 0, 0, 0, .null), (23, .iload_n 2, 1, 0, 0, 0, .null), (24, .invokevirtual 381, 3, 225, 3, 1746, .ref 11), (27, .bipush 99, 2, 0, 0, 0, .int 99), (29, .if_icmp .gt 27, 3, 56, 0, 0, .null), (32, .aload_n 0, 1, 0, 0, 0, .null), (33, .getfield 117, 3, 11, 24, 1371, .null), (36, .iconst 1, 1, 0, 0, 0, .int 1), (37, .iaload, 1, 0, 0, 0, .null), (38, .aload_n 0, 1, 0, 0, 0, .null), (39, .iload_n 1, 1, 0, 0, 0, .null), (40, .iload_n 2, 1, 0, 0, 0, .null), (41, .invokevirtual 381, 3, 225, 3, 1746, .ref 11), (44, .iadd, 1, 0, 0, 0, .null), (45, .aload_n 0, 1, 0, 0, 0, .null), (46, .invokevirtual 324, 3, 181, 1, 1690, .ref 11), (49, .if_icmp .ge 7, 3, 56, 0, 0, .null), (52, .iconst 1, 1, 0, 0, 0, .int 1), (53, .goto 4, 3, 57, 0, 0, .null), (56, .iconst 0, 1, 0, 0, 0, .int 0), (57, .ireturn, 1, 0, 0, 0, .null)]
set_option maxRecDepth 100000 in
theorem oX11_intime : fc_code mX11_intime lX11_intime = true := by decide +kernel
def lX11_back : List fc_I := [(0, .aload_n 0, 1, 0, 0, 0, .null), (1, .iconst 0, 1, 0, 0, 0, .int 0), (2, .putfield 1, 3, 11, 0, 1347, .null), (5, .aload_n 0, 1, 0, 0, 0, .null), (6, .iconst 0, 1, 0, 0, 0, .int 0), (7, .invokevirtual 386, 3, 204, 2, 1781, .ref 11), (10, .ireturn, 1, 0, 0, 0, .null)]
set_option maxRecDepth 100000 in
theorem oX11_back : fc_code mX11_back lX11_back = true := by decide +kernel
def lX11_could : List fc_I := [(0, .aload_n 0, 1, 0, 0, 0, .null), (1, .iconst 0, 1, 0, 0, 0, .int 0), (2, .putfield 1, 3, 11, 0, 1347, .null), (5, .aload_n 0, 1, 0, 0, 0, .null), (6, .iload_n 1, 1, 0, 0, 0, .null), (7, .invokevirtual 339, 3, 187, 2, 1616, .ref 11), (10, .ifCond .ne 5, 3, 15, 0, 0, .null), (13, .iconst (-1), 1, 0, 0, 0, .int (-1)), (14, .ireturn, 1, 0, 0, 0, .null), (15, .iconst 0, 1, 0, 0, 0, .int 0), (16, .istore_n 2, 1, 0, 0, 0, .null), (17, .iconst 0, 1, 0, 0, 0, .int 0), (18, .istore_n 3, 1, 0, 0, 0, .null), (19, .iload_n 3, 1, 0, 0, 0, .null), (20, .aload_n 0, 1, 0, 0, 0, .null), (21, .invokevirtual 270, 3, 179, 1, 1331, .ref 11), (24, .if_icmp .ge 29, 3, 53, 0, 0, .null), (27, .iload_n 2, 1, 0, 0, 0, .null), (28, .aload_n 0, 1, 0, 0, 0, .null), (29, .iconst 0, 1, 0, 0, 0, .int 0), (30, .iload_n 1, 1, 0, 0, 0, .null), (31, .iload_n 3, 1, 0, 0, 0, .null), (32, .invokevirtual 351, 3, 197, 4, 1644, .ref 11), (35, .ifCond .eq 9, 3, 44, 0, 0, .null), (38, .iconst 1, 1, 0, 0, 0, .int 1), (39, .iload_n 3, 1, 0, 0, 0, .null), (40, .ishl, 1, 0, 0, 0, .null), (41, .goto 4, 3, 45, 0, 0, .null), (44, .iconst 0, 1, 0, 0, 0, .int 0), (45, .ior, 1, 0, 0, 0, .null), (46, .istore_n 2, 1, 0, 0, 0, .null), (47, .iinc 3 1, 3, 0, 0, 0, .null), (50, .goto (-31), 3, 19, 0, 0, .null), (53, .iload_n 2, 1, 0, 0, 0, .null), (54, .ireturn, 1, 0, 0, 0, .null)]
set_option maxRecDepth 100000 in
theorem oX11_could : fc_code mX11_could lX11_could = true := by decide +kernel
def lX11_wouldBind : List fc_I := [(0, .aload_n 0, 1, 0, 0, 0, .null), (1, .iconst 0, 1, 0, 0, 0, .int 0), (2, .aload_n 0, 1, 0, 0, 0, .null), (3, .getfield 117, 3, 11, 24, 1371, .null), (6, .bipush 12, 2, 0, 0, 0, .int 12), (8, .iload_n 1, 1, 0, 0, 0, .null), (9, .iadd, 1, 0, 0, 0, .null), (10, .iaload, 1, 0, 0, 0, .null), (11, .iload_n 2, 1, 0, 0, 0, .null), (12, .aload_n 0, 1, 0, 0, 0, .null), (13, .iload_n 1, 1, 0, 0, 0, .null), (14, .iconst 0, 1, 0, 0, 0, .int 0), (15, .invokevirtual 280, 3, 184, 3, 1343, .ref 11), (18, .iload_n 3, 1, 0, 0, 0, .null), (19, .invokevirtual 320, 3, 194, 6, 1652, .ref 11), (22, .ireturn, 1, 0, 0, 0, .null)]
set_option maxRecDepth 100000 in
theorem oX11_wouldBind : fc_code mX11_wouldBind lX11_wouldBind = true := by decide +kernel
def lX11_isGift : List fc_I := [(0, .aload_n 0, 1, 0, 0, 0, .null), (1, .iload_n 1, 1, 0, 0, 0, .null), (2, .invokevirtual 339, 3, 187, 2, 1616, .ref 11), (5, .ifCond .eq 28, 3, 33, 0, 0, .null), (8, .aload_n 0, 1, 0, 0, 0, .null), (9, .iload_n 2, 1, 0, 0, 0, .null), (10, .invokevirtual 333, 3, 186, 2, 1596, .ref 11), (13, .ifCond .eq 20, 3, 33, 0, 0, .null), (16, .aload_n 0, 1, 0, 0, 0, .null), (17, .getfield 117, 3, 11, 24, 1371, .null), (20, .bipush 12, 2, 0, 0, 0, .int 12), (22, .iload_n 1, 1, 0, 0, 0, .null), (23, .iadd, 1, 0, 0, 0, .null), (24, .iaload, 1, 0, 0, 0, .null), (25, .iload_n 2, 1, 0, 0, 0, .null), (26, .if_icmp .eq 7, 3, 33, 0, 0, .null), (29, .iconst 1, 1, 0, 0, 0, .int 1), (30, .goto 4, 3, 34, 0, 0, .null), (33, .iconst 0, 1, 0, 0, 0, .int 0), (34, .ireturn, 1, 0, 0, 0, .null)]
set_option maxRecDepth 100000 in
theorem oX11_isGift : fc_code mX11_isGift lX11_isGift = true := by decide +kernel
def lX11_would : List fc_I := [(0, .aload_n 0, 1, 0, 0, 0, .null), (1, .iconst 0, 1, 0, 0, 0, .int 0), (2, .putfield 1, 3, 11, 0, 1347, .null), (5, .aload_n 0, 1, 0, 0, 0, .null), (6, .iload_n 1, 1, 0, 0, 0, .null), (7, .iload_n 2, 1, 0, 0, 0, .null), (8, .invokevirtual 389, 3, 235, 3, 1793, .ref 11), (11, .ifCond .eq 22, 3, 33, 0, 0, .null), (14, .aload_n 0, 1, 0, 0, 0, .null), (15, .iload_n 1, 1, 0, 0, 0, .null), (16, .iload_n 2, 1, 0, 0, 0, .null), (17, .aload_n 0, 1, 0, 0, 0, .null), (18, .getfield 117, 3, 11, 24, 1371, .null), (21, .iconst 1, 1, 0, 0, 0, .int 1), (22, .iaload, 1, 0, 0, 0, .null), (23, .invokevirtual 392, 3, 234, 4, 1797, .ref 11), (26, .ifCond .eq 7, 3, 33, 0, 0, .null), (29, .iconst 1, 1, 0, 0, 0, .int 1), (30, .goto 4, 3, 34, 0, 0, .null), (33, .iconst 0, 1, 0, 0, 0, .int 0), (34, .ireturn, 1, 0, 0, 0, .null)]
set_option maxRecDepth 100000 in
theorem oX11_would : fc_code mX11_would lX11_would = true := by decide +kernel
def lX11_when : List fc_I := [(0, .aload_n 0, 1, 0, 0, 0, .null), (1, .iconst 0, 1, 0, 0, 0, .int 0), (2, .putfield 1, 3, 11, 0, 1347, .null), (5, .aload_n 0, 1, 0, 0, 0, .null), (6, .getfield 117, 3, 11, 24, 1371, .null), (9, .iconst 1, 1, 0, 0, 0, .int 1), (10, .iaload, 1, 0, 0, 0, .null), (11, .istore_n 3, 1, 0, 0, 0, .null), (12, .iload_n 3, 1, 0, 0, 0, .null), (13, .aload_n 0, 1, 0, 0, 0, .null), (14, .invokevirtual 324, 3, 181, 1, 1690, .ref 11), (17, .if_icmp .ge 30, 3, 47, 0, 0, .null), (20, .aload_n 0, 1, 0, 0, 0, .null), (21, .iload_n 1, 1, 0, 0, 0, .null), (22, .iload_n 2, 1, 0, 0, 0, .null), (23, .invokevirtual 389, 3, 235, 3, 1793, .ref 11), (26, .ifCond .eq 21, 3, 47, 0, 0, .null), (29, .aload_n 0, 1, 0, 0, 0, .null), (30, .iload_n 1, 1, 0, 0, 0, .null), (31, .iload_n 2, 1, 0, 0, 0, .null), (32, .iload_n 3, 1, 0, 0, 0, .null), (33, .invokevirtual 392, 3, 234, 4, 1797, .ref 11), (36, .ifCond .eq 5, 3, 41, 0, 0, .null), (39, .iload_n 3, 1, 0, 0, 0, .null), (40, .ireturn, 1, 0, 0, 0, .null), (41, .iinc 3 1, 3, 0, 0, 0, .null), (44, .goto (-32), 3, 12, 0, 0, .null), (47, .iconst (-1), 1, 0, 0, 0, .int (-1)), (48, .ireturn, 1, 0, 0, 0, .null)]
set_option maxRecDepth 100000 in
theorem oX11_when : fc_code mX11_when lX11_when = true := by decide +kernel
def lX11_vows : List fc_I := [(0, .aload_n 0, 1, 0, 0, 0, .null), (1, .iconst 0, 1, 0, 0, 0, .int 0), (2, .putfield 1, 3, 11, 0, 1347, .null), (5, .aload_n 0, 1, 0, 0, 0, .null), (6, .iload_n 1, 1, 0, 0, 0, .null), (7, .invokevirtual 333, 3, 186, 2, 1596, .ref 11), (10, .ifCond .eq 24, 3, 34, 0, 0, .null), (13, .aload_n 0, 1, 0, 0, 0, .null), (14, .getfield 117, 3, 11, 24, 1371, .null), (17, .iload_n 2, 1, 0, 0, 0, .null), (18, .ifCond .eq 8, 3, 26, 0, 0, .null), (21, .bipush 29, 2, 0, 0, 0, .int 29), (23, .goto 5, 3, 28, 0, 0, .null), (26, .bipush 24, 2, 0, 0, 0, .int 24), (28, .iload_n 1, 1, 0, 0, 0, .null), (29, .iadd, 1, 0, 0, 0, .null), (30, .iaload, 1, 0, 0, 0, .null), (31, .goto 4, 3, 35, 0, 0, .null), (34, .iconst (-1), 1, 0, 0, 0, .int (-1)), (35, .ireturn, 1, 0, 0, 0, .null)]
set_option maxRecDepth 100000 in
theorem oX11_vows : fc_code mX11_vows lX11_vows = true := by decide +kernel
def lX11_sees : List fc_I := [(0, .aload_n 0, 1, 0, 0, 0, .null), (1, .iconst 0, 1, 0, 0, 0, .int 0), (2, .putfield 1, 3, 11, 0, 1347, .null), (5, .aload_n 0, 1, 0, 0, 0, .null), (6, .iload_n 1, 1, 0, 0, 0, .null), (7, .invokevirtual 333, 3, 186, 2, 1596, .ref 11), (10, .ifCond .ne 5, 3, 15, 0, 0, .null), (13, .iconst (-1), 1, 0, 0, 0, .int (-1)), (14, .ireturn, 1, 0, 0, 0, .null), (15, .aload_n 0, 1, 0, 0, 0, .null), (16, .getfield 117, 3, 11, 24, 1371, .null), (19, .iconst 2, 1, 0, 0, 0, .int 2), (20, .iload_n 1, 1, 0, 0, 0, .null), (21, .iadd, 1, 0, 0, 0, .null), (22, .iaload, 1, 0, 0, 0, .null), (23, .istore_n 2, 1, 0, 0, 0, .null), (24, .aload_n 0, 1, 0, 0, 0, .null), (25, .iconst 0, 1, 0, 0, 0, .int 0), (26, .iload_n 2, 1, 0, 0, 0, .null), (27, .invokevirtual 299, 3, 192, 3, 1584, .ref 11), (30, .istore_n 3, 1, 0, 0, 0, .null), (31, .iconst 0, 1, 0, 0, 0, .int 0), (32, .istore 4, 2, 0, 0, 0, .null), (34, .iload 4, 2, 0, 0, 0, .null), (36, .aload_n 0, 1, 0, 0, 0, .null), (37, .invokevirtual 292, 3, 178, 1, 1576, .ref 11), (40, .if_icmp .ge 37, 3, 77, 0, 0, .null), (43, .iload_n 3, 1, 0, 0, 0, .null), (44, .aload_n 0, 1, 0, 0, 0, .null), (45, .iload_n 2, 1, 0, 0, 0, .null), (46, .invokevirtual 317, 3, 182, 2, 1580, .ref 11), (49, .iload 4, 2, 0, 0, 0, .null), (51, .ishr, 1, 0, 0, 0, .null), (52, .iconst 1, 1, 0, 0, 0, .int 1), (53, .iand, 1, 0, 0, 0, .null), (54, .iconst 1, 1, 0, 0, 0, .int 1), (55, .if_icmp .ne 13, 3, 68, 0, 0, .null), (58, .aload_n 0, 1, 0, 0, 0, .null), (59, .iconst 0, 1, 0, 0, 0, .int 0), (60, .iload 4, 2, 0, 0, 0, .null), (62, .invokevirtual 299, 3, 192, 3, 1584, .ref 11), (65, .goto 4, 3, 69, 0, 0, .null), (68, .iconst 0, 1, 0, 0, 0, .int 0), (69, .ior, 1, 0, 0, 0, .null), (70, .istore_n 3, 1, 0, 0, 0, .null), (71, .iinc 4 1, 3, 0, 0, 0, .null), (74, .goto (-40), 3, 34, 0, 0, .null), (77, .iload_n 3, 1, 0, 0, 0, .null), (78, .iconst 1, 1, 0, 0, 0, .int 1), (79, .iload_n 1, 1, 0, 0, 0, .null), (80, .ishl, 1, 0, 0, 0, .null), (81, .iconst (-1), 1, 0, 0, 0, .int (-1)), (82, .ixor, 1, 0, 0, 0, .null), (83, .iand, 1, 0, 0, 0, .null), (84, .ireturn, 1, 0, 0, 0, .null)]
set_option maxRecDepth 100000 in
theorem oX11_sees : fc_code mX11_sees lX11_sees = true := by decide +kernel
def lX11_heard : List fc_I := [(0, .aload_n 0, 1, 0, 0, 0, .null), (1, .iconst 0, 1, 0, 0, 0, .int 0), (2, .putfield 1, 3, 11, 0, 1347, .null), (5, .aload_n 0, 1, 0, 0, 0, .null), (6, .iload_n 1, 1, 0, 0, 0, .null), (7, .invokevirtual 333, 3, 186, 2, 1596, .ref 11), (10, .ifCond .eq 15, 3, 25, 0, 0, .null), (13, .aload_n 0, 1, 0, 0, 0, .null), (14, .getfield 117, 3, 11, 24, 1371, .null), (17, .bipush 34, 2, 0, 0, 0, .int 34), (19, .iload_n 1, 1, 0, 0, 0, .null), (20, .iadd, 1, 0, 0, 0, .null), (21, .iaload, 1, 0, 0, 0, .null), (22, .goto 4, 3, 26, 0, 0, .null), (25, .iconst (-1), 1, 0, 0, 0, .int (-1)), (26, .ireturn, 1, 0, 0, 0, .null)]
set_option maxRecDepth 100000 in
theorem oX11_heard : fc_code mX11_heard lX11_heard = true := by decide +kernel
def lX11_heardOfAll : List fc_I := [(0, .iconst 0, 1, 0, 0, 0, .int 0), (1, .istore_n 2, 1, 0, 0, 0, .null), (2, .iconst 0, 1, 0, 0, 0, .int 0), (3, .istore_n 3, 1, 0, 0, 0, .null), (4, .iload_n 3, 1, 0, 0, 0, .null), (5, .aload_n 0, 1, 0, 0, 0, .null), (6, .invokevirtual 270, 3, 179, 1, 1331, .ref 11), (9, .if_icmp .ge 26, 3, 35, 0, 0, .null), (12, .iload_n 2, 1, 0, 0, 0, .null), (13, .aload_n 0, 1, 0, 0, 0, .null), (14, .getfield 117, 3, 11, 24, 1371, .null), (17, .iload_n 1, 1, 0, 0, 0, .null), (18, .bipush 34, 2, 0, 0, 0, .int 34), (20, .iadd, 1, 0, 0, 0, .null), (21, .iload_n 3, 1, 0, 0, 0, .null), (22, .iadd, 1, 0, 0, 0, .null), (23, .iaload, 1, 0, 0, 0, .null), (24, .invokestatic 305, 3, 188, 1, 1656, .retAddr 0), (27, .iadd, 1, 0, 0, 0, .null), (28, .istore_n 2, 1, 0, 0, 0, .null), (29, .iinc 3 1, 3, 0, 0, 0, .null), (32, .goto (-28), 3, 4, 0, 0, .null), (35, .iload_n 2, 1, 0, 0, 0, .null), (36, .ireturn, 1, 0, 0, 0, .null)]
set_option maxRecDepth 100000 in
theorem oX11_heardOfAll : fc_code mX11_heardOfAll lX11_heardOfAll = true := by decide +kernel
def lX11_triesNow : List fc_I := [(0, .aload_n 0, 1, 0, 0, 0, .null), (1, .iconst 0, 1, 0, 0, 0, .int 0), (2, .sipush 1344, 3, 0, 0, 0, .int 1344), (5, .bipush 39, 2, 0, 0, 0, .int 39), (7, .invokevirtual 289, 3, 174, 4, 1632, .ref 11), (10, .return_, 1, 0, 0, 0, .null)]
set_option maxRecDepth 100000 in
theorem oX11_triesNow : fc_code mX11_triesNow lX11_triesNow = true := by decide +kernel
def lX11_news : List fc_I := [(0, .aload_n 0, 1, 0, 0, 0, .null), (1, .iconst 0, 1, 0, 0, 0, .int 0), (2, .putfield 1, 3, 11, 0, 1347, .null), (5, .aload_n 0, 1, 0, 0, 0, .null), (6, .invokevirtual 395, 3, 242, 1, 1821, .ref 11), (9, .iconst 0, 1, 0, 0, 0, .int 0), (10, .istore_n 1, 1, 0, 0, 0, .null), (11, .iload_n 1, 1, 0, 0, 0, .null), (12, .bipush 99, 2, 0, 0, 0, .int 99), (14, .if_icmp .gt 38, 3, 52, 0, 0, .null), (17, .aload_n 0, 1, 0, 0, 0, .null), (18, .sipush 1344, 3, 0, 0, 0, .int 1344), (21, .invokevirtual 398, 3, 241, 2, 1825, .ref 11), (24, .aload_n 0, 1, 0, 0, 0, .null), (25, .invokevirtual 270, 3, 179, 1, 1331, .ref 11), (28, .aload_n 0, 1, 0, 0, 0, .null), (29, .invokevirtual 270, 3, 179, 1, 1331, .ref 11), (32, .imul, 1, 0, 0, 0, .null), (33, .if_icmp .ne 5, 3, 38, 0, 0, .null), (36, .iload_n 1, 1, 0, 0, 0, .null), (37, .ireturn, 1, 0, 0, 0, .null), (38, .aload_n 0, 1, 0, 0, 0, .null), (39, .sipush 1344, 3, 0, 0, 0, .int 1344), (42, .invokevirtual 363, 3, 202, 2, 1686, .ref 11), (45, .pop, 1, 0, 0, 0, .null), (46, .iinc 1 1, 3, 0, 0, 0, .null), (49, .goto (-38), 3, 11, 0, 0, .null), (52, .iconst (-1), 1, 0, 0, 0, .int (-1)), (53, .ireturn, 1, 0, 0, 0, .null)]
set_option maxRecDepth 100000 in
theorem oX11_news : fc_code mX11_news lX11_news = true := by decide +kernel
def lX11_alone : List fc_I := [(0, .aload_n 0, 1, 0, 0, 0, .null), (1, .iconst 0, 1, 0, 0, 0, .int 0), (2, .putfield 1, 3, 11, 0, 1347, .null), (5, .aload_n 0, 1, 0, 0, 0, .null), (6, .aload_n 0, 1, 0, 0, 0, .null), (7, .getfield 117, 3, 11, 24, 1371, .null), (10, .iconst 1, 1, 0, 0, 0, .int 1), (11, .iaload, 1, 0, 0, 0, .null), (12, .invokevirtual 302, 3, 189, 2, 1588, .ref 11), (15, .istore_n 1, 1, 0, 0, 0, .null), (16, .iconst 0, 1, 0, 0, 0, .int 0), (17, .istore_n 2, 1, 0, 0, 0, .null), (18, .iconst 0, 1, 0, 0, 0, .int 0), (19, .istore_n 3, 1, 0, 0, 0, .null), (20, .iload_n 3, 1, 0, 0, 0, .null), (21, .aload_n 0, 1, 0, 0, 0, .null), (22, .invokevirtual 270, 3, 179, 1, 1331, .ref 11), (25, .if_icmp .ge 40, 3, 65, 0, 0, .null), (28, .iload_n 2, 1, 0, 0, 0, .null), (29, .aload_n 0, 1, 0, 0, 0, .null), (30, .iconst 0, 1, 0, 0, 0, .int 0), (31, .aload_n 0, 1, 0, 0, 0, .null), (32, .getfield 117, 3, 11, 24, 1371, .null), (35, .iconst 2, 1, 0, 0, 0, .int 2), (36, .iload_n 3, 1, 0, 0, 0, .null), (37, .iadd, 1, 0, 0, 0, .null), (38, .iaload, 1, 0, 0, 0, .null), (39, .invokevirtual 299, 3, 192, 3, 1584, .ref 11), (42, .iload_n 1, 1, 0, 0, 0, .null), (43, .iand, 1, 0, 0, 0, .null), (44, .iconst 1, 1, 0, 0, 0, .int 1), (45, .iload_n 3, 1, 0, 0, 0, .null), (46, .ishl, 1, 0, 0, 0, .null), (47, .if_icmp .ne 9, 3, 56, 0, 0, .null), (50, .iconst 1, 1, 0, 0, 0, .int 1), (51, .iload_n 3, 1, 0, 0, 0, .null), (52, .ishl, 1, 0, 0, 0, .null), (53, .goto 4, 3, 57, 0, 0, .null), (56, .iconst 0, 1, 0, 0, 0, .int 0), (57, .ior, 1, 0, 0, 0, .null), (58, .istore_n 2, 1, 0, 0, 0, .null), (59, .iinc 3 1, 3, 0, 0, 0, .null), (62, .goto (-42), 3, 20, 0, 0, .null), (65, .iload_n 2, 1, 0, 0, 0, .null), (66, .ireturn, 1, 0, 0, 0, .null)]
set_option maxRecDepth 100000 in
theorem oX11_alone : fc_code mX11_alone lX11_alone = true := by decide +kernel
def lX11_see : List fc_I := [(0, .aload_n 0, 1, 0, 0, 0, .null), (1, .iconst 0, 1, 0, 0, 0, .int 0), (2, .putfield 1, 3, 11, 0, 1347, .null), (5, .aload_n 0, 1, 0, 0, 0, .null), (6, .iload_n 1, 1, 0, 0, 0, .null), (7, .invokevirtual 330, 3, 185, 2, 1572, .ref 11), (10, .ifCond .eq 25, 3, 35, 0, 0, .null), (13, .iload_n 2, 1, 0, 0, 0, .null), (14, .iconst 0, 1, 0, 0, 0, .int 0), (15, .bipush 99, 2, 0, 0, 0, .int 99), (17, .invokestatic 202, 3, 150, 3, 1497, .retAddr 0), (20, .ifCond .eq 15, 3, 35, 0, 0, .null), (23, .aload_n 0, 1, 0, 0, 0, .null), (24, .getfield 117, 3, 11, 24, 1371, .null), (27, .bipush 39, 2, 0, 0, 0, .int 39), (29, .iaload, 1, 0, 0, 0, .null), (30, .bipush 8, 2, 0, 0, 0, .int 8), (32, .if_icmp .ne 5, 3, 37, 0, 0, .null), (35, .iconst 0, 1, 0, 0, 0, .int 0), (36, .ireturn, 1, 0, 0, 0, .null), (37, .bipush 40, 2, 0, 0, 0, .int 40), (39, .iconst 3, 1, 0, 0, 0, .int 3), (40, .aload_n 0, 1, 0, 0, 0, .null), (41, .getfield 117, 3, 11, 24, 1371, .null), (44, .bipush 39, 2, 0, 0, 0, .int 39), (46, .iaload, 1, 0, 0, 0, .null), (47, .imul, 1, 0, 0, 0, .null), (48, .iadd, 1, 0, 0, 0, .null), (49, .istore 4, 2, 0, 0, 0, .null), (51, .aload_n 0, 1, 0, 0, 0, .null), (52, .getfield 117, 3, 11, 24, 1371, .null), (55, .iload 4, 2, 0, 0, 0, .null), (57, .iload_n 1, 1, 0, 0, 0, .null), (58, .iastore, 1, 0, 0, 0, .null), (59, .aload_n 0, 1, 0, 0, 0, .null), (60, .getfield 117, 3, 11, 24, 1371, .null), (63, .iload 4, 2, 0, 0, 0, .null), (65, .iconst 1, 1, 0, 0, 0, .int 1), (66, .iadd, 1, 0, 0, 0, .null), (67, .iload_n 2, 1, 0, 0, 0, .null), (68, .iastore, 1, 0, 0, 0, .null), (69, .aload_n 0, 1, 0, 0, 0, .null), (70, .getfield 117, 3, 11, 24, 1371, .null), (73, .iload 4, 2, 0, 0, 0, .null), (75, .iconst 2, 1, 0, 0, 0, .int 2), (76, .iadd, 1, 0, 0, 0, .null), (77, .iload_n 3, 1, 0, 0, 0, .null), (78, .ifCond .eq 7, 3, 85, 0, 0, .null), (81, .iconst 1, 1, 0, 0, 0, .int 1), (82, .goto 4, 3, 86, 0, 0, .null), (85, .iconst 0, 1, 0, 0, 0, .int 0), (86, .iastore, 1, 0, 0, 0, .null), (87, .aload_n 0, 1, 0, 0, 0, .null), (88, .getfield 117, 3, 11, 24, 1371, .null), (91, .bipush 39, 2, 0, 0, 0, .int 39), (93, .dup2, 1, 0, 0, 0, .null), (94, .iaload, 1, 0, 0, 0, .null), (95, .iconst 1, 1, 0, 0, 0, .int 1), (96, .iadd, 1, 0, 0, 0, .null), (97, .iastore, 1, 0, 0, 0, .null), (98, .iconst 1, 1, 0, 0, 0, .int 1), (99, .ireturn, 1, 0, 0, 0, .null)]
set_option maxRecDepth 100000 in
theorem oX11_see : fc_code mX11_see lX11_see = true := by decide +kernel
def lX11_whoNow : List fc_I := [(0, .iconst 1, 1, 0, 0, 0, .int 1), (1, .aload_n 0, 1, 0, 0, 0, .null), (2, .invokevirtual 270, 3, 179, 1, 1331, .ref 11), (5, .ishl, 1, 0, 0, 0, .null), (6, .iconst 1, 1, 0, 0, 0, .int 1), (7, .isub, 1, 0, 0, 0, .null), (8, .istore_n 1, 1, 0, 0, 0, .null), (9, .iconst 0, 1, 0, 0, 0, .int 0), (10, .istore_n 2, 1, 0, 0, 0, .null), (11, .iload_n 2, 1, 0, 0, 0, .null), (12, .aload_n 0, 1, 0, 0, 0, .null), (13, .getfield 117, 3, 11, 24, 1371, .null), (16, .bipush 39, 2, 0, 0, 0, .int 39), (18, .iaload, 1, 0, 0, 0, .null), (19, .if_icmp .ge 99, 3, 118, 0, 0, .null), (22, .bipush 40, 2, 0, 0, 0, .int 40), (24, .iconst 3, 1, 0, 0, 0, .int 3), (25, .iload_n 2, 1, 0, 0, 0, .null), (26, .imul, 1, 0, 0, 0, .null), (27, .iadd, 1, 0, 0, 0, .null), (28, .istore_n 3, 1, 0, 0, 0, .null), (29, .iconst 0, 1, 0, 0, 0, .int 0), (30, .istore 4, 2, 0, 0, 0, .null), (32, .iload 4, 2, 0, 0, 0, .null), (34, .aload_n 0, 1, 0, 0, 0, .null), (35, .invokevirtual 270, 3, 179, 1, 1331, .ref 11), (38, .if_icmp .ge 74, 3, 112, 0, 0, .null), (41, .aload_n 0, 1, 0, 0, 0, .null), (42, .iload 4, 2, 0, 0, 0, .null), (44, .aload_n 0, 1, 0, 0, 0, .null), (45, .getfield 117, 3, 11, 24, 1371, .null), (48, .iload_n 3, 1, 0, 0, 0, .null), (49, .iaload, 1, 0, 0, 0, .null), (50, .invokevirtual 381, 3, 225, 3, 1746, .ref 11), (53, .aload_n 0, 1, 0, 0, 0, .null), (54, .getfield 117, 3, 11, 24, 1371, .null), (57, .iload_n 3, 1, 0, 0, 0, .null), (58, .iconst 1, 1, 0, 0, 0, .int 1), (59, .iadd, 1, 0, 0, 0, .null), (60, .iaload, 1, 0, 0, 0, .null), (61, .if_icmp .gt 7, 3, 68, 0, 0, .null), (64, .iconst 1, 1, 0, 0, 0, .int 1), (65, .goto 4, 3, 69, 0, 0, .null), (68, .iconst 0, 1, 0, 0, 0, .int 0), (69, .istore 5, 2, 0, 0, 0, .null), (71, .iload_n 1, 1, 0, 0, 0, .null), (72, .iload 5, 2, 0, 0, 0, .null), (74, .aload_n 0, 1, 0, 0, 0, .null), (75, .getfield 117, 3, 11, 24, 1371, .null), (78, .iload_n 3, 1, 0, 0, 0, .null), (79, .iconst 2, 1, 0, 0, 0, .int 2), (80, .iadd, 1, 0, 0, 0, .null), (81, .iaload, 1, 0, 0, 0, .null), (82, .iconst 1, 1, 0, 0, 0, .int 1), (83, .if_icmp .ne 7, 3, 90, 0, 0, .null), (86, .iconst 1, 1, 0, 0, 0, .int 1), (87, .goto 4, 3, 91, 0, 0, .null), (90, .iconst 0, 1, 0, 0, 0, .int 0), (91, .if_icmp .ne 7, 3, 98, 0, 0, .null), (94, .iconst (-1), 1, 0, 0, 0, .int (-1)), (95, .goto 9, 3, 104, 0, 0, .null), (98, .iconst 1, 1, 0, 0, 0, .int 1), (99, .iload 4, 2, 0, 0, 0, .null), (101, .ishl, 1, 0, 0, 0, .null), (102, .iconst (-1), 1, 0, 0, 0, .int (-1)), (103, .ixor, 1, 0, 0, 0, .null), (104, .iand, 1, 0, 0, 0, .null), (105, .istore_n 1, 1, 0, 0, 0, .null), (106, .iinc 4 1, 3, 0, 0, 0, .null), (109, .goto (-77), 3, 32, 0, 0, .null), (112, .iinc 2 1, 3, 0, 0, 0, .null), (115, .goto (-104), 3, 11, 0, 0, .null), (118, .iload_n 1, 1, 0, 0, 0, .null), (119, .ireturn, 1, 0, 0, 0, .null)]
set_option maxRecDepth 100000 in
theorem oX11_whoNow : fc_code mX11_whoNow lX11_whoNow = true := by decide +kernel
def lX11_who : List fc_I := [(0, .aload_n 0, 1, 0, 0, 0, .null), (1, .iconst 0, 1, 0, 0, 0, .int 0), (2, .putfield 1, 3, 11, 0, 1347, .null), (5, .aload_n 0, 1, 0, 0, 0, .null), (6, .invokevirtual 401, 3, 246, 1, 1841, .ref 11), (9, .ireturn, 1, 0, 0, 0, .null)]
set_option maxRecDepth 100000 in
theorem oX11_who : fc_code mX11_who lX11_who = true := by decide +kernel
def lX11_ask : List fc_I := [(0, .aload_n 0, 1, 0, 0, 0, .null), (1, .iconst 0, 1, 0, 0, 0, .int 0), (2, .putfield 1, 3, 11, 0, 1347, .null), (5, .aload_n 0, 1, 0, 0, 0, .null), (6, .invokevirtual 401, 3, 246, 1, 1841, .ref 11), (9, .istore_n 1, 1, 0, 0, 0, .null), (10, .iload_n 1, 1, 0, 0, 0, .null), (11, .invokestatic 305, 3, 188, 1, 1656, .retAddr 0), (14, .istore_n 2, 1, 0, 0, 0, .null), (15, .iconst (-1), 1, 0, 0, 0, .int (-1)), (16, .istore_n 3, 1, 0, 0, 0, .null), (17, .iload_n 2, 1, 0, 0, 0, .null), (18, .istore 4, 2, 0, 0, 0, .null), (20, .iconst 0, 1, 0, 0, 0, .int 0), (21, .istore 5, 2, 0, 0, 0, .null), (23, .iload 5, 2, 0, 0, 0, .null), (25, .bipush 99, 2, 0, 0, 0, .int 99), (27, .if_icmp .gt 137, 3, 164, 0, 0, .null), (30, .iconst 0, 1, 0, 0, 0, .int 0), (31, .istore 6, 2, 0, 0, 0, .null), (33, .iload 6, 2, 0, 0, 0, .null), (35, .aload_n 0, 1, 0, 0, 0, .null), (36, .invokevirtual 292, 3, 178, 1, 1576, .ref 11), (39, .if_icmp .ge 119, 3, 158, 0, 0, .null), (42, .iconst 0, 1, 0, 0, 0, .int 0), (43, .istore 7, 2, 0, 0, 0, .null), (45, .iconst 0, 1, 0, 0, 0, .int 0), (46, .istore 8, 2, 0, 0, 0, .null), (48, .iload 8, 2, 0, 0, 0, .null), (50, .aload_n 0, 1, 0, 0, 0, .null), (51, .invokevirtual 270, 3, 179, 1, 1331, .ref 11), (54, .if_icmp .ge 42, 3, 96, 0, 0, .null), (57, .iload 7, 2, 0, 0, 0, .null), (59, .iload_n 1, 1, 0, 0, 0, .null), (60, .iload 8, 2, 0, 0, 0, .null), (62, .ishr, 1, 0, 0, 0, .null), (63, .iconst 1, 1, 0, 0, 0, .int 1), (64, .iand, 1, 0, 0, 0, .null), (65, .iconst 1, 1, 0, 0, 0, .int 1), (66, .if_icmp .ne 20, 3, 86, 0, 0, .null), (69, .aload_n 0, 1, 0, 0, 0, .null), (70, .iload 8, 2, 0, 0, 0, .null), (72, .iload 6, 2, 0, 0, 0, .null), (74, .invokevirtual 381, 3, 225, 3, 1746, .ref 11), (77, .iload 5, 2, 0, 0, 0, .null), (79, .if_icmp .gt 7, 3, 86, 0, 0, .null), (82, .iconst 1, 1, 0, 0, 0, .int 1), (83, .goto 4, 3, 87, 0, 0, .null), (86, .iconst 0, 1, 0, 0, 0, .int 0), (87, .iadd, 1, 0, 0, 0, .null), (88, .istore 7, 2, 0, 0, 0, .null), (90, .iinc 8 1, 3, 0, 0, 0, .null), (93, .goto (-45), 3, 48, 0, 0, .null), (96, .iload 7, 2, 0, 0, 0, .null), (98, .iload_n 2, 1, 0, 0, 0, .null), (99, .iload 7, 2, 0, 0, 0, .null), (101, .isub, 1, 0, 0, 0, .null), (102, .if_icmp .le 8, 3, 110, 0, 0, .null), (105, .iload 7, 2, 0, 0, 0, .null), (107, .goto 7, 3, 114, 0, 0, .null), (110, .iload_n 2, 1, 0, 0, 0, .null), (111, .iload 7, 2, 0, 0, 0, .null), (113, .isub, 1, 0, 0, 0, .null), (114, .istore 8, 2, 0, 0, 0, .null), (116, .iload 8, 2, 0, 0, 0, .null), (118, .iload 4, 2, 0, 0, 0, .null), (120, .if_icmp .ge 14, 3, 134, 0, 0, .null), (123, .bipush 8, 2, 0, 0, 0, .int 8), (125, .iload 5, 2, 0, 0, 0, .null), (127, .imul, 1, 0, 0, 0, .null), (128, .iload 6, 2, 0, 0, 0, .null), (130, .iadd, 1, 0, 0, 0, .null), (131, .goto 4, 3, 135, 0, 0, .null), (134, .iload_n 3, 1, 0, 0, 0, .null), (135, .istore_n 3, 1, 0, 0, 0, .null), (136, .iload 8, 2, 0, 0, 0, .null), (138, .iload 4, 2, 0, 0, 0, .null), (140, .if_icmp .ge 8, 3, 148, 0, 0, .null), (143, .iload 8, 2, 0, 0, 0, .null), (145, .goto 5, 3, 150, 0, 0, .null), (148, .iload 4, 2, 0, 0, 0, .null), (150, .istore 4, 2, 0, 0, 0, .null), (152, .iinc 6 1, 3, 0, 0, 0, .null), (155, .goto (-122), 3, 33, 0, 0, .null), (158, .iinc 5 1, 3, 0, 0, 0, .null), (161, .goto (-138), 3, 23, 0, 0, .null), (164, .iload_n 3, 1, 0, 0, 0, .null), (165, .ireturn, 1, 0, 0, 0, .null)]
set_option maxRecDepth 100000 in
theorem oX11_ask : fc_code mX11_ask lX11_ask = true := by decide +kernel
def lX11_worthOf : List fc_I := [(0, .iconst 0, 1, 0, 0, 0, .int 0), (1, .istore_n 3, 1, 0, 0, 0, .null), (2, .iconst 0, 1, 0, 0, 0, .int 0), (3, .istore 4, 2, 0, 0, 0, .null), (5, .iload 4, 2, 0, 0, 0, .null), (7, .aload_n 0, 1, 0, 0, 0, .null), (8, .invokevirtual 277, 3, 180, 1, 1339, .ref 11), (11, .if_icmp .ge 46, 3, 57, 0, 0, .null), (14, .iload_n 3, 1, 0, 0, 0, .null), (15, .aload_n 0, 1, 0, 0, 0, .null), (16, .getfield 117, 3, 11, 24, 1371, .null), (19, .iload_n 2, 1, 0, 0, 0, .null), (20, .ifCond .eq 8, 3, 28, 0, 0, .null), (23, .bipush 18, 2, 0, 0, 0, .int 18), (25, .goto 5, 3, 30, 0, 0, .null), (28, .bipush 12, 2, 0, 0, 0, .int 12), (30, .iload 4, 2, 0, 0, 0, .null), (32, .iadd, 1, 0, 0, 0, .null), (33, .iaload, 1, 0, 0, 0, .null), (34, .iload_n 1, 1, 0, 0, 0, .null), (35, .if_icmp .ne 13, 3, 48, 0, 0, .null), (38, .aload_n 0, 1, 0, 0, 0, .null), (39, .iload 4, 2, 0, 0, 0, .null), (41, .iconst 0, 1, 0, 0, 0, .int 0), (42, .invokevirtual 280, 3, 184, 3, 1343, .ref 11), (45, .goto 4, 3, 49, 0, 0, .null), (48, .iconst 0, 1, 0, 0, 0, .int 0), (49, .iadd, 1, 0, 0, 0, .null), (50, .istore_n 3, 1, 0, 0, 0, .null), (51, .iinc 4 1, 3, 0, 0, 0, .null), (54, .goto (-49), 3, 5, 0, 0, .null), (57, .iload_n 3, 1, 0, 0, 0, .null), (58, .ireturn, 1, 0, 0, 0, .null)]
set_option maxRecDepth 100000 in
theorem oX11_worthOf : fc_code mX11_worthOf lX11_worthOf = true := by decide +kernel
def lX11_has : List fc_I := [(0, .aload_n 0, 1, 0, 0, 0, .null), (1, .iconst 0, 1, 0, 0, 0, .int 0), (2, .putfield 1, 3, 11, 0, 1347, .null), (5, .aload_n 0, 1, 0, 0, 0, .null), (6, .iload_n 1, 1, 0, 0, 0, .null), (7, .invokevirtual 333, 3, 186, 2, 1596, .ref 11), (10, .ifCond .eq 12, 3, 22, 0, 0, .null), (13, .aload_n 0, 1, 0, 0, 0, .null), (14, .iload_n 1, 1, 0, 0, 0, .null), (15, .iload_n 2, 1, 0, 0, 0, .null), (16, .invokevirtual 404, 3, 249, 3, 1853, .ref 11), (19, .goto 4, 3, 23, 0, 0, .null), (22, .iconst (-1), 1, 0, 0, 0, .int (-1)), (23, .ireturn, 1, 0, 0, 0, .null)]
set_option maxRecDepth 100000 in
theorem oX11_has : fc_code mX11_has lX11_has = true := by decide +kernel
def lX11_sleeps : List fc_I := [(0, .aload_n 0, 1, 0, 0, 0, .null), (1, .iconst 0, 1, 0, 0, 0, .int 0), (2, .putfield 1, 3, 11, 0, 1347, .null), (5, .aload_n 0, 1, 0, 0, 0, .null), (6, .iload_n 1, 1, 0, 0, 0, .null), (7, .invokevirtual 333, 3, 186, 2, 1596, .ref 11), (10, .ifCond .eq 19, 3, 29, 0, 0, .null), (13, .aload_n 0, 1, 0, 0, 0, .null), (14, .iload_n 1, 1, 0, 0, 0, .null), (15, .iconst 2, 1, 0, 0, 0, .int 2), (16, .invokevirtual 274, 3, 183, 3, 1335, .ref 11), (19, .aload_n 0, 1, 0, 0, 0, .null), (20, .getfield 117, 3, 11, 24, 1371, .null), (23, .iconst 1, 1, 0, 0, 0, .int 1), (24, .iaload, 1, 0, 0, 0, .null), (25, .isub, 1, 0, 0, 0, .null), (26, .goto 4, 3, 30, 0, 0, .null), (29, .iconst (-1), 1, 0, 0, 0, .int (-1)), (30, .istore_n 2, 1, 0, 0, 0, .null), (31, .aload_n 0, 1, 0, 0, 0, .null), (32, .iload_n 1, 1, 0, 0, 0, .null), (33, .invokevirtual 333, 3, 186, 2, 1596, .ref 11), (36, .ifCond .eq 11, 3, 47, 0, 0, .null), (39, .iload_n 2, 1, 0, 0, 0, .null), (40, .ifCond .ge 7, 3, 47, 0, 0, .null), (43, .iconst 0, 1, 0, 0, 0, .int 0), (44, .goto 4, 3, 48, 0, 0, .null), (47, .iload_n 2, 1, 0, 0, 0, .null), (48, .ireturn, 1, 0, 0, 0, .null)]
set_option maxRecDepth 100000 in
theorem oX11_sleeps : fc_code mX11_sleeps lX11_sleeps = true := by decide +kernel
def lX11_rich : List fc_I := [(0, .aload_n 0, 1, 0, 0, 0, .null), (1, .iconst 0, 1, 0, 0, 0, .int 0), (2, .putfield 1, 3, 11, 0, 1347, .null), (5, .iconst (-1), 1, 0, 0, 0, .int (-1)), (6, .istore_n 2, 1, 0, 0, 0, .null), (7, .iconst 0, 1, 0, 0, 0, .int 0), (8, .istore_n 3, 1, 0, 0, 0, .null), (9, .iload_n 3, 1, 0, 0, 0, .null), (10, .aload_n 0, 1, 0, 0, 0, .null), (11, .invokevirtual 270, 3, 179, 1, 1331, .ref 11), (14, .if_icmp .ge 34, 3, 48, 0, 0, .null), (17, .iload_n 2, 1, 0, 0, 0, .null), (18, .ifCond .lt 18, 3, 36, 0, 0, .null), (21, .aload_n 0, 1, 0, 0, 0, .null), (22, .iload_n 3, 1, 0, 0, 0, .null), (23, .iload_n 1, 1, 0, 0, 0, .null), (24, .invokevirtual 404, 3, 249, 3, 1853, .ref 11), (27, .aload_n 0, 1, 0, 0, 0, .null), (28, .iload_n 2, 1, 0, 0, 0, .null), (29, .iload_n 1, 1, 0, 0, 0, .null), (30, .invokevirtual 404, 3, 249, 3, 1853, .ref 11), (33, .if_icmp .le 7, 3, 40, 0, 0, .null), (36, .iload_n 3, 1, 0, 0, 0, .null), (37, .goto 4, 3, 41, 0, 0, .null), (40, .iload_n 2, 1, 0, 0, 0, .null), (41, .istore_n 2, 1, 0, 0, 0, .null), (42, .iinc 3 1, 3, 0, 0, 0, .null), (45, .goto (-36), 3, 9, 0, 0, .null), (48, .iload_n 2, 1, 0, 0, 0, .null), (49, .ireturn, 1, 0, 0, 0, .null)]
set_option maxRecDepth 100000 in
theorem oX11_rich : fc_code mX11_rich lX11_rich = true := by decide +kernel
def lX11_chance : List fc_I := [(0, .aload_n 0, 1, 0, 0, 0, .null), (1, .iconst 0, 1, 0, 0, 0, .int 0), (2, .putfield 1, 3, 11, 0, 1347, .null), (5, .iload_n 1, 1, 0, 0, 0, .null), (6, .iconst 1, 1, 0, 0, 0, .int 1), (7, .bipush 6, 2, 0, 0, 0, .int 6), (9, .invokestatic 202, 3, 150, 3, 1497, .retAddr 0), (12, .ifCond .eq 13, 3, 25, 0, 0, .null), (15, .iload_n 2, 1, 0, 0, 0, .null), (16, .iconst 0, 1, 0, 0, 0, .int 0), (17, .bipush 10, 2, 0, 0, 0, .int 10), (19, .invokestatic 202, 3, 150, 3, 1497, .retAddr 0), (22, .ifCond .ne 5, 3, 27, 0, 0, .null), (25, .iconst (-1), 1, 0, 0, 0, .int (-1)), (26, .ireturn, 1, 0, 0, 0, .null), (27, .lconst 1, 1, 0, 0, 0, .long 1), (28, .lstore_n 3, 1, 0, 0, 0, .null), (29, .lconst 1, 1, 0, 0, 0, .long 1), (30, .lstore 5, 2, 0, 0, 0, .null), (32, .iconst 0, 1, 0, 0, 0, .int 0), (33, .istore 7, 2, 0, 0, 0, .null), (35, .iload 7, 2, 0, 0, 0, .null), (37, .iload_n 1, 1, 0, 0, 0, .null), (38, .if_icmp .ge 42, 3, 80, 0, 0, .null), (41, .aload_n 0, 1, 0, 0, 0, .null), (42, .getfield 117, 3, 11, 24, 1371, .null), (45, .iconst 1, 1, 0, 0, 0, .int 1), (46, .iaload, 1, 0, 0, 0, .null), (47, .iload 7, 2, 0, 0, 0, .null), (49, .iadd, 1, 0, 0, 0, .null), (50, .aload_n 0, 1, 0, 0, 0, .null), (51, .invokevirtual 324, 3, 181, 1, 1690, .ref 11), (54, .if_icmp .ge 26, 3, 80, 0, 0, .null), (57, .lload_n 3, 1, 0, 0, 0, .null), (58, .ldc2_w 153, 3, 0, 0, 1456, .long 10), (61, .lmul, 1, 0, 0, 0, .null), (62, .lstore_n 3, 1, 0, 0, 0, .null), (63, .lload 5, 2, 0, 0, 0, .null), (65, .ldc2_w 153, 3, 0, 0, 1456, .long 10), (68, .iload_n 2, 1, 0, 0, 0, .null), (69, .i2l, 1, 0, 0, 0, .null), (70, .lsub, 1, 0, 0, 0, .null), (71, .lmul, 1, 0, 0, 0, .null), (72, .lstore 5, 2, 0, 0, 0, .null), (74, .iinc 7 1, 3, 0, 0, 0, .null), (77, .goto (-42), 3, 35, 0, 0, .null), (80, .lload 5, 2, 0, 0, 0, .null), (82, .ldc2_w 408, 3, 0, 0, 1869, .long 1000000), (85, .lmul, 1, 0, 0, 0, .null), (86, .lload_n 3, 1, 0, 0, 0, .null), (87, .ldiv, 1, 0, 0, 0, .null), (88, .l2i, 1, 0, 0, 0, .null), (89, .ireturn, 1, 0, 0, 0, .null)]
set_option maxRecDepth 100000 in
theorem oX11_chance : fc_code mX11_chance lX11_chance = true := by decide +kernel
def lX11_getsBy : List fc_I := [(0, .iload_n 0, 1, 0, 0, 0, .null), (1, .iconst 1, 1, 0, 0, 0, .int 1), (2, .if_icmp .ne 18, 3, 20, 0, 0, .null), (5, .iload_n 1, 1, 0, 0, 0, .null), (6, .iconst 1, 1, 0, 0, 0, .int 1), (7, .if_icmp .ne 8, 3, 15, 0, 0, .null), (10, .iload_n 2, 1, 0, 0, 0, .null), (11, .ineg, 1, 0, 0, 0, .null), (12, .goto 19, 3, 31, 0, 0, .null), (15, .iload_n 3, 1, 0, 0, 0, .null), (16, .ineg, 1, 0, 0, 0, .null), (17, .goto 14, 3, 31, 0, 0, .null), (20, .iload_n 1, 1, 0, 0, 0, .null), (21, .iconst 1, 1, 0, 0, 0, .int 1), (22, .if_icmp .ne 8, 3, 30, 0, 0, .null), (25, .iload 4, 2, 0, 0, 0, .null), (27, .goto 4, 3, 31, 0, 0, .null), (30, .iconst 0, 1, 0, 0, 0, .int 0), (31, .ireturn, 1, 0, 0, 0, .null)]
set_option maxRecDepth 100000 in
theorem oX11_getsBy : fc_code mX11_getsBy lX11_getsBy = true := by decide +kernel
def lX11_rests : List fc_I := [(0, .iload_n 1, 1, 0, 0, 0, .null), (1, .iconst 0, 1, 0, 0, 0, .int 0), (2, .bipush 9, 2, 0, 0, 0, .int 9), (4, .invokestatic 202, 3, 150, 3, 1497, .retAddr 0), (7, .ifCond .eq 33, 3, 40, 0, 0, .null), (10, .iload_n 2, 1, 0, 0, 0, .null), (11, .iconst 0, 1, 0, 0, 0, .int 0), (12, .bipush 9, 2, 0, 0, 0, .int 9), (14, .invokestatic 202, 3, 150, 3, 1497, .retAddr 0), (17, .ifCond .eq 23, 3, 40, 0, 0, .null), (20, .iload_n 3, 1, 0, 0, 0, .null), (21, .iconst 0, 1, 0, 0, 0, .int 0), (22, .bipush 9, 2, 0, 0, 0, .int 9), (24, .invokestatic 202, 3, 150, 3, 1497, .retAddr 0), (27, .ifCond .eq 13, 3, 40, 0, 0, .null), (30, .iload 4, 2, 0, 0, 0, .null), (32, .iconst (-1), 1, 0, 0, 0, .int (-1)), (33, .if_icmp .lt 7, 3, 40, 0, 0, .null), (36, .iconst 1, 1, 0, 0, 0, .int 1), (37, .goto 4, 3, 41, 0, 0, .null), (40, .iconst 0, 1, 0, 0, 0, .int 0), (41, .istore 5, 2, 0, 0, 0, .null), (43, .iconst 0, 1, 0, 0, 0, .int 0), (44, .istore 6, 2, 0, 0, 0, .null), (46, .iconst (-1), 1, 0, 0, 0, .int (-1)), (47, .istore 7, 2, 0, 0, 0, .null), (49, .iconst 0, 1, 0, 0, 0, .int 0), (50, .istore 8, 2, 0, 0, 0, .null), (52, .iload 8, 2, 0, 0, 0, .null), (54, .iconst 4, 1, 0, 0, 0, .int 4), (55, .if_icmp .ge 119, 3, 174, 0, 0, .null), (58, .iload 5, 2, 0, 0, 0, .null), (60, .ifCond .eq 114, 3, 174, 0, 0, .null), (63, .iload 8, 2, 0, 0, 0, .null), (65, .iconst 2, 1, 0, 0, 0, .int 2), (66, .idiv, 1, 0, 0, 0, .null), (67, .istore 9, 2, 0, 0, 0, .null), (69, .iload 8, 2, 0, 0, 0, .null), (71, .iconst 2, 1, 0, 0, 0, .int 2), (72, .irem, 1, 0, 0, 0, .null), (73, .istore 10, 2, 0, 0, 0, .null), (75, .iconst 1, 1, 0, 0, 0, .int 1), (76, .iload 9, 2, 0, 0, 0, .null), (78, .isub, 1, 0, 0, 0, .null), (79, .iload 10, 2, 0, 0, 0, .null), (81, .iload_n 1, 1, 0, 0, 0, .null), (82, .iload_n 2, 1, 0, 0, 0, .null), (83, .iload_n 3, 1, 0, 0, 0, .null), (84, .invokestatic 410, 3, 254, 5, 1874, .retAddr 0), (87, .iload 9, 2, 0, 0, 0, .null), (89, .iload 10, 2, 0, 0, 0, .null), (91, .iload_n 1, 1, 0, 0, 0, .null), (92, .iload_n 2, 1, 0, 0, 0, .null), (93, .iload_n 3, 1, 0, 0, 0, .null), (94, .invokestatic 410, 3, 254, 5, 1874, .retAddr 0), (97, .if_icmp .gt 32, 3, 129, 0, 0, .null), (100, .iconst 1, 1, 0, 0, 0, .int 1), (101, .iload 10, 2, 0, 0, 0, .null), (103, .isub, 1, 0, 0, 0, .null), (104, .iload 9, 2, 0, 0, 0, .null), (106, .iload_n 1, 1, 0, 0, 0, .null), (107, .iload_n 2, 1, 0, 0, 0, .null), (108, .iload_n 3, 1, 0, 0, 0, .null), (109, .invokestatic 410, 3, 254, 5, 1874, .retAddr 0), (112, .iload 10, 2, 0, 0, 0, .null), (114, .iload 9, 2, 0, 0, 0, .null), (116, .iload_n 1, 1, 0, 0, 0, .null), (117, .iload_n 2, 1, 0, 0, 0, .null), (118, .iload_n 3, 1, 0, 0, 0, .null), (119, .invokestatic 410, 3, 254, 5, 1874, .retAddr 0), (122, .if_icmp .gt 7, 3, 129, 0, 0, .null), (125, .iconst 1, 1, 0, 0, 0, .int 1), (126, .goto 4, 3, 130, 0, 0, .null), (129, .iconst 0, 1, 0, 0, 0, .int 0), (130, .istore 11, 2, 0, 0, 0, .null), (132, .iload 11, 2, 0, 0, 0, .null), (134, .ifCond .eq 15, 3, 149, 0, 0, .null), (137, .iload 6, 2, 0, 0, 0, .null), (139, .iload 4, 2, 0, 0, 0, .null), (141, .if_icmp .ne 8, 3, 149, 0, 0, .null), (144, .iload 8, 2, 0, 0, 0, .null), (146, .goto 5, 3, 151, 0, 0, .null), (149, .iload 7, 2, 0, 0, 0, .null), (151, .istore 7, 2, 0, 0, 0, .null), (153, .iload 6, 2, 0, 0, 0, .null), (155, .iload 11, 2, 0, 0, 0, .null), (157, .ifCond .eq 7, 3, 164, 0, 0, .null), (160, .iconst 1, 1, 0, 0, 0, .int 1), (161, .goto 4, 3, 165, 0, 0, .null), (164, .iconst 0, 1, 0, 0, 0, .int 0), (165, .iadd, 1, 0, 0, 0, .null), (166, .istore 6, 2, 0, 0, 0, .null), (168, .iinc 8 1, 3, 0, 0, 0, .null), (171, .goto (-119), 3, 52, 0, 0, .null), (174, .aload_n 0, 1, 0, 0, 0, .null), (175, .iload 5, 2, 0, 0, 0, .null), (177, .ifCond .eq 17, 3, 194, 0, 0, .null), (180, .iload 4, 2, 0, 0, 0, .null), (182, .ifCond .lt 8, 3, 190, 0, 0, .null), (185, .iload 7, 2, 0, 0, 0, .null), (187, .ifCond .lt 7, 3, 194, 0, 0, .null), (190, .iconst 0, 1, 0, 0, 0, .int 0), (191, .goto 4, 3, 195, 0, 0, .null), (194, .iconst 1, 1, 0, 0, 0, .int 1), (195, .putfield 1, 3, 11, 0, 1347, .null), (198, .aload_n 0, 1, 0, 0, 0, .null), (199, .getfield 1, 3, 11, 0, 1347, .null), (202, .ifCond .le 7, 3, 209, 0, 0, .null), (205, .iconst 0, 1, 0, 0, 0, .int 0), (206, .goto 15, 3, 221, 0, 0, .null), (209, .iload 4, 2, 0, 0, 0, .null), (211, .ifCond .ge 8, 3, 219, 0, 0, .null), (214, .iload 6, 2, 0, 0, 0, .null), (216, .goto 5, 3, 221, 0, 0, .null), (219, .iload 7, 2, 0, 0, 0, .null), (221, .ireturn, 1, 0, 0, 0, .null)]
set_option maxRecDepth 100000 in
theorem oX11_rests : fc_code mX11_rests lX11_rests = true := by decide +kernel
def lX11_draw : List fc_I := [(0, .aload_n 0, 1, 0, 0, 0, .null), (1, .aload_n 0, 1, 0, 0, 0, .null), (2, .getfield 414, 3, 11, 29, 1376, .null), (5, .ldc2_w 418, 3, 0, 0, 1889, .long 1103515245), (8, .lmul, 1, 0, 0, 0, .null), (9, .ldc2_w 420, 3, 0, 0, 1890, .long 12345), (12, .ladd, 1, 0, 0, 0, .null), (13, .ldc2_w 422, 3, 0, 0, 1891, .long 2147483648), (16, .lrem, 1, 0, 0, 0, .null), (17, .putfield 414, 3, 11, 29, 1376, .null), (20, .aload_n 0, 1, 0, 0, 0, .null), (21, .getfield 414, 3, 11, 29, 1376, .null), (24, .ldc2_w 424, 3, 0, 0, 1892, .long 65536), (27, .ldiv, 1, 0, 0, 0, .null), (28, .iload_n 1, 1, 0, 0, 0, .null), (29, .i2l, 1, 0, 0, 0, .null), (30, .lrem, 1, 0, 0, 0, .null), (31, .l2i, 1, 0, 0, 0, .null), (32, .ireturn, 1, 0, 0, 0, .null)]
set_option maxRecDepth 100000 in
theorem oX11_draw : fc_code mX11_draw lX11_draw = true := by decide +kernel
def lX11_drawsDeed : List fc_I := [(0, .aload_n 0, 1, 0, 0, 0, .null), (1, .aload_n 0, 1, 0, 0, 0, .null), (2, .invokevirtual 270, 3, 179, 1, 1331, .ref 11), (5, .invokevirtual 426, 3, 256, 2, 1885, .ref 11), (8, .istore_n 1, 1, 0, 0, 0, .null), (9, .aload_n 0, 1, 0, 0, 0, .null), (10, .aload_n 0, 1, 0, 0, 0, .null), (11, .invokevirtual 292, 3, 178, 1, 1576, .ref 11), (14, .invokevirtual 426, 3, 256, 2, 1885, .ref 11), (17, .istore_n 2, 1, 0, 0, 0, .null), (18, .aload_n 0, 1, 0, 0, 0, .null), (19, .iconst 5, 1, 0, 0, 0, .int 5), (20, .invokevirtual 426, 3, 256, 2, 1885, .ref 11), (23, .istore_n 3, 1, 0, 0, 0, .null), (24, .iload_n 3, 1, 0, 0, 0, .null), (25, .iconst 2, 1, 0, 0, 0, .int 2), (26, .if_icmp .ge 27, 3, 53, 0, 0, .null), (29, .aload_n 0, 1, 0, 0, 0, .null), (30, .sipush 1408, 3, 0, 0, 0, .int 1408), (33, .iload_n 1, 1, 0, 0, 0, .null), (34, .iload_n 2, 1, 0, 0, 0, .null), (35, .invokevirtual 342, 3, 195, 4, 1624, .ref 11), (38, .ifCond .eq 15, 3, 53, 0, 0, .null), (41, .aload_n 0, 1, 0, 0, 0, .null), (42, .sipush 1408, 3, 0, 0, 0, .int 1408), (45, .iload_n 1, 1, 0, 0, 0, .null), (46, .iload_n 2, 1, 0, 0, 0, .null), (47, .invokevirtual 348, 3, 196, 4, 1636, .ref 11), (50, .goto 95, 3, 145, 0, 0, .null), (53, .iload_n 3, 1, 0, 0, 0, .null), (54, .iconst 2, 1, 0, 0, 0, .int 2), (55, .if_icmp .ne 49, 3, 104, 0, 0, .null), (58, .aload_n 0, 1, 0, 0, 0, .null), (59, .invokevirtual 277, 3, 180, 1, 1339, .ref 11), (62, .ifCond .le 42, 3, 104, 0, 0, .null), (65, .aload_n 0, 1, 0, 0, 0, .null), (66, .aload_n 0, 1, 0, 0, 0, .null), (67, .invokevirtual 277, 3, 180, 1, 1339, .ref 11), (70, .invokevirtual 426, 3, 256, 2, 1885, .ref 11), (73, .istore 4, 2, 0, 0, 0, .null), (75, .aload_n 0, 1, 0, 0, 0, .null), (76, .sipush 1408, 3, 0, 0, 0, .int 1408), (79, .iload 4, 2, 0, 0, 0, .null), (81, .iload_n 1, 1, 0, 0, 0, .null), (82, .invokevirtual 351, 3, 197, 4, 1644, .ref 11), (85, .ifCond .eq 16, 3, 101, 0, 0, .null), (88, .aload_n 0, 1, 0, 0, 0, .null), (89, .sipush 1408, 3, 0, 0, 0, .int 1408), (92, .iload 4, 2, 0, 0, 0, .null), (94, .iload_n 1, 1, 0, 0, 0, .null), (95, .invokevirtual 354, 3, 198, 4, 1648, .ref 11), (98, .pop, 1, 0, 0, 0, .null), (99, .iconst 1, 1, 0, 0, 0, .int 1), (100, .ireturn, 1, 0, 0, 0, .null), (101, .goto 44, 3, 145, 0, 0, .null), (104, .iload_n 3, 1, 0, 0, 0, .null), (105, .iconst 3, 1, 0, 0, 0, .int 3), (106, .if_icmp .ne 39, 3, 145, 0, 0, .null), (109, .aload_n 0, 1, 0, 0, 0, .null), (110, .aload_n 0, 1, 0, 0, 0, .null), (111, .invokevirtual 270, 3, 179, 1, 1331, .ref 11), (114, .invokevirtual 426, 3, 256, 2, 1885, .ref 11), (117, .istore 4, 2, 0, 0, 0, .null), (119, .aload_n 0, 1, 0, 0, 0, .null), (120, .sipush 1408, 3, 0, 0, 0, .int 1408), (123, .iload_n 1, 1, 0, 0, 0, .null), (124, .iload 4, 2, 0, 0, 0, .null), (126, .invokevirtual 357, 3, 199, 4, 1674, .ref 11), (129, .ifCond .eq 16, 3, 145, 0, 0, .null), (132, .aload_n 0, 1, 0, 0, 0, .null), (133, .sipush 1408, 3, 0, 0, 0, .int 1408), (136, .iload_n 1, 1, 0, 0, 0, .null), (137, .iload 4, 2, 0, 0, 0, .null), (139, .invokevirtual 360, 3, 200, 4, 1678, .ref 11), (142, .pop, 1, 0, 0, 0, .null), (143, .iconst 1, 1, 0, 0, 0, .int 1), (144, .ireturn, 1, 0, 0, 0, .null), (145, .iconst 0, 1, 0, 0, 0, .int 0), (146, .ireturn, 1, 0, 0, 0, .null)]
set_option maxRecDepth 100000 in
theorem oX11_drawsDeed : fc_code mX11_drawsDeed lX11_drawsDeed = true := by decide +kernel
def lX11_mornings : List fc_I := [(0, .aload_n 0, 1, 0, 0, 0, .null), (1, .iconst 0, 1, 0, 0, 0, .int 0), (2, .putfield 1, 3, 11, 0, 1347, .null), (5, .iload_n 1, 1, 0, 0, 0, .null), (6, .iconst 0, 1, 0, 0, 0, .int 0), (7, .sipush 9999, 3, 0, 0, 0, .int 9999), (10, .invokestatic 202, 3, 150, 3, 1497, .retAddr 0), (13, .ifCond .eq 22, 3, 35, 0, 0, .null), (16, .iload_n 2, 1, 0, 0, 0, .null), (17, .iconst 1, 1, 0, 0, 0, .int 1), (18, .bipush 99, 2, 0, 0, 0, .int 99), (20, .invokestatic 202, 3, 150, 3, 1497, .retAddr 0), (23, .ifCond .eq 12, 3, 35, 0, 0, .null), (26, .iload_n 3, 1, 0, 0, 0, .null), (27, .iconst 0, 1, 0, 0, 0, .int 0), (28, .iconst 2, 1, 0, 0, 0, .int 2), (29, .invokestatic 202, 3, 150, 3, 1497, .retAddr 0), (32, .ifCond .ne 5, 3, 37, 0, 0, .null), (35, .iconst (-1), 1, 0, 0, 0, .int (-1)), (36, .ireturn, 1, 0, 0, 0, .null), (37, .aload_n 0, 1, 0, 0, 0, .null), (38, .iconst 0, 1, 0, 0, 0, .int 0), (39, .sipush 1408, 3, 0, 0, 0, .int 1408), (42, .bipush 39, 2, 0, 0, 0, .int 39), (44, .invokevirtual 289, 3, 174, 4, 1632, .ref 11), (47, .aload_n 0, 1, 0, 0, 0, .null), (48, .iload_n 1, 1, 0, 0, 0, .null), (49, .i2l, 1, 0, 0, 0, .null), (50, .putfield 414, 3, 11, 29, 1376, .null), (53, .iconst 0, 1, 0, 0, 0, .int 0), (54, .istore 4, 2, 0, 0, 0, .null), (56, .iconst 0, 1, 0, 0, 0, .int 0), (57, .istore 5, 2, 0, 0, 0, .null), (59, .iload 5, 2, 0, 0, 0, .null), (61, .iload_n 2, 1, 0, 0, 0, .null), (62, .if_icmp .ge 41, 3, 103, 0, 0, .null), (65, .iload 4, 2, 0, 0, 0, .null), (67, .aload_n 0, 1, 0, 0, 0, .null), (68, .invokevirtual 270, 3, 179, 1, 1331, .ref 11), (71, .ifCond .le 14, 3, 85, 0, 0, .null), (74, .aload_n 0, 1, 0, 0, 0, .null), (75, .invokevirtual 429, 3, 257, 1, 1881, .ref 11), (78, .ifCond .eq 7, 3, 85, 0, 0, .null), (81, .iconst 1, 1, 0, 0, 0, .int 1), (82, .goto 4, 3, 86, 0, 0, .null), (85, .iconst 0, 1, 0, 0, 0, .int 0), (86, .iadd, 1, 0, 0, 0, .null), (87, .istore 4, 2, 0, 0, 0, .null), (89, .aload_n 0, 1, 0, 0, 0, .null), (90, .sipush 1408, 3, 0, 0, 0, .int 1408), (93, .invokevirtual 363, 3, 202, 2, 1686, .ref 11), (96, .pop, 1, 0, 0, 0, .null), (97, .iinc 5 1, 3, 0, 0, 0, .null), (100, .goto (-41), 3, 59, 0, 0, .null), (103, .iload_n 3, 1, 0, 0, 0, .null), (104, .ifCond .ne 8, 3, 112, 0, 0, .null), (107, .iload 4, 2, 0, 0, 0, .null), (109, .goto 25, 3, 134, 0, 0, .null), (112, .iload_n 3, 1, 0, 0, 0, .null), (113, .iconst 1, 1, 0, 0, 0, .int 1), (114, .if_icmp .ne 13, 3, 127, 0, 0, .null), (117, .aload_n 0, 1, 0, 0, 0, .null), (118, .sipush 1408, 3, 0, 0, 0, .int 1408), (121, .invokevirtual 386, 3, 204, 2, 1781, .ref 11), (124, .goto 10, 3, 134, 0, 0, .null), (127, .aload_n 0, 1, 0, 0, 0, .null), (128, .sipush 1408, 3, 0, 0, 0, .int 1408), (131, .invokevirtual 398, 3, 241, 2, 1825, .ref 11), (134, .ireturn, 1, 0, 0, 0, .null)]
set_option maxRecDepth 100000 in
theorem oX11_mornings : fc_code mX11_mornings lX11_mornings = true := by decide +kernel
def lX11_mark : List fc_I := [(0, .aload_n 0, 1, 0, 0, 0, .null), (1, .iconst 0, 1, 0, 0, 0, .int 0), (2, .putfield 1, 3, 11, 0, 1347, .null), (5, .iload_n 1, 1, 0, 0, 0, .null), (6, .iconst 0, 1, 0, 0, 0, .int 0), (7, .iconst 3, 1, 0, 0, 0, .int 3), (8, .invokestatic 202, 3, 150, 3, 1497, .retAddr 0), (11, .ifCond .eq 16, 3, 27, 0, 0, .null), (14, .iload_n 2, 1, 0, 0, 0, .null), (15, .ifCond .eq 14, 3, 29, 0, 0, .null), (18, .aload_n 0, 1, 0, 0, 0, .null), (19, .getfield 120, 3, 11, 26, 1373, .null), (22, .iload_n 1, 1, 0, 0, 0, .null), (23, .baload, 1, 0, 0, 0, .null), (24, .ifCond .ne 5, 3, 29, 0, 0, .null), (27, .iconst 0, 1, 0, 0, 0, .int 0), (28, .ireturn, 1, 0, 0, 0, .null), (29, .aload_n 0, 1, 0, 0, 0, .null), (30, .getfield 120, 3, 11, 26, 1373, .null), (33, .iload_n 1, 1, 0, 0, 0, .null), (34, .iconst 1, 1, 0, 0, 0, .int 1), (35, .bastore, 1, 0, 0, 0, .null), (36, .aload_n 0, 1, 0, 0, 0, .null), (37, .iload_n 2, 1, 0, 0, 0, .null), (38, .ifCond .eq 12, 3, 50, 0, 0, .null), (41, .bipush 64, 2, 0, 0, 0, .int 64), (43, .iconst 1, 1, 0, 0, 0, .int 1), (44, .iload_n 1, 1, 0, 0, 0, .null), (45, .iadd, 1, 0, 0, 0, .null), (46, .imul, 1, 0, 0, 0, .null), (47, .goto 4, 3, 51, 0, 0, .null), (50, .iconst 0, 1, 0, 0, 0, .int 0), (51, .iload_n 2, 1, 0, 0, 0, .null), (52, .ifCond .eq 7, 3, 59, 0, 0, .null), (55, .iconst 0, 1, 0, 0, 0, .int 0), (56, .goto 9, 3, 65, 0, 0, .null), (59, .bipush 64, 2, 0, 0, 0, .int 64), (61, .iconst 1, 1, 0, 0, 0, .int 1), (62, .iload_n 1, 1, 0, 0, 0, .null), (63, .iadd, 1, 0, 0, 0, .null), (64, .imul, 1, 0, 0, 0, .null), (65, .bipush 64, 2, 0, 0, 0, .int 64), (67, .invokevirtual 289, 3, 174, 4, 1632, .ref 11), (70, .aload_n 0, 1, 0, 0, 0, .null), (71, .iload_n 2, 1, 0, 0, 0, .null), (72, .ifCond .eq 7, 3, 79, 0, 0, .null), (75, .iconst 0, 1, 0, 0, 0, .int 0), (76, .goto 7, 3, 83, 0, 0, .null), (79, .aload_n 0, 1, 0, 0, 0, .null), (80, .getfield 286, 3, 11, 25, 1372, .null), (83, .putfield 286, 3, 11, 25, 1372, .null), (86, .iconst 1, 1, 0, 0, 0, .int 1), (87, .ireturn, 1, 0, 0, 0, .null)]
set_option maxRecDepth 100000 in
theorem oX11_mark : fc_code mX11_mark lX11_mark = true := by decide +kernel
def lX11_pairsOf : List fc_I := [(0, .iconst 0, 1, 0, 0, 0, .int 0), (1, .istore_n 2, 1, 0, 0, 0, .null), (2, .iconst 0, 1, 0, 0, 0, .int 0), (3, .istore_n 3, 1, 0, 0, 0, .null), (4, .iload_n 3, 1, 0, 0, 0, .null), (5, .aload_n 0, 1, 0, 0, 0, .null), (6, .invokevirtual 270, 3, 179, 1, 1331, .ref 11), (9, .if_icmp .ge 23, 3, 32, 0, 0, .null), (12, .iload_n 2, 1, 0, 0, 0, .null), (13, .aload_n 0, 1, 0, 0, 0, .null), (14, .getfield 117, 3, 11, 24, 1371, .null), (17, .iload_n 1, 1, 0, 0, 0, .null), (18, .iload_n 3, 1, 0, 0, 0, .null), (19, .iadd, 1, 0, 0, 0, .null), (20, .iaload, 1, 0, 0, 0, .null), (21, .invokestatic 305, 3, 188, 1, 1656, .retAddr 0), (24, .iadd, 1, 0, 0, 0, .null), (25, .istore_n 2, 1, 0, 0, 0, .null), (26, .iinc 3 1, 3, 0, 0, 0, .null), (29, .goto (-25), 3, 4, 0, 0, .null), (32, .iload_n 2, 1, 0, 0, 0, .null), (33, .iconst 2, 1, 0, 0, 0, .int 2), (34, .idiv, 1, 0, 0, 0, .null), (35, .ireturn, 1, 0, 0, 0, .null)]
set_option maxRecDepth 100000 in
theorem oX11_pairsOf : fc_code mX11_pairsOf lX11_pairsOf = true := by decide +kernel
def lX11_count : List fc_I := [(0, .aload_n 0, 1, 0, 0, 0, .null), (1, .iconst 0, 1, 0, 0, 0, .int 0), (2, .putfield 1, 3, 11, 0, 1347, .null), (5, .iload_n 1, 1, 0, 0, 0, .null), (6, .tableswitch 141 0 13 #[70, 70, 70, 70, 70, 77, 84, 91, 102, 109, 116, 123, 131, 136], 70, 0, 0, 0, .null), (76, .aload_n 0, 1, 0, 0, 0, .null), (77, .getfield 87, 3, 11, 10, 1357, .null), (80, .iload_n 1, 1, 0, 0, 0, .null), (81, .iaload, 1, 0, 0, 0, .null), (82, .ireturn, 1, 0, 0, 0, .null), (83, .aload_n 0, 1, 0, 0, 0, .null), (84, .getfield 117, 3, 11, 24, 1371, .null), (87, .iconst 0, 1, 0, 0, 0, .int 0), (88, .iaload, 1, 0, 0, 0, .null), (89, .ireturn, 1, 0, 0, 0, .null), (90, .aload_n 0, 1, 0, 0, 0, .null), (91, .getfield 117, 3, 11, 24, 1371, .null), (94, .iconst 1, 1, 0, 0, 0, .int 1), (95, .iaload, 1, 0, 0, 0, .null), (96, .ireturn, 1, 0, 0, 0, .null), (97, .aload_n 0, 1, 0, 0, 0, .null), (98, .aload_n 0, 1, 0, 0, 0, .null), (99, .getfield 117, 3, 11, 24, 1371, .null), (102, .iconst 1, 1, 0, 0, 0, .int 1), (103, .iaload, 1, 0, 0, 0, .null), (104, .invokevirtual 302, 3, 189, 2, 1588, .ref 11), (107, .ireturn, 1, 0, 0, 0, .null), (108, .aload_n 0, 1, 0, 0, 0, .null), (109, .bipush 24, 2, 0, 0, 0, .int 24), (111, .invokevirtual 432, 3, 260, 2, 1901, .ref 11), (114, .ireturn, 1, 0, 0, 0, .null), (115, .aload_n 0, 1, 0, 0, 0, .null), (116, .bipush 29, 2, 0, 0, 0, .int 29), (118, .invokevirtual 432, 3, 260, 2, 1901, .ref 11), (121, .ireturn, 1, 0, 0, 0, .null), (122, .aload_n 0, 1, 0, 0, 0, .null), (123, .getfield 108, 3, 11, 21, 1368, .null), (126, .iconst 0, 1, 0, 0, 0, .int 0), (127, .iaload, 1, 0, 0, 0, .null), (128, .ireturn, 1, 0, 0, 0, .null), (129, .aload_n 0, 1, 0, 0, 0, .null), (130, .getfield 117, 3, 11, 24, 1371, .null), (133, .bipush 39, 2, 0, 0, 0, .int 39), (135, .iaload, 1, 0, 0, 0, .null), (136, .ireturn, 1, 0, 0, 0, .null), (137, .aload_n 0, 1, 0, 0, 0, .null), (138, .getfield 286, 3, 11, 25, 1372, .null), (141, .ireturn, 1, 0, 0, 0, .null), (142, .aload_n 0, 1, 0, 0, 0, .null), (143, .getfield 11, 3, 11, 2, 1349, .null), (146, .ireturn, 1, 0, 0, 0, .null), (147, .iconst (-1), 1, 0, 0, 0, .int (-1)), (148, .ireturn, 1, 0, 0, 0, .null)]
set_option maxRecDepth 100000 in
theorem oX11_count : fc_code mX11_count lX11_count = true := by decide +kernel
end
section
/-! ===== the memory: every cell that the run has made, by its place; ints, longs and references apart ===== -/
abbrev fc_Mi : Type := Nat → Nat → Int32
abbrev fc_Ml : Type := Nat → Nat → Int64
abbrev fc_Mr : Type := Nat → Nat → Option Nat
/-- shapes: (class number, 0), or (20 + kind of array, length) -/
abbrev fc_Sh : Type := List (Nat × Nat)
/-- launch, class numbers and slots, array classes, first place, the constant texts' places and their bytes', the script's length and ints -/
abbrev fc_E : Type := Launch × va_G × (Nat → ClassId) × Nat × (Nat → Nat) × (Nat → Nat) × Nat × (Nat → Int32)
def fc_u {α : Type} (f : Nat → Nat → α) (a j : Nat) (x : α) : Nat → Nat → α := fun a' => if a' = a then (fun j' => if j' = j then x else f a' j') else f a'
/-- a row for a row -/
def fc_ur {α : Type} (f : Nat → Nat → α) (a : Nat) (g : Nat → α) : Nat → Nat → α := fun a' => if a' = a then g else f a'
theorem fc_u_row {α : Type} (f : Nat → Nat → α) (a j : Nat) (x : α) : fc_u f a j x a = fun j' => if j' = j then x else f a j' := by unfold fc_u; rw [if_pos rfl]
theorem fc_u_off {α : Type} (f : Nat → Nat → α) {a b : Nat} (j : Nat) (x : α) (h : b ≠ a) : fc_u f a j x b = f b := by unfold fc_u; rw [if_neg h]
theorem fc_ur_row {α : Type} (f : Nat → Nat → α) (a : Nat) (g : Nat → α) : fc_ur f a g a = g := by unfold fc_ur; rw [if_pos rfl]
theorem fc_ur_off {α : Type} (f : Nat → Nat → α) {a b : Nat} (g : Nat → α) (h : b ≠ a) : fc_ur f a g b = f b := by unfold fc_ur; rw [if_neg h]
def fc_fv (base : Nat) (mi : Nat → Int32) (ml : Nat → Int64) (mr : Nat → Option Nat) (j : Nat) : Nat → Value
  | 0 => .int (mi j)
  | 1 => .long (ml j)
  | 3 => .int (mi j)
  | _ => va_rf ((mr j).map (base + ·))
def fc_fs (base : Nat) (mi : Nat → Int32) (ml : Nat → Int64) (mr : Nat → Option Nat) : Nat → List Nat → List Value
  | _, [] => []
  | j, t :: ts => fc_fv base mi ml mr j t :: fc_fs base mi ml mr (j + 1) ts
theorem fc_fs_get {base : Nat} {mi : Nat → Int32} {ml : Nat → Int64} {mr : Nat → Option Nat} : ∀ (ts : List Nat) (j k : Nat), (fc_fs base mi ml mr j ts)[k]? = (ts[k]?).map (fun t => fc_fv base mi ml mr (j + k) t)
  | [], j, k => by simp [fc_fs]
  | t :: ts, j, 0 => by simp [fc_fs]
  | t :: ts, j, k + 1 => by
    rw [fc_fs, List.getElem?_cons_succ, List.getElem?_cons_succ, fc_fs_get ts (j + 1) k]
    rw [show j + 1 + k = j + (k + 1) by omega]
theorem fc_fs_len {base : Nat} {mi : Nat → Int32} {ml : Nat → Int64} {mr : Nat → Option Nat} : ∀ (ts : List Nat) (j : Nat), (fc_fs base mi ml mr j ts).length = ts.length
  | [], j => rfl
  | t :: ts, j => by simp [fc_fs, fc_fs_len ts (j + 1)]
def fc_rows (base : Nat) (mr : Nat → Option Nat) : Nat → Option Nat := fun j => (mr j).map (base + ·)
def fc_cell (base : Nat) (tA : Nat → ClassId) (mi : Nat → Int32) (ml : Nat → Int64) (mr : Nat → Option Nat) (c : Nat × Nat) : va_E :=
  match c.1 with
  | 20 => .inl (tA 0, c.2, .inl mi)
  | 21 => .inl (tA 1, c.2, .inr (.inl ml))
  | 22 => .inl (tA 2, c.2, .inl mi)
  | 23 => .inl (tA 3, c.2, .inl mi)
  | 24 => .inl (tA 4, c.2, .inr (.inr (.inr (.inr (fc_rows base mr)))))
  | 25 => .inl (tA 5, c.2, .inr (.inr (.inr (.inr (fc_rows base mr)))))
  | 26 => .inl (tA 6, c.2, .inr (.inr (.inr (.inr (fc_rows base mr)))))
  | k => .inr (k, fc_fs base mi ml mr 0 (fc_ft k))
def fc_ws (E : fc_E) (sh : fc_Sh) (mi : fc_Mi) (ml : fc_Ml) (mr : fc_Mr) : va_W := sh.mapIdx (fun k c => (E.2.2.2.1 + k, fc_cell E.2.2.2.1 E.2.2.1 (mi k) (ml k) (mr k) c))
theorem fc_ws_get {E : fc_E} {sh : fc_Sh} {mi : fc_Mi} {ml : fc_Ml} {mr : fc_Mr} {k : Nat} {c : Nat × Nat} (h : sh[k]? = some c) : (fc_ws E sh mi ml mr)[k]? = some (E.2.2.2.1 + k, fc_cell E.2.2.2.1 E.2.2.1 (mi k) (ml k) (mr k) c) := by
  rw [fc_ws, List.getElem?_mapIdx, h]; rfl
theorem fc_ws_set {E : fc_E} {sh : fc_Sh} {mi mi' : fc_Mi} {ml ml' : fc_Ml} {mr mr' : fc_Mr} {k : Nat} {c : Nat × Nat} {e : va_E} (h : sh[k]? = some c)
    (hi : ∀ a, a ≠ k → mi' a = mi a) (hl : ∀ a, a ≠ k → ml' a = ml a) (hr : ∀ a, a ≠ k → mr' a = mr a) (he : fc_cell E.2.2.2.1 E.2.2.1 (mi' k) (ml' k) (mr' k) c = e) :
    (fc_ws E sh mi ml mr).set k (E.2.2.2.1 + k, e) = fc_ws E sh mi' ml' mr' := by
  subst he
  apply List.ext_getElem?
  intro i
  by_cases hik : i = k
  · subst hik
    have hlt : i < (fc_ws E sh mi ml mr).length := by
      have := (List.getElem?_eq_some_iff.mp h).1
      simpa [fc_ws] using this
    rw [List.getElem?_set_self hlt, fc_ws_get h]
  · rw [List.getElem?_set_ne (Ne.symm hik)]
    simp only [fc_ws, List.getElem?_mapIdx]
    rw [hi i hik, hl i hik, hr i hik]
def fc_A (E : fc_E) : Nat → Prop := fun q => E.2.2.2.1 ≤ q
theorem fc_ws_D {E : fc_E} {sh : fc_Sh} {mi : fc_Mi} {ml : fc_Ml} {mr : fc_Mr} : va_D (fc_A E) (fc_ws E sh mi ml mr) := by
  have key : ∀ (i : Nat) (q : Nat × va_E), (fc_ws E sh mi ml mr)[i]? = some q → q.1 = E.2.2.2.1 + i := by
    intro i q h
    simp only [fc_ws, List.getElem?_mapIdx] at h
    cases hs : sh[i]? with
    | none => rw [hs] at h; cases h
    | some c => rw [hs] at h; cases h; rfl
  refine ⟨fun i j x y hi hj hxy => ?_, fun k q hk => ?_⟩
  · have h1 := key i x hi
    have h2 := key j y hj
    omega
  · show E.2.2.2.1 ≤ q.1
    rw [key k q hk]
    omega
def fc_tys (tA : Nat → ClassId) : List (ClassId × FieldType) := [(tA 0, .int), (tA 1, .long), (tA 2, .boolean), (tA 3, .char), (tA 4, .object "FirstChimney$State"), (tA 5, .object "FirstChimney$Seen"), (tA 6, .array .int)]
/-- my values, and the machine's: a place is counted from the first one; float i is the i-th constant text (float 5: the script), retAddr i its row of bytes -/
def fc_v (E : fc_E) : Value → Value
  | .ref q => .ref (E.2.2.2.1 + q)
  | .float u => .ref (E.2.2.2.2.1 u.toNat)
  | .retAddr i => .ref (E.2.2.2.2.2.1 i)
  | v => v
theorem fc_v_cat (E : fc_E) (v : Value) : (fc_v E v).category = v.category := by cases v <;> rfl
end
section
/-! ===== the judgement over that memory ===== -/
def fc_rm (d : Nat) : Room := { frames := d + 1, cells := 0, slots := 0, locals := 64 * (d + 1) }
def fc_nw (q : String × Nat × MethodName) : Cond := .methodLinkNest q.1 q.2.1 q.2.2 "FirstChimney"
def fc_tl : List Nat := [168, 8, 32, 16, 12]
def fc_tb : List (List Int32) := fc_tx.map (fun q => q.2.2.toList.map (fun c => nI c.toNat))
def fc_K (E : fc_E) (U : State) : Prop := va_K E.2.1 vwCl (fc_tys E.2.2.1) U ∧ (∀ q ∈ fc_N, va_Nw (fc_nw q) U) ∧ vk_S 5 fc_tl fc_tb E.2.2.2.2.1 E.2.2.2.2.2.1 (fc_A E) U U.heap ∧ (∀ (i : Nat) (q : String × Nat × String), fc_tx[i]? = some q → vk_R q.1 q.2.1 q.2.2 (E.2.2.2.2.1 i) U) ∧ va_X (E.2.2.2.2.1 5) E.2.2.2.2.2.2.1 E.2.2.2.2.2.2.2 U U.heap ∧ ¬ fc_A E (E.2.2.2.2.1 5)
theorem fc_K.moved {E : fc_E} {s U : State} (h : fc_K E s) (hW : s.WarmedH U.vm) (hq : ∀ a : Nat, a < s.heap.size → ¬ fc_A E a → U.heap[a]? = s.heap[a]?) : fc_K E U := by
  obtain ⟨h1, h2, h3, h4, h5, h6⟩ := h
  have hlt : E.2.2.2.2.1 5 < s.heap.size := by
    obtain ⟨scr, g1, -⟩ := id h5
    exact (Array.getElem?_eq_some_iff.mp g1).1
  exact ⟨va_K.moved hW.alike h1, fun q hm => va_Nw.warmM hW (h2 q hm), (h3.kept hq).moved hW.alike, fun i q hi => (h4 i q hi).warm hW, (h5.kept (hq _ hlt h6)).moved hW.alike, h6⟩
theorem fc_K.calling {E : fc_E} {U : State} (a : Array Value) (g : JFrame) (mk : MethodId) (h : fc_K E U) : fc_K E (U.calling g mk a) :=
  ⟨va_K.moved (u := U) (U := U.calling g mk a) (Vm.Alike.refl U.vm) h.1, fun q hm => va_Nw.same rfl rfl (h.2.1 q hm), vk_S.moved (u := U) (U := U.calling g mk a) (Vm.Alike.refl U.vm) h.2.2.1, fun i q hi => (h.2.2.2.1 i q hi).same rfl, va_X.moved (u := U) (U := U.calling g mk a) (Vm.Alike.refl U.vm) h.2.2.2.2.1, h.2.2.2.2.2⟩
def fc_w (y : fc_M) : List Cond := .code y.1 y.2.1 y.2.2.1 y.2.2.2 :: fc_G
abbrev fc_Q : Type := Option Value → fc_Mi → fc_Ml → fc_Mr → Prop
def fc_Qc (E : fc_E) (sh : fc_Sh) (Q : fc_Q) : Array Value → State → Outcome → State → Prop := fun _ st o t =>
  (∃ v mi ml mr, Q v mi ml mr ∧ o = .returned (v.map (fc_v E)) ∧ va_P E.2.1 vwCl (fc_ws E sh mi ml mr) t.heap) ∧ va_F (fc_A E) st t
/-- THE CONTRACT of a method that makes no cell: from this memory with these arguments it returns, and Q -/
def fc_R (E : fc_E) (y : fc_M) (d : Nat) (sh : fc_Sh) (As : List Value) (mi : fc_Mi) (ml : fc_Ml) (mr : fc_Mr) (Q : fc_Q) : Prop :=
  Met E.1 y.1 (fc_w y) (fc_rm d) (va_Pc (As.map (fc_v E)) (fun U => va_P E.2.1 vwCl (fc_ws E sh mi ml mr) U.heap ∧ fc_K E U)) (fc_Qc E sh Q) 0 0 (fc_A E)
def fc_C (E : fc_E) (y : fc_M) (p : Program) (s : State) (m : MethodId) (args : Array Value) (meth : Method) (c : Code) : Prop :=
  p.tables.exec = Jvm.exec ∧ c.code = y.2.1 ∧ meth.sig.returnType = y.2.2.2 ∧ meth.locks = false ∧ s.vm.findClass y.1.cls = some m.cls ∧ c.maxLocals = y.2.2.1 ∧ (∀ w ∈ fc_G, w.before args s = true) ∧ fc_K E s
/-- locals: what is known of them, by place -/
def fc_lv (E : fc_E) (ls : Array Slot) (nL : Nat) (lv : List (Option Value)) : Prop := ls.size = nL ∧ lv_wf ls ∧ ∀ (i : Nat) (v : Value), lv[i]? = some (some v) → ls[i]? = some (.val (fc_v E v))
/-- room for d calls more, each within 64 words; cells and slots made so far -/
def fc_Rm (d : Nat) (cs : Nat × Nat) (R : Room) : Prop := d + 1 ≤ R.frames ∧ 64 * (d + 1) ≤ R.locals ∧ cs.1 ≤ R.cells ∧ cs.2 ≤ R.slots
/-- at a return -/
def fc_rt (y : fc_M) (pc : Nat) : Option Value → Prop
  | some (.int x) => decode y.2.1 pc = .ok (.ireturn, 1) ∧ (y.2.2.2 = some .int ∨ (y.2.2.2 = some .boolean ∧ (x = 0 ∨ x = 1)) ∨ (y.2.2.2 = some .char ∧ narrow .char (.int x) = .int x))
  | none => decode y.2.1 pc = .ok (.return_, 1) ∧ y.2.2.2 = none
  | _ => False
def fc_ret (E : fc_E) (y : fc_M) (cs : Nat × Nat) (sh : fc_Sh) (p : Program) (e : Env) (s : State) (m : MethodId) (args : Array Value) (below : List Frame) (meth : Method) (c : Code) (R : Room) (Qf : State → Prop) (Q : fc_Q) : Prop :=
  ∀ (v : Option Value) (mi : fc_Mi) (ml : fc_Ml) (mr : fc_Mr) (H : Heap) (locs : List Loc) (ls : Array Slot) (pc : Nat), Q v mi ml mr → va_P E.2.1 vwCl (fc_ws E sh mi ml mr) H → va_S (fc_A E) s.heap H locs → fc_rt y pc v → W p E.1 e R s m args below meth c H locs cs.1 cs.2 Qf (F0 m pc ls (v.map (fc_v E)).toList)
def fc_T (E : fc_E) (y : fc_M) (d : Nat) (cs : Nat × Nat) (sh : fc_Sh) (pc : Nat) (lv : List (Option Value)) (st : List Value) (mi : fc_Mi) (ml : fc_Ml) (mr : fc_Mr) (Q : fc_Q) : Prop :=
  ∀ (p : Program) (e : Env) (s : State) (m : MethodId) (args : Array Value) (below : List Frame) (meth : Method) (c : Code) (R : Room) (Qf : State → Prop), fc_C E y p s m args meth c → fc_Rm d cs R → fc_ret E y cs sh p e s m args below meth c R Qf Q →
    ∀ (H : Heap) (locs : List Loc) (ls : Array Slot), va_P E.2.1 vwCl (fc_ws E sh mi ml mr) H → va_S (fc_A E) s.heap H locs → fc_lv E ls y.2.2.1 lv →
    W p E.1 e R s m args below meth c H locs cs.1 cs.2 Qf (F0 m pc ls (st.map (fc_v E)))
/-- what a method begins with -/
def fc_l0 : List Value → List (Option Value)
  | [] => []
  | v :: vs => if v.category = 2 then some v :: none :: fc_l0 vs else some v :: fc_l0 vs
theorem fc_l0_args (E : fc_E) : ∀ (vs : List Value) (n i : Nat) (v : Value), (fc_l0 vs)[i]? = some (some v) → (n + i, fc_v E v) ∈ lv_args n (vs.map (fc_v E))
  | [], n, i, v, h => by simp [fc_l0] at h
  | w :: vs, n, i, v, h => by
    simp only [List.map_cons, lv_args, fc_v_cat]
    simp only [fc_l0] at h
    by_cases hc : w.category = 2
    · rw [if_pos hc] at h
      rw [if_pos hc]
      match i, h with
      | 0, h => simp at h; subst h; exact List.mem_cons_self
      | 1, h => simp at h
      | i + 2, h =>
        refine List.mem_cons_of_mem _ ?_
        have := fc_l0_args E vs (n + 2) i v (by simpa using h)
        rwa [show n + 2 + i = n + (i + 2) by omega] at this
    · rw [if_neg hc] at h
      rw [if_neg hc]
      match i, h with
      | 0, h => simp at h; subst h; exact List.mem_cons_self
      | i + 1, h =>
        refine List.mem_cons_of_mem _ ?_
        have := fc_l0_args E vs (n + 1) i v (by simpa using h)
        rwa [show n + 1 + i = n + (i + 1) by omega] at this
theorem fc_lsl (E : fc_E) : ∀ vs : List Value, (lg_sl (vs.map (fc_v E))).length = (lg_sl vs).length
  | [] => rfl
  | v :: vs => by
    simp only [lg_sl, List.map_cons, List.flatMap_cons, List.length_append]
    have := fc_lsl E vs
    simp only [lg_sl] at this
    rw [this, fc_v_cat]
    congr 1
    split <;> rfl
/-- locals at the entry, all places told -/
def fc_l1 (n : Nat) (As : List Value) : List (Option Value) := fc_l0 As ++ List.replicate (n - (fc_l0 As).length) none
theorem fc_l1_get {n : Nat} {As : List Value} {i : Nat} {v : Value} (h : (fc_l1 n As)[i]? = some (some v)) : (fc_l0 As)[i]? = some (some v) := by
  unfold fc_l1 at h
  by_cases hi : i < (fc_l0 As).length
  · rwa [List.getElem?_append_left hi] at h
  · rw [List.getElem?_append_right (by omega), List.getElem?_replicate] at h
    split at h <;> cases h
/-- a contract out of a walk of the body -/
theorem fc_met {E : fc_E} {y : fc_M} {d : Nat} {sh : fc_Sh} {As : List Value} {mi : fc_Mi} {ml : fc_Ml} {mr : fc_Mr} {Q : fc_Q} (hy : plainName y.1.cls = true) (hn : (lg_sl As).length ≤ y.2.2.1)
    (h : fc_T E y d (0, 0) sh 0 (fc_l1 y.2.2.1 As) [] mi ml mr Q) : fc_R E y d sh As mi ml mr Q := by
  refine Met.ofW (cc := y.2.1) (maxL := y.2.2.1) (ret := y.2.2.2) hy rfl ?_
  intro p e s m args below meth c s₁ B hml hv
  obtain ⟨rfl, hP, hK⟩ := hv
  have hts := atoms_spec (ws := fc_w y) B.pre
  have hown : s.vm.findClass y.1.cls = some m.cls := findClass_of_methodNamed B.named
  have hlocks := B.notSynchronized
  have hl := lv_entry (As.map (fc_v E)) (n := y.2.2.1) (by rw [fc_lsl]; exact hn)
  rw [lg_entry_eq]
  refine h p e s m _ below meth c (fc_rm d) _ ⟨B.exec, B.bytes, B.returns, hlocks, hown, hml, fun w hw => hts w (List.mem_cons_of_mem _ hw), hK⟩ ⟨Nat.le_refl _, Nat.le_refl _, Nat.zero_le _, Nat.zero_le _⟩ ?_ s.heap [] _ hP va_S.rf
    ⟨hl.1, hl.2.1, fun i v hi => hl.2.2 (i, fc_v E v) (by simpa using fc_l0_args E As 0 i v (fc_l1_get hi))⟩
  intro v mi' ml' mr' H locs ls pc hq hP1 hS1 hrt
  have fin : ∀ t : State, t.heap = H → fc_Qc E sh Q (As.map (fc_v E)).toArray s (.returned (v.map (fc_v E))) t := fun t ht => ⟨⟨v, mi', ml', mr', hq, rfl, by rw [ht]; exact hP1⟩, hS1.F ht⟩
  match v, hrt with
  | none, hrt => exact W.vret B.exec B.bytes (B.returns.trans hrt.2) (fun t ht _ => fin t ht) hS1.2.2 hrt.1 hlocks
  | some (.int x), hrt =>
    rcases hrt.2 with h | ⟨h, hx⟩ | ⟨h, hx⟩
    · exact W.iret (v := x) B.exec B.bytes (B.returns.trans h) (fun t ht _ => fin t ht) hS1.2.2 hrt.1 hlocks
    · exact W.zret (v := x) (ty := .boolean) B.exec B.bytes (B.returns.trans h) (by rcases hx with rfl | rfl <;> rfl) (fun t ht _ => fin t ht) hS1.2.2 hrt.1 hlocks
    · exact W.zret (v := x) (ty := .char) B.exec B.bytes (B.returns.trans h) hx (fun t ht _ => fin t ht) hS1.2.2 hrt.1 hlocks
end
section
/-! ===== one instruction each ===== -/
def fc_as (E : fc_E) (lv : List (Option Value)) : List (Nat × Value) := (List.range lv.length).filterMap (fun j => (lv[j]?.join).map (fun v => (j, fc_v E v)))
theorem fc_as_mem {E : fc_E} {lv : List (Option Value)} {q : Nat × Value} : q ∈ fc_as E lv ↔ ∃ v, lv[q.1]? = some (some v) ∧ q.2 = fc_v E v := by
  unfold fc_as
  rw [List.mem_filterMap]
  constructor
  · rintro ⟨j, hj, h⟩
    rw [Option.map_eq_some_iff] at h
    obtain ⟨v, h1, rfl⟩ := h
    refine ⟨v, ?_, rfl⟩
    cases hl : lv[j]? with
    | none => rw [hl] at h1; simp at h1
    | some o => rw [hl] at h1; simp at h1; subst h1; rfl
  · rintro ⟨v, h1, h2⟩
    refine ⟨q.1, List.mem_range.mpr (List.getElem?_eq_some_iff.mp h1).1, ?_⟩
    rw [h1]
    show some (q.1, fc_v E v) = some q
    rw [← h2]
theorem fc_lv.has {E : fc_E} {ls : Array Slot} {nL : Nat} {lv : List (Option Value)} (h : fc_lv E ls nL lv) : lv_has ls nL (fc_as E lv) :=
  ⟨h.1, h.2.1, fun q hq => by
    obtain ⟨v, h1, h2⟩ := fc_as_mem.mp hq
    rw [h2]
    exact h.2.2 q.1 v h1⟩
/-- a long whose second half is written is gone -/
def fc_kl (lv : List (Option Value)) (i : Nat) : List (Option Value) := match i with
  | 0 => lv
  | j + 1 => match lv[j]? with
    | some (some w) => if w.category = 2 then lv.set j none else lv
    | _ => lv
theorem fc_kl_get {lv : List (Option Value)} {i j : Nat} {v : Value} (h : (fc_kl lv i)[j]? = some (some v)) : lv[j]? = some (some v) ∧ ¬ (j + 1 = i ∧ v.category = 2) := by
  unfold fc_kl at h
  cases i with
  | zero => exact ⟨h, fun q => by omega⟩
  | succ k =>
    dsimp only at h
    have ho : lv[k]? = none ∨ lv[k]? = some none → lv[j]? = some (some v) → ¬ (j + 1 = k + 1 ∧ v.category = 2) := by
      intro hk hj q
      have e : j = k := by omega
      rw [e] at hj
      rcases hk with hk | hk
      · rw [hk] at hj; cases hj
      · rw [hk] at hj; cases hj
    cases hk : lv[k]? with
    | none =>
      rw [hk] at h
      exact ⟨h, ho (Or.inl hk) h⟩
    | some o =>
      rw [hk] at h
      cases o with
      | none => exact ⟨h, ho (Or.inr hk) h⟩
      | some w =>
        dsimp only at h
        by_cases hc : w.category = 2
        · rw [if_pos hc] at h
          by_cases hjk : j = k
          · subst hjk
            rw [List.getElem?_set_self (List.getElem?_eq_some_iff.mp hk).1] at h
            cases h
          · rw [List.getElem?_set_ne (Ne.symm hjk)] at h
            exact ⟨h, fun q => by omega⟩
        · rw [if_neg hc] at h
          refine ⟨h, fun q => ?_⟩
          have : j = k := by omega
          subst this
          rw [hk] at h
          cases h
          exact hc q.2
def fc_s1 (lv : List (Option Value)) (i : Nat) (v : Value) : List (Option Value) := (fc_kl lv i).set i (some v)
def fc_s2 (lv : List (Option Value)) (i : Nat) (v : Value) : List (Option Value) := ((fc_kl lv i).set i (some v)).set (i + 1) none
theorem fc_lv.s1 {E : fc_E} {ls' : Array Slot} {nL i : Nat} {lv : List (Option Value)} {v : Value} (h : lv_has ls' nL ((i, fc_v E v) :: (fc_as E lv).filter (fun q => !(q.1 == i) && !(q.1 + 1 == i && q.2.category == 2)))) : fc_lv E ls' nL (fc_s1 lv i v) := by
  refine ⟨h.1, h.2.1, fun j w hj => ?_⟩
  unfold fc_s1 at hj
  by_cases hji : j = i
  · subst hji
    by_cases hlt : j < (fc_kl lv j).length
    · rw [List.getElem?_set_self hlt] at hj
      cases hj
      exact h.2.2 _ List.mem_cons_self
    · rw [List.getElem?_eq_none (by simpa using Nat.not_lt.mp hlt)] at hj
      cases hj
  · rw [List.getElem?_set_ne (Ne.symm hji)] at hj
    obtain ⟨h1, h2⟩ := fc_kl_get hj
    refine h.2.2 (j, fc_v E w) (List.mem_cons_of_mem _ (List.mem_filter.mpr ⟨fc_as_mem.mpr ⟨w, h1, rfl⟩, ?_⟩))
    simp only [fc_v_cat, Bool.and_eq_true, Bool.not_eq_true', beq_eq_false_iff_ne, Bool.and_eq_false_imp, beq_iff_eq]
    exact ⟨hji, fun q => by simpa using fun z => h2 ⟨q, z⟩⟩
theorem fc_lv.s2 {E : fc_E} {ls' : Array Slot} {nL i : Nat} {lv : List (Option Value)} {v : Value} (h : lv_has ls' nL ((i, fc_v E v) :: (fc_as E lv).filter (fun q => !(q.1 == i) && (!(q.1 == i + 1) && !(q.1 + 1 == i && q.2.category == 2))))) : fc_lv E ls' nL (fc_s2 lv i v) := by
  refine ⟨h.1, h.2.1, fun j w hj => ?_⟩
  unfold fc_s2 at hj
  by_cases hj1 : j = i + 1
  · subst hj1
    by_cases hlt : i + 1 < ((fc_kl lv i).set i (some v)).length
    · rw [List.getElem?_set_self hlt] at hj
      cases hj
    · rw [List.getElem?_eq_none (by simpa using Nat.not_lt.mp hlt)] at hj
      cases hj
  · rw [List.getElem?_set_ne (Ne.symm hj1)] at hj
    by_cases hji : j = i
    · subst hji
      by_cases hlt : j < (fc_kl lv j).length
      · rw [List.getElem?_set_self hlt] at hj
        cases hj
        exact h.2.2 _ List.mem_cons_self
      · rw [List.getElem?_eq_none (by simpa using Nat.not_lt.mp hlt)] at hj
        cases hj
    · rw [List.getElem?_set_ne (Ne.symm hji)] at hj
      obtain ⟨h1, h2⟩ := fc_kl_get hj
      refine h.2.2 (j, fc_v E w) (List.mem_cons_of_mem _ (List.mem_filter.mpr ⟨fc_as_mem.mpr ⟨w, h1, rfl⟩, ?_⟩))
      simp only [fc_v_cat, Bool.and_eq_true, Bool.not_eq_true', beq_eq_false_iff_ne, Bool.and_eq_false_imp, beq_iff_eq]
      exact ⟨hji, hj1, fun q => by simpa using fun z => h2 ⟨q, z⟩⟩
section R1
variable {E : fc_E} {y : fc_M} {d : Nat} {cs : Nat × Nat} {sh : fc_Sh} {pc : Nat} {lv : List (Option Value)} {st : List Value} {mi : fc_Mi} {ml : fc_Ml} {mr : fc_Mr} {Q : fc_Q}
theorem fc_r_iconst {n : Int} {v : Int32} (hd : decode y.2.1 pc = .ok (.iconst n, 1)) (hv : Int32.ofInt n = v) (k : fc_T E y d cs sh (pc + 1) lv (.int v :: st) mi ml mr Q) : fc_T E y d cs sh pc lv st mi ml mr Q := fun p e s m args below meth c R Qf hC hR hret H locs ls hP hS hl => lv_iconst hC.1 hC.2.1 hd hv (k p e s m args below meth c R Qf hC hR hret H locs ls hP hS hl)
theorem fc_r_bipush {n : Int} {v : Int32} (hd : decode y.2.1 pc = .ok (.bipush n, 2)) (hv : (Int8.ofInt n).toInt32 = v) (k : fc_T E y d cs sh (pc + 2) lv (.int v :: st) mi ml mr Q) : fc_T E y d cs sh pc lv st mi ml mr Q := fun p e s m args below meth c R Qf hC hR hret H locs ls hP hS hl => lv_bipush hC.1 hC.2.1 hd hv (k p e s m args below meth c R Qf hC hR hret H locs ls hP hS hl)
theorem fc_r_sipush {n : Int} {v : Int32} (hd : decode y.2.1 pc = .ok (.sipush n, 3)) (hv : (Int16.ofInt n).toInt32 = v) (k : fc_T E y d cs sh (pc + 3) lv (.int v :: st) mi ml mr Q) : fc_T E y d cs sh pc lv st mi ml mr Q := fun p e s m args below meth c R Qf hC hR hret H locs ls hP hS hl => lv_sipush hC.1 hC.2.1 hd hv (k p e s m args below meth c R Qf hC hR hret H locs ls hP hS hl)
theorem fc_r_lconst {n : Fin 2} {v : Int64} (hd : decode y.2.1 pc = .ok (.lconst n, 1)) (hv : Int64.ofNat (n : Nat) = v) (k : fc_T E y d cs sh (pc + 1) lv (.long v :: st) mi ml mr Q) : fc_T E y d cs sh pc lv st mi ml mr Q := fun p e s m args below meth c R Qf hC hR hret H locs ls hP hS hl => lv_lconst hC.1 hC.2.1 hd hv (k p e s m args below meth c R Qf hC hR hret H locs ls hP hS hl)
theorem fc_r_iload_n {k0 : Fin 4} {i : Nat} {x : Int32} (hd : decode y.2.1 pc = .ok (.iload_n k0, 1)) (hi : (k0 : Nat) = i) (hx : lv[i]? = some (some (.int x))) (k : fc_T E y d cs sh (pc + 1) lv (.int x :: st) mi ml mr Q) : fc_T E y d cs sh pc lv st mi ml mr Q := fun p e s m args below meth c R Qf hC hR hret H locs ls hP hS hl => lv_iload_n hC.1 hC.2.1 hd hi (hl.2.2 i _ hx) (k p e s m args below meth c R Qf hC hR hret H locs ls hP hS hl)
theorem fc_r_iload {i : Nat} {x : Int32} (hd : decode y.2.1 pc = .ok (.iload i, 2)) (hx : lv[i]? = some (some (.int x))) (k : fc_T E y d cs sh (pc + 2) lv (.int x :: st) mi ml mr Q) : fc_T E y d cs sh pc lv st mi ml mr Q := fun p e s m args below meth c R Qf hC hR hret H locs ls hP hS hl => lv_iload hC.1 hC.2.1 hd (hl.2.2 i _ hx) (k p e s m args below meth c R Qf hC hR hret H locs ls hP hS hl)
theorem fc_r_lload_n {k0 : Fin 4} {i : Nat} {x : Int64} (hd : decode y.2.1 pc = .ok (.lload_n k0, 1)) (hi : (k0 : Nat) = i) (hx : lv[i]? = some (some (.long x))) (k : fc_T E y d cs sh (pc + 1) lv (.long x :: st) mi ml mr Q) : fc_T E y d cs sh pc lv st mi ml mr Q := fun p e s m args below meth c R Qf hC hR hret H locs ls hP hS hl => lv_lload_n hC.1 hC.2.1 hd hi (hl.2.2 i _ hx) (k p e s m args below meth c R Qf hC hR hret H locs ls hP hS hl)
theorem fc_r_lload {i : Nat} {x : Int64} (hd : decode y.2.1 pc = .ok (.lload i, 2)) (hx : lv[i]? = some (some (.long x))) (k : fc_T E y d cs sh (pc + 2) lv (.long x :: st) mi ml mr Q) : fc_T E y d cs sh pc lv st mi ml mr Q := fun p e s m args below meth c R Qf hC hR hret H locs ls hP hS hl => lv_lload hC.1 hC.2.1 hd (hl.2.2 i _ hx) (k p e s m args below meth c R Qf hC hR hret H locs ls hP hS hl)
theorem fc_r_aload_n {k0 : Fin 4} {i : Nat} {x : Nat} (hd : decode y.2.1 pc = .ok (.aload_n k0, 1)) (hi : (k0 : Nat) = i) (hx : lv[i]? = some (some (.ref x))) (k : fc_T E y d cs sh (pc + 1) lv (.ref x :: st) mi ml mr Q) : fc_T E y d cs sh pc lv st mi ml mr Q := fun p e s m args below meth c R Qf hC hR hret H locs ls hP hS hl => lv_aload_n hC.1 hC.2.1 hd hi (hl.2.2 i _ hx) (k p e s m args below meth c R Qf hC hR hret H locs ls hP hS hl)
theorem fc_r_aload {i : Nat} {x : Nat} (hd : decode y.2.1 pc = .ok (.aload i, 2)) (hx : lv[i]? = some (some (.ref x))) (k : fc_T E y d cs sh (pc + 2) lv (.ref x :: st) mi ml mr Q) : fc_T E y d cs sh pc lv st mi ml mr Q := fun p e s m args below meth c R Qf hC hR hret H locs ls hP hS hl => lv_aload hC.1 hC.2.1 hd (hl.2.2 i _ hx) (k p e s m args below meth c R Qf hC hR hret H locs ls hP hS hl)
theorem fc_r_sload_n {k0 : Fin 4} {i : Nat} {x : UInt32} (hd : decode y.2.1 pc = .ok (.aload_n k0, 1)) (hi : (k0 : Nat) = i) (hx : lv[i]? = some (some (.float x))) (k : fc_T E y d cs sh (pc + 1) lv (.float x :: st) mi ml mr Q) : fc_T E y d cs sh pc lv st mi ml mr Q := fun p e s m args below meth c R Qf hC hR hret H locs ls hP hS hl => lv_aload_n hC.1 hC.2.1 hd hi (hl.2.2 i _ hx) (k p e s m args below meth c R Qf hC hR hret H locs ls hP hS hl)
theorem fc_r_istore_n {k0 : Fin 4} {i : Nat} {x : Int32} (hd : decode y.2.1 pc = .ok (.istore_n k0, 1)) (hi : (k0 : Nat) = i) (hn : i < y.2.2.1) (k : fc_T E y d cs sh (pc + 1) (fc_s1 lv i (.int x)) st mi ml mr Q) : fc_T E y d cs sh pc lv (.int x :: st) mi ml mr Q := fun p e s m args below meth c R Qf hC hR hret H locs ls hP hS hl => lv_istore_n hC.1 hC.2.1 hd hi hl.has hn rfl (fun ls' hl' => k p e s m args below meth c R Qf hC hR hret H locs ls' hP hS (fc_lv.s1 (v := .int x) hl'))
theorem fc_r_istore {i : Nat} {x : Int32} (hd : decode y.2.1 pc = .ok (.istore i, 2)) (hn : i < y.2.2.1) (k : fc_T E y d cs sh (pc + 2) (fc_s1 lv i (.int x)) st mi ml mr Q) : fc_T E y d cs sh pc lv (.int x :: st) mi ml mr Q := fun p e s m args below meth c R Qf hC hR hret H locs ls hP hS hl => lv_istore hC.1 hC.2.1 hd hl.has hn rfl (fun ls' hl' => k p e s m args below meth c R Qf hC hR hret H locs ls' hP hS (fc_lv.s1 (v := .int x) hl'))
theorem fc_r_lstore_n {k0 : Fin 4} {i : Nat} {x : Int64} (hd : decode y.2.1 pc = .ok (.lstore_n k0, 1)) (hi : (k0 : Nat) = i) (hn : i + 1 < y.2.2.1) (k : fc_T E y d cs sh (pc + 1) (fc_s2 lv i (.long x)) st mi ml mr Q) : fc_T E y d cs sh pc lv (.long x :: st) mi ml mr Q := fun p e s m args below meth c R Qf hC hR hret H locs ls hP hS hl => lv_lstore_n hC.1 hC.2.1 hd hi hl.has hn rfl (fun ls' hl' => k p e s m args below meth c R Qf hC hR hret H locs ls' hP hS (fc_lv.s2 (v := .long x) hl'))
theorem fc_r_lstore {i : Nat} {x : Int64} (hd : decode y.2.1 pc = .ok (.lstore i, 2)) (hn : i + 1 < y.2.2.1) (k : fc_T E y d cs sh (pc + 2) (fc_s2 lv i (.long x)) st mi ml mr Q) : fc_T E y d cs sh pc lv (.long x :: st) mi ml mr Q := fun p e s m args below meth c R Qf hC hR hret H locs ls hP hS hl => lv_lstore hC.1 hC.2.1 hd hl.has hn rfl (fun ls' hl' => k p e s m args below meth c R Qf hC hR hret H locs ls' hP hS (fc_lv.s2 (v := .long x) hl'))
theorem fc_r_astore_n {k0 : Fin 4} {i : Nat} {x : Nat} (hd : decode y.2.1 pc = .ok (.astore_n k0, 1)) (hi : (k0 : Nat) = i) (hn : i < y.2.2.1) (k : fc_T E y d cs sh (pc + 1) (fc_s1 lv i (.ref x)) st mi ml mr Q) : fc_T E y d cs sh pc lv (.ref x :: st) mi ml mr Q := fun p e s m args below meth c R Qf hC hR hret H locs ls hP hS hl => lv_astore_n hC.1 hC.2.1 hd hi hl.has hn rfl (fun ls' hl' => k p e s m args below meth c R Qf hC hR hret H locs ls' hP hS (fc_lv.s1 (v := .ref x) hl'))
theorem fc_r_astore {i : Nat} {x : Nat} (hd : decode y.2.1 pc = .ok (.astore i, 2)) (hn : i < y.2.2.1) (k : fc_T E y d cs sh (pc + 2) (fc_s1 lv i (.ref x)) st mi ml mr Q) : fc_T E y d cs sh pc lv (.ref x :: st) mi ml mr Q := fun p e s m args below meth c R Qf hC hR hret H locs ls hP hS hl => lv_astore hC.1 hC.2.1 hd hl.has hn rfl (fun ls' hl' => k p e s m args below meth c R Qf hC hR hret H locs ls' hP hS (fc_lv.s1 (v := .ref x) hl'))
theorem fc_r_iinc {i : Nat} {n : Int} {x v : Int32} (hd : decode y.2.1 pc = .ok (.iinc i n, 3)) (hx : lv[i]? = some (some (.int x))) (hv : x + Int32.ofInt n = v) (hn : i < y.2.2.1) (k : fc_T E y d cs sh (pc + 3) (fc_s1 lv i (.int v)) st mi ml mr Q) : fc_T E y d cs sh pc lv st mi ml mr Q := by
  intro p e s m args below meth c R Qf hC hR hret H locs ls hP hS hl
  obtain ⟨kk, hkk⟩ := List.getElem?_of_mem (fc_as_mem (E := E) (q := (i, .int x)) |>.mpr ⟨.int x, hx, rfl⟩)
  exact lv_iinc hC.1 hC.2.1 hd hl.has hkk hv hn rfl (fun ls' hl' => k p e s m args below meth c R Qf hC hR hret H locs ls' hP hS (fc_lv.s1 (v := .int v) hl'))
theorem fc_r_iadd {x z : Int32} (hd : decode y.2.1 pc = .ok (.iadd, 1))  (k : fc_T E y d cs sh (pc + 1) lv (.int (x + z) :: st) mi ml mr Q) : fc_T E y d cs sh pc lv (.int z :: .int x :: st) mi ml mr Q := fun p e s m args below meth c R Qf hC hR hret H locs ls hP hS hl => lv_iadd hC.1 hC.2.1 hd  (k p e s m args below meth c R Qf hC hR hret H locs ls hP hS hl)
theorem fc_r_isub {x z : Int32} (hd : decode y.2.1 pc = .ok (.isub, 1))  (k : fc_T E y d cs sh (pc + 1) lv (.int (x - z) :: st) mi ml mr Q) : fc_T E y d cs sh pc lv (.int z :: .int x :: st) mi ml mr Q := fun p e s m args below meth c R Qf hC hR hret H locs ls hP hS hl => lv_isub hC.1 hC.2.1 hd  (k p e s m args below meth c R Qf hC hR hret H locs ls hP hS hl)
theorem fc_r_imul {x z : Int32} (hd : decode y.2.1 pc = .ok (.imul, 1))  (k : fc_T E y d cs sh (pc + 1) lv (.int (x * z) :: st) mi ml mr Q) : fc_T E y d cs sh pc lv (.int z :: .int x :: st) mi ml mr Q := fun p e s m args below meth c R Qf hC hR hret H locs ls hP hS hl => lv_imul hC.1 hC.2.1 hd  (k p e s m args below meth c R Qf hC hR hret H locs ls hP hS hl)
theorem fc_r_iand {x z : Int32} (hd : decode y.2.1 pc = .ok (.iand, 1))  (k : fc_T E y d cs sh (pc + 1) lv (.int (x &&& z) :: st) mi ml mr Q) : fc_T E y d cs sh pc lv (.int z :: .int x :: st) mi ml mr Q := fun p e s m args below meth c R Qf hC hR hret H locs ls hP hS hl => lv_iand hC.1 hC.2.1 hd  (k p e s m args below meth c R Qf hC hR hret H locs ls hP hS hl)
theorem fc_r_ior {x z : Int32} (hd : decode y.2.1 pc = .ok (.ior, 1))  (k : fc_T E y d cs sh (pc + 1) lv (.int (x ||| z) :: st) mi ml mr Q) : fc_T E y d cs sh pc lv (.int z :: .int x :: st) mi ml mr Q := fun p e s m args below meth c R Qf hC hR hret H locs ls hP hS hl => lv_ior hC.1 hC.2.1 hd  (k p e s m args below meth c R Qf hC hR hret H locs ls hP hS hl)
theorem fc_r_ixor {x z : Int32} (hd : decode y.2.1 pc = .ok (.ixor, 1))  (k : fc_T E y d cs sh (pc + 1) lv (.int (x ^^^ z) :: st) mi ml mr Q) : fc_T E y d cs sh pc lv (.int z :: .int x :: st) mi ml mr Q := fun p e s m args below meth c R Qf hC hR hret H locs ls hP hS hl => lv_ixor hC.1 hC.2.1 hd  (k p e s m args below meth c R Qf hC hR hret H locs ls hP hS hl)
theorem fc_r_ishl {x z : Int32} (hd : decode y.2.1 pc = .ok (.ishl, 1))  (k : fc_T E y d cs sh (pc + 1) lv (.int (x <<< (z &&& 31)) :: st) mi ml mr Q) : fc_T E y d cs sh pc lv (.int z :: .int x :: st) mi ml mr Q := fun p e s m args below meth c R Qf hC hR hret H locs ls hP hS hl => lv_ishl hC.1 hC.2.1 hd  (k p e s m args below meth c R Qf hC hR hret H locs ls hP hS hl)
theorem fc_r_ishr {x z : Int32} (hd : decode y.2.1 pc = .ok (.ishr, 1))  (k : fc_T E y d cs sh (pc + 1) lv (.int (x >>> (z &&& 31)) :: st) mi ml mr Q) : fc_T E y d cs sh pc lv (.int z :: .int x :: st) mi ml mr Q := fun p e s m args below meth c R Qf hC hR hret H locs ls hP hS hl => lv_ishr hC.1 hC.2.1 hd  (k p e s m args below meth c R Qf hC hR hret H locs ls hP hS hl)
theorem fc_r_idiv {x z : Int32} (hd : decode y.2.1 pc = .ok (.idiv, 1)) (hz : ¬ z = 0) (k : fc_T E y d cs sh (pc + 1) lv (.int (x / z) :: st) mi ml mr Q) : fc_T E y d cs sh pc lv (.int z :: .int x :: st) mi ml mr Q := fun p e s m args below meth c R Qf hC hR hret H locs ls hP hS hl => lv_idiv hC.1 hC.2.1 hd hz (k p e s m args below meth c R Qf hC hR hret H locs ls hP hS hl)
theorem fc_r_irem {x z : Int32} (hd : decode y.2.1 pc = .ok (.irem, 1)) (hz : ¬ z = 0) (k : fc_T E y d cs sh (pc + 1) lv (.int (x - x / z * z) :: st) mi ml mr Q) : fc_T E y d cs sh pc lv (.int z :: .int x :: st) mi ml mr Q := fun p e s m args below meth c R Qf hC hR hret H locs ls hP hS hl => lv_irem hC.1 hC.2.1 hd hz (k p e s m args below meth c R Qf hC hR hret H locs ls hP hS hl)
theorem fc_r_ladd {x z : Int64} (hd : decode y.2.1 pc = .ok (.ladd, 1))  (k : fc_T E y d cs sh (pc + 1) lv (.long (x + z) :: st) mi ml mr Q) : fc_T E y d cs sh pc lv (.long z :: .long x :: st) mi ml mr Q := fun p e s m args below meth c R Qf hC hR hret H locs ls hP hS hl => lv_ladd hC.1 hC.2.1 hd  (k p e s m args below meth c R Qf hC hR hret H locs ls hP hS hl)
theorem fc_r_lsub {x z : Int64} (hd : decode y.2.1 pc = .ok (.lsub, 1))  (k : fc_T E y d cs sh (pc + 1) lv (.long (x - z) :: st) mi ml mr Q) : fc_T E y d cs sh pc lv (.long z :: .long x :: st) mi ml mr Q := fun p e s m args below meth c R Qf hC hR hret H locs ls hP hS hl => lv_lsub hC.1 hC.2.1 hd  (k p e s m args below meth c R Qf hC hR hret H locs ls hP hS hl)
theorem fc_r_lmul {x z : Int64} (hd : decode y.2.1 pc = .ok (.lmul, 1))  (k : fc_T E y d cs sh (pc + 1) lv (.long (x * z) :: st) mi ml mr Q) : fc_T E y d cs sh pc lv (.long z :: .long x :: st) mi ml mr Q := fun p e s m args below meth c R Qf hC hR hret H locs ls hP hS hl => lv_lmul hC.1 hC.2.1 hd  (k p e s m args below meth c R Qf hC hR hret H locs ls hP hS hl)
theorem fc_r_land {x z : Int64} (hd : decode y.2.1 pc = .ok (.land, 1))  (k : fc_T E y d cs sh (pc + 1) lv (.long (x &&& z) :: st) mi ml mr Q) : fc_T E y d cs sh pc lv (.long z :: .long x :: st) mi ml mr Q := fun p e s m args below meth c R Qf hC hR hret H locs ls hP hS hl => lv_land hC.1 hC.2.1 hd  (k p e s m args below meth c R Qf hC hR hret H locs ls hP hS hl)
theorem fc_r_lor {x z : Int64} (hd : decode y.2.1 pc = .ok (.lor, 1))  (k : fc_T E y d cs sh (pc + 1) lv (.long (x ||| z) :: st) mi ml mr Q) : fc_T E y d cs sh pc lv (.long z :: .long x :: st) mi ml mr Q := fun p e s m args below meth c R Qf hC hR hret H locs ls hP hS hl => lv_lor hC.1 hC.2.1 hd  (k p e s m args below meth c R Qf hC hR hret H locs ls hP hS hl)
theorem fc_r_ldiv {x z : Int64} (hd : decode y.2.1 pc = .ok (.ldiv, 1)) (hz : ¬ z = 0) (k : fc_T E y d cs sh (pc + 1) lv (.long (x / z) :: st) mi ml mr Q) : fc_T E y d cs sh pc lv (.long z :: .long x :: st) mi ml mr Q := fun p e s m args below meth c R Qf hC hR hret H locs ls hP hS hl => lv_ldiv hC.1 hC.2.1 hd hz (k p e s m args below meth c R Qf hC hR hret H locs ls hP hS hl)
theorem fc_r_lrem {x z : Int64} (hd : decode y.2.1 pc = .ok (.lrem, 1)) (hz : ¬ z = 0) (k : fc_T E y d cs sh (pc + 1) lv (.long (x - x / z * z) :: st) mi ml mr Q) : fc_T E y d cs sh pc lv (.long z :: .long x :: st) mi ml mr Q := fun p e s m args below meth c R Qf hC hR hret H locs ls hP hS hl => lv_lrem hC.1 hC.2.1 hd hz (k p e s m args below meth c R Qf hC hR hret H locs ls hP hS hl)
theorem fc_r_ineg {x : Int32} (hd : decode y.2.1 pc = .ok (.ineg, 1))  (k : fc_T E y d cs sh (pc + 1) lv (.int (-x) :: st) mi ml mr Q) : fc_T E y d cs sh pc lv (.int x :: st) mi ml mr Q := fun p e s m args below meth c R Qf hC hR hret H locs ls hP hS hl => lv_ineg hC.1 hC.2.1 hd  (k p e s m args below meth c R Qf hC hR hret H locs ls hP hS hl)
theorem fc_r_i2l {x : Int32} (hd : decode y.2.1 pc = .ok (.i2l, 1))  (k : fc_T E y d cs sh (pc + 1) lv (.long x.toInt64 :: st) mi ml mr Q) : fc_T E y d cs sh pc lv (.int x :: st) mi ml mr Q := fun p e s m args below meth c R Qf hC hR hret H locs ls hP hS hl => lv_i2l hC.1 hC.2.1 hd rfl (k p e s m args below meth c R Qf hC hR hret H locs ls hP hS hl)
theorem fc_r_l2i {x : Int64} (hd : decode y.2.1 pc = .ok (.l2i, 1))  (k : fc_T E y d cs sh (pc + 1) lv (.int x.toInt32 :: st) mi ml mr Q) : fc_T E y d cs sh pc lv (.long x :: st) mi ml mr Q := fun p e s m args below meth c R Qf hC hR hret H locs ls hP hS hl => lv_l2i hC.1 hC.2.1 hd rfl (k p e s m args below meth c R Qf hC hR hret H locs ls hP hS hl)
theorem fc_r_i2c {x : Int32} (hd : decode y.2.1 pc = .ok (.i2c, 1))  (k : fc_T E y d cs sh (pc + 1) lv (.int (x.toUInt32 % 65536).toInt32 :: st) mi ml mr Q) : fc_T E y d cs sh pc lv (.int x :: st) mi ml mr Q := fun p e s m args below meth c R Qf hC hR hret H locs ls hP hS hl => lv_i2c hC.1 hC.2.1 hd rfl (k p e s m args below meth c R Qf hC hR hret H locs ls hP hS hl)
theorem fc_r_iushr {x z : Int32} (hd : decode y.2.1 pc = .ok (.iushr, 1))  (k : fc_T E y d cs sh (pc + 1) lv (.int (x.toUInt32 >>> (z.toUInt32 &&& Int32.toUInt32 31)).toInt32 :: st) mi ml mr Q) : fc_T E y d cs sh pc lv (.int z :: .int x :: st) mi ml mr Q := fun p e s m args below meth c R Qf hC hR hret H locs ls hP hS hl => lv_iushr hC.1 hC.2.1 hd rfl (k p e s m args below meth c R Qf hC hR hret H locs ls hP hS hl)
theorem fc_r_lushr {x : Int64} {z : Int32} (hd : decode y.2.1 pc = .ok (.lushr, 1))  (k : fc_T E y d cs sh (pc + 1) lv (.long (x.toUInt64 >>> (z.toInt64.toUInt64 &&& Int64.toUInt64 63)).toInt64 :: st) mi ml mr Q) : fc_T E y d cs sh pc lv (.int z :: .long x :: st) mi ml mr Q := fun p e s m args below meth c R Qf hC hR hret H locs ls hP hS hl => lv_lushr hC.1 hC.2.1 hd rfl (k p e s m args below meth c R Qf hC hR hret H locs ls hP hS hl)
theorem fc_r_lshl {x : Int64} {z : Int32} (hd : decode y.2.1 pc = .ok (.lshl, 1))  (k : fc_T E y d cs sh (pc + 1) lv (.long (x <<< (z.toInt64 &&& 63)) :: st) mi ml mr Q) : fc_T E y d cs sh pc lv (.int z :: .long x :: st) mi ml mr Q := fun p e s m args below meth c R Qf hC hR hret H locs ls hP hS hl => lv_lshl hC.1 hC.2.1 hd rfl (k p e s m args below meth c R Qf hC hR hret H locs ls hP hS hl)
theorem fc_r_lshr {x : Int64} {z : Int32} (hd : decode y.2.1 pc = .ok (.lshr, 1))  (k : fc_T E y d cs sh (pc + 1) lv (.long (x >>> (z.toInt64 &&& 63)) :: st) mi ml mr Q) : fc_T E y d cs sh pc lv (.int z :: .long x :: st) mi ml mr Q := fun p e s m args below meth c R Qf hC hR hret H locs ls hP hS hl => lv_lshr hC.1 hC.2.1 hd rfl (k p e s m args below meth c R Qf hC hR hret H locs ls hP hS hl)
theorem fc_r_lcmp {x z : Int64} (hd : decode y.2.1 pc = .ok (.lcmp, 1))  (k : fc_T E y d cs sh (pc + 1) lv (.int (lg_cmp x z) :: st) mi ml mr Q) : fc_T E y d cs sh pc lv (.long z :: .long x :: st) mi ml mr Q := fun p e s m args below meth c R Qf hC hR hret H locs ls hP hS hl => W.lcmp hC.1 hC.2.1 hd  (k p e s m args below meth c R Qf hC hR hret H locs ls hP hS hl)
theorem fc_r_dup {x : Value} (hd : decode y.2.1 pc = .ok (.dup, 1)) (hx : x.category = 1) (k : fc_T E y d cs sh (pc + 1) lv (x :: x :: st) mi ml mr Q) : fc_T E y d cs sh pc lv (x :: st) mi ml mr Q := fun p e s m args below meth c R Qf hC hR hret H locs ls hP hS hl => lv_dup hC.1 hC.2.1 hd ((fc_v_cat E x).trans hx) (k p e s m args below meth c R Qf hC hR hret H locs ls hP hS hl)
theorem fc_r_pop {x : Value} (hd : decode y.2.1 pc = .ok (.pop, 1)) (hx : x.category = 1) (k : fc_T E y d cs sh (pc + 1) lv st mi ml mr Q) : fc_T E y d cs sh pc lv (x :: st) mi ml mr Q := fun p e s m args below meth c R Qf hC hR hret H locs ls hP hS hl => lv_pop hC.1 hC.2.1 hd ((fc_v_cat E x).trans hx) (k p e s m args below meth c R Qf hC hR hret H locs ls hP hS hl)
theorem fc_r_dup2 {x z : Value} (hd : decode y.2.1 pc = .ok (.dup2, 1)) (hx : x.category = 1) (hz : z.category = 1) (k : fc_T E y d cs sh (pc + 1) lv (x :: z :: x :: z :: st) mi ml mr Q) : fc_T E y d cs sh pc lv (x :: z :: st) mi ml mr Q := fun p e s m args below meth c R Qf hC hR hret H locs ls hP hS hl => lv_dup2_11 hC.1 hC.2.1 hd ((fc_v_cat E x).trans hx) ((fc_v_cat E z).trans hz) (k p e s m args below meth c R Qf hC hR hret H locs ls hP hS hl)
theorem fc_r_icmp_eq {x z : Int32} {off : Int} {tgt : Nat} (hd : decode y.2.1 pc = .ok (.if_icmp .eq off, 3)) (ht : (pc : Int) + off = (tgt : Int)) (kt : x = z → fc_T E y d cs sh tgt lv st mi ml mr Q) (kf : ¬ x = z → fc_T E y d cs sh (pc + 3) lv st mi ml mr Q) : fc_T E y d cs sh pc lv (.int z :: .int x :: st) mi ml mr Q := fun p e s m args below meth c R Qf hC hR hret H locs ls hP hS hl => lv_icmp_eq hC.1 hC.2.1 hd ht (fun q => kt q p e s m args below meth c R Qf hC hR hret H locs ls hP hS hl) (fun q => kf q p e s m args below meth c R Qf hC hR hret H locs ls hP hS hl)
theorem fc_r_if_eq {x : Int32} {off : Int} {tgt : Nat} (hd : decode y.2.1 pc = .ok (.ifCond .eq off, 3)) (ht : (pc : Int) + off = (tgt : Int)) (kt : x = 0 → fc_T E y d cs sh tgt lv st mi ml mr Q) (kf : ¬ x = 0 → fc_T E y d cs sh (pc + 3) lv st mi ml mr Q) : fc_T E y d cs sh pc lv (.int x :: st) mi ml mr Q := fun p e s m args below meth c R Qf hC hR hret H locs ls hP hS hl => lv_if_eq hC.1 hC.2.1 hd ht (fun q => kt q p e s m args below meth c R Qf hC hR hret H locs ls hP hS hl) (fun q => kf q p e s m args below meth c R Qf hC hR hret H locs ls hP hS hl)
theorem fc_r_icmp_ne {x z : Int32} {off : Int} {tgt : Nat} (hd : decode y.2.1 pc = .ok (.if_icmp .ne off, 3)) (ht : (pc : Int) + off = (tgt : Int)) (kt : ¬ x = z → fc_T E y d cs sh tgt lv st mi ml mr Q) (kf : x = z → fc_T E y d cs sh (pc + 3) lv st mi ml mr Q) : fc_T E y d cs sh pc lv (.int z :: .int x :: st) mi ml mr Q := fun p e s m args below meth c R Qf hC hR hret H locs ls hP hS hl => lv_icmp_ne hC.1 hC.2.1 hd ht (fun q => kt q p e s m args below meth c R Qf hC hR hret H locs ls hP hS hl) (fun q => kf q p e s m args below meth c R Qf hC hR hret H locs ls hP hS hl)
theorem fc_r_if_ne {x : Int32} {off : Int} {tgt : Nat} (hd : decode y.2.1 pc = .ok (.ifCond .ne off, 3)) (ht : (pc : Int) + off = (tgt : Int)) (kt : ¬ x = 0 → fc_T E y d cs sh tgt lv st mi ml mr Q) (kf : x = 0 → fc_T E y d cs sh (pc + 3) lv st mi ml mr Q) : fc_T E y d cs sh pc lv (.int x :: st) mi ml mr Q := fun p e s m args below meth c R Qf hC hR hret H locs ls hP hS hl => lv_if_ne hC.1 hC.2.1 hd ht (fun q => kt q p e s m args below meth c R Qf hC hR hret H locs ls hP hS hl) (fun q => kf q p e s m args below meth c R Qf hC hR hret H locs ls hP hS hl)
theorem fc_r_icmp_lt {x z : Int32} {off : Int} {tgt : Nat} (hd : decode y.2.1 pc = .ok (.if_icmp .lt off, 3)) (ht : (pc : Int) + off = (tgt : Int)) (kt : x < z → fc_T E y d cs sh tgt lv st mi ml mr Q) (kf : ¬ x < z → fc_T E y d cs sh (pc + 3) lv st mi ml mr Q) : fc_T E y d cs sh pc lv (.int z :: .int x :: st) mi ml mr Q := fun p e s m args below meth c R Qf hC hR hret H locs ls hP hS hl => lv_icmp_lt hC.1 hC.2.1 hd ht (fun q => kt q p e s m args below meth c R Qf hC hR hret H locs ls hP hS hl) (fun q => kf q p e s m args below meth c R Qf hC hR hret H locs ls hP hS hl)
theorem fc_r_if_lt {x : Int32} {off : Int} {tgt : Nat} (hd : decode y.2.1 pc = .ok (.ifCond .lt off, 3)) (ht : (pc : Int) + off = (tgt : Int)) (kt : x < 0 → fc_T E y d cs sh tgt lv st mi ml mr Q) (kf : ¬ x < 0 → fc_T E y d cs sh (pc + 3) lv st mi ml mr Q) : fc_T E y d cs sh pc lv (.int x :: st) mi ml mr Q := fun p e s m args below meth c R Qf hC hR hret H locs ls hP hS hl => lv_if_lt hC.1 hC.2.1 hd ht (fun q => kt q p e s m args below meth c R Qf hC hR hret H locs ls hP hS hl) (fun q => kf q p e s m args below meth c R Qf hC hR hret H locs ls hP hS hl)
theorem fc_r_icmp_ge {x z : Int32} {off : Int} {tgt : Nat} (hd : decode y.2.1 pc = .ok (.if_icmp .ge off, 3)) (ht : (pc : Int) + off = (tgt : Int)) (kt : z ≤ x → fc_T E y d cs sh tgt lv st mi ml mr Q) (kf : ¬ z ≤ x → fc_T E y d cs sh (pc + 3) lv st mi ml mr Q) : fc_T E y d cs sh pc lv (.int z :: .int x :: st) mi ml mr Q := fun p e s m args below meth c R Qf hC hR hret H locs ls hP hS hl => lv_icmp_ge hC.1 hC.2.1 hd ht (fun q => kt q p e s m args below meth c R Qf hC hR hret H locs ls hP hS hl) (fun q => kf q p e s m args below meth c R Qf hC hR hret H locs ls hP hS hl)
theorem fc_r_if_ge {x : Int32} {off : Int} {tgt : Nat} (hd : decode y.2.1 pc = .ok (.ifCond .ge off, 3)) (ht : (pc : Int) + off = (tgt : Int)) (kt : 0 ≤ x → fc_T E y d cs sh tgt lv st mi ml mr Q) (kf : ¬ 0 ≤ x → fc_T E y d cs sh (pc + 3) lv st mi ml mr Q) : fc_T E y d cs sh pc lv (.int x :: st) mi ml mr Q := fun p e s m args below meth c R Qf hC hR hret H locs ls hP hS hl => lv_if_ge hC.1 hC.2.1 hd ht (fun q => kt q p e s m args below meth c R Qf hC hR hret H locs ls hP hS hl) (fun q => kf q p e s m args below meth c R Qf hC hR hret H locs ls hP hS hl)
theorem fc_r_icmp_gt {x z : Int32} {off : Int} {tgt : Nat} (hd : decode y.2.1 pc = .ok (.if_icmp .gt off, 3)) (ht : (pc : Int) + off = (tgt : Int)) (kt : z < x → fc_T E y d cs sh tgt lv st mi ml mr Q) (kf : ¬ z < x → fc_T E y d cs sh (pc + 3) lv st mi ml mr Q) : fc_T E y d cs sh pc lv (.int z :: .int x :: st) mi ml mr Q := fun p e s m args below meth c R Qf hC hR hret H locs ls hP hS hl => lv_icmp_gt hC.1 hC.2.1 hd ht (fun q => kt q p e s m args below meth c R Qf hC hR hret H locs ls hP hS hl) (fun q => kf q p e s m args below meth c R Qf hC hR hret H locs ls hP hS hl)
theorem fc_r_if_gt {x : Int32} {off : Int} {tgt : Nat} (hd : decode y.2.1 pc = .ok (.ifCond .gt off, 3)) (ht : (pc : Int) + off = (tgt : Int)) (kt : 0 < x → fc_T E y d cs sh tgt lv st mi ml mr Q) (kf : ¬ 0 < x → fc_T E y d cs sh (pc + 3) lv st mi ml mr Q) : fc_T E y d cs sh pc lv (.int x :: st) mi ml mr Q := fun p e s m args below meth c R Qf hC hR hret H locs ls hP hS hl => lv_if_gt hC.1 hC.2.1 hd ht (fun q => kt q p e s m args below meth c R Qf hC hR hret H locs ls hP hS hl) (fun q => kf q p e s m args below meth c R Qf hC hR hret H locs ls hP hS hl)
theorem fc_r_icmp_le {x z : Int32} {off : Int} {tgt : Nat} (hd : decode y.2.1 pc = .ok (.if_icmp .le off, 3)) (ht : (pc : Int) + off = (tgt : Int)) (kt : x ≤ z → fc_T E y d cs sh tgt lv st mi ml mr Q) (kf : ¬ x ≤ z → fc_T E y d cs sh (pc + 3) lv st mi ml mr Q) : fc_T E y d cs sh pc lv (.int z :: .int x :: st) mi ml mr Q := fun p e s m args below meth c R Qf hC hR hret H locs ls hP hS hl => lv_icmp_le hC.1 hC.2.1 hd ht (fun q => kt q p e s m args below meth c R Qf hC hR hret H locs ls hP hS hl) (fun q => kf q p e s m args below meth c R Qf hC hR hret H locs ls hP hS hl)
theorem fc_r_if_le {x : Int32} {off : Int} {tgt : Nat} (hd : decode y.2.1 pc = .ok (.ifCond .le off, 3)) (ht : (pc : Int) + off = (tgt : Int)) (kt : x ≤ 0 → fc_T E y d cs sh tgt lv st mi ml mr Q) (kf : ¬ x ≤ 0 → fc_T E y d cs sh (pc + 3) lv st mi ml mr Q) : fc_T E y d cs sh pc lv (.int x :: st) mi ml mr Q := fun p e s m args below meth c R Qf hC hR hret H locs ls hP hS hl => lv_if_le hC.1 hC.2.1 hd ht (fun q => kt q p e s m args below meth c R Qf hC hR hret H locs ls hP hS hl) (fun q => kf q p e s m args below meth c R Qf hC hR hret H locs ls hP hS hl)
theorem fc_r_goto {off : Int} {tgt : Nat} (hd : decode y.2.1 pc = .ok (.goto off, 3)) (ht : (pc : Int) + off = (tgt : Int)) (k : fc_T E y d cs sh tgt lv st mi ml mr Q) : fc_T E y d cs sh pc lv st mi ml mr Q := fun p e s m args below meth c R Qf hC hR hret H locs ls hP hS hl => lv_goto hC.1 hC.2.1 hd ht (k p e s m args below meth c R Qf hC hR hret H locs ls hP hS hl)
end R1
end
section
/-! ===== fields, arrays, ends ===== -/
theorem fc_in0 : (wsX00).all (fun w => decide (w ∈ lw_tbl) && goodWord w) = true := by decide +kernel
theorem fc_in1 : (wsX10).all (fun w => decide (w ∈ lw_tbl) && goodWord w) = true := by decide +kernel
theorem fc_in2 : (wsX20).all (fun w => decide (w ∈ lw_tbl) && goodWord w) = true := by decide +kernel
theorem fc_in3 : (wsX30).all (fun w => decide (w ∈ lw_tbl) && goodWord w) = true := by decide +kernel
theorem fc_in4 : (wsX40).all (fun w => decide (w ∈ lw_tbl) && goodWord w) = true := by decide +kernel
theorem fc_in5 : (wsX50).all (fun w => decide (w ∈ lw_tbl) && goodWord w) = true := by decide +kernel
theorem fc_in6 : (wsX60).all (fun w => decide (w ∈ lw_tbl) && goodWord w) = true := by decide +kernel
theorem fc_in7 : (wsX70).all (fun w => decide (w ∈ lw_tbl) && goodWord w) = true := by decide +kernel
theorem fc_in8 : (wsX80).all (fun w => decide (w ∈ lw_tbl) && goodWord w) = true := by decide +kernel
theorem fc_in9 : (wsX90).all (fun w => decide (w ∈ lw_tbl) && goodWord w) = true := by decide +kernel
theorem fc_in10 : (wsX100).all (fun w => decide (w ∈ lw_tbl) && goodWord w) = true := by decide +kernel
theorem fc_in11 : (wsX110).all (fun w => decide (w ∈ lw_tbl) && goodWord w) = true := by decide +kernel
theorem fc_inG {ws : List Cond} (h : ws.all (fun w => decide (w ∈ lw_tbl) && goodWord w) = true) : ∀ w ∈ ws, w ∈ fc_G := by
  intro w hw
  have h1 := List.all_eq_true.mp h w hw
  simp only [Bool.and_eq_true, decide_eq_true_eq] at h1
  exact List.mem_filter.mpr h1
theorem fc_cls {ci : Nat} {q : vw_C} (h : vwCl[ci]? = some q) : (∀ w ∈ u_ws q.1 q.2.1 q.2.2, w ∈ fc_G) ∧ ∃ ty0 : Nat → FieldType, (∀ k, k < q.2.2 → parseFieldDescriptor (q.2.1 k).2.2.1 = some (ty0 k)) ∧ ∀ a, a < q.2.2 → ∀ b, b < q.2.2 → a ≠ b → (q.2.1 a).2.1 ≠ (q.2.1 b).2.1 := by
  match ci, h with
  | 0, h => cases h; exact ⟨fc_inG fc_in0, tyX0, tyX0_ok, nmX0⟩
  | 1, h => cases h; exact ⟨fc_inG fc_in1, tyX1, tyX1_ok, nmX1⟩
  | 2, h => cases h; exact ⟨fc_inG fc_in2, tyX2, tyX2_ok, nmX2⟩
  | 3, h => cases h; exact ⟨fc_inG fc_in3, tyX3, tyX3_ok, nmX3⟩
  | 4, h => cases h; exact ⟨fc_inG fc_in4, tyX4, tyX4_ok, nmX4⟩
  | 5, h => cases h; exact ⟨fc_inG fc_in5, tyX5, tyX5_ok, nmX5⟩
  | 6, h => cases h; exact ⟨fc_inG fc_in6, tyX6, tyX6_ok, nmX6⟩
  | 7, h => cases h; exact ⟨fc_inG fc_in7, tyX7, tyX7_ok, nmX7⟩
  | 8, h => cases h; exact ⟨fc_inG fc_in8, tyX8, tyX8_ok, nmX8⟩
  | 9, h => cases h; exact ⟨fc_inG fc_in9, tyX9, tyX9_ok, nmX9⟩
  | 10, h => cases h; exact ⟨fc_inG fc_in10, tyX10, tyX10_ok, nmX10⟩
  | 11, h => cases h; exact ⟨fc_inG fc_in11, tyX11, tyX11_ok, nmX11⟩
  | k + 12, h => simp [vwCl] at h
theorem fc_cell_obj {base : Nat} {tA : Nat → ClassId} {mi : Nat → Int32} {ml : Nat → Int64} {mr : Nat → Option Nat} {ci : Nat} (h : ci < 20) : fc_cell base tA mi ml mr (ci, 0) = .inr (ci, fc_fs base mi ml mr 0 (fc_ft ci)) := by
  unfold fc_cell
  split <;> first | rfl | (rename_i q; dsimp only at q; omega)
section R2
variable {E : fc_E} {y : fc_M} {d : Nat} {cs : Nat × Nat} {sh : fc_Sh} {pc : Nat} {lv : List (Option Value)} {st : List Value} {mi : fc_Mi} {ml : fc_Ml} {mr : fc_Mr} {Q : fc_Q}
theorem fc_r_get {ci idx q j t : Nat} {r : vw_C} {v : Value} (hd : decode y.2.1 pc = .ok (.getfield idx, 3)) (hc : vwCl[ci]? = some r) (hci : ci < 20) (hj : j < r.2.2) (hlink : Cond.fieldLink y.1.cls idx (r.2.1 j).1 (r.2.1 j).2.1 (r.2.1 j).2.2.1 ∈ fc_G) (ht : (fc_ft ci)[j]? = some t) (hsh : sh[q]? = some (ci, 0))
    (hv : fc_fv E.2.2.2.1 (mi q) (ml q) (mr q) j t = fc_v E v) (k : fc_T E y d cs sh (pc + 3) lv (v :: st) mi ml mr Q) : fc_T E y d cs sh pc lv (.ref q :: st) mi ml mr Q := by
  intro p e s m args below meth c R Qf hC hR hret H locs ls hP hS hl
  obtain ⟨hx, hb, hr, hlk, hown, hml, hts, hK⟩ := id hC
  have hw := fc_ws_get (E := E) (mi := mi) (ml := ml) (mr := mr) hsh
  rw [fc_cell_obj hci] at hw
  refine va_get (ci := ci) (C := r.1) (T := r.2.1) (N := r.2.2) hx hb hts (fc_cls hc).1 hown hK.1 hP q hw hc j hj (hts _ hlink) (fun _ h => h) (v := fc_v E v) ?_ hd (k p e s m args below meth c R Qf hC hR hret H locs ls hP hS hl)
  rw [fc_fs_get, ht, Option.map_some, Nat.zero_add, hv]
theorem fc_r_putW {ci idx q j : Nat} {r : vw_C} {v : Value} {ty : FieldType} {mi' : fc_Mi} {ml' : fc_Ml} {mr' : fc_Mr} (hd : decode y.2.1 pc = .ok (.putfield idx, 3)) (hc : vwCl[ci]? = some r) (hci : ci < 20) (hj : j < r.2.2) (hlink : Cond.fieldLink y.1.cls idx (r.2.1 j).1 (r.2.1 j).2.1 (r.2.1 j).2.2.1 ∈ fc_G) (hjt : j < (fc_ft ci).length) (hsh : sh[q]? = some (ci, 0))
    (hfin : (r.2.1 j).2.2.2 = false) (hty : parseFieldDescriptor (r.2.1 j).2.2.1 = some ty) (hn : narrow ty (fc_v E v) = fc_v E v) (hfit : fits ty (fc_v E v) = true)
    (hi : ∀ a, a ≠ q → mi' a = mi a) (hl0 : ∀ a, a ≠ q → ml' a = ml a) (hr0 : ∀ a, a ≠ q → mr' a = mr a) (he : (fc_fs E.2.2.2.1 (mi q) (ml q) (mr q) 0 (fc_ft ci)).set j (fc_v E v) = fc_fs E.2.2.2.1 (mi' q) (ml' q) (mr' q) 0 (fc_ft ci))
    (k : fc_T E y d cs sh (pc + 3) lv st mi' ml' mr' Q) : fc_T E y d cs sh pc lv (v :: .ref q :: st) mi ml mr Q := by
  intro p e s m args below meth c R Qf hC hR hret H locs ls hP hS hl
  obtain ⟨hx, hb, hr, hlk, hown, hml, hts, hK⟩ := id hC
  have hw := fc_ws_get (E := E) (mi := mi) (ml := ml) (mr := mr) hsh
  rw [fc_cell_obj hci] at hw
  obtain ⟨ty0, hty0, hnm⟩ := (fc_cls hc).2
  refine va_put (ci := ci) (C := r.1) (T := r.2.1) (N := r.2.2) (ty := ty) (v := fc_v E v) hx hb hts (fc_cls hc).1 ty0 hty0 hnm hown hK.1 hP fc_ws_D hS q hw hc j hj (hts _ hlink) (fun _ h => h) hfin hty hn hfit (by rw [fc_fs_len]; exact hjt) hd (fun H1 locs1 hP1 _ hS1 => ?_)
  refine k p e s m args below meth c R Qf hC hR hret H1 locs1 ls ?_ hS1 hl
  rw [← fc_ws_set (E := E) (mi := mi) (ml := ml) (mr := mr) hsh hi hl0 hr0 (e := .inr (ci, (fc_fs E.2.2.2.1 (mi q) (ml q) (mr q) 0 (fc_ft ci)).set j (fc_v E v))) (by rw [fc_cell_obj hci, he])]
  exact hP1
theorem fc_fs_set {base : Nat} {mi mi' : Nat → Int32} {ml ml' : Nat → Int64} {mr mr' : Nat → Option Nat} {ts : List Nat} {j t : Nat} {v : Value} (ht : ts[j]? = some t) (hv : fc_fv base mi' ml' mr' j t = v)
    (ho : ∀ a, a ≠ j → mi' a = mi a ∧ ml' a = ml a ∧ mr' a = mr a) : (fc_fs base mi ml mr 0 ts).set j v = fc_fs base mi' ml' mr' 0 ts := by
  apply List.ext_getElem?
  intro a
  have hlt := (List.getElem?_eq_some_iff.mp ht).1
  by_cases h : a = j
  · subst h
    rw [List.getElem?_set_self (by rw [fc_fs_len]; exact hlt), fc_fs_get, ht, Option.map_some, Nat.zero_add, hv]
  · rw [List.getElem?_set_ne (Ne.symm h), fc_fs_get, fc_fs_get]
    obtain ⟨h1, h2, h3⟩ := ho a h
    cases ts[a]? with
    | none => rfl
    | some z =>
      simp only [Option.map_some, Nat.zero_add, Option.some.injEq]
      unfold fc_fv
      rw [h1, h2, h3]
theorem fc_r_puti {ci idx q j : Nat} {r : vw_C} {x : Int32} (hd : decode y.2.1 pc = .ok (.putfield idx, 3)) (hc : vwCl[ci]? = some r) (hci : ci < 20) (hj : j < r.2.2) (hlink : Cond.fieldLink y.1.cls idx (r.2.1 j).1 (r.2.1 j).2.1 (r.2.1 j).2.2.1 ∈ fc_G) (ht : (fc_ft ci)[j]? = some 0) (hsh : sh[q]? = some (ci, 0))
    (hfin : (r.2.1 j).2.2.2 = false) (hty : parseFieldDescriptor (r.2.1 j).2.2.1 = some .int) (k : fc_T E y d cs sh (pc + 3) lv st (fc_u mi q j x) ml mr Q) : fc_T E y d cs sh pc lv (.int x :: .ref q :: st) mi ml mr Q := by
  refine fc_r_putW (v := .int x) hd hc hci hj hlink (List.getElem?_eq_some_iff.mp ht).1 hsh hfin hty rfl rfl (fun a h => fc_u_off _ _ _ h) (fun _ _ => rfl) (fun _ _ => rfl) (fc_fs_set ht ?_ (fun a h => ⟨?_, rfl, rfl⟩)) k
  · show Value.int (fc_u mi q j x q j) = .int x
    rw [fc_u_row]; simp
  · rw [fc_u_row]; simp [h]
theorem fc_r_putz {ci idx q j : Nat} {r : vw_C} {x : Int32} (hd : decode y.2.1 pc = .ok (.putfield idx, 3)) (hc : vwCl[ci]? = some r) (hci : ci < 20) (hj : j < r.2.2) (hlink : Cond.fieldLink y.1.cls idx (r.2.1 j).1 (r.2.1 j).2.1 (r.2.1 j).2.2.1 ∈ fc_G) (ht : (fc_ft ci)[j]? = some 3) (hsh : sh[q]? = some (ci, 0))
    (hfin : (r.2.1 j).2.2.2 = false) (hty : parseFieldDescriptor (r.2.1 j).2.2.1 = some .boolean) (hx : x = 0 ∨ x = 1) (k : fc_T E y d cs sh (pc + 3) lv st (fc_u mi q j x) ml mr Q) : fc_T E y d cs sh pc lv (.int x :: .ref q :: st) mi ml mr Q := by
  refine fc_r_putW (v := .int x) hd hc hci hj hlink (List.getElem?_eq_some_iff.mp ht).1 hsh hfin hty (by rcases hx with rfl | rfl <;> rfl) (by rcases hx with rfl | rfl <;> rfl) (fun a h => fc_u_off _ _ _ h) (fun _ _ => rfl) (fun _ _ => rfl) (fc_fs_set ht ?_ (fun a h => ⟨?_, rfl, rfl⟩)) k
  · show Value.int (fc_u mi q j x q j) = .int x
    rw [fc_u_row]; simp
  · rw [fc_u_row]; simp [h]
theorem fc_r_putl {ci idx q j : Nat} {r : vw_C} {x : Int64} (hd : decode y.2.1 pc = .ok (.putfield idx, 3)) (hc : vwCl[ci]? = some r) (hci : ci < 20) (hj : j < r.2.2) (hlink : Cond.fieldLink y.1.cls idx (r.2.1 j).1 (r.2.1 j).2.1 (r.2.1 j).2.2.1 ∈ fc_G) (ht : (fc_ft ci)[j]? = some 1) (hsh : sh[q]? = some (ci, 0))
    (hfin : (r.2.1 j).2.2.2 = false) (hty : parseFieldDescriptor (r.2.1 j).2.2.1 = some .long) (k : fc_T E y d cs sh (pc + 3) lv st mi (fc_u ml q j x) mr Q) : fc_T E y d cs sh pc lv (.long x :: .ref q :: st) mi ml mr Q := by
  refine fc_r_putW (v := .long x) hd hc hci hj hlink (List.getElem?_eq_some_iff.mp ht).1 hsh hfin hty rfl rfl (fun _ _ => rfl) (fun a h => fc_u_off _ _ _ h) (fun _ _ => rfl) (fc_fs_set ht ?_ (fun a h => ⟨rfl, ?_, rfl⟩)) k
  · show Value.long (fc_u ml q j x q j) = .long x
    rw [fc_u_row]; simp
  · rw [fc_u_row]; simp [h]
theorem fc_r_putr {ci idx q j x : Nat} {r : vw_C} {ty : FieldType} (hd : decode y.2.1 pc = .ok (.putfield idx, 3)) (hc : vwCl[ci]? = some r) (hci : ci < 20) (hj : j < r.2.2) (hlink : Cond.fieldLink y.1.cls idx (r.2.1 j).1 (r.2.1 j).2.1 (r.2.1 j).2.2.1 ∈ fc_G) (ht : (fc_ft ci)[j]? = some 2) (hsh : sh[q]? = some (ci, 0))
    (hfin : (r.2.1 j).2.2.2 = false) (hty : parseFieldDescriptor (r.2.1 j).2.2.1 = some ty) (hr : ty.isReference = true) (k : fc_T E y d cs sh (pc + 3) lv st mi ml (fc_u mr q j (some x)) Q) : fc_T E y d cs sh pc lv (.ref x :: .ref q :: st) mi ml mr Q := by
  refine fc_r_putW (v := .ref x) hd hc hci hj hlink (List.getElem?_eq_some_iff.mp ht).1 hsh hfin hty (by cases ty <;> first | rfl | cases hr) (by cases ty <;> first | rfl | cases hr) (fun _ _ => rfl) (fun _ _ => rfl) (fun a h => fc_u_off _ _ _ h) (fc_fs_set ht ?_ (fun a h => ⟨rfl, rfl, ?_⟩)) k
  · show va_rf ((fc_u mr q j (some x) q j).map (E.2.2.2.1 + ·)) = .ref (E.2.2.2.1 + x)
    rw [fc_u_row]; simp [va_rf]
  · rw [fc_u_row]; simp [h]
theorem fc_r_iald {q n : Nat} {i : Int32} (hd : decode y.2.1 pc = .ok (.iaload, 1)) (hsh : sh[q]? = some (20, n)) (hi : vp_in i n) (k : fc_T E y d cs sh (pc + 1) lv (.int (mi q i.toNatClampNeg) :: st) mi ml mr Q) : fc_T E y d cs sh pc lv (.int i :: .ref q :: st) mi ml mr Q :=
  fun p e s m args below meth c R Qf hC hR hret H locs ls hP hS hl => va_iald hC.1 hC.2.1 hC.2.2.2.2.2.2.2.1 hP q 0 (fc_ws_get hsh) rfl hi hd (k p e s m args below meth c R Qf hC hR hret H locs ls hP hS hl)
theorem fc_r_cald {q n : Nat} {i : Int32} (hd : decode y.2.1 pc = .ok (.caload, 1)) (hsh : sh[q]? = some (23, n)) (hi : vp_in i n) (k : fc_T E y d cs sh (pc + 1) lv (.int (mi q i.toNatClampNeg) :: st) mi ml mr Q) : fc_T E y d cs sh pc lv (.int i :: .ref q :: st) mi ml mr Q :=
  fun p e s m args below meth c R Qf hC hR hret H locs ls hP hS hl => va_cald hC.1 hC.2.1 hC.2.2.2.2.2.2.2.1 hP q 3 (fc_ws_get hsh) rfl hi hd (k p e s m args below meth c R Qf hC hR hret H locs ls hP hS hl)
theorem fc_r_zald {q n : Nat} {i : Int32} (hd : decode y.2.1 pc = .ok (.baload, 1)) (hsh : sh[q]? = some (22, n)) (hi : vp_in i n) (k : fc_T E y d cs sh (pc + 1) lv (.int (mi q i.toNatClampNeg) :: st) mi ml mr Q) : fc_T E y d cs sh pc lv (.int i :: .ref q :: st) mi ml mr Q :=
  fun p e s m args below meth c R Qf hC hR hret H locs ls hP hS hl => va_zald hC.1 hC.2.1 hC.2.2.2.2.2.2.2.1 hP q 2 (fc_ws_get hsh) rfl hi hd (k p e s m args below meth c R Qf hC hR hret H locs ls hP hS hl)
theorem fc_r_lald {q n : Nat} {i : Int32} (hd : decode y.2.1 pc = .ok (.laload, 1)) (hsh : sh[q]? = some (21, n)) (hi : vp_in i n) (k : fc_T E y d cs sh (pc + 1) lv (.long (ml q i.toNatClampNeg) :: st) mi ml mr Q) : fc_T E y d cs sh pc lv (.int i :: .ref q :: st) mi ml mr Q :=
  fun p e s m args below meth c R Qf hC hR hret H locs ls hP hS hl => va_lald hC.1 hC.2.1 hC.2.2.2.2.2.2.2.1 hP q 1 (fc_ws_get hsh) rfl hi hd (k p e s m args below meth c R Qf hC hR hret H locs ls hP hS hl)
theorem fc_r_aald24 {q n x : Nat} {i : Int32} (hd : decode y.2.1 pc = .ok (.aaload, 1)) (hsh : sh[q]? = some (24, n)) (hi : vp_in i n) (hx : mr q i.toNatClampNeg = some x) (k : fc_T E y d cs sh (pc + 1) lv (.ref x :: st) mi ml mr Q) : fc_T E y d cs sh pc lv (.int i :: .ref q :: st) mi ml mr Q := by
  intro p e s m args below meth c R Qf hC hR hret H locs ls hP hS hl
  have hlt : i.toNatClampNeg < n := Nat.not_le.mp fun q => hi (Or.inr q)
  have hw := hP q _ (fc_ws_get hsh)
  refine W.aald (v := .ref (E.2.2.2.1 + x)) (ty := .object "FirstChimney$State") hC.1 hC.2.1 hw ((hC.2.2.2.2.2.2.2.1.2 4 _ rfl).1 n (fun j => va_rf (fc_rows E.2.2.2.1 (mr q) j))) rfl (fun q => by cases q) (by show ¬ (i < 0 ∨ (arrV _ _ _).slots.size ≤ _); rw [arrV_size]; exact hi) (by show (arrV _ _ _).slots[_]? = _; rw [arrV_read _ _ hlt]; simp [fc_rows, hx, va_rf]) rfl rfl hd (k p e s m args below meth c R Qf hC hR hret H locs ls hP hS hl)
theorem fc_r_aald25 {q n x : Nat} {i : Int32} (hd : decode y.2.1 pc = .ok (.aaload, 1)) (hsh : sh[q]? = some (25, n)) (hi : vp_in i n) (hx : mr q i.toNatClampNeg = some x) (k : fc_T E y d cs sh (pc + 1) lv (.ref x :: st) mi ml mr Q) : fc_T E y d cs sh pc lv (.int i :: .ref q :: st) mi ml mr Q := by
  intro p e s m args below meth c R Qf hC hR hret H locs ls hP hS hl
  have hlt : i.toNatClampNeg < n := Nat.not_le.mp fun q => hi (Or.inr q)
  have hw := hP q _ (fc_ws_get hsh)
  refine W.aald (v := .ref (E.2.2.2.1 + x)) (ty := .object "FirstChimney$Seen") hC.1 hC.2.1 hw ((hC.2.2.2.2.2.2.2.1.2 5 _ rfl).1 n (fun j => va_rf (fc_rows E.2.2.2.1 (mr q) j))) rfl (fun q => by cases q) (by show ¬ (i < 0 ∨ (arrV _ _ _).slots.size ≤ _); rw [arrV_size]; exact hi) (by show (arrV _ _ _).slots[_]? = _; rw [arrV_read _ _ hlt]; simp [fc_rows, hx, va_rf]) rfl rfl hd (k p e s m args below meth c R Qf hC hR hret H locs ls hP hS hl)
theorem fc_r_aald26 {q n x : Nat} {i : Int32} (hd : decode y.2.1 pc = .ok (.aaload, 1)) (hsh : sh[q]? = some (26, n)) (hi : vp_in i n) (hx : mr q i.toNatClampNeg = some x) (k : fc_T E y d cs sh (pc + 1) lv (.ref x :: st) mi ml mr Q) : fc_T E y d cs sh pc lv (.int i :: .ref q :: st) mi ml mr Q := by
  intro p e s m args below meth c R Qf hC hR hret H locs ls hP hS hl
  have hlt : i.toNatClampNeg < n := Nat.not_le.mp fun q => hi (Or.inr q)
  have hw := hP q _ (fc_ws_get hsh)
  refine W.aald (v := .ref (E.2.2.2.1 + x)) (ty := .array .int) hC.1 hC.2.1 hw ((hC.2.2.2.2.2.2.2.1.2 6 _ rfl).1 n (fun j => va_rf (fc_rows E.2.2.2.1 (mr q) j))) rfl (fun q => by cases q) (by show ¬ (i < 0 ∨ (arrV _ _ _).slots.size ≤ _); rw [arrV_size]; exact hi) (by show (arrV _ _ _).slots[_]? = _; rw [arrV_read _ _ hlt]; simp [fc_rows, hx, va_rf]) rfl rfl hd (k p e s m args below meth c R Qf hC hR hret H locs ls hP hS hl)
theorem fc_r_iast {q n : Nat} {i x : Int32} (hd : decode y.2.1 pc = .ok (.iastore, 1)) (hsh : sh[q]? = some (20, n)) (hi : vp_in i n) (k : fc_T E y d cs sh (pc + 1) lv st (fc_u mi q i.toNatClampNeg x) ml mr Q) : fc_T E y d cs sh pc lv (.int x :: .int i :: .ref q :: st) mi ml mr Q := by
  intro p e s m args below meth c R Qf hC hR hret H locs ls hP hS hl
  refine va_iast hC.1 hC.2.1 hC.2.2.2.2.2.2.2.1 hP fc_ws_D hS q 0 (fc_ws_get hsh) rfl hi hd (fun H1 locs1 hP1 _ hS1 => k p e s m args below meth c R Qf hC hR hret H1 locs1 ls ?_ hS1 hl)
  rw [← fc_ws_set (E := E) (mi := mi) (ml := ml) (mr := mr) (mi' := fc_u mi q i.toNatClampNeg x) hsh (fun a h => fc_u_off _ _ _ h) (fun _ _ => rfl) (fun _ _ => rfl) rfl]
  show va_P _ _ ((fc_ws E sh mi ml mr).set q (_, .inl (_, _, .inl (fc_u mi q i.toNatClampNeg x q)))) H1
  rw [fc_u_row]
  exact hP1
theorem fc_r_cast {q n : Nat} {i x : Int32} (hd : decode y.2.1 pc = .ok (.castore, 1)) (hsh : sh[q]? = some (23, n)) (hi : vp_in i n) (k : fc_T E y d cs sh (pc + 1) lv st (fc_u mi q i.toNatClampNeg (vp_nar .char x)) ml mr Q) : fc_T E y d cs sh pc lv (.int x :: .int i :: .ref q :: st) mi ml mr Q := by
  intro p e s m args below meth c R Qf hC hR hret H locs ls hP hS hl
  refine va_cast hC.1 hC.2.1 hC.2.2.2.2.2.2.2.1 hP fc_ws_D hS q 3 (fc_ws_get hsh) rfl hi hd (fun H1 locs1 hP1 _ hS1 => k p e s m args below meth c R Qf hC hR hret H1 locs1 ls ?_ hS1 hl)
  rw [← fc_ws_set (E := E) (mi := mi) (ml := ml) (mr := mr) (mi' := fc_u mi q i.toNatClampNeg (vp_nar .char x)) hsh (fun a h => fc_u_off _ _ _ h) (fun _ _ => rfl) (fun _ _ => rfl) rfl]
  show va_P _ _ ((fc_ws E sh mi ml mr).set q (_, .inl (_, _, .inl (fc_u mi q i.toNatClampNeg (vp_nar .char x) q)))) H1
  rw [fc_u_row]
  exact hP1
theorem fc_r_zast {q n : Nat} {i x : Int32} (hd : decode y.2.1 pc = .ok (.bastore, 1)) (hsh : sh[q]? = some (22, n)) (hi : vp_in i n) (k : fc_T E y d cs sh (pc + 1) lv st (fc_u mi q i.toNatClampNeg (vp_nar .boolean x)) ml mr Q) : fc_T E y d cs sh pc lv (.int x :: .int i :: .ref q :: st) mi ml mr Q := by
  intro p e s m args below meth c R Qf hC hR hret H locs ls hP hS hl
  refine va_zast hC.1 hC.2.1 hC.2.2.2.2.2.2.2.1 hP fc_ws_D hS q 2 (fc_ws_get hsh) rfl hi hd (fun H1 locs1 hP1 _ hS1 => k p e s m args below meth c R Qf hC hR hret H1 locs1 ls ?_ hS1 hl)
  rw [← fc_ws_set (E := E) (mi := mi) (ml := ml) (mr := mr) (mi' := fc_u mi q i.toNatClampNeg (vp_nar .boolean x)) hsh (fun a h => fc_u_off _ _ _ h) (fun _ _ => rfl) (fun _ _ => rfl) rfl]
  show va_P _ _ ((fc_ws E sh mi ml mr).set q (_, .inl (_, _, .inl (fc_u mi q i.toNatClampNeg (vp_nar .boolean x) q)))) H1
  rw [fc_u_row]
  exact hP1
theorem fc_r_last {q n : Nat} {i : Int32} {x : Int64} (hd : decode y.2.1 pc = .ok (.lastore, 1)) (hsh : sh[q]? = some (21, n)) (hi : vp_in i n) (k : fc_T E y d cs sh (pc + 1) lv st mi (fc_u ml q i.toNatClampNeg x) mr Q) : fc_T E y d cs sh pc lv (.long x :: .int i :: .ref q :: st) mi ml mr Q := by
  intro p e s m args below meth c R Qf hC hR hret H locs ls hP hS hl
  refine va_last hC.1 hC.2.1 hC.2.2.2.2.2.2.2.1 hP fc_ws_D hS q 1 (fc_ws_get hsh) rfl hi hd (fun H1 locs1 hP1 _ hS1 => k p e s m args below meth c R Qf hC hR hret H1 locs1 ls ?_ hS1 hl)
  rw [← fc_ws_set (E := E) (mi := mi) (ml := ml) (mr := mr) (ml' := fc_u ml q i.toNatClampNeg x) hsh (fun _ _ => rfl) (fun a h => fc_u_off _ _ _ h) (fun _ _ => rfl) rfl]
  show va_P _ _ ((fc_ws E sh mi ml mr).set q (_, .inl (_, _, .inr (.inl (fc_u ml q i.toNatClampNeg x q))))) H1
  rw [fc_u_row]
  exact hP1
theorem fc_r_alenL {q n : Nat} (hd : decode y.2.1 pc = .ok (.arraylength, 1)) (hsh : sh[q]? = some (21, n)) (k : fc_T E y d cs sh (pc + 1) lv (.int (Int32.ofNat n) :: st) mi ml mr Q) : fc_T E y d cs sh pc lv (.ref q :: st) mi ml mr Q :=
  fun p e s m args below meth c R Qf hC hR hret H locs ls hP hS hl => va_alen hC.1 hC.2.1 hC.2.2.2.2.2.2.2.1 hP q 1 (fc_ws_get hsh) rfl rfl hd (k p e s m args below meth c R Qf hC hR hret H locs ls hP hS hl)
theorem fc_r_alenI {q n : Nat} (hd : decode y.2.1 pc = .ok (.arraylength, 1)) (hsh : sh[q]? = some (20, n)) (k : fc_T E y d cs sh (pc + 1) lv (.int (Int32.ofNat n) :: st) mi ml mr Q) : fc_T E y d cs sh pc lv (.ref q :: st) mi ml mr Q :=
  fun p e s m args below meth c R Qf hC hR hret H locs ls hP hS hl => va_alen hC.1 hC.2.1 hC.2.2.2.2.2.2.2.1 hP q 0 (fc_ws_get hsh) rfl rfl hd (k p e s m args below meth c R Qf hC hR hret H locs ls hP hS hl)
theorem fc_r_ret {v : Option Value} (hrt : fc_rt y pc v) (hq : Q v mi ml mr) : fc_T E y d cs sh pc lv v.toList mi ml mr Q := by
  intro p e s m args below meth c R Qf hC hR hret H locs ls hP hS hl
  have h := hret v mi ml mr H locs ls pc hq hP hS hrt
  cases v <;> exact h
theorem fc_r_ldcw {idx : Nat} {x : Int32} (hd : decode y.2.1 pc = .ok (.ldc_w idx, 3)) (hc : Cond.constant y.1.cls idx x ∈ fc_G) (k : fc_T E y d cs sh (pc + 3) lv (.int x :: st) mi ml mr Q) : fc_T E y d cs sh pc lv st mi ml mr Q :=
  fun p e s m args below meth c R Qf hC hR hret H locs ls hP hS hl => lv_ldcw hC.1 hC.2.1 hC.2.2.2.2.1 (hC.2.2.2.2.2.2.1 _ hc) hd (k p e s m args below meth c R Qf hC hR hret H locs ls hP hS hl)
theorem fc_r_sald {i : Int32} (hd : decode y.2.1 pc = .ok (.iaload, 1)) (hi : vp_in i E.2.2.2.2.2.2.1) (k : fc_T E y d cs sh (pc + 1) lv (.int (E.2.2.2.2.2.2.2 i.toNatClampNeg) :: st) mi ml mr Q) : fc_T E y d cs sh pc lv (.int i :: .float 5 :: st) mi ml mr Q := by
  intro p e s m args below meth c R Qf hC hR hret H locs ls hP hS hl
  obtain ⟨h1, h2, h3, h4, h5, h6⟩ := hC.2.2.2.2.2.2.2
  have hlt : E.2.2.2.2.1 5 < s.heap.size := by
    obtain ⟨scr, g1, -⟩ := id h5
    exact (Array.getElem?_eq_some_iff.mp g1).1
  exact va_sld hC.1 hC.2.1 h5 hlt h6 hS hi hd (k p e s m args below meth c R Qf hC hR hret H locs ls hP hS hl)
theorem fc_r_slen (hd : decode y.2.1 pc = .ok (.arraylength, 1)) (k : fc_T E y d cs sh (pc + 1) lv (.int (Int32.ofNat E.2.2.2.2.2.2.1) :: st) mi ml mr Q) : fc_T E y d cs sh pc lv (.float 5 :: st) mi ml mr Q := by
  intro p e s m args below meth c R Qf hC hR hret H locs ls hP hS hl
  obtain ⟨h1, h2, h3, h4, h5, h6⟩ := hC.2.2.2.2.2.2.2
  have hlt : E.2.2.2.2.1 5 < s.heap.size := by
    obtain ⟨scr, g1, -⟩ := id h5
    exact (Array.getElem?_eq_some_iff.mp g1).1
  exact va_slen hC.1 hC.2.1 h5 hlt h6 hS hd (k p e s m args below meth c R Qf hC hR hret H locs ls hP hS hl)
theorem fc_r_ldc {idx : Nat} {x : Int32} (hd : decode y.2.1 pc = .ok (.ldc idx, 2)) (hc : Cond.constant y.1.cls idx x ∈ fc_G) (k : fc_T E y d cs sh (pc + 2) lv (.int x :: st) mi ml mr Q) : fc_T E y d cs sh pc lv st mi ml mr Q :=
  fun p e s m args below meth c R Qf hC hR hret H locs ls hP hS hl => lv_ldc hC.1 hC.2.1 hC.2.2.2.2.1 (hC.2.2.2.2.2.2.1 _ hc) hd (k p e s m args below meth c R Qf hC hR hret H locs ls hP hS hl)
theorem fc_r_ldc2 {idx : Nat} {x : Int64} (hd : decode y.2.1 pc = .ok (.ldc2_w idx, 3)) (hc : Cond.constantLong y.1.cls idx x ∈ fc_G) (k : fc_T E y d cs sh (pc + 3) lv (.long x :: st) mi ml mr Q) : fc_T E y d cs sh pc lv st mi ml mr Q :=
  fun p e s m args below meth c R Qf hC hR hret H locs ls hP hS hl => lv_ldc2 hC.1 hC.2.1 hC.2.2.2.2.1 (hC.2.2.2.2.2.2.1 _ hc) hd (k p e s m args below meth c R Qf hC hR hret H locs ls hP hS hl)
end R2
end
section
/-! ===== calls ===== -/
theorem fc_sum (E : fc_E) (st : List Value) : ((st.map (fc_v E)).map fun v => v.category).sum = (st.map fun v => v.category).sum := by
  rw [List.map_map]
  congr 1
  apply List.map_congr_left
  intro v _
  exact fc_v_cat E v
theorem fc_rmL (d : Nat) : (fc_rm d).locals = 64 * (d + 1) := rfl
theorem fc_rmF (d : Nat) : (fc_rm d).frames = d + 1 := rfl
theorem fc_w_good {z : fc_M} (h : Cond.code z.1 z.2.1 z.2.2.1 z.2.2.2 ∈ fc_G) : GoodIn fc_G (fc_w z) := by
  intro w hw
  have hw : w ∈ fc_G := by
    rcases List.mem_cons.mp hw with rfl | hw
    · exact h
    · exact hw
  exact ⟨hw, good_of_word (List.mem_filter.mp hw).2⟩
section R3
variable {E : fc_E} {y : fc_M} {d : Nat} {cs : Nat × Nat} {sh : fc_Sh} {pc : Nat} {lv : List (Option Value)} {st : List Value} {mi : fc_Mi} {ml : fc_Ml} {mr : fc_Mr} {Q Q' : fc_Q}
theorem fc_callK {p : Program} {e : Env} {R : Room} {s : State} {m : MethodId} {args : Array Value} {below : List Frame} {meth : Method} {c : Code} {H : Heap} {locs : List Loc} {ls : Array Slot} {st0 rest : List Value} {a : Array Value} {Qf : State → Prop}
    (hr : va_Run p E.1 e R s m args below meth c H locs cs.1 cs.2 0 0 (F0 m pc ls st0) rest (fc_Qc E sh Q' a) (fc_A E)) (hS : va_S (fc_A E) s.heap H locs)
    (kk : ∀ (v : Option Value) (mi : fc_Mi) (ml : fc_Ml) (mr : fc_Mr) (H1 : Heap) (locs1 : List Loc), Q' v mi ml mr → va_P E.2.1 vwCl (fc_ws E sh mi ml mr) H1 → va_S (fc_A E) s.heap H1 locs1 → W p E.1 e R s m args below meth c H1 locs1 cs.1 cs.2 Qf (F0 m (pc + 3) ls ((v.map (fc_v E)).toList ++ rest))) :
    W p E.1 e R s m args below meth c H locs cs.1 cs.2 Qf (F0 m pc ls st0) := by
  intro T hT X
  obtain ⟨v, st₀, t, T', L, h0, X', hL, e1, e2, ⟨⟨w, mi, ml, mr, hq, hv, hp⟩, hz, hk⟩, stp⟩ := hr T hT X
  cases hv
  rw [h0] at hz hk
  obtain ⟨t2, a1, b1⟩ := kk w mi ml mr T'.heap (locs ++ L) hq (by rw [e1]; exact hp)
    ⟨Nat.le_trans hS.1 (by rw [e1]; exact hz), fun q h1 h2 => by rw [e1, hk q (Nat.lt_of_lt_of_le h1 hS.1) h2]; exact hS.2.1 q h1 h2, fun q hq => by
      rcases List.mem_append.mp hq with h | h
      · exact hS.2.2 q h
      · exact hL q h⟩ T' rfl X'
  exact ⟨t2, stp t2 a1, b1⟩
theorem fc_blind {As : List Value} : FrameBlind (va_Pc (As.map (fc_v E)) (fun U => va_P E.2.1 vwCl (fc_ws E sh mi ml mr) U.heap ∧ fc_K E U)) := by
  intro a U g mk q
  obtain ⟨q0, qP, qK⟩ := q
  exact ⟨q0, qP, qK.calling a g mk⟩
theorem fc_pre {As : List Value} {s : State} {H : Heap} {locs : List Loc} (hK : fc_K E s) (hP : va_P E.2.1 vwCl (fc_ws E sh mi ml mr) H) (hS : va_S (fc_A E) s.heap H locs) : ∀ U : State, U.heap = H → s.WarmedH U.vm → va_Pc (As.map (fc_v E)) (fun U => va_P E.2.1 vwCl (fc_ws E sh mi ml mr) U.heap ∧ fc_K E U) (As.map (fc_v E)).toArray U :=
  fun U hU hW => ⟨rfl, by rw [hU]; exact hP, hK.moved hW (fun a h1 h2 => by rw [hU]; exact hS.2.1 a h1 h2)⟩
theorem fc_toL (v : Option Value) : (v.map (fc_v E)).toList = v.toList.map (fc_v E) := by cases v <;> rfl
theorem fc_r_callV {z : fc_M} {idx ci q n : Nat} {r : vw_C} {As : List Value} (hd : decode y.2.1 pc = .ok (.invokevirtual idx, 3)) (hM : fc_R E z d sh (.ref q :: As) mi ml mr Q') (hz : fc_mw z n) (hn : As.length = n) (hinst : Cond.instanceMethod z.1 ∈ fc_G) (hsel : Cond.selects z.1.cls z.1 z.1 ∈ fc_G) (hlink : Cond.methodLink y.1.cls idx z.1 ∈ fc_G)
    (hc : vwCl[ci]? = some r) (hrc : r.1 = z.1.cls) (hci : ci < 20) (hsh : sh[q]? = some (ci, 0)) (hroom : (st.map fun v => v.category).sum ≤ 8) (k : ∀ v mi' ml' mr', Q' v mi' ml' mr' → fc_T E y (d + 1) cs sh (pc + 3) lv (v.toList ++ st) mi' ml' mr' Q) : fc_T E y (d + 1) cs sh pc lv (As.reverse ++ .ref q :: st) mi ml mr Q := by
  intro p e s m args below meth c R Qf hC hR hret H locs ls hP hS hl
  obtain ⟨hx, hb, hr, hlk, hown, hml, hts, hK⟩ := id hC
  obtain ⟨hz1, hz2, hz3, hz4⟩ := hz
  have hw := fc_ws_get (E := E) (mi := mi) (ml := ml) (mr := mr) hsh
  rw [fc_cell_obj hci] at hw
  have hrun := va_runV (p := p) (e := e) (below := below) (meth := meth) (locs := locs) (cells := cs.1) (slots := cs.2) (R := R) (H := H) (g := F0 m pc ls ((As.reverse ++ .ref q :: st).map (fc_v E))) (rest := st.map (fc_v E)) (As := As.map (fc_v E)) (b := E.2.2.2.1 + q) (C := z.1.cls) (S := ⟨hx, hb, hml, hown, hts⟩) hM
    ⟨callB_of n hts (fc_w_good hz1) rfl rfl rfl (hts _ hz2) (hts _ hlink) hz3 ⟨by rw [fc_rmF]; exact hR.1, by rw [fc_rmL]; have := hR.2.1; omega⟩, hts _ hinst, hts _ hsel⟩
    ⟨fc_blind, by rw [← hrc]; exact va_recv hK.1 hP hc hw, fc_pre (As := .ref q :: As) hK hP hS⟩ rfl (by rw [List.length_map]; exact hn) hl.1 (by show List.map _ _ = _; rw [List.map_append, List.map_reverse]; rfl) (lv_room (by rw [fc_sum]; exact hroom)) hd ⟨hR.2.2.1, hR.2.2.2⟩
  refine fc_callK hrun hS (fun v mi' ml' mr' H1 locs1 hq hP1 hS1 => ?_)
  rw [fc_toL, ← List.map_append]
  exact k v mi' ml' mr' hq p e s m args below meth c R Qf hC hR hret H1 locs1 ls hP1 hS1 hl
theorem fc_r_callS {z : fc_M} {idx n : Nat} {As : List Value} (hd : decode y.2.1 pc = .ok (.invokestatic idx, 3)) (hM : fc_R E z d sh As mi ml mr Q') (hz : fc_mw z n) (hn : As.length = n) (hstat : Cond.static z.1 ∈ fc_G) (hlink : Cond.methodLink y.1.cls idx z.1 ∈ fc_G)
    (hroom : (st.map fun v => v.category).sum ≤ 8) (k : ∀ v mi' ml' mr', Q' v mi' ml' mr' → fc_T E y (d + 1) cs sh (pc + 3) lv (v.toList ++ st) mi' ml' mr' Q) : fc_T E y (d + 1) cs sh pc lv (As.reverse ++ st) mi ml mr Q := by
  intro p e s m args below meth c R Qf hC hR hret H locs ls hP hS hl
  obtain ⟨hx, hb, hr, hlk, hown, hml, hts, hK⟩ := id hC
  obtain ⟨hz1, hz2, hz3, hz4⟩ := hz
  have hrun := va_runS (p := p) (e := e) (below := below) (meth := meth) (locs := locs) (cells := cs.1) (slots := cs.2) (R := R) (H := H) (g := F0 m pc ls ((As.reverse ++ st).map (fc_v E))) (rest := st.map (fc_v E)) (As := As.map (fc_v E)) (S := ⟨hx, hb, hml, hown, hts⟩) hM
    ⟨callB_of n hts (fc_w_good hz1) rfl rfl rfl (hts _ hz2) (hts _ hlink) hz3 ⟨by rw [fc_rmF]; exact hR.1, by rw [fc_rmL]; have := hR.2.1; omega⟩, hts _ hstat⟩
    ⟨fc_blind, fc_pre (As := As) hK hP hS⟩ rfl (by rw [List.length_map]; exact hn) hl.1 (by show List.map _ _ = _; rw [List.map_append, List.map_reverse]) (lv_room (by rw [fc_sum]; exact hroom)) hd ⟨hR.2.2.1, hR.2.2.2⟩
  refine fc_callK hrun hS (fun v mi' ml' mr' H1 locs1 hq hP1 hS1 => ?_)
  rw [fc_toL, ← List.map_append]
  exact k v mi' ml' mr' hq p e s m args below meth c R Qf hC hR hret H1 locs1 ls hP1 hS1 hl
theorem fc_r_callN {z : fc_M} {idx n : Nat} {As : List Value} (hd : decode y.2.1 pc = .ok (.invokestatic idx, 3)) (hM : fc_R E z d sh As mi ml mr Q') (hz : fc_mw z n) (hn : As.length = n) (hstat : Cond.static z.1 ∈ fc_G) (hlink : (y.1.cls, idx, z.1) ∈ fc_N)
    (hroom : (st.map fun v => v.category).sum ≤ 8) (k : ∀ v mi' ml' mr', Q' v mi' ml' mr' → fc_T E y (d + 1) cs sh (pc + 3) lv (v.toList ++ st) mi' ml' mr' Q) : fc_T E y (d + 1) cs sh pc lv (As.reverse ++ st) mi ml mr Q := by
  intro p e s m args below meth c R Qf hC hR hret H locs ls hP hS hl
  obtain ⟨hx, hb, hr, hlk, hown, hml, hts, hK⟩ := id hC
  obtain ⟨hz1, hz2, hz3, hz4⟩ := hz
  have hrun := va_runSN (p := p) (e := e) (below := below) (meth := meth) (locs := locs) (cells := cs.1) (slots := cs.2) (R := R) (H := H) (g := F0 m pc ls ((As.reverse ++ st).map (fc_v E))) (rest := st.map (fc_v E)) (As := As.map (fc_v E)) (host := "FirstChimney") (S := ⟨hx, hb, hml, hown, hts⟩) hM
    ⟨va_cnB n hts (fc_w_good hz1) rfl rfl rfl (hK.2.1 _ hlink) (hts _ hz2) hz3 ⟨by rw [fc_rmF]; exact hR.1, by rw [fc_rmL]; have := hR.2.1; omega⟩, hts _ hstat, trivial⟩
    ⟨fc_blind, fc_pre (As := As) hK hP hS⟩ rfl (by rw [List.length_map]; exact hn) hl.1 (by show List.map _ _ = _; rw [List.map_append, List.map_reverse]) (lv_room (by rw [fc_sum]; exact hroom)) hd ⟨hR.2.2.1, hR.2.2.2⟩
  refine fc_callK hrun hS (fun v mi' ml' mr' H1 locs1 hq hP1 hS1 => ?_)
  rw [fc_toL, ← List.map_append]
  exact k v mi' ml' mr' hq p e s m args below meth c R Qf hC hR hret H1 locs1 ls hP1 hS1 hl
/-- a virtual call on a constant text -/
theorem fc_r_callT {z : fc_M} {idx n : Nat} {u : UInt32} {As : List Value} (hd : decode y.2.1 pc = .ok (.invokevirtual idx, 3)) (hM : fc_R E z d sh (.float u :: As) mi ml mr Q') (hz : fc_mw z n) (hn : As.length = n) (hinst : Cond.instanceMethod z.1 ∈ fc_G) (hsel : Cond.selects z.1.cls z.1 z.1 ∈ fc_G) (hlink : Cond.methodLink y.1.cls idx z.1 ∈ fc_G)
    (hrc : z.1.cls = "java/lang/String") (hu : u.toNat < 5) (hroom : (st.map fun v => v.category).sum ≤ 8) (k : ∀ v mi' ml' mr', Q' v mi' ml' mr' → fc_T E y (d + 1) cs sh (pc + 3) lv (v.toList ++ st) mi' ml' mr' Q) : fc_T E y (d + 1) cs sh pc lv (As.reverse ++ .float u :: st) mi ml mr Q := by
  intro p e s m args below meth c R Qf hC hR hret H locs ls hP hS hl
  obtain ⟨hx, hb, hr, hlk, hown, hml, hts, hK⟩ := id hC
  obtain ⟨hz1, hz2, hz3, hz4⟩ := hz
  have hrun := va_runV (p := p) (e := e) (below := below) (meth := meth) (locs := locs) (cells := cs.1) (slots := cs.2) (R := R) (H := H) (g := F0 m pc ls ((As.reverse ++ .float u :: st).map (fc_v E))) (rest := st.map (fc_v E)) (As := As.map (fc_v E)) (b := E.2.2.2.2.1 u.toNat) (C := z.1.cls) (S := ⟨hx, hb, hml, hown, hts⟩) hM
    ⟨callB_of n hts (fc_w_good hz1) rfl rfl rfl (hts _ hz2) (hts _ hlink) hz3 ⟨by rw [fc_rmF]; exact hR.1, by rw [fc_rmL]; have := hR.2.1; omega⟩, hts _ hinst, hts _ hsel⟩
    ⟨fc_blind, by rw [hrc]; exact vk_recv hK.2.2.1 hu hS, fc_pre (As := .float u :: As) hK hP hS⟩ rfl (by rw [List.length_map]; exact hn) hl.1 (by show List.map _ _ = _; rw [List.map_append, List.map_reverse]; rfl) (lv_room (by rw [fc_sum]; exact hroom)) hd ⟨hR.2.2.1, hR.2.2.2⟩
  refine fc_callK hrun hS (fun v mi' ml' mr' H1 locs1 hq hP1 hS1 => ?_)
  rw [fc_toL, ← List.map_append]
  exact k v mi' ml' mr' hq p e s m args below meth c R Qf hC hR hret H1 locs1 ls hP1 hS1 hl
theorem fc_r_max {idx : Nat} {x z : Int32} (hd : decode y.2.1 pc = .ok (.invokestatic idx, 3)) (hlink : Cond.methodLink y.1.cls idx Lib.Math.max.name ∈ fc_G) (hstat : Cond.static Lib.Math.max.name ∈ fc_G) (hini : Cond.initialized "java/lang/Math" ∈ fc_G) (hcode : Cond.code Lib.Math.max.name Lib.Math.max.code 2 (some .int) ∈ fc_G) (hroom : (st.map fun v => v.category).sum ≤ 8)
    (k : fc_T E y d cs sh (pc + 3) lv (.int (if x < z then z else x) :: st) mi ml mr Q) : fc_T E y d cs sh pc lv (.int z :: .int x :: st) mi ml mr Q := by
  intro p e s m args below meth c R Qf hC hR hret H locs ls hP hS hl
  obtain ⟨hx, hb, hr, hlk, hown, hml, hts, hK⟩ := id hC
  exact va_mmax hx hb (hml.trans hl.1.symm) hown (hts _ hlink) (hts _ hstat) (hts _ hini) (hts _ hcode) (by have := hR.1; omega) (by rw [fc_sum]; have := hR.2.1; omega) hR.2.2.1 hR.2.2.2 hd (k p e s m args below meth c R Qf hC hR hret H locs ls hP hS hl)
theorem fc_r_min {idx : Nat} {x z : Int32} (hd : decode y.2.1 pc = .ok (.invokestatic idx, 3)) (hlink : Cond.methodLink y.1.cls idx Lib.Math.min.name ∈ fc_G) (hstat : Cond.static Lib.Math.min.name ∈ fc_G) (hini : Cond.initialized "java/lang/Math" ∈ fc_G) (hcode : Cond.code Lib.Math.min.name Lib.Math.min.code 2 (some .int) ∈ fc_G) (hroom : (st.map fun v => v.category).sum ≤ 8)
    (k : fc_T E y d cs sh (pc + 3) lv (.int (if z < x then z else x) :: st) mi ml mr Q) : fc_T E y d cs sh pc lv (.int z :: .int x :: st) mi ml mr Q := by
  intro p e s m args below meth c R Qf hC hR hret H locs ls hP hS hl
  obtain ⟨hx, hb, hr, hlk, hown, hml, hts, hK⟩ := id hC
  exact va_mmin hx hb (hml.trans hl.1.symm) hown (hts _ hlink) (hts _ hstat) (hts _ hini) (hts _ hcode) (by have := hR.1; omega) (by rw [fc_sum]; have := hR.2.1; omega) hR.2.2.1 hR.2.2.2 hd (k p e s m args below meth c R Qf hC hR hret H locs ls hP hS hl)
theorem fc_r_copy {idx q0 q1 n0 n1 : Nat} {sp dp n : Int32} (hd : decode y.2.1 pc = .ok (.invokestatic idx, 3)) (hlink : Cond.methodLink y.1.cls idx arraycopyName ∈ fc_G) (hnat : Cond.native arraycopyName ∈ fc_G) (hstat : Cond.static arraycopyName ∈ fc_G) (hini : Cond.initialized "java/lang/System" ∈ fc_G)
    (h0 : sh[q0]? = some (20, n0)) (h1 : sh[q1]? = some (20, n1)) (h2 : ¬ sp < 0) (h3 : ¬ dp < 0) (h4 : ¬ n < 0) (h5 : sp.toNatClampNeg + n.toNatClampNeg ≤ n0) (h6 : dp.toNatClampNeg + n.toNatClampNeg ≤ n1) (hroom : (st.map fun v => v.category).sum ≤ 8)
    (k : fc_T E y d cs sh (pc + 3) lv st (fc_ur mi q1 (va_cpy (mi q0) (mi q1) sp.toNatClampNeg dp.toNatClampNeg n.toNatClampNeg)) ml mr Q) : fc_T E y d cs sh pc lv (.int n :: .int dp :: .ref q1 :: .int sp :: .ref q0 :: st) mi ml mr Q := by
  intro p e s m args below meth c R Qf hC hR hret H locs ls hP hS hl
  obtain ⟨hx, hb, hr, hlk, hown, hml, hts, hK⟩ := id hC
  have hnw : nativeFrameWords "java/lang/System" "arraycopy" 5 ≤ 40 := Nat.le_of_ble_eq_true rfl
  have hf1 : 1 ≤ R.frames := by have := hR.1; omega
  have hf2 : ((st.map (fc_v E)).map fun v => v.category).sum + (nativeFrameWords "java/lang/System" "arraycopy" 5 + 11) ≤ R.locals := by
    rw [fc_sum]
    have := hR.2.1
    omega
  refine va_copyi hx hb (hml.trans hl.1.symm) hown (hts _ hlink) (hts _ hnat) (hts _ hstat) (hts _ hini) hK.1 hP fc_ws_D hS q0 q1 0 0 (fc_ws_get h0) (fc_ws_get h1) rfl rfl rfl h2 h3 h4 h5 h6 (fun _ _ => rfl) hf1 hf2 hd (fun H1 locs1 hP1 _ hS1 => k p e s m args below meth c R Qf hC hR hret H1 locs1 ls ?_ hS1 hl)
  rw [← fc_ws_set (E := E) (mi := mi) (ml := ml) (mr := mr) (mi' := fc_ur mi q1 (va_cpy (mi q0) (mi q1) sp.toNatClampNeg dp.toNatClampNeg n.toNatClampNeg)) h1 (fun a h => fc_ur_off _ _ h) (fun _ _ => rfl) (fun _ _ => rfl) rfl]
  show va_P _ _ ((fc_ws E sh mi ml mr).set q1 (_, .inl (_, _, .inl (fc_ur mi q1 _ q1)))) H1
  rw [fc_ur_row]
  exact hP1
theorem fc_r_ldcS {idx : Nat} {u : UInt32} {tx : String} (hd : decode y.2.1 pc = .ok (.ldc idx, 2)) (hc : fc_tx[u.toNat]? = some (y.1.cls, idx, tx)) (k : fc_T E y d cs sh (pc + 2) lv (.float u :: st) mi ml mr Q) : fc_T E y d cs sh pc lv st mi ml mr Q :=
  fun p e s m args below meth c R Qf hC hR hret H locs ls hP hS hl => va_ldcS hC.1 hC.2.1 hC.2.2.2.2.1 (hC.2.2.2.2.2.2.2.2.2.2.1 _ _ hc) hd (k p e s m args below meth c R Qf hC hR hret H locs ls hP hS hl)
theorem fc_r_tableIn {dflt lo hi off : Int} {offs : Array Int} {len tgt : Nat} {x : Int32} (hd : decode y.2.1 pc = .ok (.tableswitch dflt lo hi offs, len)) (h1 : ¬ x.toInt < lo) (h2 : ¬ hi < x.toInt) (ho : offs[(x.toInt - lo).toNat]? = some off) (ht : (pc : Int) + off = (tgt : Int)) (k : fc_T E y d cs sh tgt lv st mi ml mr Q) : fc_T E y d cs sh pc lv (.int x :: st) mi ml mr Q :=
  fun p e s m args below meth c R Qf hC hR hret H locs ls hP hS hl => lv_tableIn hC.1 hC.2.1 hd h1 h2 ho ht (k p e s m args below meth c R Qf hC hR hret H locs ls hP hS hl)
theorem fc_r_tableOut {dflt lo hi : Int} {offs : Array Int} {len tgt : Nat} {x : Int32} (hd : decode y.2.1 pc = .ok (.tableswitch dflt lo hi offs, len)) (h : x.toInt < lo ∨ hi < x.toInt) (ht : (pc : Int) + dflt = (tgt : Int)) (k : fc_T E y d cs sh tgt lv st mi ml mr Q) : fc_T E y d cs sh pc lv (.int x :: st) mi ml mr Q :=
  fun p e s m args below meth c R Qf hC hR hret H locs ls hP hS hl => lv_tableOut hC.1 hC.2.1 hd h ht (k p e s m args below meth c R Qf hC hR hret H locs ls hP hS hl)
theorem fc_r_lookup {dflt off : Int} {ps : Array (Int × Int)} {len tgt : Nat} {x : Int32} (hd : decode y.2.1 pc = .ok (.lookupswitch dflt ps, len)) (hp : (ps.toList.zip (ps.toList.drop 1)).all (fun (a, next) => a.1 < next.1) = true) (ho : Op.lookupswitch.offset ps.toList dflt x.toInt = off) (ht : (pc : Int) + off = (tgt : Int)) (k : fc_T E y d cs sh tgt lv st mi ml mr Q) : fc_T E y d cs sh pc lv (.int x :: st) mi ml mr Q :=
  fun p e s m args below meth c R Qf hC hR hret H locs ls hP hS hl => lv_lookup hC.1 hC.2.1 hd hp ho ht (k p e s m args below meth c R Qf hC hR hret H locs ls hP hS hl)
/-- less is known of the locals -/
theorem fc_weak {lv' : List (Option Value)} (h : ∀ (i : Nat) (v : Value), lv'[i]? = some (some v) → lv[i]? = some (some v)) (k : fc_T E y d cs sh pc lv' st mi ml mr Q) : fc_T E y d cs sh pc lv st mi ml mr Q :=
  fun p e s m args below meth c R Qf hC hR hret H locs ls hP hS hl => k p e s m args below meth c R Qf hC hR hret H locs ls hP hS ⟨hl.1, hl.2.1, fun i v hi => hl.2.2 i v (h i v hi)⟩
end R3
end
section
/-! ===== the walk of a method's code, as one proposition ===== -/
abbrev fc_Go : Type := List (Option Value) → List Value → fc_Mi → fc_Ml → fc_Mr → Prop
/-- an index, within n: the k-th place -/
def fc_ix (i : Int32) (n k : Nat) : Prop := vp_in i n ∧ i.toNatClampNeg = k
theorem fc_ix_nI {p n : Nat} (h : p < n) (hn : n < 2 ^ 31) : fc_ix (nI p) n p := ⟨vp_in_nI h hn, nI_clamp (by omega)⟩
theorem fc_ix_in {i : Int32} {n : Nat} (h : vp_in i n) : fc_ix i n i.toNatClampNeg := ⟨h, rfl⟩
def fc_is (r : Option Value) (mi : fc_Mi) (ml : fc_Ml) (mr : fc_Mr) : fc_Q := fun v a b c => r = v ∧ mi = a ∧ ml = b ∧ mr = c
def fc_b (x : Bool) : Int32 := if x then 1 else 0
theorem fc_b0 {x : Bool} : fc_b x = 0 ↔ x = false := by cases x <;> simp [fc_b]
theorem fc_b1 {x : Bool} : ¬ fc_b x = 0 ↔ x = true := by cases x <;> simp [fc_b]
theorem fc_bb (x : Bool) : fc_b x = 0 ∨ fc_b x = 1 := by cases x <;> simp [fc_b]
def fc_br (c : Jvm.ClassFile.Cond) (x z : Int32) (A B : Prop) : Prop := match c with
  | .eq => (x = z → A) ∧ (¬ x = z → B)
  | .ne => (x = z → B) ∧ (¬ x = z → A)
  | .lt => (x < z → A) ∧ (¬ x < z → B)
  | .ge => (z ≤ x → A) ∧ (¬ z ≤ x → B)
  | .gt => (z < x → A) ∧ (¬ z < x → B)
  | .le => (x ≤ z → A) ∧ (¬ x ≤ z → B)
/-- the targets of a switch -/
def fc_ts (pc : Nat) (x : Int32) (j : Nat → Prop) : Int → List Int → Prop
  | _, [] => True
  | k, o :: os => (x = Int32.ofInt k → j ((pc : Int) + o).toNat) ∧ fc_ts pc x j (k + 1) os
def fc_lsw (pc : Nat) (x : Int32) (j : Nat → Prop) (d : Int) : List (Int × Int) → Prop
  | [] => j ((pc : Int) + d).toNat
  | q :: qs => (x.toInt = q.1 → j ((pc : Int) + q.2).toNat) ∧ (¬ x.toInt = q.1 → fc_lsw pc x j d qs)
def fc_call (E : fc_E) (t : fc_M) (d : Nat) (sh : fc_Sh) (b : Nat) (go : fc_Go) : fc_Go := fun lv st mi ml mr =>
  match Nat.ble ((st.drop b).map fun v => v.category).sum 8 && Nat.ble b st.length with
  | true => ∃ Q' : fc_Q, fc_R E t d sh (st.take b).reverse mi ml mr Q' ∧ ∀ v' mi' ml' mr', Q' v' mi' ml' mr' → go lv (v'.toList ++ st.drop b) mi' ml' mr'
  | false => False
def fc_sS (E : fc_E) (d : Nat) (sh : fc_Sh) (a b : Nat) (go : fc_Go) : fc_Go := fun lv st mi ml mr => match fc_mtab[a]?, d with
  | some t, d0 + 1 => fc_call E t.1 d0 sh b go lv st mi ml mr
  | _, _ => False
def fc_sX (go : fc_Go) : fc_Go := fun lv st mi ml mr => match st with
  | .int z :: .int x :: st => (match Nat.ble (st.map fun v => v.category).sum 8 with
    | true => go lv (.int (if x < z then z else x) :: st) mi ml mr
    | false => False)
  | _ => False
def fc_sN (go : fc_Go) : fc_Go := fun lv st mi ml mr => match st with
  | .int z :: .int x :: st => (match Nat.ble (st.map fun v => v.category).sum 8 with
    | true => go lv (.int (if z < x then z else x) :: st) mi ml mr
    | false => False)
  | _ => False
def fc_sC (sh : fc_Sh) (go : fc_Go) : fc_Go := fun lv st mi ml mr => match st with
  | .int n :: .int dp :: .ref q1 :: .int sp :: .ref q0 :: st => (match Nat.ble (st.map fun v => v.category).sum 8 with
    | true => ∃ n0 n1, sh[q0]? = some (20, n0) ∧ sh[q1]? = some (20, n1) ∧ (¬ sp < 0 ∧ ¬ dp < 0 ∧ ¬ n < 0 ∧ sp.toNatClampNeg + n.toNatClampNeg ≤ n0 ∧ dp.toNatClampNeg + n.toNatClampNeg ≤ n1) ∧ go lv st (fc_ur mi q1 (va_cpy (mi q0) (mi q1) sp.toNatClampNeg dp.toNatClampNeg n.toNatClampNeg)) ml mr
    | false => False)
  | _ => False
def fc_step (E : fc_E) (y : fc_M) (d : Nat) (sh : fc_Sh) (go : fc_Go) (jmp : Nat → fc_Go) (Q : fc_Q) : fc_I → fc_Go
  | (pc, i, _, a, b, _, v), lv, st, mi, ml, mr => match i with
    | .iconst _ => go lv (v :: st) mi ml mr
    | .bipush _ => go lv (v :: st) mi ml mr
    | .sipush _ => go lv (v :: st) mi ml mr
    | .lconst _ => go lv (v :: st) mi ml mr
    | .ldc _ => go lv (v :: st) mi ml mr
    | .ldc_w _ => (match v with
      | .int z => go lv (.int z :: st) mi ml mr
      | _ => False)
    | .ldc2_w _ => go lv (v :: st) mi ml mr
    | .iload k => (match lv[k]? with
      | some (some (.int x)) => go lv (.int x :: st) mi ml mr
      | _ => False)
    | .iload_n k => (match lv[(k : Nat)]? with
      | some (some (.int x)) => go lv (.int x :: st) mi ml mr
      | _ => False)
    | .lload k => (match lv[k]? with
      | some (some (.long x)) => go lv (.long x :: st) mi ml mr
      | _ => False)
    | .lload_n k => (match lv[(k : Nat)]? with
      | some (some (.long x)) => go lv (.long x :: st) mi ml mr
      | _ => False)
    | .aload k => (match lv[k]? with
      | some (some (.ref x)) => go lv (.ref x :: st) mi ml mr
      | _ => False)
    | .aload_n k => (match lv[(k : Nat)]? with
      | some (some (.ref x)) => go lv (.ref x :: st) mi ml mr
      | some (some (.float x)) => go lv (.float x :: st) mi ml mr
      | _ => False)
    | .istore k => (match st with
      | .int x :: st => go (fc_s1 lv k (.int x)) st mi ml mr
      | _ => False)
    | .istore_n k => (match st with
      | .int x :: st => go (fc_s1 lv (k : Nat) (.int x)) st mi ml mr
      | _ => False)
    | .lstore k => (match st with
      | .long x :: st => go (fc_s2 lv k (.long x)) st mi ml mr
      | _ => False)
    | .lstore_n k => (match st with
      | .long x :: st => go (fc_s2 lv (k : Nat) (.long x)) st mi ml mr
      | _ => False)
    | .astore k => (match st with
      | .ref x :: st => go (fc_s1 lv k (.ref x)) st mi ml mr
      | _ => False)
    | .astore_n k => (match st with
      | .ref x :: st => go (fc_s1 lv (k : Nat) (.ref x)) st mi ml mr
      | _ => False)
    | .iinc k n => (match lv[k]? with
      | some (some (.int x)) => go (fc_s1 lv k (.int (x + Int32.ofInt n))) st mi ml mr
      | _ => False)
    | .iadd => (match st with
      | .int z :: .int x :: st => go lv (.int (x + z) :: st) mi ml mr
      | _ => False)
    | .isub => (match st with
      | .int z :: .int x :: st => go lv (.int (x - z) :: st) mi ml mr
      | _ => False)
    | .imul => (match st with
      | .int z :: .int x :: st => go lv (.int (x * z) :: st) mi ml mr
      | _ => False)
    | .iand => (match st with
      | .int z :: .int x :: st => go lv (.int (x &&& z) :: st) mi ml mr
      | _ => False)
    | .ior => (match st with
      | .int z :: .int x :: st => go lv (.int (x ||| z) :: st) mi ml mr
      | _ => False)
    | .ixor => (match st with
      | .int z :: .int x :: st => go lv (.int (x ^^^ z) :: st) mi ml mr
      | _ => False)
    | .ishl => (match st with
      | .int z :: .int x :: st => go lv (.int (x <<< (z &&& 31)) :: st) mi ml mr
      | _ => False)
    | .ishr => (match st with
      | .int z :: .int x :: st => go lv (.int (x >>> (z &&& 31)) :: st) mi ml mr
      | _ => False)
    | .iushr => (match st with
      | .int z :: .int x :: st => go lv (.int ((x.toUInt32 >>> (z.toUInt32 &&& Int32.toUInt32 31)).toInt32) :: st) mi ml mr
      | _ => False)
    | .idiv => (match st with
      | .int z :: .int x :: st => ¬ z = 0 ∧ go lv (.int (x / z) :: st) mi ml mr
      | _ => False)
    | .irem => (match st with
      | .int z :: .int x :: st => ¬ z = 0 ∧ go lv (.int (x - x / z * z) :: st) mi ml mr
      | _ => False)
    | .ladd => (match st with
      | .long z :: .long x :: st => go lv (.long (x + z) :: st) mi ml mr
      | _ => False)
    | .lsub => (match st with
      | .long z :: .long x :: st => go lv (.long (x - z) :: st) mi ml mr
      | _ => False)
    | .lmul => (match st with
      | .long z :: .long x :: st => go lv (.long (x * z) :: st) mi ml mr
      | _ => False)
    | .land => (match st with
      | .long z :: .long x :: st => go lv (.long (x &&& z) :: st) mi ml mr
      | _ => False)
    | .lor => (match st with
      | .long z :: .long x :: st => go lv (.long (x ||| z) :: st) mi ml mr
      | _ => False)
    | .ldiv => (match st with
      | .long z :: .long x :: st => ¬ z = 0 ∧ go lv (.long (x / z) :: st) mi ml mr
      | _ => False)
    | .lrem => (match st with
      | .long z :: .long x :: st => ¬ z = 0 ∧ go lv (.long (x - x / z * z) :: st) mi ml mr
      | _ => False)
    | .ineg => (match st with
      | .int x :: st => go lv (.int (-x) :: st) mi ml mr
      | _ => False)
    | .i2l => (match st with
      | .int x :: st => go lv (.long x.toInt64 :: st) mi ml mr
      | _ => False)
    | .l2i => (match st with
      | .long x :: st => go lv (.int x.toInt32 :: st) mi ml mr
      | _ => False)
    | .i2c => (match st with
      | .int x :: st => go lv (.int (x.toUInt32 % 65536).toInt32 :: st) mi ml mr
      | _ => False)
    | .lushr => (match st with
      | .int z :: .long x :: st => go lv (.long (x.toUInt64 >>> (z.toInt64.toUInt64 &&& Int64.toUInt64 63)).toInt64 :: st) mi ml mr
      | _ => False)
    | .lshl => (match st with
      | .int z :: .long x :: st => go lv (.long (x <<< (z.toInt64 &&& 63)) :: st) mi ml mr
      | _ => False)
    | .lshr => (match st with
      | .int z :: .long x :: st => go lv (.long (x >>> (z.toInt64 &&& 63)) :: st) mi ml mr
      | _ => False)
    | .lcmp => (match st with
      | .long z :: .long x :: st => go lv (.int (lg_cmp x z) :: st) mi ml mr
      | _ => False)
    | .dup => (match st with
      | .int x :: st => go lv (.int x :: .int x :: st) mi ml mr
      | .ref x :: st => go lv (.ref x :: .ref x :: st) mi ml mr
      | _ => False)
    | .pop => (match st with
      | .int x :: st => go lv st mi ml mr
      | .ref x :: st => go lv st mi ml mr
      | _ => False)
    | .dup2 => (match st with
      | .int x :: .ref z :: st => go lv (.int x :: .ref z :: .int x :: .ref z :: st) mi ml mr
      | _ => False)
    | .if_icmp c _ => (match st with
      | .int z :: .int x :: st => fc_br c x z (jmp a lv st mi ml mr) (go lv st mi ml mr)
      | _ => False)
    | .ifCond c _ => (match st with
      | .int x :: st => fc_br c x 0 (jmp a lv st mi ml mr) (go lv st mi ml mr)
      | _ => False)
    | .goto _ => jmp a lv st mi ml mr
    | .getfield _ => (match st with
      | .ref q :: st => sh[q]? = some (a, 0) ∧ (match (fc_ft a)[b]? with
        | some 0 => go lv (.int (mi q b) :: st) mi ml mr
        | some 1 => go lv (.long (ml q b) :: st) mi ml mr
        | some 2 => ∃ r, mr q b = some r ∧ go lv (.ref r :: st) mi ml mr
        | some 3 => go lv (.int (mi q b) :: st) mi ml mr
        | _ => False)
      | _ => False)
    | .putfield _ => (match st with
      | .int x :: .ref q :: st => sh[q]? = some (a, 0) ∧ (match (fc_ft a)[b]? with
        | some 0 => go lv st (fc_u mi q b x) ml mr
        | some 3 => (x = 0 ∨ x = 1) ∧ go lv st (fc_u mi q b x) ml mr
        | _ => False)
      | .long x :: .ref q :: st => sh[q]? = some (a, 0) ∧ (match (fc_ft a)[b]? with
        | some 1 => go lv st mi (fc_u ml q b x) mr
        | _ => False)
      | .ref x :: .ref q :: st => sh[q]? = some (a, 0) ∧ (match (fc_ft a)[b]? with
        | some 2 => go lv st mi ml (fc_u mr q b (some x))
        | _ => False)
      | _ => False)
    | .iaload => (match st with
      | .int i :: .ref q :: st => ∃ n k, sh[q]? = some (20, n) ∧ fc_ix i n k ∧ go lv (.int (mi q k) :: st) mi ml mr
      | .int i :: .float u :: st => u = 5 ∧ ∃ k, fc_ix i E.2.2.2.2.2.2.1 k ∧ go lv (.int (E.2.2.2.2.2.2.2 k) :: st) mi ml mr
      | _ => False)
    | .caload => (match st with
      | .int i :: .ref q :: st => ∃ n k, sh[q]? = some (23, n) ∧ fc_ix i n k ∧ go lv (.int (mi q k) :: st) mi ml mr
      | _ => False)
    | .baload => (match st with
      | .int i :: .ref q :: st => ∃ n k, sh[q]? = some (22, n) ∧ fc_ix i n k ∧ go lv (.int (mi q k) :: st) mi ml mr
      | _ => False)
    | .laload => (match st with
      | .int i :: .ref q :: st => ∃ n k, sh[q]? = some (21, n) ∧ fc_ix i n k ∧ go lv (.long (ml q k) :: st) mi ml mr
      | _ => False)
    | .aaload => (match st with
      | .int i :: .ref q :: st => ∃ t n k r, sh[q]? = some (t, n) ∧ (t = 24 ∨ t = 25 ∨ t = 26) ∧ fc_ix i n k ∧ mr q k = some r ∧ go lv (.ref r :: st) mi ml mr
      | _ => False)
    | .iastore => (match st with
      | .int x :: .int i :: .ref q :: st => ∃ n k, sh[q]? = some (20, n) ∧ fc_ix i n k ∧ go lv st (fc_u mi q k x) ml mr
      | _ => False)
    | .castore => (match st with
      | .int x :: .int i :: .ref q :: st => ∃ n k, sh[q]? = some (23, n) ∧ fc_ix i n k ∧ go lv st (fc_u mi q k (vp_nar .char x)) ml mr
      | _ => False)
    | .bastore => (match st with
      | .int x :: .int i :: .ref q :: st => ∃ n k, sh[q]? = some (22, n) ∧ fc_ix i n k ∧ go lv st (fc_u mi q k (vp_nar .boolean x)) ml mr
      | _ => False)
    | .lastore => (match st with
      | .long x :: .int i :: .ref q :: st => ∃ n k, sh[q]? = some (21, n) ∧ fc_ix i n k ∧ go lv st mi (fc_u ml q k x) mr
      | _ => False)
    | .arraylength => (match st with
      | .ref q :: st => ∃ t n, sh[q]? = some (t, n) ∧ (t = 20 ∨ t = 21) ∧ go lv (.int (Int32.ofNat n) :: st) mi ml mr
      | .float u :: st => u = 5 ∧ go lv (.int (Int32.ofNat E.2.2.2.2.2.2.1) :: st) mi ml mr
      | _ => False)
    | .ireturn => (match st with
      | [.int x] => (match y.2.2.2 with
        | some .int => Q (some (.int x)) mi ml mr
        | some .boolean => (x = 0 ∨ x = 1) ∧ Q (some (.int x)) mi ml mr
        | some .char => narrow .char (.int x) = .int x ∧ Q (some (.int x)) mi ml mr
        | _ => False)
      | _ => False)
    | .return_ => (match st with
      | [] => (match y.2.2.2 with
        | none => Q none mi ml mr
        | _ => False)
      | _ => False)
    | .tableswitch df lo hi offs => (match st with
      | .int x :: st => (x.toInt < lo ∨ hi < x.toInt → jmp ((pc : Int) + df).toNat lv st mi ml mr) ∧ (lo ≤ x.toInt ∧ x.toInt ≤ hi → fc_ts pc x (fun t => jmp t lv st mi ml mr) lo offs.toList ∧ hi < lo + offs.toList.length)
      | _ => False)
    | .lookupswitch df qs => (match st with
      | .int x :: st => fc_lsw pc x (fun t => jmp t lv st mi ml mr) df qs.toList
      | _ => False)
    | .invokevirtual _ => (match fc_mtab[a]?, d with
      | some t, d0 + 1 => (match v, st[b - 1]? with
        | .ref ci, some (.ref q) => sh[q]? = some (ci, 0) ∧ fc_call E t.1 d0 sh b go lv st mi ml mr
        | .null, some (.float u) => u.toNat < 5 ∧ fc_call E t.1 d0 sh b go lv st mi ml mr
        | _, _ => False)
      | _, _ => False)
    | .invokestatic _ => (match v with
      | .retAddr 0 => fc_sS E d sh a b go lv st mi ml mr
      | .retAddr 1 => fc_sS E d sh a b go lv st mi ml mr
      | .retAddr 10 => fc_sX go lv st mi ml mr
      | .retAddr 11 => fc_sN go lv st mi ml mr
      | .retAddr 12 => fc_sC sh go lv st mi ml mr
      | _ => False)
    | _ => False
theorem fc_wmax1 : Cond.static Lib.Math.max.name ∈ fc_G := fc_G_of 616 (by decide +kernel) rfl
theorem fc_wmax2 : Cond.code Lib.Math.max.name Lib.Math.max.code 2 (some .int) ∈ fc_G := fc_G_of 617 (by decide +kernel) rfl
theorem fc_wmin1 : Cond.static Lib.Math.min.name ∈ fc_G := fc_G_of 619 (by decide +kernel) rfl
theorem fc_wmin2 : Cond.code Lib.Math.min.name Lib.Math.min.code 2 (some .int) ∈ fc_G := fc_G_of 620 (by decide +kernel) rfl
theorem fc_wmath : Cond.initialized "java/lang/Math" ∈ fc_G := fc_G_of 123 (by decide +kernel) rfl
theorem fc_wcop1 : Cond.native arraycopyName ∈ fc_G := fc_G_of 868 (by decide +kernel) rfl
theorem fc_wcop2 : Cond.static arraycopyName ∈ fc_G := fc_G_of 867 (by decide +kernel) rfl
theorem fc_wsys : Cond.initialized "java/lang/System" ∈ fc_G := fc_G_of 125 (by decide +kernel) rfl
/-- the receiver lies below the other arguments -/
theorem fc_argsV {st : List Value} {b : Nat} {r : Value} (hb : b ≤ st.length) (h1 : 1 ≤ b) (hq : st[b - 1]? = some r) : (st.take b).reverse = r :: (st.take (b - 1)).reverse ∧ (st.take (b - 1)).reverse.reverse ++ r :: st.drop b = st := by
  have hlt : b - 1 < st.length := by omega
  have hr : st[b - 1] = r := by rw [List.getElem?_eq_getElem hlt] at hq; exact Option.some.inj hq
  have ht : st.take b = st.take (b - 1) ++ [r] := by
    have := List.take_succ (l := st) (i := b - 1)
    rw [hq, show b - 1 + 1 = b by omega] at this
    exact this
  refine ⟨by rw [ht, List.reverse_append]; rfl, ?_⟩
  rw [List.reverse_reverse]
  have := List.take_append_drop b st
  rw [ht, List.append_assoc] at this
  exact this
set_option maxHeartbeats 4000000 in
theorem fc_step_ok {E : fc_E} {y : fc_M} {d : Nat} {cs : Nat × Nat} {sh : fc_Sh} {go : fc_Go} {jmp : Nat → fc_Go} {Q : fc_Q} {x : fc_I} {lv : List (Option Value)} {st : List Value} {mi : fc_Mi} {ml : fc_Ml} {mr : fc_Mr} (hx : fc_okb y x = true)
    (hgo : ∀ lv st mi ml mr, go lv st mi ml mr → fc_T E y d cs sh (x.1 + x.2.2.1) lv st mi ml mr Q) (hj : ∀ t lv st mi ml mr, jmp t lv st mi ml mr → fc_T E y d cs sh t lv st mi ml mr Q) (h : fc_step E y d sh go jmp Q x lv st mi ml mr) : fc_T E y d cs sh x.1 lv st mi ml mr Q := by
  obtain ⟨pc, i, len, a, b, ps, v⟩ := x
  simp only [fc_okb, Bool.and_eq_true, decide_eq_true_eq] at hx
  obtain ⟨hd, hl⟩ := hx
  dsimp only at hd hgo ⊢
  cases i with
  | iconst n =>
    simp only [fc_okl, Bool.and_eq_true, beq_iff_eq, decide_eq_true_eq] at hl
    obtain ⟨rfl, rfl⟩ := hl
    dsimp only [fc_step] at h
    exact fc_r_iconst hd rfl (hgo _ _ _ _ _ h)
  | bipush n =>
    simp only [fc_okl, Bool.and_eq_true, beq_iff_eq, decide_eq_true_eq] at hl
    obtain ⟨rfl, rfl⟩ := hl
    dsimp only [fc_step] at h
    exact fc_r_bipush hd rfl (hgo _ _ _ _ _ h)
  | sipush n =>
    simp only [fc_okl, Bool.and_eq_true, beq_iff_eq, decide_eq_true_eq] at hl
    obtain ⟨rfl, rfl⟩ := hl
    dsimp only [fc_step] at h
    exact fc_r_sipush hd rfl (hgo _ _ _ _ _ h)
  | lconst n =>
    simp only [fc_okl, Bool.and_eq_true, beq_iff_eq, decide_eq_true_eq] at hl
    obtain ⟨rfl, rfl⟩ := hl
    dsimp only [fc_step] at h
    exact fc_r_lconst hd rfl (hgo _ _ _ _ _ h)
  | ldc n =>
    simp only [fc_okl, Bool.and_eq_true, beq_iff_eq] at hl
    obtain ⟨rfl, hl⟩ := hl
    dsimp only [fc_step] at h
    unfold fc_okc at hl
    split at hl
    · simp only [fc_at, Bool.and_eq_true, decide_eq_true_eq] at hl
      exact fc_r_ldc hd (fc_G_of _ hl.1 hl.2) (hgo _ _ _ _ _ h)
    · split at hl
      · next q hq =>
        simp only [Bool.and_eq_true, decide_eq_true_eq] at hl
        obtain ⟨q1, q2, q3⟩ := q
        obtain ⟨rfl, rfl⟩ := hl
        exact fc_r_ldcS hd hq (hgo _ _ _ _ _ h)
      · cases hl
    · cases hl
  | ldc_w n =>
    simp only [fc_okl, Bool.and_eq_true, beq_iff_eq] at hl
    obtain ⟨rfl, hl⟩ := hl
    dsimp only [fc_step] at h
    split at h
    · simp only [fc_okc, fc_at, Bool.and_eq_true, decide_eq_true_eq] at hl
      exact fc_r_ldcw hd (fc_G_of _ hl.1 hl.2) (hgo _ _ _ _ _ h)
    · exact h.elim
  | ldc2_w n =>
    simp only [fc_okl, Bool.and_eq_true, beq_iff_eq] at hl
    obtain ⟨rfl, hl⟩ := hl
    dsimp only [fc_step] at h
    unfold fc_okd at hl
    split at hl
    · simp only [fc_at, Bool.and_eq_true, decide_eq_true_eq] at hl
      exact fc_r_ldc2 hd (fc_G_of _ hl.1 hl.2) (hgo _ _ _ _ _ h)
    · cases hl
  | iload k =>
    have hl : len = 2 := by simpa [fc_okl] using hl
    subst hl
    dsimp only [fc_step] at h
    split at h
    · next hx => exact fc_r_iload hd hx (hgo _ _ _ _ _ h)
    · exact h.elim
  | iload_n k =>
    have hl : len = 1 := by simpa [fc_okl] using hl
    subst hl
    dsimp only [fc_step] at h
    split at h
    · next hx => exact fc_r_iload_n hd rfl hx (hgo _ _ _ _ _ h)
    · exact h.elim
  | lload k =>
    have hl : len = 2 := by simpa [fc_okl] using hl
    subst hl
    dsimp only [fc_step] at h
    split at h
    · next hx => exact fc_r_lload hd hx (hgo _ _ _ _ _ h)
    · exact h.elim
  | lload_n k =>
    have hl : len = 1 := by simpa [fc_okl] using hl
    subst hl
    dsimp only [fc_step] at h
    split at h
    · next hx => exact fc_r_lload_n hd rfl hx (hgo _ _ _ _ _ h)
    · exact h.elim
  | aload k =>
    have hl : len = 2 := by simpa [fc_okl] using hl
    subst hl
    dsimp only [fc_step] at h
    split at h
    · next hx => exact fc_r_aload hd hx (hgo _ _ _ _ _ h)
    · exact h.elim
  | aload_n k =>
    have hl : len = 1 := by simpa [fc_okl] using hl
    subst hl
    dsimp only [fc_step] at h
    split at h
    · next hx => exact fc_r_aload_n hd rfl hx (hgo _ _ _ _ _ h)
    · next hx => exact fc_r_sload_n hd rfl hx (hgo _ _ _ _ _ h)
    · exact h.elim
  | istore k =>
    simp only [fc_okl, Bool.and_eq_true, beq_iff_eq, decide_eq_true_eq] at hl
    obtain ⟨rfl, hl⟩ := hl
    dsimp only [fc_step] at h
    split at h
    · exact fc_r_istore hd hl (hgo _ _ _ _ _ h)
    · exact h.elim
  | istore_n k =>
    simp only [fc_okl, Bool.and_eq_true, beq_iff_eq, decide_eq_true_eq] at hl
    obtain ⟨rfl, hl⟩ := hl
    dsimp only [fc_step] at h
    split at h
    · exact fc_r_istore_n hd rfl hl (hgo _ _ _ _ _ h)
    · exact h.elim
  | lstore k =>
    simp only [fc_okl, Bool.and_eq_true, beq_iff_eq, decide_eq_true_eq] at hl
    obtain ⟨rfl, hl⟩ := hl
    dsimp only [fc_step] at h
    split at h
    · exact fc_r_lstore hd hl (hgo _ _ _ _ _ h)
    · exact h.elim
  | lstore_n k =>
    simp only [fc_okl, Bool.and_eq_true, beq_iff_eq, decide_eq_true_eq] at hl
    obtain ⟨rfl, hl⟩ := hl
    dsimp only [fc_step] at h
    split at h
    · exact fc_r_lstore_n hd rfl hl (hgo _ _ _ _ _ h)
    · exact h.elim
  | astore k =>
    simp only [fc_okl, Bool.and_eq_true, beq_iff_eq, decide_eq_true_eq] at hl
    obtain ⟨rfl, hl⟩ := hl
    dsimp only [fc_step] at h
    split at h
    · exact fc_r_astore hd hl (hgo _ _ _ _ _ h)
    · exact h.elim
  | astore_n k =>
    simp only [fc_okl, Bool.and_eq_true, beq_iff_eq, decide_eq_true_eq] at hl
    obtain ⟨rfl, hl⟩ := hl
    dsimp only [fc_step] at h
    split at h
    · exact fc_r_astore_n hd rfl hl (hgo _ _ _ _ _ h)
    · exact h.elim
  | iinc k n =>
    simp only [fc_okl, Bool.and_eq_true, beq_iff_eq, decide_eq_true_eq] at hl
    obtain ⟨rfl, hl⟩ := hl
    dsimp only [fc_step] at h
    split at h
    · next hx => exact fc_r_iinc hd hx rfl hl (hgo _ _ _ _ _ h)
    · exact h.elim
  | iadd =>
    have hl : len = 1 := by simpa [fc_okl] using hl
    subst hl
    dsimp only [fc_step] at h
    split at h
    · exact fc_r_iadd hd (hgo _ _ _ _ _ h)
    · exact h.elim
  | isub =>
    have hl : len = 1 := by simpa [fc_okl] using hl
    subst hl
    dsimp only [fc_step] at h
    split at h
    · exact fc_r_isub hd (hgo _ _ _ _ _ h)
    · exact h.elim
  | imul =>
    have hl : len = 1 := by simpa [fc_okl] using hl
    subst hl
    dsimp only [fc_step] at h
    split at h
    · exact fc_r_imul hd (hgo _ _ _ _ _ h)
    · exact h.elim
  | iand =>
    have hl : len = 1 := by simpa [fc_okl] using hl
    subst hl
    dsimp only [fc_step] at h
    split at h
    · exact fc_r_iand hd (hgo _ _ _ _ _ h)
    · exact h.elim
  | ior =>
    have hl : len = 1 := by simpa [fc_okl] using hl
    subst hl
    dsimp only [fc_step] at h
    split at h
    · exact fc_r_ior hd (hgo _ _ _ _ _ h)
    · exact h.elim
  | ixor =>
    have hl : len = 1 := by simpa [fc_okl] using hl
    subst hl
    dsimp only [fc_step] at h
    split at h
    · exact fc_r_ixor hd (hgo _ _ _ _ _ h)
    · exact h.elim
  | ishl =>
    have hl : len = 1 := by simpa [fc_okl] using hl
    subst hl
    dsimp only [fc_step] at h
    split at h
    · exact fc_r_ishl hd (hgo _ _ _ _ _ h)
    · exact h.elim
  | ishr =>
    have hl : len = 1 := by simpa [fc_okl] using hl
    subst hl
    dsimp only [fc_step] at h
    split at h
    · exact fc_r_ishr hd (hgo _ _ _ _ _ h)
    · exact h.elim
  | iushr =>
    have hl : len = 1 := by simpa [fc_okl] using hl
    subst hl
    dsimp only [fc_step] at h
    split at h
    · exact fc_r_iushr hd (hgo _ _ _ _ _ h)
    · exact h.elim
  | idiv =>
    have hl : len = 1 := by simpa [fc_okl] using hl
    subst hl
    dsimp only [fc_step] at h
    split at h
    · exact fc_r_idiv hd h.1 (hgo _ _ _ _ _ h.2)
    · exact h.elim
  | irem =>
    have hl : len = 1 := by simpa [fc_okl] using hl
    subst hl
    dsimp only [fc_step] at h
    split at h
    · exact fc_r_irem hd h.1 (hgo _ _ _ _ _ h.2)
    · exact h.elim
  | ladd =>
    have hl : len = 1 := by simpa [fc_okl] using hl
    subst hl
    dsimp only [fc_step] at h
    split at h
    · exact fc_r_ladd hd (hgo _ _ _ _ _ h)
    · exact h.elim
  | lsub =>
    have hl : len = 1 := by simpa [fc_okl] using hl
    subst hl
    dsimp only [fc_step] at h
    split at h
    · exact fc_r_lsub hd (hgo _ _ _ _ _ h)
    · exact h.elim
  | lmul =>
    have hl : len = 1 := by simpa [fc_okl] using hl
    subst hl
    dsimp only [fc_step] at h
    split at h
    · exact fc_r_lmul hd (hgo _ _ _ _ _ h)
    · exact h.elim
  | land =>
    have hl : len = 1 := by simpa [fc_okl] using hl
    subst hl
    dsimp only [fc_step] at h
    split at h
    · exact fc_r_land hd (hgo _ _ _ _ _ h)
    · exact h.elim
  | lor =>
    have hl : len = 1 := by simpa [fc_okl] using hl
    subst hl
    dsimp only [fc_step] at h
    split at h
    · exact fc_r_lor hd (hgo _ _ _ _ _ h)
    · exact h.elim
  | ldiv =>
    have hl : len = 1 := by simpa [fc_okl] using hl
    subst hl
    dsimp only [fc_step] at h
    split at h
    · exact fc_r_ldiv hd h.1 (hgo _ _ _ _ _ h.2)
    · exact h.elim
  | lrem =>
    have hl : len = 1 := by simpa [fc_okl] using hl
    subst hl
    dsimp only [fc_step] at h
    split at h
    · exact fc_r_lrem hd h.1 (hgo _ _ _ _ _ h.2)
    · exact h.elim
  | ineg =>
    have hl : len = 1 := by simpa [fc_okl] using hl
    subst hl
    dsimp only [fc_step] at h
    split at h
    · exact fc_r_ineg hd (hgo _ _ _ _ _ h)
    · exact h.elim
  | i2l =>
    have hl : len = 1 := by simpa [fc_okl] using hl
    subst hl
    dsimp only [fc_step] at h
    split at h
    · exact fc_r_i2l hd (hgo _ _ _ _ _ h)
    · exact h.elim
  | l2i =>
    have hl : len = 1 := by simpa [fc_okl] using hl
    subst hl
    dsimp only [fc_step] at h
    split at h
    · exact fc_r_l2i hd (hgo _ _ _ _ _ h)
    · exact h.elim
  | i2c =>
    have hl : len = 1 := by simpa [fc_okl] using hl
    subst hl
    dsimp only [fc_step] at h
    split at h
    · exact fc_r_i2c hd (hgo _ _ _ _ _ h)
    · exact h.elim
  | lushr =>
    have hl : len = 1 := by simpa [fc_okl] using hl
    subst hl
    dsimp only [fc_step] at h
    split at h
    · exact fc_r_lushr hd (hgo _ _ _ _ _ h)
    · exact h.elim
  | lshl =>
    have hl : len = 1 := by simpa [fc_okl] using hl
    subst hl
    dsimp only [fc_step] at h
    split at h
    · exact fc_r_lshl hd (hgo _ _ _ _ _ h)
    · exact h.elim
  | lshr =>
    have hl : len = 1 := by simpa [fc_okl] using hl
    subst hl
    dsimp only [fc_step] at h
    split at h
    · exact fc_r_lshr hd (hgo _ _ _ _ _ h)
    · exact h.elim
  | lcmp =>
    have hl : len = 1 := by simpa [fc_okl] using hl
    subst hl
    dsimp only [fc_step] at h
    split at h
    · exact fc_r_lcmp hd (hgo _ _ _ _ _ h)
    · exact h.elim
  | dup =>
    have hl : len = 1 := by simpa [fc_okl] using hl
    subst hl
    dsimp only [fc_step] at h
    split at h
    · exact fc_r_dup hd rfl (hgo _ _ _ _ _ h)
    · exact fc_r_dup hd rfl (hgo _ _ _ _ _ h)
    · exact h.elim
  | pop =>
    have hl : len = 1 := by simpa [fc_okl] using hl
    subst hl
    dsimp only [fc_step] at h
    split at h
    · exact fc_r_pop hd rfl (hgo _ _ _ _ _ h)
    · exact fc_r_pop hd rfl (hgo _ _ _ _ _ h)
    · exact h.elim
  | dup2 =>
    have hl : len = 1 := by simpa [fc_okl] using hl
    subst hl
    dsimp only [fc_step] at h
    split at h
    · exact fc_r_dup2 hd rfl rfl (hgo _ _ _ _ _ h)
    · exact h.elim
  | if_icmp c off =>
    simp only [fc_okl, Bool.and_eq_true, beq_iff_eq, fc_tg, decide_eq_true_eq] at hl
    obtain ⟨rfl, hl⟩ := hl
    dsimp only [fc_step] at h
    split at h
    · cases c with
      | eq => exact fc_r_icmp_eq hd hl (fun q => hj _ _ _ _ _ _ (h.1 q)) (fun q => hgo _ _ _ _ _ (h.2 q))
      | ne => exact fc_r_icmp_ne hd hl (fun q => hj _ _ _ _ _ _ (h.2 q)) (fun q => hgo _ _ _ _ _ (h.1 q))
      | lt => exact fc_r_icmp_lt hd hl (fun q => hj _ _ _ _ _ _ (h.1 q)) (fun q => hgo _ _ _ _ _ (h.2 q))
      | ge => exact fc_r_icmp_ge hd hl (fun q => hj _ _ _ _ _ _ (h.1 q)) (fun q => hgo _ _ _ _ _ (h.2 q))
      | gt => exact fc_r_icmp_gt hd hl (fun q => hj _ _ _ _ _ _ (h.1 q)) (fun q => hgo _ _ _ _ _ (h.2 q))
      | le => exact fc_r_icmp_le hd hl (fun q => hj _ _ _ _ _ _ (h.1 q)) (fun q => hgo _ _ _ _ _ (h.2 q))
    · exact h.elim
  | ifCond c off =>
    simp only [fc_okl, Bool.and_eq_true, beq_iff_eq, fc_tg, decide_eq_true_eq] at hl
    obtain ⟨rfl, hl⟩ := hl
    dsimp only [fc_step] at h
    split at h
    · cases c with
      | eq => exact fc_r_if_eq hd hl (fun q => hj _ _ _ _ _ _ (h.1 q)) (fun q => hgo _ _ _ _ _ (h.2 q))
      | ne => exact fc_r_if_ne hd hl (fun q => hj _ _ _ _ _ _ (h.2 q)) (fun q => hgo _ _ _ _ _ (h.1 q))
      | lt => exact fc_r_if_lt hd hl (fun q => hj _ _ _ _ _ _ (h.1 q)) (fun q => hgo _ _ _ _ _ (h.2 q))
      | ge => exact fc_r_if_ge hd hl (fun q => hj _ _ _ _ _ _ (h.1 q)) (fun q => hgo _ _ _ _ _ (h.2 q))
      | gt => exact fc_r_if_gt hd hl (fun q => hj _ _ _ _ _ _ (h.1 q)) (fun q => hgo _ _ _ _ _ (h.2 q))
      | le => exact fc_r_if_le hd hl (fun q => hj _ _ _ _ _ _ (h.1 q)) (fun q => hgo _ _ _ _ _ (h.2 q))
    · exact h.elim
  | goto off =>
    simp only [fc_okl, Bool.and_eq_true, beq_iff_eq, fc_tg, decide_eq_true_eq] at hl
    obtain ⟨rfl, hl⟩ := hl
    dsimp only [fc_step] at h
    exact fc_r_goto hd hl (hj _ _ _ _ _ _ h)
  | getfield n =>
    simp only [fc_okl, Bool.and_eq_true, beq_iff_eq] at hl
    obtain ⟨rfl, hl⟩ := hl
    dsimp only [fc_step] at h
    unfold fc_okf at hl
    split at hl
    · next r hr =>
      simp only [Bool.and_eq_true, decide_eq_true_eq, fc_at] at hl
      obtain ⟨hb, ha, hk, hw, hg⟩ := hl
      have hG := fc_G_of _ hw hg
      split at h
      · obtain ⟨hs, h⟩ := h
        split at h
        · next ht => exact fc_r_get hd hr ha hb hG ht hs rfl (hgo _ _ _ _ _ h)
        · next ht => exact fc_r_get hd hr ha hb hG ht hs rfl (hgo _ _ _ _ _ h)
        · next ht =>
          obtain ⟨z, hz, h⟩ := h
          exact fc_r_get hd hr ha hb hG ht hs (v := .ref z) (by simp [fc_fv, hz, va_rf, fc_v]) (hgo _ _ _ _ _ h)
        · next ht => exact fc_r_get hd hr ha hb hG ht hs rfl (hgo _ _ _ _ _ h)
        · exact h.elim
      · exact h.elim
    · cases hl
  | putfield n =>
    simp only [fc_okl, Bool.and_eq_true, beq_iff_eq] at hl
    obtain ⟨rfl, hl, hf⟩ := hl
    dsimp only [fc_step] at h
    unfold fc_okf at hl
    unfold fc_fin at hf
    split at hl
    · next r hr =>
      rw [hr] at hf
      simp only [Bool.not_eq_true'] at hf
      simp only [Bool.and_eq_true, decide_eq_true_eq, fc_at] at hl
      obtain ⟨hb, ha, hk, hw, hg⟩ := hl
      have hG := fc_G_of _ hw hg
      have key : ∀ t, (fc_ft a)[b]? = some t → ∃ ty, parseFieldDescriptor (r.2.1 b).2.2.1 = some ty ∧ fc_fk (some ty) = some t := by
        intro t ht
        rw [ht] at hk
        cases hp : parseFieldDescriptor (r.2.1 b).2.2.1 with
        | none => rw [hp] at hk; cases hk
        | some ty => rw [hp] at hk; exact ⟨ty, rfl, hk.symm⟩
      split at h
      · obtain ⟨hs, h⟩ := h
        split at h
        · next ht =>
          obtain ⟨ty, h1, h2⟩ := key _ ht
          have : ty = .int := by cases ty <;> first | rfl | cases h2
          subst this
          exact fc_r_puti hd hr ha hb hG ht hs hf h1 (hgo _ _ _ _ _ h)
        · next ht =>
          obtain ⟨ty, h1, h2⟩ := key _ ht
          have : ty = .boolean := by cases ty <;> first | rfl | cases h2
          subst this
          exact fc_r_putz hd hr ha hb hG ht hs hf h1 h.1 (hgo _ _ _ _ _ h.2)
        · exact h.elim
      · obtain ⟨hs, h⟩ := h
        split at h
        · next ht =>
          obtain ⟨ty, h1, h2⟩ := key _ ht
          have : ty = .long := by cases ty <;> first | rfl | cases h2
          subst this
          exact fc_r_putl hd hr ha hb hG ht hs hf h1 (hgo _ _ _ _ _ h)
        · exact h.elim
      · obtain ⟨hs, h⟩ := h
        split at h
        · next ht =>
          obtain ⟨ty, h1, h2⟩ := key _ ht
          exact fc_r_putr hd hr ha hb hG ht hs hf h1 (by cases ty <;> first | rfl | cases h2) (hgo _ _ _ _ _ h)
        · exact h.elim
      · exact h.elim
    · cases hl
  | iaload =>
    have hl : len = 1 := by simpa [fc_okl] using hl
    subst hl
    dsimp only [fc_step] at h
    split at h
    · obtain ⟨n, k, h1, ⟨h2, rfl⟩, h⟩ := h
      exact fc_r_iald hd h1 h2 (hgo _ _ _ _ _ h)
    · obtain ⟨rfl, k, ⟨h2, rfl⟩, h⟩ := h
      exact fc_r_sald hd h2 (hgo _ _ _ _ _ h)
    · exact h.elim
  | caload =>
    have hl : len = 1 := by simpa [fc_okl] using hl
    subst hl
    dsimp only [fc_step] at h
    split at h
    · obtain ⟨n, k, h1, ⟨h2, rfl⟩, h⟩ := h
      exact fc_r_cald hd h1 h2 (hgo _ _ _ _ _ h)
    · exact h.elim
  | baload =>
    have hl : len = 1 := by simpa [fc_okl] using hl
    subst hl
    dsimp only [fc_step] at h
    split at h
    · obtain ⟨n, k, h1, ⟨h2, rfl⟩, h⟩ := h
      exact fc_r_zald hd h1 h2 (hgo _ _ _ _ _ h)
    · exact h.elim
  | laload =>
    have hl : len = 1 := by simpa [fc_okl] using hl
    subst hl
    dsimp only [fc_step] at h
    split at h
    · obtain ⟨n, k, h1, ⟨h2, rfl⟩, h⟩ := h
      exact fc_r_lald hd h1 h2 (hgo _ _ _ _ _ h)
    · exact h.elim
  | aaload =>
    have hl : len = 1 := by simpa [fc_okl] using hl
    subst hl
    dsimp only [fc_step] at h
    split at h
    · obtain ⟨t, n, k, r, h1, ht, ⟨h2, rfl⟩, h3, h⟩ := h
      rcases ht with rfl | rfl | rfl
      · exact fc_r_aald24 hd h1 h2 h3 (hgo _ _ _ _ _ h)
      · exact fc_r_aald25 hd h1 h2 h3 (hgo _ _ _ _ _ h)
      · exact fc_r_aald26 hd h1 h2 h3 (hgo _ _ _ _ _ h)
    · exact h.elim
  | iastore =>
    have hl : len = 1 := by simpa [fc_okl] using hl
    subst hl
    dsimp only [fc_step] at h
    split at h
    · obtain ⟨n, k, h1, ⟨h2, rfl⟩, h⟩ := h
      exact fc_r_iast hd h1 h2 (hgo _ _ _ _ _ h)
    · exact h.elim
  | castore =>
    have hl : len = 1 := by simpa [fc_okl] using hl
    subst hl
    dsimp only [fc_step] at h
    split at h
    · obtain ⟨n, k, h1, ⟨h2, rfl⟩, h⟩ := h
      exact fc_r_cast hd h1 h2 (hgo _ _ _ _ _ h)
    · exact h.elim
  | bastore =>
    have hl : len = 1 := by simpa [fc_okl] using hl
    subst hl
    dsimp only [fc_step] at h
    split at h
    · obtain ⟨n, k, h1, ⟨h2, rfl⟩, h⟩ := h
      exact fc_r_zast hd h1 h2 (hgo _ _ _ _ _ h)
    · exact h.elim
  | lastore =>
    have hl : len = 1 := by simpa [fc_okl] using hl
    subst hl
    dsimp only [fc_step] at h
    split at h
    · obtain ⟨n, k, h1, ⟨h2, rfl⟩, h⟩ := h
      exact fc_r_last hd h1 h2 (hgo _ _ _ _ _ h)
    · exact h.elim
  | arraylength =>
    have hl : len = 1 := by simpa [fc_okl] using hl
    subst hl
    dsimp only [fc_step] at h
    split at h
    · obtain ⟨t, n, h1, ht, h⟩ := h
      rcases ht with rfl | rfl
      · exact fc_r_alenI hd h1 (hgo _ _ _ _ _ h)
      · exact fc_r_alenL hd h1 (hgo _ _ _ _ _ h)
    · obtain ⟨rfl, h⟩ := h
      exact fc_r_slen hd (hgo _ _ _ _ _ h)
    · exact h.elim
  | ireturn =>
    have hl : len = 1 := by simpa [fc_okl] using hl
    subst hl
    dsimp only [fc_step] at h
    split at h
    · next x =>
      split at h
      · next hr => exact fc_r_ret (v := some (.int x)) ⟨hd, Or.inl hr⟩ h
      · next hr => exact fc_r_ret (v := some (.int x)) ⟨hd, Or.inr (Or.inl ⟨hr, h.1⟩)⟩ h.2
      · next hr => exact fc_r_ret (v := some (.int x)) ⟨hd, Or.inr (Or.inr ⟨hr, h.1⟩)⟩ h.2
      · exact h.elim
    · exact h.elim
  | return_ =>
    have hl : len = 1 := by simpa [fc_okl] using hl
    subst hl
    dsimp only [fc_step] at h
    split at h
    · split at h
      · next hr => exact fc_r_ret (v := none) ⟨hd, hr⟩ h
      · exact h.elim
    · exact h.elim
  | tableswitch df lo hi offs =>
    simp only [fc_okl, Bool.and_eq_true, decide_eq_true_eq, List.all_eq_true] at hl
    dsimp only [fc_step] at h
    split at h
    · next x st =>
      by_cases hout : x.toInt < lo ∨ hi < x.toInt
      · exact fc_r_tableOut hd hout (by rw [Int.toNat_of_nonneg hl.1]) (hj _ _ _ _ _ _ (h.1 hout))
      · have hin : lo ≤ x.toInt ∧ x.toInt ≤ hi := by omega
        obtain ⟨h1, h2⟩ := h.2 hin
        have hk : (x.toInt - lo).toNat < offs.toList.length := by omega
        have ho : offs.toList[(x.toInt - lo).toNat]? = some offs.toList[(x.toInt - lo).toNat] := List.getElem?_eq_getElem hk
        have hm := hl.2 _ (List.mem_of_getElem? ho)
        refine fc_r_tableIn hd (by omega) (by omega) (off := offs.toList[(x.toInt - lo).toNat]) (by rw [← Array.getElem?_toList]; exact ho) (by rw [Int.toNat_of_nonneg hm]) (hj _ _ _ _ _ _ ?_)
        have go : ∀ (os : List Int) (k : Int) (n : Nat) (o : Int), os[n]? = some o → x.toInt = k + n → fc_ts pc x (fun t => jmp t lv st mi ml mr) k os → jmp ((pc : Int) + o).toNat lv st mi ml mr := by
          intro os
          induction os with
          | nil => intro k n o h; simp at h
          | cons o' os ih =>
            intro k n o h hx hs
            cases n with
            | zero =>
              simp at h
              subst h
              exact hs.1 (by rw [show k = x.toInt by omega]; exact (Int32.ofInt_toInt x).symm)
            | succ n => exact ih (k + 1) n o (by simpa using h) (by omega) hs.2
        exact go _ lo _ _ ho (by omega) h1
    · exact h.elim
  | lookupswitch df qs =>
    simp only [fc_okl, Bool.and_eq_true, decide_eq_true_eq] at hl
    obtain ⟨hs, hdn, hl⟩ := hl
    rw [List.all_eq_true] at hl
    dsimp only [fc_step] at h
    split at h
    · next x st =>
      have go : ∀ (os : List (Int × Int)), (∀ o ∈ os, 0 ≤ (pc : Int) + o.2) → fc_lsw pc x (fun t => jmp t lv st mi ml mr) df os → ∃ off : Int, Op.lookupswitch.offset os df x.toInt = off ∧ 0 ≤ (pc : Int) + off ∧ jmp ((pc : Int) + off).toNat lv st mi ml mr := by
        intro os
        induction os with
        | nil => intro _ h; exact ⟨df, rfl, hdn, h⟩
        | cons o os ih =>
          intro hm h
          obtain ⟨k, off⟩ := o
          by_cases hk : x.toInt = k
          · exact ⟨off, by rw [Op.lookupswitch.offset_cons, if_pos hk.symm], hm (k, off) List.mem_cons_self, h.1 hk⟩
          · obtain ⟨off2, g1, g2, g3⟩ := ih (fun o ho => hm o (List.mem_cons_of_mem _ ho)) (h.2 hk)
            exact ⟨off2, by rw [Op.lookupswitch.offset_cons, if_neg (fun q => hk q.symm)]; exact g1, g2, g3⟩
      obtain ⟨off, g1, g2, g3⟩ := go _ (fun o ho => by simpa using hl o ho) h
      exact fc_r_lookup hd hs g1 (by rw [Int.toNat_of_nonneg g2]) (hj _ _ _ _ _ _ g3)
    · exact h.elim
  | invokevirtual n =>
    simp only [fc_okl, Bool.and_eq_true, beq_iff_eq] at hl
    obtain ⟨rfl, hl⟩ := hl
    dsimp only [fc_step] at h
    unfold fc_okv at hl
    split at hl
    · next t ht =>
      rw [ht] at h
      simp only [Bool.and_eq_true, beq_iff_eq, fc_at, decide_eq_true_eq] at hl
      obtain ⟨⟨hw, hg⟩, hk, hn, hv⟩ := hl
      have hG := fc_G_of _ hw hg
      obtain ⟨hm, hm0, -⟩ := fc_mtab_ok t (List.mem_of_getElem? ht)
      obtain ⟨hi, hse⟩ := hm0 hk
      split at h
      · next _ _ _ t' d0 heq =>
        cases heq
        split at h
        · next _ _ ci q hq =>
          obtain ⟨hs, h⟩ := h
          dsimp only at hv
          split at hv
          · next r hr =>
            simp only [Bool.and_eq_true, decide_eq_true_eq] at hv
            unfold fc_call at h
            split at h
            · next hb =>
              simp only [Bool.and_eq_true, Nat.ble_eq] at hb
              obtain ⟨Q', hR', hk'⟩ := h
              obtain ⟨e1, e2⟩ := fc_argsV hb.2 (by omega) hq
              rw [e1] at hR'
              have := fc_r_callV (lv := lv) (Q := Q) (cs := cs) hd hR' hm (by rw [List.length_reverse, List.length_take]; omega) hi hse hG hr hv.1 hv.2 hs hb.1 (fun v mi' ml' mr' hq => hgo _ _ _ _ _ (hk' v mi' ml' mr' hq))
              rwa [e2] at this
            · exact h.elim
          · cases hv
        · next _ _ u hq =>
          obtain ⟨hs, h⟩ := h
          simp only [decide_eq_true_eq] at hv
          unfold fc_call at h
          split at h
          · next hb =>
            simp only [Bool.and_eq_true, Nat.ble_eq] at hb
            obtain ⟨Q', hR', hk'⟩ := h
            obtain ⟨e1, e2⟩ := fc_argsV hb.2 (by omega) hq
            rw [e1] at hR'
            have := fc_r_callT (lv := lv) (Q := Q) (cs := cs) hd hR' hm (by rw [List.length_reverse, List.length_take]; omega) hi hse hG hv hs hb.1 (fun v mi' ml' mr' hq => hgo _ _ _ _ _ (hk' v mi' ml' mr' hq))
            rwa [e2] at this
          · exact h.elim
        · exact h.elim
      · exact h.elim
    · cases hl
  | invokestatic n =>
    simp only [fc_okl, Bool.and_eq_true, beq_iff_eq] at hl
    obtain ⟨rfl, hl⟩ := hl
    dsimp only [fc_step] at h
    unfold fc_oks at hl
    split at hl
    · split at hl
      · next t ht =>
        have h : fc_sS E d sh a b go lv st mi ml mr := h
        unfold fc_sS at h
        rw [ht] at h
        simp only [Bool.and_eq_true, beq_iff_eq, fc_at, decide_eq_true_eq] at hl
        obtain ⟨⟨hw, hg⟩, hk, hn⟩ := hl
        obtain ⟨hm, -, hm1⟩ := fc_mtab_ok t (List.mem_of_getElem? ht)
        cases d with
        | zero => exact h.elim
        | succ d0 =>
          have h : fc_call E t.1 d0 sh b go lv st mi ml mr := h
          unfold fc_call at h
          split at h
          · next hb =>
            simp only [Bool.and_eq_true, Nat.ble_eq] at hb
            obtain ⟨Q', hR', hk'⟩ := h
            have := fc_r_callS (lv := lv) (Q := Q) (cs := cs) hd hR' hm (by rw [List.length_reverse, List.length_take]; omega) (hm1 hk) (fc_G_of _ hw hg) hb.1 (fun v mi' ml' mr' hq => hgo _ _ _ _ _ (hk' v mi' ml' mr' hq))
            rwa [List.reverse_reverse, List.take_append_drop] at this
          · exact h.elim
      · cases hl
    · split at hl
      · next t ht =>
        have h : fc_sS E d sh a b go lv st mi ml mr := h
        unfold fc_sS at h
        rw [ht] at h
        simp only [Bool.and_eq_true, beq_iff_eq, decide_eq_true_eq] at hl
        obtain ⟨hw, hk, hn⟩ := hl
        obtain ⟨hm, -, hm1⟩ := fc_mtab_ok t (List.mem_of_getElem? ht)
        cases d with
        | zero => exact h.elim
        | succ d0 =>
          have h : fc_call E t.1 d0 sh b go lv st mi ml mr := h
          unfold fc_call at h
          split at h
          · next hb =>
            simp only [Bool.and_eq_true, Nat.ble_eq] at hb
            obtain ⟨Q', hR', hk'⟩ := h
            have := fc_r_callN (lv := lv) (Q := Q) (cs := cs) hd hR' hm (by rw [List.length_reverse, List.length_take]; omega) (hm1 hk) hw hb.1 (fun v mi' ml' mr' hq => hgo _ _ _ _ _ (hk' v mi' ml' mr' hq))
            rwa [List.reverse_reverse, List.take_append_drop] at this
          · exact h.elim
      · cases hl
    · simp only [fc_at, Bool.and_eq_true, decide_eq_true_eq] at hl
      have h : fc_sX go lv st mi ml mr := h
      unfold fc_sX at h
      split at h
      · split at h
        · next hb => exact fc_r_max hd (fc_G_of _ hl.1 hl.2) fc_wmax1 fc_wmath fc_wmax2 (by simpa using hb) (hgo _ _ _ _ _ h)
        · exact h.elim
      · exact h.elim
    · simp only [fc_at, Bool.and_eq_true, decide_eq_true_eq] at hl
      have h : fc_sN go lv st mi ml mr := h
      unfold fc_sN at h
      split at h
      · split at h
        · next hb => exact fc_r_min hd (fc_G_of _ hl.1 hl.2) fc_wmin1 fc_wmath fc_wmin2 (by simpa using hb) (hgo _ _ _ _ _ h)
        · exact h.elim
      · exact h.elim
    · simp only [fc_at, Bool.and_eq_true, decide_eq_true_eq] at hl
      have h : fc_sC sh go lv st mi ml mr := h
      unfold fc_sC at h
      split at h
      · split at h
        · next hb =>
          obtain ⟨n0, n1, h0, h1, ⟨h2, h3, h4, h5, h6⟩, h⟩ := h
          exact fc_r_copy hd (fc_G_of _ hl.1 hl.2) fc_wcop1 fc_wcop2 fc_wsys h0 h1 h2 h3 h4 h5 h6 (by simpa using hb) (hgo _ _ _ _ _ h)
        · exact h.elim
      · exact h.elim
    · cases hl
  | _ => exact h.elim
def fc_find : List fc_I → Nat → List fc_I
  | [], _ => []
  | x :: L, t => match Nat.beq x.1 t with
    | true => x :: L
    | false => fc_find L t
/-- on to the next instruction, or to a place where the walk stops -/
def fc_go (stop : Nat → Bool) (T : Nat → fc_Go) (wp : List fc_I → fc_Go) : List fc_I → fc_Go
  | [] => fun _ _ _ _ _ => False
  | x :: L => fun lv st mi ml mr => match stop x.1 with
    | true => T x.1 lv st mi ml mr
    | false => wp (x :: L) lv st mi ml mr
def fc_wp (E : fc_E) (y : fc_M) (d : Nat) (cs : Nat × Nat) (sh : fc_Sh) (C : List fc_I) (stop : Nat → Bool) (Q : fc_Q) : Nat → List fc_I → fc_Go
  | 0, _ => fun _ _ _ _ _ => False
  | _ + 1, [] => fun _ _ _ _ _ => False
  | n + 1, x :: L => fc_step E y d sh (fc_go stop (fun pc lv st mi ml mr => fc_T E y d cs sh pc lv st mi ml mr Q) (fc_wp E y d cs sh C stop Q n) L) (fun t => fc_go stop (fun pc lv st mi ml mr => fc_T E y d cs sh pc lv st mi ml mr Q) (fc_wp E y d cs sh C stop Q n) (fc_find C t)) Q x
def fc_okL (y : fc_M) (L : List fc_I) : Prop := fc_chain L = true ∧ ∀ x ∈ L, fc_okb y x = true
theorem fc_okL.tail {y : fc_M} {x : fc_I} {L : List fc_I} (h : fc_okL y (x :: L)) : fc_okL y L := by
  refine ⟨?_, fun z hz => h.2 z (List.mem_cons_of_mem _ hz)⟩
  cases L with
  | nil => rfl
  | cons z L =>
    have := h.1
    simp only [fc_chain, Bool.and_eq_true] at this
    exact this.2
theorem fc_okL.find {y : fc_M} : ∀ {L : List fc_I} (t : Nat), fc_okL y L → fc_okL y (fc_find L t)
  | [], t, h => h
  | x :: L, t, h => by
    unfold fc_find
    split
    · exact h
    · exact fc_okL.find t h.tail
theorem fc_find_pc : ∀ {L : List fc_I} {t : Nat} {x : fc_I} {L' : List fc_I}, fc_find L t = x :: L' → x.1 = t
  | [], t, x, L', h => by cases h
  | z :: L, t, x, L', h => by
    unfold fc_find at h
    split at h
    · next hb => cases h; exact Nat.eq_of_beq_eq_true hb
    · exact fc_find_pc h
theorem fc_wp_ok {E : fc_E} {y : fc_M} {d : Nat} {cs : Nat × Nat} {sh : fc_Sh} {C : List fc_I} {stop : Nat → Bool} {Q : fc_Q} (hC : fc_okL y C) : ∀ (n : Nat) (x : fc_I) (L : List fc_I) (lv : List (Option Value)) (st : List Value) (mi : fc_Mi) (ml : fc_Ml) (mr : fc_Mr), fc_okL y (x :: L) → fc_wp E y d cs sh C stop Q n (x :: L) lv st mi ml mr → fc_T E y d cs sh x.1 lv st mi ml mr Q := by
  intro n
  induction n with
  | zero => intro x L lv st mi ml mr _ h; exact h.elim
  | succ n ih =>
    intro x L lv st mi ml mr hL h
    have key : ∀ (L' : List fc_I) (t : Nat), fc_okL y L' → (∀ z L'', L' = z :: L'' → z.1 = t) → ∀ lv st mi ml mr, fc_go stop (fun pc lv st mi ml mr => fc_T E y d cs sh pc lv st mi ml mr Q) (fc_wp E y d cs sh C stop Q n) L' lv st mi ml mr → fc_T E y d cs sh t lv st mi ml mr Q := by
      intro L' t hL' ht lv st mi ml mr h
      cases L' with
      | nil => exact h.elim
      | cons z L'' =>
        have e := ht z L'' rfl
        subst e
        simp only [fc_go] at h
        split at h
        · exact h
        · exact ih z L'' lv st mi ml mr hL' h
    refine fc_step_ok (hL.2 x List.mem_cons_self) (key L _ hL.tail ?_) (fun t => key _ t (hC.find t) (fun z L'' hz => fc_find_pc hz)) h
    intro z L'' hz
    subst hz
    have := hL.1
    simp only [fc_chain, Bool.and_eq_true, decide_eq_true_eq] at this
    exact this.1.symm
/-- THE WALK: from a place of the code, through it, to its ends and to where it stops -/
theorem fc_run {E : fc_E} {y : fc_M} {d : Nat} {cs : Nat × Nat} {sh : fc_Sh} {C : List fc_I} {Q : fc_Q} {pc : Nat} {lv : List (Option Value)} {st : List Value} {mi : fc_Mi} {ml : fc_Ml} {mr : fc_Mr} (hC : fc_code y C = true) (stop : Nat → Bool) (n : Nat)
    (h : fc_wp E y d cs sh C stop Q n (fc_find C pc) lv st mi ml mr) : fc_T E y d cs sh pc lv st mi ml mr Q := by
  have hL : fc_okL y C := by
    simp only [fc_code, Bool.and_eq_true, List.all_eq_true] at hC
    exact hC
  cases hf : fc_find C pc with
  | nil =>
    rw [hf] at h
    cases n <;> exact h.elim
  | cons x L =>
    rw [hf] at h
    have e := fc_find_pc hf
    subst e
    exact fc_wp_ok hL n x L lv st mi ml mr (by rw [← hf]; exact hL.find _) h
end
section
/-! ===== the shapes of all cells that a run has ===== -/
def fc_sh : fc_Sh := [(10, 0), (8, 0), (23, 1000), (1, 0), (3, 0), (20, 64), (9, 0), (26, 7), (20, 7), (20, 7), (20, 7), (20, 7), (20, 7), (20, 7), (20, 7), (20, 128), (20, 128), (7, 0), (20, 5), (20, 5), (20, 5), (20, 5), (20, 5), (20, 6), (20, 6), (7, 0), (20, 5), (20, 5), (20, 5), (20, 5), (20, 5), (20, 6), (20, 6), (4, 0), (24, 16), (24, 4), (25, 4), (22, 4), (7, 0), (20, 5), (20, 5), (20, 5), (20, 5), (20, 5), (20, 6), (20, 6), (7, 0), (20, 5), (20, 5), (20, 5), (20, 5), (20, 5), (20, 6), (20, 6), (7, 0), (20, 5), (20, 5), (20, 5), (20, 5), (20, 5), (20, 6), (20, 6), (7, 0), (20, 5), (20, 5), (20, 5), (20, 5), (20, 5), (20, 6), (20, 6), (7, 0), (20, 5), (20, 5), (20, 5), (20, 5), (20, 5), (20, 6), (20, 6), (7, 0), (20, 5), (20, 5), (20, 5), (20, 5), (20, 5), (20, 6), (20, 6), (7, 0), (20, 5), (20, 5), (20, 5), (20, 5), (20, 5), (20, 6), (20, 6), (7, 0), (20, 5), (20, 5), (20, 5), (20, 5), (20, 5), (20, 6), (20, 6), (7, 0), (20, 5), (20, 5), (20, 5), (20, 5), (20, 5), (20, 6), (20, 6), (7, 0), (20, 5), (20, 5), (20, 5), (20, 5), (20, 5), (20, 6), (20, 6), (7, 0), (20, 5), (20, 5), (20, 5), (20, 5), (20, 5), (20, 6), (20, 6), (7, 0), (20, 5), (20, 5), (20, 5), (20, 5), (20, 5), (20, 6), (20, 6), (7, 0), (20, 5), (20, 5), (20, 5), (20, 5), (20, 5), (20, 6), (20, 6), (7, 0), (20, 5), (20, 5), (20, 5), (20, 5), (20, 5), (20, 6), (20, 6), (7, 0), (20, 5), (20, 5), (20, 5), (20, 5), (20, 5), (20, 6), (20, 6), (7, 0), (20, 5), (20, 5), (20, 5), (20, 5), (20, 5), (20, 6), (20, 6), (7, 0), (20, 5), (20, 5), (20, 5), (20, 5), (20, 5), (20, 6), (20, 6), (6, 0), (20, 8), (20, 8), (22, 8), (7, 0), (20, 5), (20, 5), (20, 5), (20, 5), (20, 5), (20, 6), (20, 6), (6, 0), (20, 8), (20, 8), (22, 8), (7, 0), (20, 5), (20, 5), (20, 5), (20, 5), (20, 5), (20, 6), (20, 6), (6, 0), (20, 8), (20, 8), (22, 8), (7, 0), (20, 5), (20, 5), (20, 5), (20, 5), (20, 5), (20, 6), (20, 6), (6, 0), (20, 8), (20, 8), (22, 8), (6, 0), (20, 8), (20, 8), (22, 8), (0, 0), (21, 7), (21, 5), (21, 6), (20, 7), (20, 5), (20, 5), (20, 5), (20, 6), (20, 6), (2, 0), (20, 1000), (20, 64), (0, 0), (21, 7), (21, 5), (21, 6), (20, 7), (20, 5), (20, 5), (20, 5), (20, 6), (20, 6), (2, 0), (20, 1000), (20, 64), (5, 0), (20, 40), (20, 40), (20, 40), (5, 0), (20, 40), (20, 40), (20, 40), (11, 0), (20, 1000), (20, 1002), (20, 1002), (21, 1002), (21, 25), (20, 100), (20, 2200), (20, 2200), (21, 18), (21, 18), (20, 18), (20, 18), (20, 250), (20, 4), (20, 1100), (20, 1472), (22, 4), (20, 7), (22, 1792), (21, 1)]
/-- a State at a, its rows behind it -/
def fc_S (mr : fc_Mr) (a : Nat) : Prop := fc_sh[a]? = some (7, 0) ∧ fc_sh[a + 1]? = some (20, 5) ∧ fc_sh[a + 2]? = some (20, 5) ∧ fc_sh[a + 3]? = some (20, 5) ∧ fc_sh[a + 4]? = some (20, 5) ∧ fc_sh[a + 5]? = some (20, 5) ∧ fc_sh[a + 6]? = some (20, 6) ∧ fc_sh[a + 7]? = some (20, 6) ∧ mr a 2 = some (a + 1) ∧ mr a 3 = some (a + 2) ∧ mr a 4 = some (a + 3) ∧ mr a 5 = some (a + 4) ∧ mr a 6 = some (a + 5) ∧ mr a 7 = some (a + 6) ∧ mr a 8 = some (a + 7)
theorem fc_S_0 {mr : fc_Mr} {a : Nat} (h : fc_S mr a) : fc_sh[a]? = some (7, 0) := h.1
theorem fc_S_1 {mr : fc_Mr} {a : Nat} (h : fc_S mr a) : fc_sh[a + 1]? = some (20, 5) := h.2.1
theorem fc_S_2 {mr : fc_Mr} {a : Nat} (h : fc_S mr a) : fc_sh[a + 2]? = some (20, 5) := h.2.2.1
theorem fc_S_3 {mr : fc_Mr} {a : Nat} (h : fc_S mr a) : fc_sh[a + 3]? = some (20, 5) := h.2.2.2.1
theorem fc_S_4 {mr : fc_Mr} {a : Nat} (h : fc_S mr a) : fc_sh[a + 4]? = some (20, 5) := h.2.2.2.2.1
theorem fc_S_5 {mr : fc_Mr} {a : Nat} (h : fc_S mr a) : fc_sh[a + 5]? = some (20, 5) := h.2.2.2.2.2.1
theorem fc_S_6 {mr : fc_Mr} {a : Nat} (h : fc_S mr a) : fc_sh[a + 6]? = some (20, 6) := h.2.2.2.2.2.2.1
theorem fc_S_7 {mr : fc_Mr} {a : Nat} (h : fc_S mr a) : fc_sh[a + 7]? = some (20, 6) := h.2.2.2.2.2.2.2.1
theorem fc_S_r2 {mr : fc_Mr} {a : Nat} (h : fc_S mr a) : mr a 2 = some (a + 1) := h.2.2.2.2.2.2.2.2.1
theorem fc_S_r3 {mr : fc_Mr} {a : Nat} (h : fc_S mr a) : mr a 3 = some (a + 2) := h.2.2.2.2.2.2.2.2.2.1
theorem fc_S_r4 {mr : fc_Mr} {a : Nat} (h : fc_S mr a) : mr a 4 = some (a + 3) := h.2.2.2.2.2.2.2.2.2.2.1
theorem fc_S_r5 {mr : fc_Mr} {a : Nat} (h : fc_S mr a) : mr a 5 = some (a + 4) := h.2.2.2.2.2.2.2.2.2.2.2.1
theorem fc_S_r6 {mr : fc_Mr} {a : Nat} (h : fc_S mr a) : mr a 6 = some (a + 5) := h.2.2.2.2.2.2.2.2.2.2.2.2.1
theorem fc_S_r7 {mr : fc_Mr} {a : Nat} (h : fc_S mr a) : mr a 7 = some (a + 6) := h.2.2.2.2.2.2.2.2.2.2.2.2.2.1
theorem fc_S_r8 {mr : fc_Mr} {a : Nat} (h : fc_S mr a) : mr a 8 = some (a + 7) := h.2.2.2.2.2.2.2.2.2.2.2.2.2.2
/-- a Land at b, its rows and its Law behind it -/
def fc_L (mr : fc_Mr) (b : Nat) : Prop := fc_sh[b]? = some (0, 0) ∧ fc_sh[b + 1]? = some (21, 7) ∧ fc_sh[b + 2]? = some (21, 5) ∧ fc_sh[b + 3]? = some (21, 6) ∧ fc_sh[b + 4]? = some (20, 7) ∧ fc_sh[b + 5]? = some (20, 5) ∧ fc_sh[b + 6]? = some (20, 5) ∧ fc_sh[b + 7]? = some (20, 5) ∧ fc_sh[b + 8]? = some (20, 6) ∧ fc_sh[b + 9]? = some (20, 6) ∧ fc_sh[b + 10]? = some (2, 0) ∧ fc_sh[b + 11]? = some (20, 1000) ∧ fc_sh[b + 12]? = some (20, 64) ∧ mr b 0 = some (b + 1) ∧ mr b 1 = some (b + 2) ∧ mr b 2 = some (b + 3) ∧ mr b 3 = some (b + 4) ∧ mr b 4 = some (b + 5) ∧ mr b 5 = some (b + 6) ∧ mr b 6 = some (b + 7) ∧ mr b 7 = some (b + 8) ∧ mr b 8 = some (b + 9) ∧ mr b 9 = some (b + 10) ∧ mr (b + 10) 0 = some (b + 11) ∧ mr (b + 10) 1 = some (b + 12)
theorem fc_L_0 {mr : fc_Mr} {b : Nat} (h : fc_L mr b) : fc_sh[b]? = some (0, 0) := h.1
theorem fc_L_1 {mr : fc_Mr} {b : Nat} (h : fc_L mr b) : fc_sh[b + 1]? = some (21, 7) := h.2.1
theorem fc_L_2 {mr : fc_Mr} {b : Nat} (h : fc_L mr b) : fc_sh[b + 2]? = some (21, 5) := h.2.2.1
theorem fc_L_3 {mr : fc_Mr} {b : Nat} (h : fc_L mr b) : fc_sh[b + 3]? = some (21, 6) := h.2.2.2.1
theorem fc_L_4 {mr : fc_Mr} {b : Nat} (h : fc_L mr b) : fc_sh[b + 4]? = some (20, 7) := h.2.2.2.2.1
theorem fc_L_5 {mr : fc_Mr} {b : Nat} (h : fc_L mr b) : fc_sh[b + 5]? = some (20, 5) := h.2.2.2.2.2.1
theorem fc_L_6 {mr : fc_Mr} {b : Nat} (h : fc_L mr b) : fc_sh[b + 6]? = some (20, 5) := h.2.2.2.2.2.2.1
theorem fc_L_7 {mr : fc_Mr} {b : Nat} (h : fc_L mr b) : fc_sh[b + 7]? = some (20, 5) := h.2.2.2.2.2.2.2.1
theorem fc_L_8 {mr : fc_Mr} {b : Nat} (h : fc_L mr b) : fc_sh[b + 8]? = some (20, 6) := h.2.2.2.2.2.2.2.2.1
theorem fc_L_9 {mr : fc_Mr} {b : Nat} (h : fc_L mr b) : fc_sh[b + 9]? = some (20, 6) := h.2.2.2.2.2.2.2.2.2.1
theorem fc_L_10 {mr : fc_Mr} {b : Nat} (h : fc_L mr b) : fc_sh[b + 10]? = some (2, 0) := h.2.2.2.2.2.2.2.2.2.2.1
theorem fc_L_11 {mr : fc_Mr} {b : Nat} (h : fc_L mr b) : fc_sh[b + 11]? = some (20, 1000) := h.2.2.2.2.2.2.2.2.2.2.2.1
theorem fc_L_12 {mr : fc_Mr} {b : Nat} (h : fc_L mr b) : fc_sh[b + 12]? = some (20, 64) := h.2.2.2.2.2.2.2.2.2.2.2.2.1
theorem fc_L_r0 {mr : fc_Mr} {b : Nat} (h : fc_L mr b) : mr b 0 = some (b + 1) := h.2.2.2.2.2.2.2.2.2.2.2.2.2.1
theorem fc_L_r1 {mr : fc_Mr} {b : Nat} (h : fc_L mr b) : mr b 1 = some (b + 2) := h.2.2.2.2.2.2.2.2.2.2.2.2.2.2.1
theorem fc_L_r2 {mr : fc_Mr} {b : Nat} (h : fc_L mr b) : mr b 2 = some (b + 3) := h.2.2.2.2.2.2.2.2.2.2.2.2.2.2.2.1
theorem fc_L_r3 {mr : fc_Mr} {b : Nat} (h : fc_L mr b) : mr b 3 = some (b + 4) := h.2.2.2.2.2.2.2.2.2.2.2.2.2.2.2.2.1
theorem fc_L_r4 {mr : fc_Mr} {b : Nat} (h : fc_L mr b) : mr b 4 = some (b + 5) := h.2.2.2.2.2.2.2.2.2.2.2.2.2.2.2.2.2.1
theorem fc_L_r5 {mr : fc_Mr} {b : Nat} (h : fc_L mr b) : mr b 5 = some (b + 6) := h.2.2.2.2.2.2.2.2.2.2.2.2.2.2.2.2.2.2.1
theorem fc_L_r6 {mr : fc_Mr} {b : Nat} (h : fc_L mr b) : mr b 6 = some (b + 7) := h.2.2.2.2.2.2.2.2.2.2.2.2.2.2.2.2.2.2.2.1
theorem fc_L_r7 {mr : fc_Mr} {b : Nat} (h : fc_L mr b) : mr b 7 = some (b + 8) := h.2.2.2.2.2.2.2.2.2.2.2.2.2.2.2.2.2.2.2.2.1
theorem fc_L_r8 {mr : fc_Mr} {b : Nat} (h : fc_L mr b) : mr b 8 = some (b + 9) := h.2.2.2.2.2.2.2.2.2.2.2.2.2.2.2.2.2.2.2.2.2.1
theorem fc_L_r9 {mr : fc_Mr} {b : Nat} (h : fc_L mr b) : mr b 9 = some (b + 10) := h.2.2.2.2.2.2.2.2.2.2.2.2.2.2.2.2.2.2.2.2.2.2.1
theorem fc_L_r10 {mr : fc_Mr} {b : Nat} (h : fc_L mr b) : mr (b + 10) 0 = some (b + 11) := h.2.2.2.2.2.2.2.2.2.2.2.2.2.2.2.2.2.2.2.2.2.2.2.1
theorem fc_L_r11 {mr : fc_Mr} {b : Nat} (h : fc_L mr b) : mr (b + 10) 1 = some (b + 12) := h.2.2.2.2.2.2.2.2.2.2.2.2.2.2.2.2.2.2.2.2.2.2.2.2
/-- the references that never change: of the cell x, its k-th -/
def fc_fx : List (Nat × Nat × Nat) := [(0, 0, 1), (0, 1, 3), (0, 2, 6), (0, 3, 17), (0, 4, 25), (0, 5, 33), (0, 6, 214), (1, 0, 2), (3, 0, 4), (4, 0, 5), (6, 0, 7), (7, 0, 8), (7, 1, 9), (7, 2, 10), (7, 3, 11), (7, 4, 12), (7, 5, 13), (7, 6, 14), (17, 2, 18), (17, 3, 19), (17, 4, 20), (17, 5, 21), (17, 6, 22), (17, 7, 23), (17, 8, 24), (25, 2, 26), (25, 3, 27), (25, 4, 28), (25, 5, 29), (25, 6, 30), (25, 7, 31), (25, 8, 32), (33, 0, 34), (33, 1, 35), (33, 2, 36), (33, 3, 37), (34, 0, 38), (34, 1, 46), (34, 2, 54), (34, 3, 62), (34, 4, 70), (34, 5, 78), (34, 6, 86), (34, 7, 94), (34, 8, 102), (34, 9, 110), (34, 10, 118), (34, 11, 126), (34, 12, 134), (34, 13, 142), (34, 14, 150), (34, 15, 158), (35, 0, 166), (35, 1, 178), (35, 2, 190), (35, 3, 202), (36, 0, 174), (36, 1, 186), (36, 2, 198), (36, 3, 210), (38, 2, 39), (38, 3, 40), (38, 4, 41), (38, 5, 42), (38, 6, 43), (38, 7, 44), (38, 8, 45), (46, 2, 47), (46, 3, 48), (46, 4, 49), (46, 5, 50), (46, 6, 51), (46, 7, 52), (46, 8, 53), (54, 2, 55), (54, 3, 56), (54, 4, 57), (54, 5, 58), (54, 6, 59), (54, 7, 60), (54, 8, 61), (62, 2, 63), (62, 3, 64), (62, 4, 65), (62, 5, 66), (62, 6, 67), (62, 7, 68), (62, 8, 69), (70, 2, 71), (70, 3, 72), (70, 4, 73), (70, 5, 74), (70, 6, 75), (70, 7, 76), (70, 8, 77), (78, 2, 79), (78, 3, 80), (78, 4, 81), (78, 5, 82), (78, 6, 83), (78, 7, 84), (78, 8, 85), (86, 2, 87), (86, 3, 88), (86, 4, 89), (86, 5, 90), (86, 6, 91), (86, 7, 92), (86, 8, 93), (94, 2, 95), (94, 3, 96), (94, 4, 97), (94, 5, 98), (94, 6, 99), (94, 7, 100), (94, 8, 101), (102, 2, 103), (102, 3, 104), (102, 4, 105), (102, 5, 106), (102, 6, 107), (102, 7, 108), (102, 8, 109), (110, 2, 111), (110, 3, 112), (110, 4, 113), (110, 5, 114), (110, 6, 115), (110, 7, 116), (110, 8, 117), (118, 2, 119), (118, 3, 120), (118, 4, 121), (118, 5, 122), (118, 6, 123), (118, 7, 124), (118, 8, 125), (126, 2, 127), (126, 3, 128), (126, 4, 129), (126, 5, 130), (126, 6, 131), (126, 7, 132), (126, 8, 133), (134, 2, 135), (134, 3, 136), (134, 4, 137), (134, 5, 138), (134, 6, 139), (134, 7, 140), (134, 8, 141), (142, 2, 143), (142, 3, 144), (142, 4, 145), (142, 5, 146), (142, 6, 147), (142, 7, 148), (142, 8, 149), (150, 2, 151), (150, 3, 152), (150, 4, 153), (150, 5, 154), (150, 6, 155), (150, 7, 156), (150, 8, 157), (158, 2, 159), (158, 3, 160), (158, 4, 161), (158, 5, 162), (158, 6, 163), (158, 7, 164), (158, 8, 165), (166, 2, 167), (166, 3, 168), (166, 4, 169), (166, 5, 170), (166, 6, 171), (166, 7, 172), (166, 8, 173), (174, 0, 175), (174, 1, 176), (174, 2, 177), (178, 2, 179), (178, 3, 180), (178, 4, 181), (178, 5, 182), (178, 6, 183), (178, 7, 184), (178, 8, 185), (186, 0, 187), (186, 1, 188), (186, 2, 189), (190, 2, 191), (190, 3, 192), (190, 4, 193), (190, 5, 194), (190, 6, 195), (190, 7, 196), (190, 8, 197), (198, 0, 199), (198, 1, 200), (198, 2, 201), (202, 2, 203), (202, 3, 204), (202, 4, 205), (202, 5, 206), (202, 6, 207), (202, 7, 208), (202, 8, 209), (210, 0, 211), (210, 1, 212), (210, 2, 213), (214, 0, 215), (214, 1, 216), (214, 2, 217), (218, 0, 219), (218, 1, 220), (218, 2, 221), (218, 3, 222), (218, 4, 223), (218, 5, 224), (218, 6, 225), (218, 7, 226), (218, 8, 227), (218, 9, 228), (228, 0, 229), (228, 1, 230), (231, 0, 232), (231, 1, 233), (231, 2, 234), (231, 3, 235), (231, 4, 236), (231, 5, 237), (231, 6, 238), (231, 7, 239), (231, 8, 240), (231, 9, 241), (241, 0, 242), (241, 1, 243), (244, 0, 245), (244, 1, 246), (244, 2, 247), (248, 0, 249), (248, 1, 250), (248, 2, 251), (252, 1, 253), (252, 4, 254), (252, 5, 255), (252, 6, 256), (252, 9, 257), (252, 10, 258), (252, 11, 259), (252, 12, 260), (252, 14, 261), (252, 15, 262), (252, 16, 263), (252, 17, 264), (252, 21, 265), (252, 22, 266), (252, 23, 267), (252, 24, 268), (252, 26, 269), (252, 27, 270), (252, 28, 271)]
def fc_fr (x k : Nat) : Option Nat := (fc_fx.find? (fun q => Nat.beq q.1 x && Nat.beq q.2.1 k)).map (fun q => q.2.2)
def fc_Wd (mr : fc_Mr) : Prop := ∀ x k r, fc_fr x k = some r → mr x k = some r
theorem fc_S_at17 {mr : fc_Mr} (h : fc_Wd mr) : fc_S mr 17 := ⟨rfl, rfl, rfl, rfl, rfl, rfl, rfl, rfl, h 17 2 18 rfl, h 17 3 19 rfl, h 17 4 20 rfl, h 17 5 21 rfl, h 17 6 22 rfl, h 17 7 23 rfl, h 17 8 24 rfl⟩
theorem fc_S_at25 {mr : fc_Mr} (h : fc_Wd mr) : fc_S mr 25 := ⟨rfl, rfl, rfl, rfl, rfl, rfl, rfl, rfl, h 25 2 26 rfl, h 25 3 27 rfl, h 25 4 28 rfl, h 25 5 29 rfl, h 25 6 30 rfl, h 25 7 31 rfl, h 25 8 32 rfl⟩
theorem fc_S_at38 {mr : fc_Mr} (h : fc_Wd mr) : fc_S mr 38 := ⟨rfl, rfl, rfl, rfl, rfl, rfl, rfl, rfl, h 38 2 39 rfl, h 38 3 40 rfl, h 38 4 41 rfl, h 38 5 42 rfl, h 38 6 43 rfl, h 38 7 44 rfl, h 38 8 45 rfl⟩
theorem fc_S_at46 {mr : fc_Mr} (h : fc_Wd mr) : fc_S mr 46 := ⟨rfl, rfl, rfl, rfl, rfl, rfl, rfl, rfl, h 46 2 47 rfl, h 46 3 48 rfl, h 46 4 49 rfl, h 46 5 50 rfl, h 46 6 51 rfl, h 46 7 52 rfl, h 46 8 53 rfl⟩
theorem fc_S_at54 {mr : fc_Mr} (h : fc_Wd mr) : fc_S mr 54 := ⟨rfl, rfl, rfl, rfl, rfl, rfl, rfl, rfl, h 54 2 55 rfl, h 54 3 56 rfl, h 54 4 57 rfl, h 54 5 58 rfl, h 54 6 59 rfl, h 54 7 60 rfl, h 54 8 61 rfl⟩
theorem fc_S_at62 {mr : fc_Mr} (h : fc_Wd mr) : fc_S mr 62 := ⟨rfl, rfl, rfl, rfl, rfl, rfl, rfl, rfl, h 62 2 63 rfl, h 62 3 64 rfl, h 62 4 65 rfl, h 62 5 66 rfl, h 62 6 67 rfl, h 62 7 68 rfl, h 62 8 69 rfl⟩
theorem fc_S_at70 {mr : fc_Mr} (h : fc_Wd mr) : fc_S mr 70 := ⟨rfl, rfl, rfl, rfl, rfl, rfl, rfl, rfl, h 70 2 71 rfl, h 70 3 72 rfl, h 70 4 73 rfl, h 70 5 74 rfl, h 70 6 75 rfl, h 70 7 76 rfl, h 70 8 77 rfl⟩
theorem fc_S_at78 {mr : fc_Mr} (h : fc_Wd mr) : fc_S mr 78 := ⟨rfl, rfl, rfl, rfl, rfl, rfl, rfl, rfl, h 78 2 79 rfl, h 78 3 80 rfl, h 78 4 81 rfl, h 78 5 82 rfl, h 78 6 83 rfl, h 78 7 84 rfl, h 78 8 85 rfl⟩
theorem fc_S_at86 {mr : fc_Mr} (h : fc_Wd mr) : fc_S mr 86 := ⟨rfl, rfl, rfl, rfl, rfl, rfl, rfl, rfl, h 86 2 87 rfl, h 86 3 88 rfl, h 86 4 89 rfl, h 86 5 90 rfl, h 86 6 91 rfl, h 86 7 92 rfl, h 86 8 93 rfl⟩
theorem fc_S_at94 {mr : fc_Mr} (h : fc_Wd mr) : fc_S mr 94 := ⟨rfl, rfl, rfl, rfl, rfl, rfl, rfl, rfl, h 94 2 95 rfl, h 94 3 96 rfl, h 94 4 97 rfl, h 94 5 98 rfl, h 94 6 99 rfl, h 94 7 100 rfl, h 94 8 101 rfl⟩
theorem fc_S_at102 {mr : fc_Mr} (h : fc_Wd mr) : fc_S mr 102 := ⟨rfl, rfl, rfl, rfl, rfl, rfl, rfl, rfl, h 102 2 103 rfl, h 102 3 104 rfl, h 102 4 105 rfl, h 102 5 106 rfl, h 102 6 107 rfl, h 102 7 108 rfl, h 102 8 109 rfl⟩
theorem fc_S_at110 {mr : fc_Mr} (h : fc_Wd mr) : fc_S mr 110 := ⟨rfl, rfl, rfl, rfl, rfl, rfl, rfl, rfl, h 110 2 111 rfl, h 110 3 112 rfl, h 110 4 113 rfl, h 110 5 114 rfl, h 110 6 115 rfl, h 110 7 116 rfl, h 110 8 117 rfl⟩
theorem fc_S_at118 {mr : fc_Mr} (h : fc_Wd mr) : fc_S mr 118 := ⟨rfl, rfl, rfl, rfl, rfl, rfl, rfl, rfl, h 118 2 119 rfl, h 118 3 120 rfl, h 118 4 121 rfl, h 118 5 122 rfl, h 118 6 123 rfl, h 118 7 124 rfl, h 118 8 125 rfl⟩
theorem fc_S_at126 {mr : fc_Mr} (h : fc_Wd mr) : fc_S mr 126 := ⟨rfl, rfl, rfl, rfl, rfl, rfl, rfl, rfl, h 126 2 127 rfl, h 126 3 128 rfl, h 126 4 129 rfl, h 126 5 130 rfl, h 126 6 131 rfl, h 126 7 132 rfl, h 126 8 133 rfl⟩
theorem fc_S_at134 {mr : fc_Mr} (h : fc_Wd mr) : fc_S mr 134 := ⟨rfl, rfl, rfl, rfl, rfl, rfl, rfl, rfl, h 134 2 135 rfl, h 134 3 136 rfl, h 134 4 137 rfl, h 134 5 138 rfl, h 134 6 139 rfl, h 134 7 140 rfl, h 134 8 141 rfl⟩
theorem fc_S_at142 {mr : fc_Mr} (h : fc_Wd mr) : fc_S mr 142 := ⟨rfl, rfl, rfl, rfl, rfl, rfl, rfl, rfl, h 142 2 143 rfl, h 142 3 144 rfl, h 142 4 145 rfl, h 142 5 146 rfl, h 142 6 147 rfl, h 142 7 148 rfl, h 142 8 149 rfl⟩
theorem fc_S_at150 {mr : fc_Mr} (h : fc_Wd mr) : fc_S mr 150 := ⟨rfl, rfl, rfl, rfl, rfl, rfl, rfl, rfl, h 150 2 151 rfl, h 150 3 152 rfl, h 150 4 153 rfl, h 150 5 154 rfl, h 150 6 155 rfl, h 150 7 156 rfl, h 150 8 157 rfl⟩
theorem fc_S_at158 {mr : fc_Mr} (h : fc_Wd mr) : fc_S mr 158 := ⟨rfl, rfl, rfl, rfl, rfl, rfl, rfl, rfl, h 158 2 159 rfl, h 158 3 160 rfl, h 158 4 161 rfl, h 158 5 162 rfl, h 158 6 163 rfl, h 158 7 164 rfl, h 158 8 165 rfl⟩
theorem fc_S_at166 {mr : fc_Mr} (h : fc_Wd mr) : fc_S mr 166 := ⟨rfl, rfl, rfl, rfl, rfl, rfl, rfl, rfl, h 166 2 167 rfl, h 166 3 168 rfl, h 166 4 169 rfl, h 166 5 170 rfl, h 166 6 171 rfl, h 166 7 172 rfl, h 166 8 173 rfl⟩
theorem fc_S_at178 {mr : fc_Mr} (h : fc_Wd mr) : fc_S mr 178 := ⟨rfl, rfl, rfl, rfl, rfl, rfl, rfl, rfl, h 178 2 179 rfl, h 178 3 180 rfl, h 178 4 181 rfl, h 178 5 182 rfl, h 178 6 183 rfl, h 178 7 184 rfl, h 178 8 185 rfl⟩
theorem fc_S_at190 {mr : fc_Mr} (h : fc_Wd mr) : fc_S mr 190 := ⟨rfl, rfl, rfl, rfl, rfl, rfl, rfl, rfl, h 190 2 191 rfl, h 190 3 192 rfl, h 190 4 193 rfl, h 190 5 194 rfl, h 190 6 195 rfl, h 190 7 196 rfl, h 190 8 197 rfl⟩
theorem fc_S_at202 {mr : fc_Mr} (h : fc_Wd mr) : fc_S mr 202 := ⟨rfl, rfl, rfl, rfl, rfl, rfl, rfl, rfl, h 202 2 203 rfl, h 202 3 204 rfl, h 202 4 205 rfl, h 202 5 206 rfl, h 202 6 207 rfl, h 202 7 208 rfl, h 202 8 209 rfl⟩
theorem fc_L_at218 {mr : fc_Mr} (h : fc_Wd mr) : fc_L mr 218 := ⟨rfl, rfl, rfl, rfl, rfl, rfl, rfl, rfl, rfl, rfl, rfl, rfl, rfl, h 218 0 219 rfl, h 218 1 220 rfl, h 218 2 221 rfl, h 218 3 222 rfl, h 218 4 223 rfl, h 218 5 224 rfl, h 218 6 225 rfl, h 218 7 226 rfl, h 218 8 227 rfl, h 218 9 228 rfl, h 228 0 229 rfl, h 228 1 230 rfl⟩
theorem fc_L_at231 {mr : fc_Mr} (h : fc_Wd mr) : fc_L mr 231 := ⟨rfl, rfl, rfl, rfl, rfl, rfl, rfl, rfl, rfl, rfl, rfl, rfl, rfl, h 231 0 232 rfl, h 231 1 233 rfl, h 231 2 234 rfl, h 231 3 235 rfl, h 231 4 236 rfl, h 231 5 237 rfl, h 231 6 238 rfl, h 231 7 239 rfl, h 231 8 240 rfl, h 231 9 241 rfl, h 241 0 242 rfl, h 241 1 243 rfl⟩
end
section
/-! ===== what the small methods answer ===== -/
def sp_has (n x : Int32) : Bool := !decide (x < 0) && !decide (n ≤ x)
def sp_aw (wk : Nat → Int32) (m : Int32) (p : Nat) : Bool := !decide (m < wk p)
def sp_rd (wk ac : Nat → Int32) (m : Int32) (p : Nat) : Bool := sp_aw wk m p && decide (ac p = 0)
/-- the set of those below n -/
def sp_set (P : Nat → Bool) : Nat → Int32
  | 0 => 0
  | n + 1 => if P n then sp_set P n ||| ((1 : Int32) <<< (nI n &&& 31)) else sp_set P n
def sp_sum (f : Nat → Int32) : Nat → Int32
  | 0 => 0
  | n + 1 => sp_sum f n + f n
def sp_in (b x : Int32) : Bool := decide ((b >>> (x &&& 31)) &&& 1 = 1)
theorem sp_set_t {P : Nat → Bool} {n : Nat} (h : P n = true) : sp_set P n ||| ((1 : Int32) <<< (nI n &&& 31)) = sp_set P (n + 1) := by rw [sp_set, if_pos h]
theorem sp_set_f {P : Nat → Bool} {n : Nat} (h : P n = false) : sp_set P n = sp_set P (n + 1) := by rw [sp_set, if_neg (by rw [h]; decide)]
theorem sp_set_congr {P P' : Nat → Bool} : ∀ {n : Nat}, (∀ i, i < n → P i = P' i) → sp_set P n = sp_set P' n
  | 0, _ => rfl
  | n + 1, h => by rw [sp_set, sp_set, sp_set_congr (fun i hi => h i (by omega)), h n (by omega)]
theorem sp_sum_congr {f g : Nat → Int32} : ∀ {n : Nat}, (∀ i, i < n → f i = g i) → sp_sum f n = sp_sum g n
  | 0, _ => rfl
  | n + 1, h => by rw [sp_sum, sp_sum, sp_sum_congr (fun i hi => h i (by omega)), h n (by omega)]
theorem fc_inc (i : Nat) : nI i + Int32.ofInt 1 = nI (i + 1) := nI_1 i
/-- one that is there is a number below n -/
theorem sp_hasN {n : Nat} {x : Int32} (hn : n < 2 ^ 31) (h : sp_has (nI n) x = true) : ∃ p, p < n ∧ x = nI p := by
  unfold sp_has at h
  simp only [Bool.and_eq_true, Bool.not_eq_true', decide_eq_false_iff_not] at h
  obtain ⟨j, h1, rfl⟩ := nI_of h.1
  refine ⟨j, ?_, rfl⟩
  rcases Nat.lt_or_ge j n with q | q
  · exact q
  · exact absurd (nI_le q h1) h.2
theorem sp_has_nI {n p : Nat} (h : p < n) (hn : n < 2 ^ 31) : sp_has (nI n) (nI p) = true := by
  unfold sp_has
  simp only [Bool.and_eq_true, Bool.not_eq_true', decide_eq_false_iff_not]
  exact ⟨nI_pos (by omega), nI_ge h hn⟩
section M13
variable {E : fc_E} {d : Nat} {mi : fc_Mi} {ml : fc_Ml} {mr : fc_Mr} {a b : Nat}
theorem c_hasPlace (hL : fc_L mr b) (x : Int32) : fc_R E mX0_hasPlace d fc_sh [.ref b, .int x] mi ml mr (fc_is (some (.int (fc_b (sp_has (mi b 10) x)))) mi ml mr) := by
  refine fc_met rfl (Nat.le_of_ble_eq_true rfl) (fc_run oX0_hasPlace (fun _ => false) 400 ?_)
  refine And.intro (fun h1 => ?_) (fun h1 => ?_)
  · refine And.intro (by first | exact Or.inl rfl | exact Or.inr rfl | exact fc_bb _ | assumption) ?_
    exact ⟨by simp [sp_has, fc_b, h1], rfl, rfl, rfl⟩
  · refine And.intro (fc_L_0 hL) ?_
    refine And.intro (fun h9 => ?_) (fun h9 => ?_)
    · refine And.intro (by first | exact Or.inl rfl | exact Or.inr rfl | exact fc_bb _ | assumption) ?_
      exact ⟨by simp [sp_has, fc_b, h1, h9], rfl, rfl, rfl⟩
    · refine And.intro (by first | exact Or.inl rfl | exact Or.inr rfl | exact fc_bb _ | assumption) ?_
      exact ⟨by simp [sp_has, fc_b, h1, h9], rfl, rfl, rfl⟩

theorem c_hasPerson (hL : fc_L mr b) (x : Int32) : fc_R E mX0_hasPerson d fc_sh [.ref b, .int x] mi ml mr (fc_is (some (.int (fc_b (sp_has (mi b 12) x)))) mi ml mr) := by
  refine fc_met rfl (Nat.le_of_ble_eq_true rfl) (fc_run oX0_hasPerson (fun _ => false) 400 ?_)
  refine And.intro (fun h1 => ?_) (fun h1 => ?_)
  · refine And.intro (by first | exact Or.inl rfl | exact Or.inr rfl | exact fc_bb _ | assumption) ?_
    exact ⟨by simp [sp_has, fc_b, h1], rfl, rfl, rfl⟩
  · refine And.intro (fc_L_0 hL) ?_
    refine And.intro (fun h9 => ?_) (fun h9 => ?_)
    · refine And.intro (by first | exact Or.inl rfl | exact Or.inr rfl | exact fc_bb _ | assumption) ?_
      exact ⟨by simp [sp_has, fc_b, h1, h9], rfl, rfl, rfl⟩
    · refine And.intro (by first | exact Or.inl rfl | exact Or.inr rfl | exact fc_bb _ | assumption) ?_
      exact ⟨by simp [sp_has, fc_b, h1, h9], rfl, rfl, rfl⟩

theorem c_hasThing (hL : fc_L mr b) (x : Int32) : fc_R E mX0_hasThing d fc_sh [.ref b, .int x] mi ml mr (fc_is (some (.int (fc_b (sp_has (mi b 13) x)))) mi ml mr) := by
  refine fc_met rfl (Nat.le_of_ble_eq_true rfl) (fc_run oX0_hasThing (fun _ => false) 400 ?_)
  refine And.intro (fun h1 => ?_) (fun h1 => ?_)
  · refine And.intro (by first | exact Or.inl rfl | exact Or.inr rfl | exact fc_bb _ | assumption) ?_
    exact ⟨by simp [sp_has, fc_b, h1], rfl, rfl, rfl⟩
  · refine And.intro (fc_L_0 hL) ?_
    refine And.intro (fun h9 => ?_) (fun h9 => ?_)
    · refine And.intro (by first | exact Or.inl rfl | exact Or.inr rfl | exact fc_bb _ | assumption) ?_
      exact ⟨by simp [sp_has, fc_b, h1, h9], rfl, rfl, rfl⟩
    · refine And.intro (by first | exact Or.inl rfl | exact Or.inr rfl | exact fc_bb _ | assumption) ?_
      exact ⟨by simp [sp_has, fc_b, h1, h9], rfl, rfl, rfl⟩

theorem c_isAwake (hL : fc_L mr b) {p : Nat} (hp : p < 5) (m : Int32) : fc_R E mX0_isAwake d fc_sh [.ref b, .int (nI p), .int m] mi ml mr (fc_is (some (.int (fc_b (sp_aw (mi (b + 7)) m p)))) mi ml mr) := by
  refine fc_met rfl (Nat.le_of_ble_eq_true rfl) (fc_run oX0_isAwake (fun _ => false) 400 ?_)
  refine And.intro (fc_L_0 hL) (Exists.intro _ (And.intro (fc_L_r6 hL) ?_))
  refine Exists.intro _ (Exists.intro _ (And.intro (fc_L_7 hL) (And.intro (by first | assumption | exact fc_ix_nI (by omega) (by omega) | exact fc_ix_nI (by assumption) (by omega)) ?_)))
  refine And.intro (fun h7 => ?_) (fun h7 => ?_)
  · refine And.intro (by first | exact Or.inl rfl | exact Or.inr rfl | exact fc_bb _ | assumption) ?_
    exact ⟨by simp [sp_aw, fc_b, h7], rfl, rfl, rfl⟩
  · refine And.intro (by first | exact Or.inl rfl | exact Or.inr rfl | exact fc_bb _ | assumption) ?_
    exact ⟨by simp [sp_aw, fc_b, h7], rfl, rfl, rfl⟩

theorem c_sleepOf (hL : fc_L mr b) {p : Nat} (hp : p < 5) (m : Int32) : fc_R E mX0_sleepOf d fc_sh [.ref b, .int (nI p), .int m] mi ml mr (fc_is (some (.int (if 0 < mi (b + 7) p - m then mi (b + 7) p - m else 0))) mi ml mr) := by
  refine fc_met rfl (Nat.le_of_ble_eq_true rfl) (fc_run oX0_sleepOf (fun _ => false) 400 ?_)
  refine And.intro (fc_L_0 hL) (Exists.intro _ (And.intro (fc_L_r6 hL) ?_))
  refine Exists.intro _ (Exists.intro _ (And.intro (fc_L_7 hL) (And.intro (by first | assumption | exact fc_ix_nI (by omega) (by omega) | exact fc_ix_nI (by assumption) (by omega)) ?_)))
  first | exact ⟨rfl, rfl, rfl, rfl⟩ | skip

theorem c_isIn (x z : Int32) : fc_R E mX10_isIn d fc_sh [.int x, .int z] mi ml mr (fc_is (some (.int (fc_b (sp_in x z)))) mi ml mr) := by
  refine fc_met rfl (Nat.le_of_ble_eq_true rfl) (fc_run oX10_isIn (fun _ => false) 400 ?_)
  refine And.intro (fun h6 => ?_) (fun h6 => ?_)
  · refine And.intro (by first | exact Or.inl rfl | exact Or.inr rfl | exact fc_bb _ | assumption) ?_
    exact ⟨by simp [sp_in, fc_b, h6], rfl, rfl, rfl⟩
  · refine And.intro (by first | exact Or.inl rfl | exact Or.inr rfl | exact fc_bb _ | assumption) ?_
    exact ⟨by simp [sp_in, fc_b, h6], rfl, rfl, rfl⟩

def sp_from (l x m : Int32) : Bool := !decide (x < l) && !decide (m < x)
theorem c_isFrom (l x m : Int32) : fc_R E mX10_isFrom d fc_sh [.int l, .int x, .int m] mi ml mr (fc_is (some (.int (fc_b (sp_from l x m)))) mi ml mr) := by
  refine fc_met rfl (Nat.le_of_ble_eq_true rfl) (fc_run oX10_isFrom (fun _ => false) 400 ?_)
  refine And.intro (fun h2 => ?_) (fun h2 => ?_)
  · refine And.intro (by first | exact Or.inl rfl | exact Or.inr rfl | exact fc_bb _ | assumption) ?_
    exact ⟨by simp [sp_from, fc_b, h2], rfl, rfl, rfl⟩
  · refine And.intro (fun h7 => ?_) (fun h7 => ?_)
    · refine And.intro (by first | exact Or.inl rfl | exact Or.inr rfl | exact fc_bb _ | assumption) ?_
      exact ⟨by simp [sp_from, fc_b, h2, h7], rfl, rfl, rfl⟩
    · refine And.intro (by first | exact Or.inl rfl | exact Or.inr rfl | exact fc_bb _ | assumption) ?_
      exact ⟨by simp [sp_from, fc_b, h2, h7], rfl, rfl, rfl⟩

def sp_non (x : Int32) : Int32 := if 99 < x then -1 else x
theorem c_orNone (x : Int32) : fc_R E mX10_orNone d fc_sh [.int x] mi ml mr (fc_is (some (.int (sp_non x))) mi ml mr) := by
  refine fc_met rfl (Nat.le_of_ble_eq_true rfl) (fc_run oX10_orNone (fun _ => false) 400 ?_)
  refine And.intro (fun h3 => ?_) (fun h3 => ?_)
  · exact ⟨by simp [sp_non, h3], rfl, rfl, rfl⟩
  · exact ⟨by simp [sp_non, h3], rfl, rfl, rfl⟩

end M13
end
section
/-! ===== State's methods that don't ask the law ===== -/
/-- a land's numbers: persons n, places m, things t -/
def fc_LN (mi : fc_Mi) (b n m t : Nat) : Prop := mi b 12 = nI n ∧ n ≤ 5 ∧ mi b 10 = nI m ∧ m ≤ 7 ∧ mi b 13 = nI t ∧ t ≤ 6
/-- all are at places, things are with persons -/
def fc_SV (mi : fc_Mi) (a n m t : Nat) : Prop := (∀ p, p < n → ∃ j, j < m ∧ mi (a + 1) p = nI j) ∧ (∀ q, q < t → ∃ p, p < n ∧ mi (a + 6) q = nI p) ∧ (∀ q, q < t → ∃ p, p < n ∧ mi (a + 7) q = nI p)
section M14
variable {E : fc_E} {d : Nat} {mi : fc_Mi} {ml : fc_Ml} {mr : fc_Mr} {a b n m t : Nat}
theorem l_bitsAt (hS : fc_S mr a) (hL : fc_L mr b) (k : Int32) (hN : mi b 12 = nI n) (h5 : n ≤ 5) : ∀ (j i : Nat) (c acc : Int32), i + j = n → c = nI i → acc = sp_set (fun p => decide (mi (a + 1) p = k)) i → fc_T E mX7_bitsAt d (0, 0) fc_sh 5 [some (.ref a), some (.ref b), some (.int k), some (.int acc), some (.int c)] [] mi ml mr (fc_is (some (.int (sp_set (fun p => decide (mi (a + 1) p = k)) n))) mi ml mr) := by
  intro j
  induction j with
  | zero =>
    intro i c acc hi hc hacc
    subst hc
    refine fc_run oX7_bitsAt (fun pc => pc == 5) 400 ?_
    refine And.intro (fc_L_0 hL) ?_
    refine And.intro (fun h11 => ?_) (fun h11 => ?_)
    · exact ⟨by rw [hacc, show i = n by omega], rfl, rfl, rfl⟩
    · exact absurd (by rw [hN]; exact nI_le (by omega) (by omega)) h11
  | succ j ih =>
    intro i c acc hi hc hacc
    subst hc
    refine fc_run oX7_bitsAt (fun pc => pc == 5) 400 ?_
    refine And.intro (fc_L_0 hL) ?_
    refine And.intro (fun h11 => ?_) (fun h11 => ?_)
    · exact absurd h11 (by rw [hN]; exact nI_ge (by omega) (by omega))
    · refine And.intro (fc_S_0 hS) (Exists.intro _ (And.intro (fc_S_r2 hS) ?_))
      refine Exists.intro _ (Exists.intro _ (And.intro (fc_S_1 hS) (And.intro (by first | assumption | exact fc_ix_nI (by omega) (by omega) | exact fc_ix_nI (by assumption) (by omega)) ?_)))
      refine And.intro (fun h22 => ?_) (fun h22 => ?_)
      · exact ih (i + 1) _ _ (by omega) (fc_inc i) (by first | (rw [hacc]; exact sp_set_t (by simp [*])) | (rw [hacc]; exact sp_set_f (by simp [*])))
      · exact ih (i + 1) _ _ (by omega) (fc_inc i) (by first | (rw [hacc]; exact sp_set_t (by simp [*])) | (rw [hacc]; exact sp_set_f (by simp [*])))

theorem c_bitsAt (hS : fc_S mr a) (hL : fc_L mr b) (k : Int32) (hN : mi b 12 = nI n) (h5 : n ≤ 5) : fc_R E mX7_bitsAt d fc_sh [.ref a, .ref b, .int k] mi ml mr (fc_is (some (.int (sp_set (fun p => decide (mi (a + 1) p = k)) n))) mi ml mr) := by
  refine fc_met rfl (Nat.le_of_ble_eq_true rfl) (fc_run oX7_bitsAt (fun pc => pc == 5) 400 ?_)
  exact l_bitsAt hS hL k hN h5 n 0 _ _ (by omega) rfl rfl

theorem l_awakeBits (hL : fc_L mr b) (k : Int32) (hN : mi b 12 = nI n) (h5 : n ≤ 5) : ∀ (j i : Nat) (c acc : Int32), i + j = n → c = nI i → acc = sp_set (sp_aw (mi (b + 7)) k) i → fc_T E mX0_awakeBits (d + 1) (0, 0) fc_sh 4 [some (.ref b), some (.int k), some (.int acc), some (.int c)] [] mi ml mr (fc_is (some (.int (sp_set (sp_aw (mi (b + 7)) k) n))) mi ml mr) := by
  intro j
  induction j with
  | zero =>
    intro i c acc hi hc hacc
    subst hc
    refine fc_run oX0_awakeBits (fun pc => pc == 4) 400 ?_
    refine And.intro (fc_L_0 hL) ?_
    refine And.intro (fun h9 => ?_) (fun h9 => ?_)
    · exact ⟨by rw [hacc, show i = n by omega], rfl, rfl, rfl⟩
    · exact absurd (by rw [hN]; exact nI_le (by omega) (by omega)) h9
  | succ j ih =>
    intro i c acc hi hc hacc
    subst hc
    refine fc_run oX0_awakeBits (fun pc => pc == 4) 400 ?_
    refine And.intro (fc_L_0 hL) ?_
    refine And.intro (fun h9 => ?_) (fun h9 => ?_)
    · exact absurd h9 (by rw [hN]; exact nI_ge (by omega) (by omega))
    · refine And.intro (fc_L_0 hL) (Exists.intro _ (And.intro (c_isAwake hL (by omega) _) ?_))
      rintro _ _ _ _ ⟨rfl, rfl, rfl, rfl⟩
      refine And.intro (fun h18 => ?_) (fun h18 => ?_)
      · replace h18 := fc_b0.mp h18
        exact ih (i + 1) _ _ (by omega) (fc_inc i) (by first | (rw [hacc]; exact sp_set_t (by simp [*])) | (rw [hacc]; exact sp_set_f (by simp [*])))
      · replace h18 := fc_b1.mp h18
        exact ih (i + 1) _ _ (by omega) (fc_inc i) (by first | (rw [hacc]; exact sp_set_t (by simp [*])) | (rw [hacc]; exact sp_set_f (by simp [*])))

theorem c_awakeBits (hL : fc_L mr b) (k : Int32) (hN : mi b 12 = nI n) (h5 : n ≤ 5) : fc_R E mX0_awakeBits (d + 1) fc_sh [.ref b, .int k] mi ml mr (fc_is (some (.int (sp_set (sp_aw (mi (b + 7)) k) n))) mi ml mr) := by
  refine fc_met rfl (Nat.le_of_ble_eq_true rfl) (fc_run oX0_awakeBits (fun pc => pc == 4) 400 ?_)
  exact l_awakeBits hL k hN h5 n 0 _ _ (by omega) rfl rfl

theorem l_stray (hS : fc_S mr a) (hL : fc_L mr b) (hN : mi b 13 = nI t) (h5 : t ≤ 6) : ∀ (j i : Nat) (c acc : Int32), i + j = t → c = nI i → acc = sp_set (fun q => !decide (mi (a + 6) q = mi (a + 7) q)) i → fc_T E mX7_strayThings d (0, 0) fc_sh 4 [some (.ref a), some (.ref b), some (.int acc), some (.int c)] [] mi ml mr (fc_is (some (.int (sp_set (fun q => !decide (mi (a + 6) q = mi (a + 7) q)) t))) mi ml mr) := by
  intro j
  induction j with
  | zero =>
    intro i c acc hi hc hacc
    subst hc
    refine fc_run oX7_strayThings (fun pc => pc == 4) 400 ?_
    refine And.intro (fc_L_0 hL) ?_
    refine And.intro (fun h9 => ?_) (fun h9 => ?_)
    · exact ⟨by rw [hacc, show i = t by omega], rfl, rfl, rfl⟩
    · exact absurd (by rw [hN]; exact nI_le (by omega) (by omega)) h9
  | succ j ih =>
    intro i c acc hi hc hacc
    subst hc
    refine fc_run oX7_strayThings (fun pc => pc == 4) 400 ?_
    refine And.intro (fc_L_0 hL) ?_
    refine And.intro (fun h9 => ?_) (fun h9 => ?_)
    · exact absurd h9 (by rw [hN]; exact nI_ge (by omega) (by omega))
    · refine And.intro (fc_S_0 hS) (Exists.intro _ (And.intro (fc_S_r7 hS) ?_))
      refine Exists.intro _ (Exists.intro _ (And.intro (fc_S_6 hS) (And.intro (by first | assumption | exact fc_ix_nI (by omega) (by omega) | exact fc_ix_nI (by assumption) (by omega)) ?_)))
      refine And.intro (fc_S_0 hS) (Exists.intro _ (And.intro (fc_S_r8 hS) ?_))
      refine Exists.intro _ (Exists.intro _ (And.intro (fc_S_7 hS) (And.intro (by first | assumption | exact fc_ix_nI (by omega) (by omega) | exact fc_ix_nI (by assumption) (by omega)) ?_)))
      refine And.intro (fun h24 => ?_) (fun h24 => ?_)
      · exact ih (i + 1) _ _ (by omega) (fc_inc i) (by first | (rw [hacc]; exact sp_set_t (by simp [*])) | (rw [hacc]; exact sp_set_f (by simp [*])))
      · exact ih (i + 1) _ _ (by omega) (fc_inc i) (by first | (rw [hacc]; exact sp_set_t (by simp [*])) | (rw [hacc]; exact sp_set_f (by simp [*])))

theorem c_stray (hS : fc_S mr a) (hL : fc_L mr b) (hN : mi b 13 = nI t) (h5 : t ≤ 6) : fc_R E mX7_strayThings d fc_sh [.ref a, .ref b] mi ml mr (fc_is (some (.int (sp_set (fun q => !decide (mi (a + 6) q = mi (a + 7) q)) t))) mi ml mr) := by
  refine fc_met rfl (Nat.le_of_ble_eq_true rfl) (fc_run oX7_strayThings (fun pc => pc == 4) 400 ?_)
  exact l_stray hS hL hN h5 t 0 _ _ (by omega) rfl rfl

/-- how many bits, as the library reckons it -/
def sp_bc (x : Int32) : Int32 :=
  let a := x - ((x.toUInt32 >>> ((1 : Int32).toUInt32 &&& Int32.toUInt32 31)).toInt32 &&& 1431655765)
  let b := (a &&& 858993459) + ((a.toUInt32 >>> ((2 : Int32).toUInt32 &&& Int32.toUInt32 31)).toInt32 &&& 858993459)
  let c := (b + (b.toUInt32 >>> ((4 : Int32).toUInt32 &&& Int32.toUInt32 31)).toInt32) &&& 252645135
  let e := c + (c.toUInt32 >>> ((8 : Int32).toUInt32 &&& Int32.toUInt32 31)).toInt32
  let f := e + (e.toUInt32 >>> ((16 : Int32).toUInt32 &&& Int32.toUInt32 31)).toInt32
  f &&& 63
theorem c_bitCount (x : Int32) : fc_R E mJ6_bitCount_0f7a4 d fc_sh [.int x] mi ml mr (fc_is (some (.int (sp_bc x))) mi ml mr) := by
  refine fc_met rfl (Nat.le_of_ble_eq_true rfl) (fc_run oJ6_bitCount_0f7a4 (fun _ => false) 400 ?_)
  first | exact ⟨rfl, rfl, rfl, rfl⟩ | skip

theorem l_newsOfAll (hS : fc_S mr a) (hL : fc_L mr b) (hN : mi b 12 = nI n) (h5 : n ≤ 5) : ∀ (j i : Nat) (c acc : Int32), i + j = n → c = nI i → acc = sp_sum (fun p => sp_bc (mi (a + 3) p)) i → fc_T E mX7_newsOfAll (d + 1) (0, 0) fc_sh 4 [some (.ref a), some (.ref b), some (.int acc), some (.int c)] [] mi ml mr (fc_is (some (.int (sp_sum (fun p => sp_bc (mi (a + 3) p)) n))) mi ml mr) := by
  intro j
  induction j with
  | zero =>
    intro i c acc hi hc hacc
    subst hc
    refine fc_run oX7_newsOfAll (fun pc => pc == 4) 400 ?_
    refine And.intro (fc_L_0 hL) ?_
    refine And.intro (fun h9 => ?_) (fun h9 => ?_)
    · exact ⟨by rw [hacc, show i = n by omega], rfl, rfl, rfl⟩
    · exact absurd (by rw [hN]; exact nI_le (by omega) (by omega)) h9
  | succ j ih =>
    intro i c acc hi hc hacc
    subst hc
    refine fc_run oX7_newsOfAll (fun pc => pc == 4) 400 ?_
    refine And.intro (fc_L_0 hL) ?_
    refine And.intro (fun h9 => ?_) (fun h9 => ?_)
    · exact absurd h9 (by rw [hN]; exact nI_ge (by omega) (by omega))
    · refine And.intro (fc_S_0 hS) (Exists.intro _ (And.intro (fc_S_r4 hS) ?_))
      refine Exists.intro _ (Exists.intro _ (And.intro (fc_S_3 hS) (And.intro (by first | assumption | exact fc_ix_nI (by omega) (by omega) | exact fc_ix_nI (by assumption) (by omega)) ?_)))
      refine Exists.intro _ (And.intro (c_bitCount _) ?_)
      rintro _ _ _ _ ⟨rfl, rfl, rfl, rfl⟩
      exact ih (i + 1) _ _ (by omega) (fc_inc i) (by rw [hacc]; rfl)

theorem c_newsOfAll (hS : fc_S mr a) (hL : fc_L mr b) (hN : mi b 12 = nI n) (h5 : n ≤ 5) : fc_R E mX7_newsOfAll (d + 1) fc_sh [.ref a, .ref b] mi ml mr (fc_is (some (.int (sp_sum (fun p => sp_bc (mi (a + 3) p)) n))) mi ml mr) := by
  refine fc_met rfl (Nat.le_of_ble_eq_true rfl) (fc_run oX7_newsOfAll (fun pc => pc == 4) 400 ?_)
  exact l_newsOfAll hS hL hN h5 n 0 _ _ (by omega) rfl rfl

theorem c_isReady (hS : fc_S mr a) (hL : fc_L mr b) {p : Nat} (hp : p < 5) : fc_R E mX7_isReady (d + 1) fc_sh [.ref a, .ref b, .int (nI p)] mi ml mr (fc_is (some (.int (fc_b (sp_rd (mi (b + 7)) (mi (a + 2)) (mi a 1) p)))) mi ml mr) := by
  refine fc_met rfl (Nat.le_of_ble_eq_true rfl) (fc_run oX7_isReady (fun _ => false) 400 ?_)
  refine And.intro (fc_S_0 hS) ?_
  refine And.intro (fc_L_0 hL) (Exists.intro _ (And.intro (c_isAwake hL (by omega) _) ?_))
  rintro _ _ _ _ ⟨rfl, rfl, rfl, rfl⟩
  refine And.intro (fun h9 => ?_) (fun h9 => ?_)
  · replace h9 := fc_b0.mp h9
    refine And.intro (by first | exact Or.inl rfl | exact Or.inr rfl | exact fc_bb _ | assumption) ?_
    exact ⟨by simp [sp_rd, fc_b, *], rfl, rfl, rfl⟩
  · replace h9 := fc_b1.mp h9
    refine And.intro (fc_S_0 hS) (Exists.intro _ (And.intro (fc_S_r3 hS) ?_))
    refine Exists.intro _ (Exists.intro _ (And.intro (fc_S_2 hS) (And.intro (by first | assumption | exact fc_ix_nI (by omega) (by omega) | exact fc_ix_nI (by assumption) (by omega)) ?_)))
    refine And.intro (fun h18 => ?_) (fun h18 => ?_)
    · refine And.intro (by first | exact Or.inl rfl | exact Or.inr rfl | exact fc_bb _ | assumption) ?_
      exact ⟨by simp [sp_rd, fc_b, *], rfl, rfl, rfl⟩
    · refine And.intro (by first | exact Or.inl rfl | exact Or.inr rfl | exact fc_bb _ | assumption) ?_
      exact ⟨by simp [sp_rd, fc_b, *], rfl, rfl, rfl⟩

def sp_mo (wk ac kd : Nat → Int32) (m : Int32) (p : Nat) (x : Int32) : Int32 :=
  if x = 0 then x else if x < 1000 then
    (if (if 0 < wk p - m then wk p - m else 0) < ac p then ac p else (if 0 < wk p - m then wk p - m else 0)) + (if kd p = 2 then 2 * x else x) else x
theorem c_minutesOver (hS : fc_S mr a) (hL : fc_L mr b) {p : Nat} (hp : p < 5) (x : Int32) : fc_R E mX7_minutesOver (d + 1) fc_sh [.ref a, .ref b, .int (nI p), .int x] mi ml mr (fc_is (some (.int (sp_mo (mi (b + 7)) (mi (a + 2)) (mi (b + 5)) (mi a 1) p x))) mi ml mr) := by
  refine fc_met rfl (Nat.le_of_ble_eq_true rfl) (fc_run oX7_minutesOver (fun _ => false) 400 ?_)
  refine And.intro (fun h1 => ?_) (fun h1 => ?_)
  · exact ⟨by simp [sp_mo, h1], rfl, rfl, rfl⟩
  · refine And.intro (fun h8 => ?_) (fun h8 => ?_)
    · refine And.intro (fc_S_0 hS) ?_
      refine And.intro (fc_L_0 hL) (Exists.intro _ (And.intro (c_sleepOf hL (by omega) _) ?_))
      rintro _ _ _ _ ⟨rfl, rfl, rfl, rfl⟩
      refine And.intro (fc_S_0 hS) (Exists.intro _ (And.intro (fc_S_r3 hS) ?_))
      refine Exists.intro _ (Exists.intro _ (And.intro (fc_S_2 hS) (And.intro (by first | assumption | exact fc_ix_nI (by omega) (by omega) | exact fc_ix_nI (by assumption) (by omega)) ?_)))
      refine And.intro (fc_L_0 hL) (Exists.intro _ (And.intro (fc_L_r4 hL) ?_))
      refine Exists.intro _ (Exists.intro _ (And.intro (fc_L_5 hL) (And.intro (by first | assumption | exact fc_ix_nI (by omega) (by omega) | exact fc_ix_nI (by assumption) (by omega)) ?_)))
      refine And.intro (fun h42 => ?_) (fun h42 => ?_)
      · exact ⟨by simp [sp_mo, h1, h8, h42], rfl, rfl, rfl⟩
      · exact ⟨by simp [sp_mo, h1, h8, h42], rfl, rfl, rfl⟩
    · exact ⟨by simp [sp_mo, h1, h8], rfl, rfl, rfl⟩

def sp_cw (ne np : Int32) (wk ac w pt : Nat → Int32) (m x k : Int32) : Bool := sp_has ne x && (sp_has np k && (sp_rd wk ac m x.toNatClampNeg && sp_in (pt (w x.toNatClampNeg).toNatClampNeg) k))
theorem fc_cl {p k : Nat} (h : p < k) (hk : k ≤ 1000) : (nI p).toNatClampNeg = p := nI_clamp (by omega)
theorem c_canWalk (hS : fc_S mr a) (hL : fc_L mr b) (hN : fc_LN mi b n m t) (hV : fc_SV mi a n m t) (x k : Int32) : fc_R E mX7_canWalk (d + 2) fc_sh [.ref a, .ref b, .int x, .int k] mi ml mr (fc_is (some (.int (fc_b (sp_cw (mi b 12) (mi b 10) (mi (b + 7)) (mi (a + 2)) (mi (a + 1)) (mi (b + 4)) (mi a 1) x k)))) mi ml mr) := by
  obtain ⟨hN1, hN2, hN3, hN4, hN5, hN6⟩ := hN
  refine fc_met rfl (Nat.le_of_ble_eq_true rfl) (fc_run oX7_canWalk (fun _ => false) 400 ?_)
  refine And.intro (fc_L_0 hL) (Exists.intro _ (And.intro (c_hasPerson hL _) ?_))
  rintro _ _ _ _ ⟨rfl, rfl, rfl, rfl⟩
  refine And.intro (fun h5 => ?_) (fun h5 => ?_)
  · replace h5 := fc_b0.mp h5
    refine And.intro (by first | exact Or.inl rfl | exact Or.inr rfl | exact fc_bb _ | assumption) ?_
    exact ⟨by simp [sp_cw, fc_b, h5], rfl, rfl, rfl⟩
  · replace h5 := fc_b1.mp h5
    rw [hN1] at h5
    obtain ⟨p, hp, rfl⟩ := sp_hasN (by omega) h5
    rw [← hN1] at h5
    obtain ⟨jj, hjj, hw⟩ := hV.1 p hp
    have hcl := fc_cl (k := 5) (show p < 5 by omega) (by omega)
    have hcj := fc_cl (k := 7) (show jj < 7 by omega) (by omega)
    refine And.intro (fc_L_0 hL) (Exists.intro _ (And.intro (c_hasPlace hL _) ?_))
    rintro _ _ _ _ ⟨rfl, rfl, rfl, rfl⟩
    refine And.intro (fun h13 => ?_) (fun h13 => ?_)
    · replace h13 := fc_b0.mp h13
      refine And.intro (by first | exact Or.inl rfl | exact Or.inr rfl | exact fc_bb _ | assumption) ?_
      exact ⟨by simp [sp_cw, fc_b, h5, hcl, hw, hcj, h13], rfl, rfl, rfl⟩
    · replace h13 := fc_b1.mp h13
      refine And.intro (fc_S_0 hS) (Exists.intro _ (And.intro (c_isReady hS hL (by omega)) ?_))
      rintro _ _ _ _ ⟨rfl, rfl, rfl, rfl⟩
      refine And.intro (fun h22 => ?_) (fun h22 => ?_)
      · replace h22 := fc_b0.mp h22
        refine And.intro (by first | exact Or.inl rfl | exact Or.inr rfl | exact fc_bb _ | assumption) ?_
        exact ⟨by simp [sp_cw, fc_b, h5, hcl, hw, hcj, h13, h22], rfl, rfl, rfl⟩
      · replace h22 := fc_b1.mp h22
        refine And.intro (fc_L_0 hL) (Exists.intro _ (And.intro (fc_L_r3 hL) ?_))
        refine And.intro (fc_S_0 hS) (Exists.intro _ (And.intro (fc_S_r2 hS) ?_))
        refine Exists.intro _ (Exists.intro _ (And.intro (fc_S_1 hS) (And.intro (by first | assumption | exact fc_ix_nI (by omega) (by omega) | exact fc_ix_nI (by assumption) (by omega)) ?_)))
        refine Exists.intro _ (Exists.intro _ (And.intro (fc_L_4 hL) (And.intro (by rw [hw]; exact fc_ix_nI (show jj < 7 by omega) (by omega)) ?_)))
        refine Exists.intro _ (And.intro (c_isIn _ _) ?_)
        rintro _ _ _ _ ⟨rfl, rfl, rfl, rfl⟩
        refine And.intro (fun h40 => ?_) (fun h40 => ?_)
        · replace h40 := fc_b0.mp h40
          refine And.intro (by first | exact Or.inl rfl | exact Or.inr rfl | exact fc_bb _ | assumption) ?_
          exact ⟨by simp [sp_cw, fc_b, h5, hcl, hw, hcj, h13, h22, h40], rfl, rfl, rfl⟩
        · replace h40 := fc_b1.mp h40
          refine And.intro (by first | exact Or.inl rfl | exact Or.inr rfl | exact fc_bb _ | assumption) ?_
          exact ⟨by simp [sp_cw, fc_b, h5, hcl, hw, hcj, h13, h22, h40], rfl, rfl, rfl⟩

end M14
end
section
/-! ===== Int32 by its bits: bt x i ===== -/
def bt (x : Int32) (i : Nat) : Bool := x.toBitVec.getLsbD i
theorem b_ext {x y : Int32} (h : ∀ i, i < 32 → bt x i = bt y i) : x = y := Int32.toBitVec_inj.mp (BitVec.eq_of_getLsbD_eq (fun i hi => h i hi))
theorem b_or (x y : Int32) (i : Nat) : bt (x ||| y) i = (bt x i || bt y i) := by unfold bt; rw [Int32.toBitVec_or, BitVec.getLsbD_or]
theorem b_and (x y : Int32) (i : Nat) : bt (x &&& y) i = (bt x i && bt y i) := by unfold bt; rw [Int32.toBitVec_and, BitVec.getLsbD_and]
theorem b_xor (x y : Int32) (i : Nat) : bt (x ^^^ y) i = (bt x i ^^ bt y i) := by unfold bt; rw [Int32.toBitVec_xor, BitVec.getLsbD_xor]
theorem b_big {x : Int32} {i : Nat} (h : 32 ≤ i) : bt x i = false := BitVec.getLsbD_of_ge _ _ h
theorem b_255 (i : Nat) : bt 255 i = decide (i < 8) := by
  rcases Nat.lt_or_ge i 32 with h | h
  · exact (by decide +kernel : ∀ i, i < 32 → bt 255 i = decide (i < 8)) i h
  · rw [b_big h, decide_eq_false (by omega)]
theorem b_65535 (i : Nat) : bt 65535 i = decide (i < 16) := by
  rcases Nat.lt_or_ge i 32 with h | h
  · exact (by decide +kernel : ∀ i, i < 32 → bt 65535 i = decide (i < 16)) i h
  · rw [b_big h, decide_eq_false (by omega)]
theorem b_m1 : ∀ i, i < 32 → bt (-1) i = true := by decide +kernel
theorem b_0 (i : Nat) : bt 0 i = false := BitVec.getLsbD_zero
theorem s_l : ∀ n, n < 32 → ((nI n &&& 31).toBitVec.smod 32).toNat = n := by decide +kernel
theorem s_u : ∀ n, n < 32 → (((nI n).toUInt32 &&& Int32.toUInt32 31).toBitVec % 32).toNat = n := by decide +kernel
theorem b_shl (n : Nat) (hn : n < 32) (x : Int32) {i : Nat} (hi : i < 32) : bt (x <<< (nI n &&& 31)) i = (decide (n ≤ i) && bt x (i - n)) := by
  unfold bt
  rw [Int32.toBitVec_shiftLeft]
  show (x.toBitVec <<< ((nI n &&& 31).toBitVec.smod 32).toNat).getLsbD i = _
  rw [s_l n hn, BitVec.getLsbD_shiftLeft]
  rcases Nat.lt_or_ge i n with h | h
  · simp [h, Nat.not_le.mpr h]
  · simp [hi, h, Nat.not_lt.mpr h]
theorem b_ushr (n : Nat) (hn : n < 32) (x : Int32) (i : Nat) : bt ((x.toUInt32 >>> ((nI n).toUInt32 &&& Int32.toUInt32 31)).toInt32) i = bt x (n + i) := by
  show (x.toUInt32 >>> ((nI n).toUInt32 &&& Int32.toUInt32 31)).toBitVec.getLsbD i = x.toUInt32.toBitVec.getLsbD (n + i)
  rw [UInt32.toBitVec_shiftRight]
  show (x.toUInt32.toBitVec >>> (((nI n).toUInt32 &&& Int32.toUInt32 31).toBitVec % 32).toNat).getLsbD i = _
  rw [s_u n hn, BitVec.getLsbD_ushiftRight]
theorem b_sshr (n : Nat) (hn : n < 32) (x : Int32) {i : Nat} (hi : i < 32) : bt (x >>> (nI n &&& 31)) i = if n + i < 32 then bt x (n + i) else bt x 31 := by
  unfold bt
  rw [Int32.toBitVec_shiftRight]
  show (x.toBitVec.sshiftRight ((nI n &&& 31).toBitVec.smod 32).toNat).getLsbD i = _
  rw [s_l n hn, BitVec.getLsbD_sshiftRight, BitVec.msb_eq_getLsbD_last]
  simp [hi]
/-! ===== sets by their bits ===== -/
theorem fb_and1 (y : Int32) : (y &&& 1 = 1) ↔ bt y 0 = true := by
  have h1 : ∀ i, i < 32 → bt 1 i = decide (i = 0) := by decide +kernel
  constructor
  · intro h
    have := b_and y 1 0
    rw [h, h1 0 (by omega)] at this
    simpa using this.symm
  · intro h
    apply b_ext
    intro i hi
    rw [b_and, h1 i hi]
    by_cases h0 : i = 0
    · subst h0; simp [h]
    · simp [h0]
theorem fb_in (x : Int32) {i : Nat} (h : i < 32) : sp_in x (nI i) = bt x i := by
  have h2 := b_sshr i h x (i := 0) (by omega)
  rw [Nat.add_zero, if_pos h] at h2
  rw [← h2]
  unfold sp_in
  by_cases hb : bt (x >>> (nI i &&& 31)) 0 = true
  · rw [hb, decide_eq_true ((fb_and1 _).mpr hb)]
  · have hb' : bt (x >>> (nI i &&& 31)) 0 = false := by simpa using hb
    rw [hb', decide_eq_false (fun q => hb ((fb_and1 _).mp q))]
theorem fb_one {n i : Nat} (hn : n < 32) (hi : i < 32) : bt ((1 : Int32) <<< (nI n &&& 31)) i = decide (i = n) := by
  rw [b_shl n hn 1 hi]
  have h1 : ∀ i, i < 32 → bt 1 i = decide (i = 0) := by decide +kernel
  rw [h1 (i - n) (by omega)]
  by_cases h : i = n
  · subst h; simp
  · by_cases h2 : n ≤ i
    · simp [h, h2]; omega
    · simp [h, h2]
theorem fb_set {P : Nat → Bool} : ∀ {n i : Nat}, n ≤ 32 → i < 32 → bt (sp_set P n) i = (decide (i < n) && P i)
  | 0, i, _, _ => by simp [sp_set, b_0]
  | n + 1, i, hn, hi => by
    have ih := fb_set (P := P) (n := n) (i := i) (by omega) hi
    unfold sp_set
    by_cases hP : P n = true
    · rw [if_pos hP, b_or, ih, fb_one (by omega) hi]
      by_cases h : i = n
      · subst h; simp [hP]
      · by_cases h2 : i < n
        · simp [h2, h, show i < n + 1 by omega]
        · simp [h2, h, show ¬ i < n + 1 by omega]
    · rw [if_neg hP, ih]
      by_cases h : i = n
      · subst h; simp at hP; simp [hP]
      · by_cases h2 : i < n
        · simp [h2, show i < n + 1 by omega]
        · simp [h2, show ¬ i < n + 1 by omega]
theorem fb_not (x : Int32) {i : Nat} (h : i < 32) : bt (x ^^^ (-1)) i = !bt x i := by rw [b_xor, b_m1 i h]; simp
/-- a set below n out of its bits -/
theorem fb_of {x : Int32} {n : Nat} (hn : n ≤ 32) (h : ∀ i, i < 32 → n ≤ i → bt x i = false) : x = sp_set (bt x) n := by
  apply b_ext
  intro i hi
  rw [fb_set hn hi]
  by_cases h2 : i < n
  · simp [h2]
  · simp [h2, h i hi (by omega)]
end
section
/-! ===== State's methods that write ===== -/
theorem fc_u_ur {α : Type} (f : Nat → Nat → α) (x i : Nat) (g : Nat → α) (v : α) : fc_u (fc_ur f x g) x i v = fc_ur f x (fun j => if j = i then v else g j) := by
  funext q
  unfold fc_u fc_ur
  by_cases h : q = x
  · simp [h]
  · simp [h]
theorem fc_u_nj {α : Type} (f : Nat → Nat → α) (a b : Nat) {j k : Nat} (v : α) (h : k ≠ j) : fc_u f a j v b k = f b k := by
  unfold fc_u
  by_cases e : b = a
  · simp [e, h]
  · simp [e]
theorem fc_u_at {α : Type} (f : Nat → Nat → α) (a j : Nat) (v : α) : fc_u f a j v a j = v := by simp [fc_u]
theorem fc_u_eq {α : Type} (f : Nat → Nat → α) (x i : Nat) (v : α) : fc_u f x i v = fc_ur f x (fun j => if j = i then v else f x j) := by
  funext q
  unfold fc_u fc_ur
  by_cases h : q = x
  · simp [h]
  · simp [h]
theorem fc_ur_ur {α : Type} (f : Nat → Nat → α) (x : Nat) (g h : Nat → α) : fc_ur (fc_ur f x g) x h = fc_ur f x h := by
  funext q
  unfold fc_ur
  by_cases e : q = x
  · simp [e]
  · simp [e]
theorem fc_ur_self {α : Type} (f : Nat → Nat → α) (x : Nat) : fc_ur f x (f x) = f := by
  funext q
  unfold fc_ur
  by_cases e : q = x
  · simp [e]
  · simp [e]
theorem fc_ur_cm {α : Type} (f : Nat → Nat → α) {x z : Nat} (g h : Nat → α) (n : x ≠ z) : fc_ur (fc_ur f x g) z h = fc_ur (fc_ur f z h) x g := by
  funext q
  unfold fc_ur
  by_cases e : q = x
  · simp [e, n]
  · by_cases e2 : q = z <;> simp [e, e2, Ne.symm n]
theorem fc_rowE {α : Type} {f : Nat → Nat → α} {x : Nat} {g h : Nat → α} (e : ∀ j, g j = h j) : fc_ur f x g = fc_ur f x h := by
  rw [show g = h from funext e]
/-- or over those below n of whom P is so -/
def sp_or (P : Nat → Bool) (f : Nat → Int32) : Nat → Int32
  | 0 => 0
  | n + 1 => if P n then sp_or P f n ||| f n else sp_or P f n
theorem sp_or_t {P : Nat → Bool} {f : Nat → Int32} {n : Nat} (h : P n = true) : sp_or P f n ||| f n = sp_or P f (n + 1) := by rw [sp_or, if_pos h]
theorem sp_or_f {P : Nat → Bool} {f : Nat → Int32} {n : Nat} (h : P n = false) : sp_or P f n = sp_or P f (n + 1) := by rw [sp_or, if_neg (by rw [h]; decide)]
theorem sp_or_congr {P P' : Nat → Bool} {f f' : Nat → Int32} : ∀ {n : Nat}, (∀ i, i < n → P i = P' i ∧ (P i = true → f i = f' i)) → sp_or P f n = sp_or P' f' n
  | 0, _ => rfl
  | n + 1, h => by
    have h1 := h n (by omega)
    rw [sp_or, sp_or, sp_or_congr (fun i hi => h i (by omega)), ← h1.1]
    by_cases hp : P n = true
    · rw [if_pos hp, if_pos hp, h1.2 hp]
    · rw [if_neg hp, if_neg hp]
section M16
variable {E : fc_E} {d : Nat} {mi : fc_Mi} {ml : fc_Ml} {mr : fc_Mr} {a b n m t : Nat}
theorem c_goTo (hS : fc_S mr a) (hL : fc_L mr b) (hab : a + 8 ≤ b) {p : Nat} (hp : p < 5) (k : Int32) : fc_R E mX7_goTo d fc_sh [.ref a, .ref b, .int (nI p), .int k] mi ml mr (fc_is none (fc_u (fc_u mi (a + 1) p k) (a + 2) p (if mi (b + 5) p = 2 then 2 else 1)) ml mr) := by
  refine fc_met rfl (Nat.le_of_ble_eq_true rfl) (fc_run oX7_goTo (fun _ => false) 400 ?_)
  refine And.intro (fc_S_0 hS) (Exists.intro _ (And.intro (fc_S_r2 hS) ?_))
  refine Exists.intro _ (Exists.intro _ (And.intro (fc_S_1 hS) (And.intro (by first | assumption | exact fc_ix_nI (by omega) (by omega) | exact fc_ix_nI (by assumption) (by omega)) ?_)))
  refine And.intro (fc_S_0 hS) (Exists.intro _ (And.intro (fc_S_r3 hS) ?_))
  refine And.intro (fc_L_0 hL) (Exists.intro _ (And.intro (fc_L_r4 hL) ?_))
  refine Exists.intro _ (Exists.intro _ (And.intro (fc_L_5 hL) (And.intro (by first | assumption | exact fc_ix_nI (by omega) (by omega) | exact fc_ix_nI (by assumption) (by omega)) ?_)))
  refine And.intro (fun h19 => ?_) (fun h19 => ?_)
  · rw [fc_u_off _ _ _ (by omega)] at h19
    refine Exists.intro _ (Exists.intro _ (And.intro (fc_S_2 hS) (And.intro (by first | assumption | exact fc_ix_nI (by omega) (by omega) | exact fc_ix_nI (by assumption) (by omega)) ?_)))
    exact ⟨rfl, by simp [h19], rfl, rfl⟩
  · rw [fc_u_off _ _ _ (by omega)] at h19
    refine Exists.intro _ (Exists.intro _ (And.intro (fc_S_2 hS) (And.intro (by first | assumption | exact fc_ix_nI (by omega) (by omega) | exact fc_ix_nI (by assumption) (by omega)) ?_)))
    exact ⟨rfl, by simp [h19], rfl, rfl⟩

def sp_cg (nt ne : Int32) (ho wk ac w : Nat → Int32) (m x k : Int32) : Bool := sp_has nt x && (sp_has ne k && (!decide (ho x.toNatClampNeg = k) && (sp_rd wk ac m (ho x.toNatClampNeg).toNatClampNeg && (sp_aw wk m k.toNatClampNeg && decide (w (ho x.toNatClampNeg).toNatClampNeg = w k.toNatClampNeg)))))
theorem c_canGive (hS : fc_S mr a) (hL : fc_L mr b) (hN : fc_LN mi b n m t) (hV : fc_SV mi a n m t) (x k : Int32) : fc_R E mX7_canGive (d + 2) fc_sh [.ref a, .ref b, .int x, .int k] mi ml mr (fc_is (some (.int (fc_b (sp_cg (mi b 13) (mi b 12) (mi (a + 6)) (mi (b + 7)) (mi (a + 2)) (mi (a + 1)) (mi a 1) x k)))) mi ml mr) := by
  obtain ⟨hN1, hN2, hN3, hN4, hN5, hN6⟩ := hN
  refine fc_met rfl (Nat.le_of_ble_eq_true rfl) (fc_run oX7_canGive (fun _ => false) 400 ?_)
  refine And.intro (fc_L_0 hL) (Exists.intro _ (And.intro (c_hasThing hL _) ?_))
  rintro _ _ _ _ ⟨rfl, rfl, rfl, rfl⟩
  refine And.intro (fun h5 => ?_) (fun h5 => ?_)
  · replace h5 := fc_b0.mp h5
    refine And.intro (by first | exact Or.inl rfl | exact Or.inr rfl | exact fc_bb _ | assumption) ?_
    exact ⟨by simp [sp_cg, fc_b, h5], rfl, rfl, rfl⟩
  · replace h5 := fc_b1.mp h5
    rw [hN5] at h5
    obtain ⟨q, hq, rfl⟩ := sp_hasN (by omega) h5
    rw [← hN5] at h5
    obtain ⟨jj, hjj, hw⟩ := hV.2.1 q hq
    have hcl := fc_cl (k := 6) (show q < 6 by omega) (by omega)
    have hcj := fc_cl (k := 5) (show jj < 5 by omega) (by omega)
    refine And.intro (fc_L_0 hL) (Exists.intro _ (And.intro (c_hasPerson hL _) ?_))
    rintro _ _ _ _ ⟨rfl, rfl, rfl, rfl⟩
    refine And.intro (fun h13 => ?_) (fun h13 => ?_)
    · replace h13 := fc_b0.mp h13
      refine And.intro (by first | exact Or.inl rfl | exact Or.inr rfl | exact fc_bb _ | assumption) ?_
      exact ⟨by simp [sp_cg, fc_b, h5, hcl, hw, hcj, h13], rfl, rfl, rfl⟩
    · replace h13 := fc_b1.mp h13
      rw [hN1] at h13
      obtain ⟨p, hp, rfl⟩ := sp_hasN (by omega) h13
      rw [← hN1] at h13
      have hcp := fc_cl (k := 5) (show p < 5 by omega) (by omega)
      refine And.intro (fc_S_0 hS) (Exists.intro _ (And.intro (fc_S_r7 hS) ?_))
      refine Exists.intro _ (Exists.intro _ (And.intro (fc_S_6 hS) (And.intro (by first | assumption | exact fc_ix_nI (by omega) (by omega) | exact fc_ix_nI (by assumption) (by omega)) ?_)))
      rw [hw]
      refine And.intro (fun h29 => ?_) (fun h29 => ?_)
      · refine And.intro (by first | exact Or.inl rfl | exact Or.inr rfl | exact fc_bb _ | assumption) ?_
        exact ⟨by simp [sp_cg, fc_b, h5, hcl, hw, hcj, h13, hcp, h29], rfl, rfl, rfl⟩
      · refine And.intro (fc_S_0 hS) (Exists.intro _ (And.intro (c_isReady hS hL (by omega)) ?_))
        rintro _ _ _ _ ⟨rfl, rfl, rfl, rfl⟩
        refine And.intro (fun h39 => ?_) (fun h39 => ?_)
        · replace h39 := fc_b0.mp h39
          refine And.intro (by first | exact Or.inl rfl | exact Or.inr rfl | exact fc_bb _ | assumption) ?_
          exact ⟨by simp [sp_cg, fc_b, h5, hcl, hw, hcj, h13, hcp, h29, h39], rfl, rfl, rfl⟩
        · replace h39 := fc_b1.mp h39
          refine And.intro (fc_S_0 hS) ?_
          refine And.intro (fc_L_0 hL) (Exists.intro _ (And.intro (c_isAwake hL (by omega) _) ?_))
          rintro _ _ _ _ ⟨rfl, rfl, rfl, rfl⟩
          refine And.intro (fun h51 => ?_) (fun h51 => ?_)
          · replace h51 := fc_b0.mp h51
            refine And.intro (by first | exact Or.inl rfl | exact Or.inr rfl | exact fc_bb _ | assumption) ?_
            exact ⟨by simp [sp_cg, fc_b, h5, hcl, hw, hcj, h13, hcp, h29, h39, h51], rfl, rfl, rfl⟩
          · replace h51 := fc_b1.mp h51
            refine And.intro (fc_S_0 hS) (Exists.intro _ (And.intro (fc_S_r2 hS) ?_))
            refine Exists.intro _ (Exists.intro _ (And.intro (fc_S_1 hS) (And.intro (by first | assumption | exact fc_ix_nI (by omega) (by omega) | exact fc_ix_nI (by assumption) (by omega)) ?_)))
            refine And.intro (fc_S_0 hS) (Exists.intro _ (And.intro (fc_S_r2 hS) ?_))
            refine Exists.intro _ (Exists.intro _ (And.intro (fc_S_1 hS) (And.intro (by first | assumption | exact fc_ix_nI (by omega) (by omega) | exact fc_ix_nI (by assumption) (by omega)) ?_)))
            refine And.intro (fun h67 => ?_) (fun h67 => ?_)
            · refine And.intro (by first | exact Or.inl rfl | exact Or.inr rfl | exact fc_bb _ | assumption) ?_
              exact ⟨by simp [sp_cg, fc_b, h5, hcl, hw, hcj, h13, hcp, h29, h39, h51, h67], rfl, rfl, rfl⟩
            · refine And.intro (by first | exact Or.inl rfl | exact Or.inr rfl | exact fc_bb _ | assumption) ?_
              exact ⟨by simp [sp_cg, fc_b, h5, hcl, hw, hcj, h13, hcp, h29, h39, h51, h67], rfl, rfl, rfl⟩

def sp_cv (ne : Int32) (wk ac w kd vo : Nat → Int32) (m x k : Int32) : Bool := sp_has ne x && (sp_has ne k && (!decide (x = k) && (sp_rd wk ac m x.toNatClampNeg && (sp_rd wk ac m k.toNatClampNeg && (decide (w x.toNatClampNeg = w k.toNatClampNeg) && (!decide (kd x.toNatClampNeg = 3) && (!decide (kd k.toNatClampNeg = 3) && !sp_in (vo x.toNatClampNeg) k)))))))
theorem c_canVow (hS : fc_S mr a) (hL : fc_L mr b) (hN : fc_LN mi b n m t) (x k : Int32) : fc_R E mX7_canVow (d + 2) fc_sh [.ref a, .ref b, .int x, .int k] mi ml mr (fc_is (some (.int (fc_b (sp_cv (mi b 12) (mi (b + 7)) (mi (a + 2)) (mi (a + 1)) (mi (b + 5)) (mi (a + 4)) (mi a 1) x k)))) mi ml mr) := by
  obtain ⟨hN1, hN2, hN3, hN4, hN5, hN6⟩ := hN
  refine fc_met rfl (Nat.le_of_ble_eq_true rfl) (fc_run oX7_canVow (fun _ => false) 400 ?_)
  refine And.intro (fc_L_0 hL) (Exists.intro _ (And.intro (c_hasPerson hL _) ?_))
  rintro _ _ _ _ ⟨rfl, rfl, rfl, rfl⟩
  refine And.intro (fun h5 => ?_) (fun h5 => ?_)
  · replace h5 := fc_b0.mp h5
    refine And.intro (by first | exact Or.inl rfl | exact Or.inr rfl | exact fc_bb _ | assumption) ?_
    exact ⟨by simp [sp_cv, fc_b, h5], rfl, rfl, rfl⟩
  · replace h5 := fc_b1.mp h5
    rw [hN1] at h5
    obtain ⟨q, hq, rfl⟩ := sp_hasN (by omega) h5
    rw [← hN1] at h5
    have hcl := fc_cl (k := 6) (show q < 6 by omega) (by omega)
    refine And.intro (fc_L_0 hL) (Exists.intro _ (And.intro (c_hasPerson hL _) ?_))
    rintro _ _ _ _ ⟨rfl, rfl, rfl, rfl⟩
    refine And.intro (fun h13 => ?_) (fun h13 => ?_)
    · replace h13 := fc_b0.mp h13
      refine And.intro (by first | exact Or.inl rfl | exact Or.inr rfl | exact fc_bb _ | assumption) ?_
      exact ⟨by simp [sp_cv, fc_b, h5, hcl, h13], rfl, rfl, rfl⟩
    · replace h13 := fc_b1.mp h13
      rw [hN1] at h13
      obtain ⟨p, hp, rfl⟩ := sp_hasN (by omega) h13
      rw [← hN1] at h13
      have hcp := fc_cl (k := 5) (show p < 5 by omega) (by omega)
      refine And.intro (fun h18 => ?_) (fun h18 => ?_)
      · refine And.intro (by first | exact Or.inl rfl | exact Or.inr rfl | exact fc_bb _ | assumption) ?_
        exact ⟨by simp [sp_cv, fc_b, h5, hcl, h13, hcp, h18], rfl, rfl, rfl⟩
      · refine And.intro (fc_S_0 hS) (Exists.intro _ (And.intro (c_isReady hS hL (by omega)) ?_))
        rintro _ _ _ _ ⟨rfl, rfl, rfl, rfl⟩
        refine And.intro (fun h27 => ?_) (fun h27 => ?_)
        · replace h27 := fc_b0.mp h27
          refine And.intro (by first | exact Or.inl rfl | exact Or.inr rfl | exact fc_bb _ | assumption) ?_
          exact ⟨by simp [sp_cv, fc_b, h5, hcl, h13, hcp, h18, h27], rfl, rfl, rfl⟩
        · replace h27 := fc_b1.mp h27
          refine And.intro (fc_S_0 hS) (Exists.intro _ (And.intro (c_isReady hS hL (by omega)) ?_))
          rintro _ _ _ _ ⟨rfl, rfl, rfl, rfl⟩
          refine And.intro (fun h36 => ?_) (fun h36 => ?_)
          · replace h36 := fc_b0.mp h36
            refine And.intro (by first | exact Or.inl rfl | exact Or.inr rfl | exact fc_bb _ | assumption) ?_
            exact ⟨by simp [sp_cv, fc_b, h5, hcl, h13, hcp, h18, h27, h36], rfl, rfl, rfl⟩
          · replace h36 := fc_b1.mp h36
            refine And.intro (fc_S_0 hS) (Exists.intro _ (And.intro (fc_S_r2 hS) ?_))
            refine Exists.intro _ (Exists.intro _ (And.intro (fc_S_1 hS) (And.intro (by first | assumption | exact fc_ix_nI (by omega) (by omega) | exact fc_ix_nI (by assumption) (by omega)) ?_)))
            refine And.intro (fc_S_0 hS) (Exists.intro _ (And.intro (fc_S_r2 hS) ?_))
            refine Exists.intro _ (Exists.intro _ (And.intro (fc_S_1 hS) (And.intro (by first | assumption | exact fc_ix_nI (by omega) (by omega) | exact fc_ix_nI (by assumption) (by omega)) ?_)))
            refine And.intro (fun h51 => ?_) (fun h51 => ?_)
            · refine And.intro (fc_L_0 hL) (Exists.intro _ (And.intro (fc_L_r4 hL) ?_))
              refine Exists.intro _ (Exists.intro _ (And.intro (fc_L_5 hL) (And.intro (by first | assumption | exact fc_ix_nI (by omega) (by omega) | exact fc_ix_nI (by assumption) (by omega)) ?_)))
              refine And.intro (fun h61 => ?_) (fun h61 => ?_)
              · refine And.intro (by first | exact Or.inl rfl | exact Or.inr rfl | exact fc_bb _ | assumption) ?_
                exact ⟨by simp [sp_cv, fc_b, h5, hcl, h13, hcp, h18, h27, h36, h51, h61], rfl, rfl, rfl⟩
              · refine And.intro (fc_L_0 hL) (Exists.intro _ (And.intro (fc_L_r4 hL) ?_))
                refine Exists.intro _ (Exists.intro _ (And.intro (fc_L_5 hL) (And.intro (by first | assumption | exact fc_ix_nI (by omega) (by omega) | exact fc_ix_nI (by assumption) (by omega)) ?_)))
                refine And.intro (fun h71 => ?_) (fun h71 => ?_)
                · refine And.intro (by first | exact Or.inl rfl | exact Or.inr rfl | exact fc_bb _ | assumption) ?_
                  exact ⟨by simp [sp_cv, fc_b, h5, hcl, h13, hcp, h18, h27, h36, h51, h61, h71], rfl, rfl, rfl⟩
                · refine And.intro (fc_S_0 hS) (Exists.intro _ (And.intro (fc_S_r5 hS) ?_))
                  refine Exists.intro _ (Exists.intro _ (And.intro (fc_S_4 hS) (And.intro (by first | assumption | exact fc_ix_nI (by omega) (by omega) | exact fc_ix_nI (by assumption) (by omega)) ?_)))
                  refine Exists.intro _ (And.intro (c_isIn _ _) ?_)
                  rintro _ _ _ _ ⟨rfl, rfl, rfl, rfl⟩
                  refine And.intro (fun h84 => ?_) (fun h84 => ?_)
                  · replace h84 := fc_b0.mp h84
                    refine And.intro (by first | exact Or.inl rfl | exact Or.inr rfl | exact fc_bb _ | assumption) ?_
                    exact ⟨by simp [sp_cv, fc_b, h5, hcl, h13, hcp, h18, h27, h36, h51, h61, h71, h84], rfl, rfl, rfl⟩
                  · replace h84 := fc_b1.mp h84
                    refine And.intro (by first | exact Or.inl rfl | exact Or.inr rfl | exact fc_bb _ | assumption) ?_
                    exact ⟨by simp [sp_cv, fc_b, h5, hcl, h13, hcp, h18, h27, h36, h51, h61, h71, h84], rfl, rfl, rfl⟩
            · refine And.intro (by first | exact Or.inl rfl | exact Or.inr rfl | exact fc_bb _ | assumption) ?_
              exact ⟨by simp [sp_cv, fc_b, h5, hcl, h13, hcp, h18, h27, h36, h51], rfl, rfl, rfl⟩

theorem l_fill {q N : Nat} (hq : fc_sh[q]? = some (20, N)) (hN : N ≤ 1000) (x : Int32) : ∀ (j i : Nat) (c : Int32) (mm : fc_Mi), i + j = N → c = nI i → mm = fc_ur mi q (fun j => if j < i then x else mi q j) → fc_T E mJ7_fill_53178 d (0, 0) fc_sh 5 [some (.ref q), some (.int x), some (.int c), some (.int (Int32.ofNat N))] [] mm ml mr (fc_is none (fc_ur mi q (fun j => if j < N then x else mi q j)) ml mr) := by
  intro j
  induction j with
  | zero =>
    intro i c mm hi hc hm
    subst hc
    refine fc_run oJ7_fill_53178 (fun pc => pc == 5) 400 ?_
    refine And.intro (fun h7 => ?_) (fun h7 => ?_)
    · exact ⟨rfl, by rw [hm, show i = N by omega], rfl, rfl⟩
    · exact absurd (by rw [show Int32.ofNat N = nI N from rfl]; exact nI_le (by omega) (by omega)) h7
  | succ j ih =>
    intro i c mm hi hc hm
    subst hc
    refine fc_run oJ7_fill_53178 (fun pc => pc == 5) 400 ?_
    refine And.intro (fun h7 => ?_) (fun h7 => ?_)
    · exact absurd h7 (by rw [show Int32.ofNat N = nI N from rfl]; exact nI_ge (by omega) (by omega))
    · refine Exists.intro _ (Exists.intro _ (And.intro hq (And.intro (by first | assumption | exact fc_ix_nI (by omega) (by omega) | exact fc_ix_nI (by assumption) (by omega)) ?_)))
      exact ih (i + 1) _ _ (by omega) (fc_inc i) (by rw [hm, fc_u_ur]; exact fc_rowE (fun j => by by_cases h1 : j = i <;> by_cases h2 : j < i <;> simp [h1, h2] <;> omega))

theorem c_fill {q N : Nat} (hq : fc_sh[q]? = some (20, N)) (hN : N ≤ 1000) (x : Int32) : fc_R E mJ7_fill_53178 d fc_sh [.ref q, .int x] mi ml mr (fc_is none (fc_ur mi q (fun j => if j < N then x else mi q j)) ml mr) := by
  refine fc_met rfl (Nat.le_of_ble_eq_true rfl) (fc_run oJ7_fill_53178 (fun pc => pc == 5) 400 ?_)
  refine Exists.intro _ (Exists.intro _ (And.intro hq (And.intro (by decide) ?_)))
  exact l_fill (mi := mi) hq hN x N 0 _ _ (by omega) rfl (by simp [fc_ur_self])

end M16
end
section
/-! ===== the minute ===== -/
section M17
variable {E : fc_E} {d : Nat} {mi : fc_Mi} {ml : fc_Ml} {mr : fc_Mr} {a b n m t : Nat}
/-- the news behind a company's talk -/
def sp_sn (n : Nat) (k : Int32) (nw : Nat → Int32) (i : Nat) : Nat → Int32 := fun p => if decide (p < i) && sp_in k (nI p) then sp_or (fun p => sp_in k (nI p)) nw n else nw p
theorem l_share2 (hS : fc_S mr a) (hL : fc_L mr b) (hab : a + 8 ≤ b) (k : Int32) (hN : mi b 12 = nI n) (h5 : n ≤ 5) : ∀ (j i : Nat) (c : Int32) (mm : fc_Mi), i + j = n → c = nI i → mm = fc_ur mi (a + 3) (sp_sn n k (mi (a + 3)) i) → fc_T E mX7_shareNews (d + 1) (0, 0) fc_sh 42 [some (.ref a), some (.ref b), some (.int k), some (.int (sp_or (fun p => sp_in k (nI p)) (mi (a + 3)) n)), some (.int c)] [] mm ml mr (fc_is none (fc_ur mi (a + 3) (sp_sn n k (mi (a + 3)) n)) ml mr) := by
  intro j
  induction j with
  | zero =>
    intro i c mm hi hc hm
    subst hc
    have hN2 : mm b 12 = nI n := by rw [hm, fc_ur_off _ _ (by omega)]; exact hN
    refine fc_run oX7_shareNews (fun pc => pc == 42) 400 ?_
    refine And.intro (fc_L_0 hL) ?_
    refine And.intro (fun h48 => ?_) (fun h48 => ?_)
    · exact ⟨rfl, by rw [hm, show i = n by omega], rfl, rfl⟩
    · exact absurd (by rw [hN2]; exact nI_le (by omega) (by omega)) h48
  | succ j ih =>
    intro i c mm hi hc hm
    subst hc
    have hN2 : mm b 12 = nI n := by rw [hm, fc_ur_off _ _ (by omega)]; exact hN
    refine fc_run oX7_shareNews (fun pc => pc == 42) 400 ?_
    refine And.intro (fc_L_0 hL) ?_
    refine And.intro (fun h48 => ?_) (fun h48 => ?_)
    · exact absurd h48 (by rw [hN2]; exact nI_ge (by omega) (by omega))
    · refine Exists.intro _ (And.intro (c_isIn _ _) ?_)
      rintro _ _ _ _ ⟨rfl, rfl, rfl, rfl⟩
      refine And.intro (fun h57 => ?_) (fun h57 => ?_)
      · replace h57 := fc_b0.mp h57
        exact ih (i + 1) _ _ (by omega) (fc_inc i) (by
                first
                  | (rw [hm, fc_u_ur]; exact fc_rowE (fun j => by
                      unfold sp_sn
                      by_cases h1 : j = i
                      · subst h1; simp [h57]
                      · simp [h1, show (j < i + 1) ↔ (j < i) by omega]))
                  | (rw [hm]; exact fc_rowE (fun j => by
                      unfold sp_sn
                      by_cases h1 : j = i
                      · subst h1; simp [h57]
                      · simp [h1, show (j < i + 1) ↔ (j < i) by omega])))
      · replace h57 := fc_b1.mp h57
        refine And.intro (fc_S_0 hS) (Exists.intro _ (And.intro (fc_S_r4 hS) ?_))
        refine Exists.intro _ (Exists.intro _ (And.intro (fc_S_3 hS) (And.intro (by first | assumption | exact fc_ix_nI (by omega) (by omega) | exact fc_ix_nI (by assumption) (by omega)) ?_)))
        exact ih (i + 1) _ _ (by omega) (fc_inc i) (by
                first
                  | (rw [hm, fc_u_ur]; exact fc_rowE (fun j => by
                      unfold sp_sn
                      by_cases h1 : j = i
                      · subst h1; simp [h57]
                      · simp [h1, show (j < i + 1) ↔ (j < i) by omega]))
                  | (rw [hm]; exact fc_rowE (fun j => by
                      unfold sp_sn
                      by_cases h1 : j = i
                      · subst h1; simp [h57]
                      · simp [h1, show (j < i + 1) ↔ (j < i) by omega])))

theorem l_share1 (hS : fc_S mr a) (hL : fc_L mr b) (hab : a + 8 ≤ b) (k : Int32) (hN : mi b 12 = nI n) (h5 : n ≤ 5) : ∀ (j i : Nat) (c acc : Int32), i + j = n → c = nI i → acc = sp_or (fun p => sp_in k (nI p)) (mi (a + 3)) i → fc_T E mX7_shareNews (d + 1) (0, 0) fc_sh 5 [some (.ref a), some (.ref b), some (.int k), some (.int acc), some (.int c)] [] mi ml mr (fc_is none (fc_ur mi (a + 3) (sp_sn n k (mi (a + 3)) n)) ml mr) := by
  intro j
  induction j with
  | zero =>
    intro i c acc hi hc hacc
    subst hc
    refine fc_run oX7_shareNews (fun pc => pc == 5 || pc == 42) 400 ?_
    refine And.intro (fc_L_0 hL) ?_
    refine And.intro (fun h11 => ?_) (fun h11 => ?_)
    · rw [hacc, show i = n by omega]
      exact l_share2 hS hL hab k hN h5 n 0 _ _ (by omega) rfl (by unfold sp_sn; simp [fc_ur_self])
    · exact absurd (by rw [hN]; exact nI_le (by omega) (by omega)) h11
  | succ j ih =>
    intro i c acc hi hc hacc
    subst hc
    refine fc_run oX7_shareNews (fun pc => pc == 5 || pc == 42) 400 ?_
    refine And.intro (fc_L_0 hL) ?_
    refine And.intro (fun h11 => ?_) (fun h11 => ?_)
    · exact absurd h11 (by rw [hN]; exact nI_ge (by omega) (by omega))
    · refine Exists.intro _ (And.intro (c_isIn _ _) ?_)
      rintro _ _ _ _ ⟨rfl, rfl, rfl, rfl⟩
      refine And.intro (fun h20 => ?_) (fun h20 => ?_)
      · replace h20 := fc_b0.mp h20
        exact ih (i + 1) _ _ (by omega) (fc_inc i) (by first | (rw [hacc]; exact sp_or_t (P := fun p => sp_in k (nI p)) h20) | (rw [hacc]; exact sp_or_f (P := fun p => sp_in k (nI p)) h20))
      · replace h20 := fc_b1.mp h20
        refine And.intro (fc_S_0 hS) (Exists.intro _ (And.intro (fc_S_r4 hS) ?_))
        refine Exists.intro _ (Exists.intro _ (And.intro (fc_S_3 hS) (And.intro (by first | assumption | exact fc_ix_nI (by omega) (by omega) | exact fc_ix_nI (by assumption) (by omega)) ?_)))
        exact ih (i + 1) _ _ (by omega) (fc_inc i) (by first | (rw [hacc]; exact sp_or_t (P := fun p => sp_in k (nI p)) h20) | (rw [hacc]; exact sp_or_f (P := fun p => sp_in k (nI p)) h20))

theorem c_shareNews (hS : fc_S mr a) (hL : fc_L mr b) (hab : a + 8 ≤ b) (k : Int32) (hN : mi b 12 = nI n) (h5 : n ≤ 5) : fc_R E mX7_shareNews (d + 1) fc_sh [.ref a, .ref b, .int k] mi ml mr (fc_is none (fc_ur mi (a + 3) (sp_sn n k (mi (a + 3)) n)) ml mr) := by
  refine fc_met rfl (Nat.le_of_ble_eq_true rfl) (fc_run oX7_shareNews (fun pc => pc == 5) 400 ?_)
  exact l_share1 hS hL hab k hN h5 n 0 _ _ (by omega) rfl rfl

/-- the State at a behind the SMOKE -/
def sp_smoke (mi : fc_Mi) (a b : Nat) : fc_Mi :=
  fc_u (fc_u (fc_ur (fc_ur (fc_ur (fc_ur mi (a + 6) (va_cpy (mi (a + 7)) (mi (a + 6)) 0 0 6)) (a + 4) (va_cpy (mi (a + 5)) (mi (a + 4)) 0 0 5)) (a + 1) (va_cpy (mi (b + 6)) (mi (a + 1)) 0 0 5)) (a + 2) (fun j => if j < 5 then 0 else mi (a + 2) j)) a 1 0) a 0 (mi a 0 + 1)
theorem c_riseSmoke (hS : fc_S mr a) (hL : fc_L mr b) (hab : a + 8 ≤ b) : fc_R E mX7_riseSmoke (d + 1) fc_sh [.ref a, .ref b] mi ml mr (fc_is none (sp_smoke mi a b) ml mr) := by
  refine fc_met rfl (Nat.le_of_ble_eq_true rfl) (fc_run oX7_riseSmoke (fun _ => false) 400 ?_)
  refine And.intro (fc_S_0 hS) (Exists.intro _ (And.intro (fc_S_r8 hS) ?_))
  refine And.intro (fc_S_0 hS) (Exists.intro _ (And.intro (fc_S_r7 hS) ?_))
  refine Exists.intro _ (Exists.intro _ (And.intro (fc_S_7 hS) (And.intro (fc_S_6 hS) (And.intro (by decide) ?_))))
  refine And.intro (fc_S_0 hS) (Exists.intro _ (And.intro (fc_S_r6 hS) ?_))
  refine And.intro (fc_S_0 hS) (Exists.intro _ (And.intro (fc_S_r5 hS) ?_))
  refine Exists.intro _ (Exists.intro _ (And.intro (fc_S_5 hS) (And.intro (fc_S_4 hS) (And.intro (by decide) ?_))))
  refine And.intro (fc_L_0 hL) (Exists.intro _ (And.intro (fc_L_r5 hL) ?_))
  refine And.intro (fc_S_0 hS) (Exists.intro _ (And.intro (fc_S_r2 hS) ?_))
  refine Exists.intro _ (Exists.intro _ (And.intro (fc_L_6 hL) (And.intro (fc_S_1 hS) (And.intro (by decide) ?_))))
  refine And.intro (fc_S_0 hS) (Exists.intro _ (And.intro (fc_S_r3 hS) ?_))
  refine Exists.intro _ (And.intro (c_fill (fc_S_2 hS) (by omega) _) ?_)
  rintro _ _ _ _ ⟨rfl, rfl, rfl, rfl⟩
  refine And.intro (fc_S_0 hS) ?_
  refine And.intro (fc_S_0 hS) ?_
  refine And.intro (fc_S_0 hS) ?_
  refine ⟨rfl, ?_, rfl, rfl⟩
  have e1 : ∀ (f : fc_Mi) (g : Nat → Int32) (x z : Nat), z ≠ x → fc_ur f x g z = f z := fun f g x z h => fc_ur_off f g h
  unfold sp_smoke
  simp (config := { decide := true }) only [fc_ur_off, fc_u_off, ne_eq, Nat.add_right_inj, Nat.reduceEqDiff, not_false_eq_true, show ¬ (b + 6 = a + 6) by omega, show ¬ (b + 6 = a + 4) by omega, show ¬ (a = a + 6) by omega, show ¬ (a = a + 4) by omega, show ¬ (a = a + 1) by omega, show ¬ (a = a + 2) by omega]
  have e2 : ∀ (f : fc_Mi) (g : Nat → Int32) (x : Nat), x ≠ a → fc_ur f x g a = f a := fun f g x h => fc_ur_off f g (Ne.symm h)
  rw [fc_u_nj _ _ _ _ (show (0 : Nat) ≠ 1 by decide), e2 _ _ _ (by omega), e2 _ _ _ (by omega), e2 _ _ _ (by omega), e2 _ _ _ (by omega)]
  rfl

/-- the news behind the minute, places below k gone through -/
def sp_nw (n : Nat) (w wk nw : Nat → Int32) (mn : Int32) (k : Nat) : Nat → Int32 := fun p => if decide (p < n) && (sp_aw wk mn p && decide ((w p).toNatClampNeg < k)) then sp_or (fun q => decide (w q = w p) && sp_aw wk mn q) nw n else nw p
theorem fb_and2 {P P' : Nat → Bool} {n p : Nat} (hn : n ≤ 32) (hp : p < n) : sp_in (sp_set P n &&& sp_set P' n) (nI p) = (P p && P' p) := by
  rw [fb_in _ (by omega), b_and, fb_set hn (by omega), fb_set hn (by omega)]
  simp [hp]
/-- one place more -/
theorem sp_nw_step {n m : Nat} {w wk nw : Nat → Int32} {mn : Int32} {k : Nat} (hn : n ≤ 5) (hm : m ≤ 7) (hk : k < m) (hw : ∀ p, p < n → ∃ j, j < m ∧ w p = nI j) (p : Nat) :
    sp_sn n (sp_set (fun p => decide (w p = nI k)) n &&& sp_set (sp_aw wk mn) n) (sp_nw n w wk nw mn k) n p = sp_nw n w wk nw mn (k + 1) p := by
  unfold sp_sn
  by_cases hp : p < n
  · obtain ⟨j, hj, hwp⟩ := hw p hp
    have hcl : (w p).toNatClampNeg = j := by rw [hwp]; exact fc_cl (k := 7) (by omega) (by omega)
    rw [fb_and2 (by omega) hp]
    by_cases ha : sp_aw wk mn p = true
    · by_cases hjk : j = k
      · subst hjk
        have h1 : sp_nw n w wk nw mn (j + 1) p = sp_or (fun q => decide (w q = w p) && sp_aw wk mn q) nw n := by
          unfold sp_nw
          simp [hp, ha, hcl]
        rw [h1]
        simp only [hp, hwp, ha, decide_true, Bool.and_self, if_true]
        refine sp_or_congr (fun i hi => ?_)
        obtain ⟨ji, hji, hwi⟩ := hw i hi
        rw [fb_and2 (by omega) hi]
        refine ⟨rfl, fun hin => ?_⟩
        simp only [Bool.and_eq_true, decide_eq_true_eq] at hin
        have hci : (w i).toNatClampNeg = j := by rw [hin.1]; exact fc_cl (k := 7) (by omega) (by omega)
        unfold sp_nw
        simp [hci]
      · have hne : ¬ w p = nI k := by
          rw [hwp]
          intro q
          exact hjk ((nI_eq (by omega) (by omega)).mp q)
        simp only [hp, ha, hne, decide_true, decide_false, Bool.true_and, Bool.false_and, Bool.and_true, if_false]
        unfold sp_nw
        simp only [hp, ha, hcl, decide_true, Bool.true_and]
        have : (decide (j < k + 1)) = decide (j < k) := by
          by_cases h : j < k
          · simp [h, show j < k + 1 by omega]
          · simp [h, show ¬ j < k + 1 by omega]
        rw [this]
        simp
    · have ha' : sp_aw wk mn p = false := by simpa using ha
      unfold sp_nw
      simp [ha', hp]
  · unfold sp_nw
    simp [hp]
/-- who has acted, a minute on -/
def sp_ac (ac : Nat → Int32) (i : Nat) : Nat → Int32 := fun p => if p < i then (if 0 < ac p - 1 then ac p - 1 else 0) else ac p
/-- the State at a, a minute on, before any smoke -/
def sp_tick (mi : fc_Mi) (a b n m : Nat) : fc_Mi := fc_u (fc_ur (fc_ur mi (a + 3) (sp_nw n (mi (a + 1)) (mi (b + 7)) (mi (a + 3)) (mi a 1) m)) (a + 2) (sp_ac (mi (a + 2)) 5)) a 1 (mi a 1 + 1)
def sp_passQ (mi : fc_Mi) (ml : fc_Ml) (mr : fc_Mr) (a b n m : Nat) : fc_Q :=
  if mi b 14 ≤ mi a 1 + 1 then fc_is (some (.int 1)) (sp_smoke (sp_tick mi a b n m) a b) ml mr else fc_is (some (.int 0)) (sp_tick mi a b n m) ml mr
theorem l_pass2 (hS : fc_S mr a) (hL : fc_L mr b) (hab : a + 8 ≤ b) (hN : fc_LN mi b n m t) (hw : ∀ p, p < n → ∃ j, j < m ∧ mi (a + 1) p = nI j) : ∀ (j i : Nat) (c : Int32) (mm : fc_Mi), i + j = 5 → c = nI i → mm = fc_ur (fc_ur mi (a + 3) (sp_nw n (mi (a + 1)) (mi (b + 7)) (mi (a + 3)) (mi a 1) m)) (a + 2) (sp_ac (mi (a + 2)) i) → fc_T E mX7_pass (d + 2) (0, 0) fc_sh 38 [some (.ref a), some (.ref b), some (.int c)] [] mm ml mr (sp_passQ mi ml mr a b n m) := by
  intro j
  induction j with
  | zero =>
    intro i c mm hi hc hm
    subst hc
    have hr : mm (a + 2) = sp_ac (mi (a + 2)) i := by rw [hm, fc_ur_row]
    refine fc_run oX7_pass (fun pc => pc == 38) 400 ?_
    refine And.intro (fun h40 => ?_) (fun h40 => ?_)
    · refine And.intro (fc_S_0 hS) ?_
      refine And.intro (fc_S_0 hS) ?_
      have hi5 : i = 5 := by omega
      subst hi5
      refine And.intro (fc_S_0 hS) ?_
      refine And.intro (fc_L_0 hL) ?_
      refine And.intro (fun h85 => ?_) (fun h85 => ?_)
      · have hb : fc_u mm a 1 (mm a 1 + 1) a 1 = mi a 1 + 1 ∧ fc_u mm a 1 (mm a 1 + 1) b 14 = mi b 14 := by
          refine ⟨?_, ?_⟩
          · rw [fc_u_at, hm, fc_ur_off _ _ (by omega), fc_ur_off _ _ (by omega)]
          · rw [fc_u_off _ _ _ (by omega), hm, fc_ur_off _ _ (by omega), fc_ur_off _ _ (by omega)]
        rw [hb.1, hb.2] at h85
        have ht : fc_u mm a 1 (mm a 1 + 1) = sp_tick mi a b n m := by
          unfold sp_tick
          rw [hm, fc_ur_off (b := a) _ _ (by omega), fc_ur_off (b := a) _ _ (by omega)]
        rw [ht]
        refine And.intro (fc_S_0 hS) (Exists.intro _ (And.intro (c_riseSmoke hS hL hab) ?_))
        rintro _ _ _ _ ⟨rfl, rfl, rfl, rfl⟩
        refine And.intro (by first | exact Or.inl rfl | exact Or.inr rfl | exact fc_bb _ | assumption) ?_
        unfold sp_passQ
        first | (rw [if_neg h85]; exact ⟨rfl, rfl, rfl, rfl⟩) | (rw [if_pos h85]; exact ⟨rfl, rfl, rfl, rfl⟩)
      · have hb : fc_u mm a 1 (mm a 1 + 1) a 1 = mi a 1 + 1 ∧ fc_u mm a 1 (mm a 1 + 1) b 14 = mi b 14 := by
          refine ⟨?_, ?_⟩
          · rw [fc_u_at, hm, fc_ur_off _ _ (by omega), fc_ur_off _ _ (by omega)]
          · rw [fc_u_off _ _ _ (by omega), hm, fc_ur_off _ _ (by omega), fc_ur_off _ _ (by omega)]
        rw [hb.1, hb.2] at h85
        have ht : fc_u mm a 1 (mm a 1 + 1) = sp_tick mi a b n m := by
          unfold sp_tick
          rw [hm, fc_ur_off (b := a) _ _ (by omega), fc_ur_off (b := a) _ _ (by omega)]
        rw [ht]
        refine And.intro (by first | exact Or.inl rfl | exact Or.inr rfl | exact fc_bb _ | assumption) ?_
        unfold sp_passQ
        first | (rw [if_neg h85]; exact ⟨rfl, rfl, rfl, rfl⟩) | (rw [if_pos h85]; exact ⟨rfl, rfl, rfl, rfl⟩)
    · exact absurd (by rw [show i = 5 by omega]; decide) h40
  | succ j ih =>
    intro i c mm hi hc hm
    subst hc
    have hr : mm (a + 2) = sp_ac (mi (a + 2)) i := by rw [hm, fc_ur_row]
    refine fc_run oX7_pass (fun pc => pc == 38) 400 ?_
    refine And.intro (fun h40 => ?_) (fun h40 => ?_)
    · exact absurd h40 (nI_ge (b := 5) (by omega) (by omega))
    · refine And.intro (fc_S_0 hS) (Exists.intro _ (And.intro (fc_S_r3 hS) ?_))
      refine And.intro (fc_S_0 hS) (Exists.intro _ (And.intro (fc_S_r3 hS) ?_))
      refine Exists.intro _ (Exists.intro _ (And.intro (fc_S_2 hS) (And.intro (by first | assumption | exact fc_ix_nI (by omega) (by omega) | exact fc_ix_nI (by assumption) (by omega)) ?_)))
      refine Exists.intro _ (Exists.intro _ (And.intro (fc_S_2 hS) (And.intro (by first | assumption | exact fc_ix_nI (by omega) (by omega) | exact fc_ix_nI (by assumption) (by omega)) ?_)))
      exact ih (i + 1) _ _ (by omega) (fc_inc i) (by
              rw [hm, fc_u_ur]
              refine fc_rowE (fun j => ?_)
              rw [fc_ur_row]
              unfold sp_ac
              by_cases h1 : j = i
              · subst h1; simp
              · simp [h1, show (j < i + 1) ↔ (j < i) by omega])

theorem l_pass1 (hS : fc_S mr a) (hL : fc_L mr b) (hab : a + 8 ≤ b) (hN : fc_LN mi b n m t) (hw : ∀ p, p < n → ∃ j, j < m ∧ mi (a + 1) p = nI j) : ∀ (j i : Nat) (c : Int32) (mm : fc_Mi), i + j = m → c = nI i → mm = fc_ur mi (a + 3) (sp_nw n (mi (a + 1)) (mi (b + 7)) (mi (a + 3)) (mi a 1) i) → fc_T E mX7_pass (d + 2) (0, 0) fc_sh 2 [some (.ref a), some (.ref b), some (.int c)] [] mm ml mr (sp_passQ mi ml mr a b n m) := by
  intro j
  induction j with
  | zero =>
    intro i c mm hi hc hm
    subst hc
    have hNm : mm b 10 = nI m := by rw [hm, fc_ur_off _ _ (by omega)]; exact hN.2.2.1
    have hm7 := hN.2.2.2.1
    have h5 := hN.2.1
    have hN2 : mm b 12 = nI n := by rw [hm, fc_ur_off _ _ (by omega)]; exact hN.1
    refine fc_run oX7_pass (fun pc => pc == 2 || pc == 38) 400 ?_
    refine And.intro (fc_L_0 hL) ?_
    refine And.intro (fun h7 => ?_) (fun h7 => ?_)
    · exact l_pass2 hS hL hab hN hw 5 0 _ _ (by omega) rfl (by rw [hm, show i = m by omega]; symm; rw [show sp_ac (mi (a + 2)) 0 = (fc_ur mi (a + 3) (sp_nw n (mi (a + 1)) (mi (b + 7)) (mi (a + 3)) (mi a 1) m)) (a + 2) from by rw [fc_ur_off _ _ (by omega)]; funext p; simp [sp_ac]]; exact fc_ur_self _ _)
    · exact absurd (by rw [hNm]; exact nI_le (by omega) (by omega)) h7
  | succ j ih =>
    intro i c mm hi hc hm
    subst hc
    have hNm : mm b 10 = nI m := by rw [hm, fc_ur_off _ _ (by omega)]; exact hN.2.2.1
    have hm7 := hN.2.2.2.1
    have h5 := hN.2.1
    have hN2 : mm b 12 = nI n := by rw [hm, fc_ur_off _ _ (by omega)]; exact hN.1
    refine fc_run oX7_pass (fun pc => pc == 2 || pc == 38) 400 ?_
    refine And.intro (fc_L_0 hL) ?_
    refine And.intro (fun h7 => ?_) (fun h7 => ?_)
    · exact absurd h7 (by rw [hNm]; exact nI_ge (by omega) (by omega))
    · refine And.intro (fc_S_0 hS) (Exists.intro _ (And.intro (c_bitsAt hS hL _ hN2 h5) ?_))
      rintro _ _ _ _ ⟨rfl, rfl, rfl, rfl⟩
      refine And.intro (fc_S_0 hS) ?_
      refine And.intro (fc_L_0 hL) (Exists.intro _ (And.intro (c_awakeBits hL _ hN2 h5) ?_))
      rintro _ _ _ _ ⟨rfl, rfl, rfl, rfl⟩
      refine And.intro (fc_S_0 hS) (Exists.intro _ (And.intro (c_shareNews hS hL hab _ hN2 h5) ?_))
      rintro _ _ _ _ ⟨rfl, rfl, rfl, rfl⟩
      exact ih (i + 1) _ _ (by omega) (fc_inc i) (by
              rw [hm, fc_ur_row, fc_ur_ur, fc_ur_off (b := a + 1) _ _ (by omega), fc_ur_off (b := b + 7) _ _ (by omega), fc_ur_off (b := a) _ _ (by omega)]
              exact fc_rowE (fun p => sp_nw_step (m := m) h5 hm7 (by omega) hw p))

theorem c_pass (hS : fc_S mr a) (hL : fc_L mr b) (hab : a + 8 ≤ b) (hN : fc_LN mi b n m t) (hw : ∀ p, p < n → ∃ j, j < m ∧ mi (a + 1) p = nI j) : fc_R E mX7_pass (d + 2) fc_sh [.ref a, .ref b] mi ml mr (sp_passQ mi ml mr a b n m) := by
  refine fc_met rfl (Nat.le_of_ble_eq_true rfl) (fc_run oX7_pass (fun pc => pc == 2) 400 ?_)
  exact l_pass1 hS hL hab hN hw m 0 _ _ (by omega) rfl (by symm; rw [show sp_nw n (mi (a + 1)) (mi (b + 7)) (mi (a + 3)) (mi a 1) 0 = mi (a + 3) from by funext p; simp [sp_nw]]; exact fc_ur_self _ _)

end M17
end
section
/-! ===== begin, copy, what is kept ===== -/
section M18
variable {E : fc_E} {d : Nat} {mi : fc_Mi} {ml : fc_Ml} {mr : fc_Mr} {a b n m t : Nat}
/-- f, but g below i -/
def sp_to (f g : Nat → Int32) (i : Nat) : Nat → Int32 := fun p => if p < i then g p else f p
theorem sp_to_0 (f g : Nat → Int32) : sp_to f g 0 = f := by funext p; simp [sp_to]
theorem sp_to_s (f g : Nat → Int32) (i : Nat) : (fun j => if j = i then g i else sp_to f g i j) = sp_to f g (i + 1) := by
  funext j
  unfold sp_to
  by_cases h1 : j = i
  · subst h1; simp
  · simp [h1, show (j < i + 1) ↔ (j < i) by omega]
theorem sp_to_cpy (f g : Nat → Int32) (k : Nat) : va_cpy g f 0 0 k = sp_to f g k := by
  funext j
  unfold va_cpy sp_to
  simp
/-- the State at a as it begins: persons below i, things below k -/
def sp_bg (mi : fc_Mi) (a b i k : Nat) : fc_Mi :=
  fc_ur (fc_ur (fc_ur (fc_ur (fc_ur (fc_ur (fc_ur (fc_u (fc_u mi a 0 0) a 1 0) (a + 1) (sp_to (mi (a + 1)) (mi (b + 6)) i)) (a + 2) (sp_to (mi (a + 2)) (fun _ => 0) i)) (a + 3) (sp_to (mi (a + 3)) (fun p => (1 : Int32) <<< (nI p &&& 31)) i)) (a + 4) (sp_to (mi (a + 4)) (fun _ => 0) i)) (a + 5) (sp_to (mi (a + 5)) (fun _ => 0) i)) (a + 6) (sp_to (mi (a + 6)) (mi (b + 9)) k)) (a + 7) (sp_to (mi (a + 7)) (mi (b + 9)) k)
theorem fc_u_cm {f : fc_Mi} {x z i : Nat} {g : Nat → Int32} {v : Int32} (h : x ≠ z) : fc_u (fc_ur f x g) z i v = fc_ur (fc_u f z i v) x g := by
  funext q
  unfold fc_u fc_ur
  by_cases e : q = z
  · subst e; simp [Ne.symm h]
  · by_cases e2 : q = x <;> simp [e, e2, h]
theorem sp_bg_row (mi : fc_Mi) (a b i k : Nat) {x : Nat} (h : x < a ∨ a + 7 < x) : sp_bg mi a b i k x = mi x := by
  unfold sp_bg
  rw [fc_ur_off _ _ (by omega), fc_ur_off _ _ (by omega), fc_ur_off _ _ (by omega), fc_ur_off _ _ (by omega), fc_ur_off _ _ (by omega), fc_ur_off _ _ (by omega), fc_ur_off _ _ (by omega), fc_u_off _ _ _ (by omega), fc_u_off _ _ _ (by omega)]
theorem l_begin2 (hS : fc_S mr a) (hL : fc_L mr b) (hab : a + 8 ≤ b) : ∀ (j i : Nat) (c : Int32) (mm : fc_Mi), i + j = 6 → c = nI i → mm = sp_bg mi a b 5 i → fc_T E mX7_begin d (0, 0) fc_sh 67 [some (.ref a), some (.ref b), some (.int c)] [] mm ml mr (fc_is none (sp_bg mi a b 5 6) ml mr) := by
  intro j
  induction j with
  | zero =>
    intro i c mm hi hc hm
    subst hc
    have hr : ∀ mx : fc_Mi, (∀ x, x < a ∨ a + 7 < x → mx x = mi x) → mx (b + 9) = mi (b + 9) := fun mx h => h _ (by omega)
    have hg : mm (b + 9) = mi (b + 9) := by rw [hm]; exact sp_bg_row _ _ _ _ _ (by omega)
    refine fc_run oX7_begin (fun pc => pc == 67) 400 ?_
    refine And.intro (fun h70 => ?_) (fun h70 => ?_)
    · exact ⟨rfl, by rw [hm, show i = 6 by omega], rfl, rfl⟩
    · exact absurd (by rw [show i = 6 by omega]; decide) h70
  | succ j ih =>
    intro i c mm hi hc hm
    subst hc
    have hr : ∀ mx : fc_Mi, (∀ x, x < a ∨ a + 7 < x → mx x = mi x) → mx (b + 9) = mi (b + 9) := fun mx h => h _ (by omega)
    have hg : mm (b + 9) = mi (b + 9) := by rw [hm]; exact sp_bg_row _ _ _ _ _ (by omega)
    refine fc_run oX7_begin (fun pc => pc == 67) 400 ?_
    refine And.intro (fun h70 => ?_) (fun h70 => ?_)
    · exact absurd h70 (nI_ge (b := 6) (by omega) (by omega))
    · refine And.intro (fc_S_0 hS) (Exists.intro _ (And.intro (fc_S_r7 hS) ?_))
      refine And.intro (fc_L_0 hL) (Exists.intro _ (And.intro (fc_L_r8 hL) ?_))
      refine Exists.intro _ (Exists.intro _ (And.intro (fc_L_9 hL) (And.intro (by first | assumption | exact fc_ix_nI (by omega) (by omega) | exact fc_ix_nI (by assumption) (by omega)) ?_)))
      rw [hg]
      refine Exists.intro _ (Exists.intro _ (And.intro (fc_S_6 hS) (And.intro (by first | assumption | exact fc_ix_nI (by omega) (by omega) | exact fc_ix_nI (by assumption) (by omega)) ?_)))
      refine And.intro (fc_S_0 hS) (Exists.intro _ (And.intro (fc_S_r8 hS) ?_))
      refine And.intro (fc_L_0 hL) (Exists.intro _ (And.intro (fc_L_r8 hL) ?_))
      refine Exists.intro _ (Exists.intro _ (And.intro (fc_L_9 hL) (And.intro (by first | assumption | exact fc_ix_nI (by omega) (by omega) | exact fc_ix_nI (by assumption) (by omega)) ?_)))
      rw [fc_u_off (b := b + 9) _ _ _ (by omega), hg]
      refine Exists.intro _ (Exists.intro _ (And.intro (fc_S_7 hS) (And.intro (by first | assumption | exact fc_ix_nI (by omega) (by omega) | exact fc_ix_nI (by assumption) (by omega)) ?_)))
      exact ih (i + 1) _ _ (by omega) (fc_inc i) (by
              rw [hm]
              unfold sp_bg
              rw [fc_u_cm (x := a + 7) (z := a + 6) (by omega), fc_u_ur, fc_u_ur]
              rw [sp_to_s (mi (a + 6)) (mi (b + 9)), sp_to_s (mi (a + 7)) (mi (b + 9))])

theorem l_begin1 (hS : fc_S mr a) (hL : fc_L mr b) (hab : a + 8 ≤ b) : ∀ (j i : Nat) (c : Int32) (mm : fc_Mi), i + j = 5 → c = nI i → mm = sp_bg mi a b i 0 → fc_T E mX7_begin d (0, 0) fc_sh 12 [some (.ref a), some (.ref b), some (.int c)] [] mm ml mr (fc_is none (sp_bg mi a b 5 6) ml mr) := by
  intro j
  induction j with
  | zero =>
    intro i c mm hi hc hm
    subst hc
    have hg : mm (b + 6) = mi (b + 6) := by rw [hm]; exact sp_bg_row _ _ _ _ _ (by omega)
    refine fc_run oX7_begin (fun pc => pc == 12 || pc == 67) 400 ?_
    refine And.intro (fun h14 => ?_) (fun h14 => ?_)
    · exact l_begin2 hS hL hab 6 0 _ _ (by omega) rfl (by rw [hm, show i = 5 by omega])
    · exact absurd (by rw [show i = 5 by omega]; decide) h14
  | succ j ih =>
    intro i c mm hi hc hm
    subst hc
    have hg : mm (b + 6) = mi (b + 6) := by rw [hm]; exact sp_bg_row _ _ _ _ _ (by omega)
    refine fc_run oX7_begin (fun pc => pc == 12 || pc == 67) 400 ?_
    refine And.intro (fun h14 => ?_) (fun h14 => ?_)
    · exact absurd h14 (nI_ge (b := 5) (by omega) (by omega))
    · refine And.intro (fc_S_0 hS) (Exists.intro _ (And.intro (fc_S_r2 hS) ?_))
      refine And.intro (fc_L_0 hL) (Exists.intro _ (And.intro (fc_L_r5 hL) ?_))
      refine Exists.intro _ (Exists.intro _ (And.intro (fc_L_6 hL) (And.intro (by first | assumption | exact fc_ix_nI (by omega) (by omega) | exact fc_ix_nI (by assumption) (by omega)) ?_)))
      rw [hg]
      refine Exists.intro _ (Exists.intro _ (And.intro (fc_S_1 hS) (And.intro (by first | assumption | exact fc_ix_nI (by omega) (by omega) | exact fc_ix_nI (by assumption) (by omega)) ?_)))
      refine And.intro (fc_S_0 hS) (Exists.intro _ (And.intro (fc_S_r3 hS) ?_))
      refine Exists.intro _ (Exists.intro _ (And.intro (fc_S_2 hS) (And.intro (by first | assumption | exact fc_ix_nI (by omega) (by omega) | exact fc_ix_nI (by assumption) (by omega)) ?_)))
      refine And.intro (fc_S_0 hS) (Exists.intro _ (And.intro (fc_S_r4 hS) ?_))
      refine Exists.intro _ (Exists.intro _ (And.intro (fc_S_3 hS) (And.intro (by first | assumption | exact fc_ix_nI (by omega) (by omega) | exact fc_ix_nI (by assumption) (by omega)) ?_)))
      refine And.intro (fc_S_0 hS) (Exists.intro _ (And.intro (fc_S_r5 hS) ?_))
      refine Exists.intro _ (Exists.intro _ (And.intro (fc_S_4 hS) (And.intro (by first | assumption | exact fc_ix_nI (by omega) (by omega) | exact fc_ix_nI (by assumption) (by omega)) ?_)))
      refine And.intro (fc_S_0 hS) (Exists.intro _ (And.intro (fc_S_r6 hS) ?_))
      refine Exists.intro _ (Exists.intro _ (And.intro (fc_S_5 hS) (And.intro (by first | assumption | exact fc_ix_nI (by omega) (by omega) | exact fc_ix_nI (by assumption) (by omega)) ?_)))
      exact ih (i + 1) _ _ (by omega) (fc_inc i) (by
              rw [hm]
              unfold sp_bg
              rw [fc_u_cm (x := a + 7) (z := a + 1) (by omega), fc_u_cm (x := a + 6) (z := a + 1) (by omega), fc_u_cm (x := a + 5) (z := a + 1) (by omega), fc_u_cm (x := a + 4) (z := a + 1) (by omega), fc_u_cm (x := a + 3) (z := a + 1) (by omega), fc_u_cm (x := a + 2) (z := a + 1) (by omega), fc_u_ur]
              rw [fc_u_cm (x := a + 7) (z := a + 2) (by omega), fc_u_cm (x := a + 6) (z := a + 2) (by omega), fc_u_cm (x := a + 5) (z := a + 2) (by omega), fc_u_cm (x := a + 4) (z := a + 2) (by omega), fc_u_cm (x := a + 3) (z := a + 2) (by omega), fc_u_ur]
              rw [fc_u_cm (x := a + 7) (z := a + 3) (by omega), fc_u_cm (x := a + 6) (z := a + 3) (by omega), fc_u_cm (x := a + 5) (z := a + 3) (by omega), fc_u_cm (x := a + 4) (z := a + 3) (by omega), fc_u_ur]
              rw [fc_u_cm (x := a + 7) (z := a + 4) (by omega), fc_u_cm (x := a + 6) (z := a + 4) (by omega), fc_u_cm (x := a + 5) (z := a + 4) (by omega), fc_u_ur]
              rw [fc_u_cm (x := a + 7) (z := a + 5) (by omega), fc_u_cm (x := a + 6) (z := a + 5) (by omega), fc_u_ur]
              rw [sp_to_s (mi (a + 1)) (mi (b + 6)), sp_to_s (mi (a + 2)) (fun _ => 0), sp_to_s (mi (a + 3)) (fun p => (1 : Int32) <<< (nI p &&& 31)), sp_to_s (mi (a + 4)) (fun _ => 0), sp_to_s (mi (a + 5)) (fun _ => 0)])

theorem c_begin (hS : fc_S mr a) (hL : fc_L mr b) (hab : a + 8 ≤ b) : fc_R E mX7_begin d fc_sh [.ref a, .ref b] mi ml mr (fc_is none (sp_bg mi a b 5 6) ml mr) := by
  refine fc_met rfl (Nat.le_of_ble_eq_true rfl) (fc_run oX7_begin (fun pc => pc == 12) 400 ?_)
  refine And.intro (fc_S_0 hS) ?_
  refine And.intro (fc_S_0 hS) ?_
  refine l_begin1 (mi := mi) hS hL hab 5 0 _ _ (by omega) rfl ?_
  unfold sp_bg
  simp only [sp_to_0]
  have e : ∀ (f : fc_Mi) (x : Nat), f x = mi x → fc_ur f x (mi x) = f := fun f x h => by rw [← h]; exact fc_ur_self _ _
  have e0 : ∀ x, x ≠ a → (fc_u (fc_u mi a 0 0) a 1 0) x = mi x := fun x h => by rw [fc_u_off _ _ _ h, fc_u_off _ _ _ h]
  rw [e _ (a + 1) (e0 _ (by omega)), e _ (a + 2) (e0 _ (by omega)), e _ (a + 3) (e0 _ (by omega)), e _ (a + 4) (e0 _ (by omega)), e _ (a + 5) (e0 _ (by omega)), e _ (a + 6) (e0 _ (by omega)), e _ (a + 7) (e0 _ (by omega))]

/-- the State at a as the one at c is -/
def sp_cp (mi : fc_Mi) (a c : Nat) : fc_Mi :=
  fc_ur (fc_ur (fc_ur (fc_ur (fc_ur (fc_ur (fc_ur (fc_u (fc_u mi a 0 (mi c 0)) a 1 (mi c 1)) (a + 1) (sp_to (mi (a + 1)) (mi (c + 1)) 5)) (a + 2) (sp_to (mi (a + 2)) (mi (c + 2)) 5)) (a + 3) (sp_to (mi (a + 3)) (mi (c + 3)) 5)) (a + 4) (sp_to (mi (a + 4)) (mi (c + 4)) 5)) (a + 5) (sp_to (mi (a + 5)) (mi (c + 5)) 5)) (a + 6) (sp_to (mi (a + 6)) (mi (c + 6)) 6)) (a + 7) (sp_to (mi (a + 7)) (mi (c + 7)) 6)
theorem c_copy {c : Nat} (hS : fc_S mr a) (hC : fc_S mr c) (hac : a + 8 ≤ c ∨ c + 8 ≤ a) : fc_R E mX7_copy d fc_sh [.ref a, .ref c] mi ml mr (fc_is none (sp_cp mi a c) ml mr) := by
  refine fc_met rfl (Nat.le_of_ble_eq_true rfl) (fc_run oX7_copy (fun _ => false) 400 ?_)
  refine And.intro (fc_S_0 hC) ?_
  refine And.intro (fc_S_0 hS) ?_
  refine And.intro (fc_S_0 hC) ?_
  refine And.intro (fc_S_0 hS) ?_
  refine And.intro (fc_S_0 hC) (Exists.intro _ (And.intro (fc_S_r2 hC) ?_))
  refine And.intro (fc_S_0 hS) (Exists.intro _ (And.intro (fc_S_r2 hS) ?_))
  refine Exists.intro _ (Exists.intro _ (And.intro (fc_S_1 hC) (And.intro (fc_S_1 hS) (And.intro (by decide) ?_))))
  refine And.intro (fc_S_0 hC) (Exists.intro _ (And.intro (fc_S_r3 hC) ?_))
  refine And.intro (fc_S_0 hS) (Exists.intro _ (And.intro (fc_S_r3 hS) ?_))
  refine Exists.intro _ (Exists.intro _ (And.intro (fc_S_2 hC) (And.intro (fc_S_2 hS) (And.intro (by decide) ?_))))
  refine And.intro (fc_S_0 hC) (Exists.intro _ (And.intro (fc_S_r4 hC) ?_))
  refine And.intro (fc_S_0 hS) (Exists.intro _ (And.intro (fc_S_r4 hS) ?_))
  refine Exists.intro _ (Exists.intro _ (And.intro (fc_S_3 hC) (And.intro (fc_S_3 hS) (And.intro (by decide) ?_))))
  refine And.intro (fc_S_0 hC) (Exists.intro _ (And.intro (fc_S_r5 hC) ?_))
  refine And.intro (fc_S_0 hS) (Exists.intro _ (And.intro (fc_S_r5 hS) ?_))
  refine Exists.intro _ (Exists.intro _ (And.intro (fc_S_4 hC) (And.intro (fc_S_4 hS) (And.intro (by decide) ?_))))
  refine And.intro (fc_S_0 hC) (Exists.intro _ (And.intro (fc_S_r6 hC) ?_))
  refine And.intro (fc_S_0 hS) (Exists.intro _ (And.intro (fc_S_r6 hS) ?_))
  refine Exists.intro _ (Exists.intro _ (And.intro (fc_S_5 hC) (And.intro (fc_S_5 hS) (And.intro (by decide) ?_))))
  refine And.intro (fc_S_0 hC) (Exists.intro _ (And.intro (fc_S_r7 hC) ?_))
  refine And.intro (fc_S_0 hS) (Exists.intro _ (And.intro (fc_S_r7 hS) ?_))
  refine Exists.intro _ (Exists.intro _ (And.intro (fc_S_6 hC) (And.intro (fc_S_6 hS) (And.intro (by decide) ?_))))
  refine And.intro (fc_S_0 hC) (Exists.intro _ (And.intro (fc_S_r8 hC) ?_))
  refine And.intro (fc_S_0 hS) (Exists.intro _ (And.intro (fc_S_r8 hS) ?_))
  refine Exists.intro _ (Exists.intro _ (And.intro (fc_S_7 hC) (And.intro (fc_S_7 hS) (And.intro (by decide) ?_))))
  refine ⟨rfl, ?_, rfl, rfl⟩
  unfold sp_cp
  have u1 : ∀ (f : fc_Mi) (j : Nat) (v : Int32) (x : Nat), x ≠ a → fc_u f a j v x = f x := fun f j v x h => fc_u_off f j v h
  have u2 : ∀ (f : fc_Mi) (r x : Nat) (g : Nat → Int32), x ≠ r → fc_ur f r g x = f x := fun f r x g h => fc_ur_off f g h
  have k0 : Int32.toNatClampNeg 0 = 0 := rfl
  have k5 : Int32.toNatClampNeg 5 = 5 := rfl
  have k6 : Int32.toNatClampNeg 6 = 6 := rfl
  simp only [k0, k5, k6, sp_to_cpy]
  have w1 : ∀ (f : fc_Mi) (v : Int32), fc_u f a 0 v c 1 = f c 1 := fun f v => fc_u_nj f a c v (by decide)
  rw [w1]
  rw [u1 _ _ _ (c + 1) (by omega), u1 _ _ _ (c + 1) (by omega), u1 _ _ _ (a + 1) (by omega), u1 _ _ _ (a + 1) (by omega)]
  rw [u2 _ _ (c + 2) _ (by omega), u1 _ _ _ (c + 2) (by omega), u1 _ _ _ (c + 2) (by omega), u2 _ _ (a + 2) _ (by omega), u1 _ _ _ (a + 2) (by omega), u1 _ _ _ (a + 2) (by omega)]
  rw [u2 _ _ (c + 3) _ (by omega), u2 _ _ (c + 3) _ (by omega), u1 _ _ _ (c + 3) (by omega), u1 _ _ _ (c + 3) (by omega), u2 _ _ (a + 3) _ (by omega), u2 _ _ (a + 3) _ (by omega), u1 _ _ _ (a + 3) (by omega), u1 _ _ _ (a + 3) (by omega)]
  rw [u2 _ _ (c + 4) _ (by omega), u2 _ _ (c + 4) _ (by omega), u2 _ _ (c + 4) _ (by omega), u1 _ _ _ (c + 4) (by omega), u1 _ _ _ (c + 4) (by omega), u2 _ _ (a + 4) _ (by omega), u2 _ _ (a + 4) _ (by omega), u2 _ _ (a + 4) _ (by omega), u1 _ _ _ (a + 4) (by omega), u1 _ _ _ (a + 4) (by omega)]
  rw [u2 _ _ (c + 5) _ (by omega), u2 _ _ (c + 5) _ (by omega), u2 _ _ (c + 5) _ (by omega), u2 _ _ (c + 5) _ (by omega), u1 _ _ _ (c + 5) (by omega), u1 _ _ _ (c + 5) (by omega), u2 _ _ (a + 5) _ (by omega), u2 _ _ (a + 5) _ (by omega), u2 _ _ (a + 5) _ (by omega), u2 _ _ (a + 5) _ (by omega), u1 _ _ _ (a + 5) (by omega), u1 _ _ _ (a + 5) (by omega)]
  rw [u2 _ _ (c + 6) _ (by omega), u2 _ _ (c + 6) _ (by omega), u2 _ _ (c + 6) _ (by omega), u2 _ _ (c + 6) _ (by omega), u2 _ _ (c + 6) _ (by omega), u1 _ _ _ (c + 6) (by omega), u1 _ _ _ (c + 6) (by omega), u2 _ _ (a + 6) _ (by omega), u2 _ _ (a + 6) _ (by omega), u2 _ _ (a + 6) _ (by omega), u2 _ _ (a + 6) _ (by omega), u2 _ _ (a + 6) _ (by omega), u1 _ _ _ (a + 6) (by omega), u1 _ _ _ (a + 6) (by omega)]
  rw [u2 _ _ (c + 7) _ (by omega), u2 _ _ (c + 7) _ (by omega), u2 _ _ (c + 7) _ (by omega), u2 _ _ (c + 7) _ (by omega), u2 _ _ (c + 7) _ (by omega), u2 _ _ (c + 7) _ (by omega), u1 _ _ _ (c + 7) (by omega), u1 _ _ _ (c + 7) (by omega), u2 _ _ (a + 7) _ (by omega), u2 _ _ (a + 7) _ (by omega), u2 _ _ (a + 7) _ (by omega), u2 _ _ (a + 7) _ (by omega), u2 _ _ (a + 7) _ (by omega), u2 _ _ (a + 7) _ (by omega), u1 _ _ _ (a + 7) (by omega), u1 _ _ _ (a + 7) (by omega)]

end M18
end
section
/-! ===== the law of what binds ===== -/
section M19
variable {E : fc_E} {d : Nat} {mi : fc_Mi} {ml : fc_Ml} {mr : fc_Mr} {a b n m t : Nat}
def sp_op (z ck pr cr jd : Int32) : Int32 := if z = -259 then jd else if z = -258 then cr else if z = -257 then pr else if z = -256 then ck else z
def sp_jn (z l r : Int32) : Int32 := if z = -147 then (if l = 0 then 0 else if r = 0 then 0 else 1) else if z = -61 then (if l = r then 1 else 0) else if z = -60 then (if l < r then 1 else 0) else if z = -45 then l - r else if z = -43 then l + r else if z = -42 then l * r else (if l = 0 then (if r = 0 then 0 else 1) else 1)
theorem fc_toI {x : Int32} {k : Int} (z : Int32) (hz : z.toInt = k) : x.toInt = k ↔ x = z := by
  rw [← hz]
  exact Int32.toInt_inj
theorem fc_ofI {x : Int32} {k : Int} (z : Int32) (hz : Int32.ofInt k = z) : x = Int32.ofInt k ↔ x = z := by rw [hz]
theorem c_operand (z ck pr cr jd : Int32) : fc_R E mX2_operand d fc_sh [.int z, .int ck, .int pr, .int cr, .int jd] mi ml mr (fc_is (some (.int (sp_op z ck pr cr jd))) mi ml mr) := by
  refine fc_met rfl (Nat.le_of_ble_eq_true rfl) (fc_run oX2_operand (fun _ => false) 400 ?_)
  refine And.intro (fun h1 => ?_) (fun _ => And.intro (And.intro (fun h1 => ?_) (And.intro (fun h1 => ?_) (And.intro (fun h1 => ?_) (And.intro (fun h1 => ?_) trivial)))) (by decide))
  · have n1 : ¬ z = -259 := by rintro rfl; revert h1; decide
    have n2 : ¬ z = -258 := by rintro rfl; revert h1; decide
    have n3 : ¬ z = -257 := by rintro rfl; revert h1; decide
    have n4 : ¬ z = -256 := by rintro rfl; revert h1; decide
    exact ⟨by simp [sp_op, n1, n2, n3, n4], rfl, rfl, rfl⟩
  · replace h1 := (fc_ofI (-259) (by decide)).mp h1
    subst h1
    exact ⟨by simp [sp_op], rfl, rfl, rfl⟩
  · replace h1 := (fc_ofI (-258) (by decide)).mp h1
    subst h1
    exact ⟨by simp [sp_op], rfl, rfl, rfl⟩
  · replace h1 := (fc_ofI (-257) (by decide)).mp h1
    subst h1
    exact ⟨by simp [sp_op], rfl, rfl, rfl⟩
  · replace h1 := (fc_ofI (-256) (by decide)).mp h1
    subst h1
    exact ⟨by simp [sp_op], rfl, rfl, rfl⟩

theorem c_joined (z l r : Int32) : fc_R E mX2_joined d fc_sh [.int z, .int l, .int r] mi ml mr (fc_is (some (.int (sp_jn z l r))) mi ml mr) := by
  refine fc_met rfl (Nat.le_of_ble_eq_true rfl) (fc_run oX2_joined (fun _ => false) 400 ?_)
  refine And.intro (fun h1 => ?_) (fun h1_0 => And.intro (fun h1 => ?_) (fun h1_1 => And.intro (fun h1 => ?_) (fun h1_2 => And.intro (fun h1 => ?_) (fun h1_3 => And.intro (fun h1 => ?_) (fun h1_4 => And.intro (fun h1 => ?_) (fun h1_5 => ?_))))))
  · replace h1 := (fc_toI (-147) (by decide)).mp h1
    subst h1
    refine And.intro (fun h95 => ?_) (fun h95 => ?_)
    · exact ⟨by simp [sp_jn, h95], rfl, rfl, rfl⟩
    · refine And.intro (fun h99 => ?_) (fun h99 => ?_)
      · exact ⟨by simp [sp_jn, h95, h99], rfl, rfl, rfl⟩
      · exact ⟨by simp [sp_jn, h95, h99], rfl, rfl, rfl⟩
  · replace h1 := (fc_toI (-61) (by decide)).mp h1
    subst h1
    refine And.intro (fun h85 => ?_) (fun h85 => ?_)
    · exact ⟨by simp [sp_jn, h85], rfl, rfl, rfl⟩
    · exact ⟨by simp [sp_jn, h85], rfl, rfl, rfl⟩
  · replace h1 := (fc_toI (-60) (by decide)).mp h1
    subst h1
    refine And.intro (fun h74 => ?_) (fun h74 => ?_)
    · exact ⟨by simp [sp_jn, h74], rfl, rfl, rfl⟩
    · exact ⟨by simp [sp_jn, h74], rfl, rfl, rfl⟩
  · replace h1 := (fc_toI (-45) (by decide)).mp h1
    subst h1
    exact ⟨by simp [sp_jn], rfl, rfl, rfl⟩
  · replace h1 := (fc_toI (-43) (by decide)).mp h1
    subst h1
    exact ⟨by simp [sp_jn], rfl, rfl, rfl⟩
  · replace h1 := (fc_toI (-42) (by decide)).mp h1
    subst h1
    exact ⟨by simp [sp_jn], rfl, rfl, rfl⟩
  · have n0 : ¬ z = -147 := fun q => h1_0 ((fc_toI (-147) (by decide)).mpr q)
    have n1 : ¬ z = -61 := fun q => h1_1 ((fc_toI (-61) (by decide)).mpr q)
    have n2 : ¬ z = -60 := fun q => h1_2 ((fc_toI (-60) (by decide)).mpr q)
    have n3 : ¬ z = -45 := fun q => h1_3 ((fc_toI (-45) (by decide)).mpr q)
    have n4 : ¬ z = -43 := fun q => h1_4 ((fc_toI (-43) (by decide)).mpr q)
    have n5 : ¬ z = -42 := fun q => h1_5 ((fc_toI (-42) (by decide)).mpr q)
    refine And.intro (fun h109 => ?_) (fun h109 => ?_)
    · refine And.intro (fun h113 => ?_) (fun h113 => ?_)
      · exact ⟨by simp [sp_jn, n0, n1, n2, n3, n4, n5, h109, h113], rfl, rfl, rfl⟩
      · exact ⟨by simp [sp_jn, n0, n1, n2, n3, n4, n5, h109, h113], rfl, rfl, rfl⟩
    · exact ⟨by simp [sp_jn, n0, n1, n2, n3, n4, n5, h109], rfl, rfl, rfl⟩

/-- one step of the law's reckoning: how many values wait, and which -/
def sp_st (z ck pr cr jd : Int32) (s : Nat × (Nat → Int32)) : Nat × (Nat → Int32) :=
  if z = -146 then (if s.1 = 0 then s else (s.1, upd s.2 (s.1 - 1) (if s.2 (s.1 - 1) = 0 then 1 else 0)))
  else if z < 0 ∧ -256 < z then (if s.1 < 2 then s else (s.1 - 1, upd s.2 (s.1 - 2) (sp_jn z (s.2 (s.1 - 2)) (s.2 (s.1 - 1)))))
  else (if s.1 < 64 then (s.1 + 1, upd s.2 s.1 (sp_op z ck pr cr jd)) else s)
def sp_lw (code : Nat → Int32) (ck pr cr jd : Int32) (v0 : Nat → Int32) : Nat → Nat × (Nat → Int32)
  | 0 => (0, v0)
  | i + 1 => sp_st (code i) ck pr cr jd (sp_lw code ck pr cr jd v0 i)
def sp_val (s : Nat × (Nat → Int32)) : Int32 := if s.1 = 0 then 0 else s.2 0
theorem sp_st_le {z ck pr cr jd : Int32} {s : Nat × (Nat → Int32)} (h : s.1 ≤ 64) : (sp_st z ck pr cr jd s).1 ≤ 64 := by
  unfold sp_st
  split
  · split <;> simp [h]
  · split
    · split
      · exact h
      · show s.1 - 1 ≤ 64; omega
    · split
      · show s.1 + 1 ≤ 64; omega
      · exact h
theorem sp_lw_le {code : Nat → Int32} {ck pr cr jd : Int32} {v0 : Nat → Int32} : ∀ i, (sp_lw code ck pr cr jd v0 i).1 ≤ 64
  | 0 => Nat.zero_le _
  | i + 1 => sp_st_le (sp_lw_le i)
theorem fc_pm {T : Nat} (h : 1 ≤ T) : nI T - 1 = nI (T - 1) := by
  obtain ⟨k, rfl⟩ : ∃ k, T = k + 1 := ⟨T - 1, by omega⟩
  exact nI_pred k
theorem fc_ixp {T : Nat} (h : 1 ≤ T) (h2 : T ≤ 64) : fc_ix (nI T - 1) 64 (T - 1) := by rw [fc_pm h]; exact fc_ix_nI (by omega) (by omega)
theorem fc_m1 {T : Nat} (h : 1 ≤ T) : nI T + Int32.ofInt (-1) = nI (T - 1) := by
  obtain ⟨k, rfl⟩ : ∃ k, T = k + 1 := ⟨T - 1, by omega⟩
  exact pk_m1 k
theorem l_valueAt (hL : fc_L mr b) (ck pr cr jd : Int32) {len : Nat} (hlen : mi (b + 10) 2 = nI len) (hl : len ≤ 1000) : ∀ (j i : Nat) (c tp : Int32) (x7 : Option Value) (mm : fc_Mi), i + j = len → c = nI i → tp = nI (sp_lw (mi (b + 11)) ck pr cr jd (mi (b + 12)) i).1 → mm = fc_ur mi (b + 12) (sp_lw (mi (b + 11)) ck pr cr jd (mi (b + 12)) i).2 → fc_T E mX2_valueAt (d + 1) (0, 0) fc_sh 6 [some (.ref (b + 10)), some (.int ck), some (.int pr), some (.int cr), some (.int jd), some (.int tp), some (.int c), x7] [] mm ml mr (fc_is (some (.int (sp_val (sp_lw (mi (b + 11)) ck pr cr jd (mi (b + 12)) len)))) (fc_ur mi (b + 12) (sp_lw (mi (b + 11)) ck pr cr jd (mi (b + 12)) len).2) ml mr) := by
  intro j
  induction j with
  | zero =>
    intro i c tp x7 mm hi hc htp hm
    subst hc
    have hT : (sp_lw (mi (b + 11)) ck pr cr jd (mi (b + 12)) i).1 ≤ 64 := sp_lw_le i
    rcases hs : sp_lw (mi (b + 11)) ck pr cr jd (mi (b + 12)) i with ⟨T, V⟩
    rw [hs] at htp hm hT
    replace hT : T ≤ 64 := hT
    replace htp : tp = nI T := htp
    replace hm : mm = fc_ur mi (b + 12) V := hm
    subst htp
    have hc1 : mm (b + 10) 2 = nI len := by rw [hm, fc_ur_off _ _ (by omega)]; exact hlen
    have hc2 : mm (b + 11) = mi (b + 11) := by rw [hm, fc_ur_off _ _ (by omega)]
    have hr : mm (b + 12) = V := by rw [hm, fc_ur_row]
    refine fc_run oX2_valueAt (fun pc => pc == 6) 400 ?_
    refine And.intro (fc_L_10 hL) ?_
    refine And.intro (fun h12 => ?_) (fun h12 => ?_)
    · refine And.intro (fun h158 => ?_) (fun h158 => ?_)
      · have t158 : T = 0 := by
          have := (nI_ltI (b := 1) (by omega) (by omega)).mp h158
          omega
        exact ⟨by rw [show len = i by omega, hs]; simp [sp_val, t158], by rw [hm, show len = i by omega, hs], rfl, rfl⟩
      · have t158 : ¬ T = 0 := fun q => h158 ((nI_ltI (b := 1) (by omega) (by omega)).mpr (by omega))
        refine And.intro (fc_L_10 hL) (Exists.intro _ (And.intro (fc_L_r11 hL) ?_))
        refine Exists.intro _ (Exists.intro _ (And.intro (fc_L_12 hL) (And.intro (fc_ix_nI (p := 0) (by omega) (by omega)) ?_)))
        rw [hr]
        exact ⟨by rw [show len = i by omega, hs]; simp [sp_val, t158], by rw [hm, show len = i by omega, hs], rfl, rfl⟩
    · exact absurd (by rw [hc1]; exact nI_le (by omega) (by omega)) h12
  | succ j ih =>
    intro i c tp x7 mm hi hc htp hm
    subst hc
    have hT : (sp_lw (mi (b + 11)) ck pr cr jd (mi (b + 12)) i).1 ≤ 64 := sp_lw_le i
    rcases hs : sp_lw (mi (b + 11)) ck pr cr jd (mi (b + 12)) i with ⟨T, V⟩
    rw [hs] at htp hm hT
    replace hT : T ≤ 64 := hT
    replace htp : tp = nI T := htp
    replace hm : mm = fc_ur mi (b + 12) V := hm
    subst htp
    have hc1 : mm (b + 10) 2 = nI len := by rw [hm, fc_ur_off _ _ (by omega)]; exact hlen
    have hc2 : mm (b + 11) = mi (b + 11) := by rw [hm, fc_ur_off _ _ (by omega)]
    have hr : mm (b + 12) = V := by rw [hm, fc_ur_row]
    refine fc_run oX2_valueAt (fun pc => pc == 6) 400 ?_
    refine And.intro (fc_L_10 hL) ?_
    refine And.intro (fun h12 => ?_) (fun h12 => ?_)
    · exact absurd h12 (by rw [hc1]; exact nI_ge (by omega) (by omega))
    · refine And.intro (fc_L_10 hL) (Exists.intro _ (And.intro (fc_L_r10 hL) ?_))
      refine Exists.intro _ (Exists.intro _ (And.intro (fc_L_11 hL) (And.intro (fc_ix_nI (p := i) (by omega) (by omega)) ?_)))
      rw [hc2]
      refine And.intro (fun h29 => ?_) (fun h29 => ?_)
      · refine And.intro (fun h35 => ?_) (fun h35 => ?_)
        · have t35 : T = 0 := by
            have := (nI_ltI (b := 1) (by omega) (by omega)).mp h35
            omega
          have e : sp_st (mi (b + 11) i) ck pr cr jd (T, V) = (T, V) := by simp [sp_st, h29, t35]
          exact ih (i + 1) _ _ _ _ (by omega) (fc_inc i) (by
            show _ = nI (sp_st (mi (b + 11) i) ck pr cr jd (sp_lw (mi (b + 11)) ck pr cr jd (mi (b + 12)) i)).1
            rw [hs, e]
            skip) (by
            show _ = fc_ur mi (b + 12) (sp_st (mi (b + 11) i) ck pr cr jd (sp_lw (mi (b + 11)) ck pr cr jd (mi (b + 12)) i)).2
            rw [hs, e]
            rw [hm])
        · have t35 : ¬ T = 0 := fun q => h35 ((nI_ltI (b := 1) (by omega) (by omega)).mpr (by omega))
          refine And.intro (fc_L_10 hL) (Exists.intro _ (And.intro (fc_L_r11 hL) ?_))
          refine And.intro (fc_L_10 hL) (Exists.intro _ (And.intro (fc_L_r11 hL) ?_))
          refine Exists.intro _ (Exists.intro _ (And.intro (fc_L_12 hL) (And.intro (fc_ixp (by omega) hT) ?_)))
          rw [hr]
          refine And.intro (fun h55 => ?_) (fun h55 => ?_)
          · refine Exists.intro _ (Exists.intro _ (And.intro (fc_L_12 hL) (And.intro (fc_ixp (by omega) hT) ?_)))
            have e : sp_st (mi (b + 11) i) ck pr cr jd (T, V) = (T, upd V (T - 1) 1) := by simp [sp_st, h29, t35, h55]
            exact ih (i + 1) _ _ _ _ (by omega) (fc_inc i) (by
              show _ = nI (sp_st (mi (b + 11) i) ck pr cr jd (sp_lw (mi (b + 11)) ck pr cr jd (mi (b + 12)) i)).1
              rw [hs, e]
              skip) (by
              show _ = fc_ur mi (b + 12) (sp_st (mi (b + 11) i) ck pr cr jd (sp_lw (mi (b + 11)) ck pr cr jd (mi (b + 12)) i)).2
              rw [hs, e]
              rw [hm, fc_u_ur]; rfl)
          · refine Exists.intro _ (Exists.intro _ (And.intro (fc_L_12 hL) (And.intro (fc_ixp (by omega) hT) ?_)))
            have e : sp_st (mi (b + 11) i) ck pr cr jd (T, V) = (T, upd V (T - 1) 0) := by simp [sp_st, h29, t35, h55]
            exact ih (i + 1) _ _ _ _ (by omega) (fc_inc i) (by
              show _ = nI (sp_st (mi (b + 11) i) ck pr cr jd (sp_lw (mi (b + 11)) ck pr cr jd (mi (b + 12)) i)).1
              rw [hs, e]
              skip) (by
              show _ = fc_ur mi (b + 12) (sp_st (mi (b + 11) i) ck pr cr jd (sp_lw (mi (b + 11)) ck pr cr jd (mi (b + 12)) i)).2
              rw [hs, e]
              rw [hm, fc_u_ur]; rfl)
      · refine And.intro (fun h69 => ?_) (fun h69 => ?_)
        · have z84 : ¬ (mi (b + 11) i < 0 ∧ -256 < mi (b + 11) i) := fun q => absurd h69 (Int32.not_le.mpr q.1)
          refine And.intro (fun h84 => ?_) (fun h84 => ?_)
          · have t84 : ¬ T < 64 := fun q => absurd h84 (nI_ge (b := 64) q (by omega))
            have e : sp_st (mi (b + 11) i) ck pr cr jd (T, V) = (T, V) := by simp [sp_st, h29, z84, t84]
            exact ih (i + 1) _ _ _ _ (by omega) (fc_inc i) (by
              show _ = nI (sp_st (mi (b + 11) i) ck pr cr jd (sp_lw (mi (b + 11)) ck pr cr jd (mi (b + 12)) i)).1
              rw [hs, e]
              skip) (by
              show _ = fc_ur mi (b + 12) (sp_st (mi (b + 11) i) ck pr cr jd (sp_lw (mi (b + 11)) ck pr cr jd (mi (b + 12)) i)).2
              rw [hs, e]
              rw [hm])
          · have t84 : T < 64 := by
              rcases Nat.lt_or_ge T 64 with q | q
              · exact q
              · exact absurd (nI_le (a := 64) q (by omega)) h84
            refine And.intro (fc_L_10 hL) (Exists.intro _ (And.intro (fc_L_r11 hL) ?_))
            refine Exists.intro _ (And.intro (c_operand _ _ _ _ _) ?_)
            rintro _ _ _ _ ⟨rfl, rfl, rfl, rfl⟩
            refine Exists.intro _ (Exists.intro _ (And.intro (fc_L_12 hL) (And.intro (fc_ix_nI (p := T) (by omega) (by omega)) ?_)))
            have e : sp_st (mi (b + 11) i) ck pr cr jd (T, V) = (T + 1, upd V T (sp_op (mi (b + 11) i) ck pr cr jd)) := by simp [sp_st, h29, z84, t84]
            exact ih (i + 1) _ _ _ _ (by omega) (fc_inc i) (by
              show _ = nI (sp_st (mi (b + 11) i) ck pr cr jd (sp_lw (mi (b + 11)) ck pr cr jd (mi (b + 12)) i)).1
              rw [hs, e]
              exact fc_inc T) (by
              show _ = fc_ur mi (b + 12) (sp_st (mi (b + 11) i) ck pr cr jd (sp_lw (mi (b + 11)) ck pr cr jd (mi (b + 12)) i)).2
              rw [hs, e]
              rw [hm, fc_u_ur]; rfl)
        · refine And.intro (fun h77 => ?_) (fun h77 => ?_)
          · have z113 : mi (b + 11) i < 0 ∧ -256 < mi (b + 11) i := ⟨Int32.not_le.mp h69, h77⟩
            refine And.intro (fun h113 => ?_) (fun h113 => ?_)
            · have t113 : T < 2 := (nI_ltI (b := 2) (by omega) (by omega)).mp h113
              have e : sp_st (mi (b + 11) i) ck pr cr jd (T, V) = (T, V) := by simp [sp_st, h29, z113, t113]
              exact ih (i + 1) _ _ _ _ (by omega) (fc_inc i) (by
                show _ = nI (sp_st (mi (b + 11) i) ck pr cr jd (sp_lw (mi (b + 11)) ck pr cr jd (mi (b + 12)) i)).1
                rw [hs, e]
                skip) (by
                show _ = fc_ur mi (b + 12) (sp_st (mi (b + 11) i) ck pr cr jd (sp_lw (mi (b + 11)) ck pr cr jd (mi (b + 12)) i)).2
                rw [hs, e]
                rw [hm])
            · have t113 : ¬ T < 2 := fun q => h113 ((nI_ltI (b := 2) (by omega) (by omega)).mpr q)
              refine And.intro (fc_L_10 hL) (Exists.intro _ (And.intro (fc_L_r11 hL) ?_))
              refine And.intro (fc_L_10 hL) (Exists.intro _ (And.intro (fc_L_r11 hL) ?_))
              refine Exists.intro _ (Exists.intro _ (And.intro (fc_L_12 hL) (And.intro (by rw [fc_m1 (by omega)]; exact fc_ixp (by omega) (by omega)) ?_)))
              rw [hr]
              refine And.intro (fc_L_10 hL) (Exists.intro _ (And.intro (fc_L_r11 hL) ?_))
              refine Exists.intro _ (Exists.intro _ (And.intro (fc_L_12 hL) (And.intro (by rw [fc_m1 (by omega)]; exact fc_ix_nI (by omega) (by omega)) ?_)))
              rw [hr]
              refine Exists.intro _ (And.intro (c_joined _ _ _) ?_)
              rintro _ _ _ _ ⟨rfl, rfl, rfl, rfl⟩
              refine Exists.intro _ (Exists.intro _ (And.intro (fc_L_12 hL) (And.intro (by rw [fc_m1 (by omega)]; exact fc_ixp (by omega) (by omega)) ?_)))
              have e : sp_st (mi (b + 11) i) ck pr cr jd (T, V) = (T - 1, upd V (T - 2) (sp_jn (mi (b + 11) i) (V (T - 2)) (V (T - 1)))) := by simp [sp_st, h29, z113, t113]
              exact ih (i + 1) _ _ _ _ (by omega) (fc_inc i) (by
                show _ = nI (sp_st (mi (b + 11) i) ck pr cr jd (sp_lw (mi (b + 11)) ck pr cr jd (mi (b + 12)) i)).1
                rw [hs, e]
                exact fc_m1 (by omega)) (by
                show _ = fc_ur mi (b + 12) (sp_st (mi (b + 11) i) ck pr cr jd (sp_lw (mi (b + 11)) ck pr cr jd (mi (b + 12)) i)).2
                rw [hs, e]
                rw [hm, fc_u_ur]; rfl)
          · have z84 : ¬ (mi (b + 11) i < 0 ∧ -256 < mi (b + 11) i) := fun q => h77 q.2
            refine And.intro (fun h84 => ?_) (fun h84 => ?_)
            · have t84 : ¬ T < 64 := fun q => absurd h84 (nI_ge (b := 64) q (by omega))
              have e : sp_st (mi (b + 11) i) ck pr cr jd (T, V) = (T, V) := by simp [sp_st, h29, z84, t84]
              exact ih (i + 1) _ _ _ _ (by omega) (fc_inc i) (by
                show _ = nI (sp_st (mi (b + 11) i) ck pr cr jd (sp_lw (mi (b + 11)) ck pr cr jd (mi (b + 12)) i)).1
                rw [hs, e]
                skip) (by
                show _ = fc_ur mi (b + 12) (sp_st (mi (b + 11) i) ck pr cr jd (sp_lw (mi (b + 11)) ck pr cr jd (mi (b + 12)) i)).2
                rw [hs, e]
                rw [hm])
            · have t84 : T < 64 := by
                rcases Nat.lt_or_ge T 64 with q | q
                · exact q
                · exact absurd (nI_le (a := 64) q (by omega)) h84
              refine And.intro (fc_L_10 hL) (Exists.intro _ (And.intro (fc_L_r11 hL) ?_))
              refine Exists.intro _ (And.intro (c_operand _ _ _ _ _) ?_)
              rintro _ _ _ _ ⟨rfl, rfl, rfl, rfl⟩
              refine Exists.intro _ (Exists.intro _ (And.intro (fc_L_12 hL) (And.intro (fc_ix_nI (p := T) (by omega) (by omega)) ?_)))
              have e : sp_st (mi (b + 11) i) ck pr cr jd (T, V) = (T + 1, upd V T (sp_op (mi (b + 11) i) ck pr cr jd)) := by simp [sp_st, h29, z84, t84]
              exact ih (i + 1) _ _ _ _ (by omega) (fc_inc i) (by
                show _ = nI (sp_st (mi (b + 11) i) ck pr cr jd (sp_lw (mi (b + 11)) ck pr cr jd (mi (b + 12)) i)).1
                rw [hs, e]
                exact fc_inc T) (by
                show _ = fc_ur mi (b + 12) (sp_st (mi (b + 11) i) ck pr cr jd (sp_lw (mi (b + 11)) ck pr cr jd (mi (b + 12)) i)).2
                rw [hs, e]
                rw [hm, fc_u_ur]; rfl)

theorem c_valueAt (hL : fc_L mr b) (ck pr cr jd : Int32) {len : Nat} (hlen : mi (b + 10) 2 = nI len) (hl : len ≤ 1000) : fc_R E mX2_valueAt (d + 1) fc_sh [.ref (b + 10), .int ck, .int pr, .int cr, .int jd] mi ml mr (fc_is (some (.int (sp_val (sp_lw (mi (b + 11)) ck pr cr jd (mi (b + 12)) len)))) (fc_ur mi (b + 12) (sp_lw (mi (b + 11)) ck pr cr jd (mi (b + 12)) len).2) ml mr) := by
  refine fc_met rfl (Nat.le_of_ble_eq_true rfl) (fc_run oX2_valueAt (fun pc => pc == 6) 400 ?_)
  exact l_valueAt hL ck pr cr jd hlen hl len 0 _ _ _ _ (by omega) rfl rfl (fc_ur_self _ _).symm

end M19
end
section
/-! ===== what binds ===== -/
section M20
variable {E : fc_E} {d : Nat} {mi : fc_Mi} {ml : fc_Ml} {mr : fc_Mr} {a b n m t : Nat}
def sp_num (P : Nat → Bool) : Nat → Int32
  | 0 => 0
  | n + 1 => if P n then sp_num P n + 1 else sp_num P n
theorem sp_num_congr {P P' : Nat → Bool} : ∀ {n : Nat}, (∀ i, i < n → P i = P' i) → sp_num P n = sp_num P' n
  | 0, _ => rfl
  | n + 1, h => by rw [sp_num, sp_num, sp_num_congr (fun i hi => h i (by omega)), h n (by omega)]
theorem sp_num_t {P : Nat → Bool} {n : Nat} (h : P n = true) : sp_num P n + Int32.ofInt 1 = sp_num P (n + 1) := by rw [sp_num, if_pos h]; rfl
theorem sp_num_f {P : Nat → Bool} {n : Nat} (h : P n = false) : sp_num P n = sp_num P (n + 1) := by rw [sp_num, if_neg (by rw [h]; decide)]
/-- the crowd about p and o -/
def sp_cd (n : Nat) (w wk : Nat → Int32) (ck : Int32) (p o : Nat) : Int32 := ((sp_set (fun q => decide (w q = w p)) n &&& sp_set (sp_aw wk ck) n) &&& (((1 : Int32) <<< (nI p &&& 31)) ^^^ (-1))) &&& (((1 : Int32) <<< (nI o &&& 31)) ^^^ (-1))
/-- the law's reckoning of something between p and o -/
def sp_bd (n : Nat) (w wk kd code v0 : Nat → Int32) (len : Nat) (pr ck : Int32) (p o : Nat) : Nat × (Nat → Int32) :=
  sp_lw code ck pr (sp_bc (sp_cd n w wk ck p o)) (sp_num (fun q => sp_in (sp_cd n w wk ck p o) (nI q) && decide (kd q = 1)) n) v0 len
def sp_bi (s : Nat × (Nat → Int32)) : Bool := !decide (sp_val s = 0)
theorem l_isBinding (hS : fc_S mr a) (hL : fc_L mr b) (hN : mi b 12 = nI n) (h5 : n ≤ 5) {len : Nat} (hlen : mi (b + 10) 2 = nI len) (hl : len ≤ 1000) {p q : Nat} (hp : p < 5) (pr ck : Int32) : ∀ (j i : Nat) (c acc : Int32), i + j = n → c = nI i → acc = sp_num (fun q0 => sp_in (sp_cd n (mi (a + 1)) (mi (b + 7)) ck p q) (nI q0) && decide (mi (b + 5) q0 = 1)) i → fc_T E mX7_isBinding (d + 2) (0, 0) fc_sh 38 [some (.ref a), some (.ref b), some (.int (nI p)), some (.int (nI q)), some (.int pr), some (.int ck), some (.int (sp_cd n (mi (a + 1)) (mi (b + 7)) ck p q)), some (.int acc), some (.int c)] [] mi ml mr (fc_is (some (.int (fc_b (sp_bi (sp_bd n (mi (a + 1)) (mi (b + 7)) (mi (b + 5)) (mi (b + 11)) (mi (b + 12)) len pr ck p q))))) (fc_ur mi (b + 12) (sp_bd n (mi (a + 1)) (mi (b + 7)) (mi (b + 5)) (mi (b + 11)) (mi (b + 12)) len pr ck p q).2) ml mr) := by
  intro j
  induction j with
  | zero =>
    intro i c acc hi hc hacc
    subst hc
    refine fc_run oX7_isBinding (fun pc => pc == 38) 400 ?_
    refine And.intro (fc_L_0 hL) ?_
    refine And.intro (fun h44 => ?_) (fun h44 => ?_)
    · refine And.intro (fc_L_0 hL) (Exists.intro _ (And.intro (fc_L_r9 hL) ?_))
      refine Exists.intro _ (And.intro (c_bitCount _) ?_)
      rintro _ _ _ _ ⟨rfl, rfl, rfl, rfl⟩
      refine And.intro (fc_L_10 hL) (Exists.intro _ (And.intro (c_valueAt hL _ _ _ _ hlen hl) ?_))
      rintro _ _ _ _ ⟨rfl, rfl, rfl, rfl⟩
      have ev : sp_lw (mi (b + 11)) ck pr (sp_bc (sp_cd n (mi (a + 1)) (mi (b + 7)) ck p q)) acc (mi (b + 12)) len = sp_bd n (mi (a + 1)) (mi (b + 7)) (mi (b + 5)) (mi (b + 11)) (mi (b + 12)) len pr ck p q := by rw [hacc, show i = n by omega]; rfl
      rw [ev]
      refine And.intro (fun h95 => ?_) (fun h95 => ?_)
      · refine And.intro (by first | exact Or.inl rfl | exact Or.inr rfl | exact fc_bb _ | assumption) ?_
        exact ⟨by simp [sp_bi, h95, fc_b], rfl, rfl, rfl⟩
      · refine And.intro (by first | exact Or.inl rfl | exact Or.inr rfl | exact fc_bb _ | assumption) ?_
        exact ⟨by simp [sp_bi, h95, fc_b], rfl, rfl, rfl⟩
    · exact absurd (by rw [hN]; exact nI_le (by omega) (by omega)) h44
  | succ j ih =>
    intro i c acc hi hc hacc
    subst hc
    refine fc_run oX7_isBinding (fun pc => pc == 38) 400 ?_
    refine And.intro (fc_L_0 hL) ?_
    refine And.intro (fun h44 => ?_) (fun h44 => ?_)
    · exact absurd h44 (by rw [hN]; exact nI_ge (by omega) (by omega))
    · refine Exists.intro _ (And.intro (c_isIn _ _) ?_)
      rintro _ _ _ _ ⟨rfl, rfl, rfl, rfl⟩
      refine And.intro (fun h54 => ?_) (fun h54 => ?_)
      · replace h54 := fc_b0.mp h54
        exact ih (i + 1) _ _ (by omega) (fc_inc i) (by rw [hacc]; exact sp_num_f (by simp [h54]))
      · replace h54 := fc_b1.mp h54
        refine And.intro (fc_L_0 hL) (Exists.intro _ (And.intro (fc_L_r4 hL) ?_))
        refine Exists.intro _ (Exists.intro _ (And.intro (fc_L_5 hL) (And.intro (by first | assumption | exact fc_ix_nI (by omega) (by omega) | exact fc_ix_nI (by assumption) (by omega)) ?_)))
        refine And.intro (fun h65 => ?_) (fun h65 => ?_)
        · exact ih (i + 1) _ _ (by omega) (fc_inc i) (by rw [hacc]; exact sp_num_t (by simp [h54, h65]))
        · exact ih (i + 1) _ _ (by omega) (fc_inc i) (by rw [hacc]; exact sp_num_f (by simp [h54, h65]))

theorem c_isBinding (hS : fc_S mr a) (hL : fc_L mr b) (hN : mi b 12 = nI n) (h5 : n ≤ 5) {len : Nat} (hlen : mi (b + 10) 2 = nI len) (hl : len ≤ 1000) {p q : Nat} (hp : p < 5) (pr ck : Int32) : fc_R E mX7_isBinding (d + 2) fc_sh [.ref a, .ref b, .int (nI p), .int (nI q), .int pr, .int ck] mi ml mr (fc_is (some (.int (fc_b (sp_bi (sp_bd n (mi (a + 1)) (mi (b + 7)) (mi (b + 5)) (mi (b + 11)) (mi (b + 12)) len pr ck p q))))) (fc_ur mi (b + 12) (sp_bd n (mi (a + 1)) (mi (b + 7)) (mi (b + 5)) (mi (b + 11)) (mi (b + 12)) len pr ck p q).2) ml mr) := by
  refine fc_met rfl (Nat.le_of_ble_eq_true rfl) (fc_run oX7_isBinding (fun pc => pc == 38) 400 ?_)
  refine And.intro (fc_S_0 hS) (Exists.intro _ (And.intro (fc_S_r2 hS) ?_))
  refine Exists.intro _ (Exists.intro _ (And.intro (fc_S_1 hS) (And.intro (by first | assumption | exact fc_ix_nI (by omega) (by omega) | exact fc_ix_nI (by assumption) (by omega)) ?_)))
  refine And.intro (fc_S_0 hS) (Exists.intro _ (And.intro (c_bitsAt hS hL _ hN h5) ?_))
  rintro _ _ _ _ ⟨rfl, rfl, rfl, rfl⟩
  refine And.intro (fc_L_0 hL) (Exists.intro _ (And.intro (c_awakeBits hL _ hN h5) ?_))
  rintro _ _ _ _ ⟨rfl, rfl, rfl, rfl⟩
  exact l_isBinding (q := q) hS hL hN h5 hlen hl hp pr ck n 0 _ _ (by omega) rfl rfl

theorem c_giftBinds (hS : fc_S mr a) (hL : fc_L mr b) (hN : mi b 12 = nI n) (h5 : n ≤ 5) {len : Nat} (hlen : mi (b + 10) 2 = nI len) (hl : len ≤ 1000) {k p q : Nat} (hk : k < 6) (hh : mi (a + 6) k = nI p) (hp : p < 5) (ck : Int32) : fc_R E mX7_giftBinds (d + 3) fc_sh [.ref a, .ref b, .int (nI k), .int (nI q), .int ck] mi ml mr (fc_is (some (.int (fc_b (sp_bi (sp_bd n (mi (a + 1)) (mi (b + 7)) (mi (b + 5)) (mi (b + 11)) (mi (b + 12)) len (mi (b + 8) k) ck p q))))) (fc_ur mi (b + 12) (sp_bd n (mi (a + 1)) (mi (b + 7)) (mi (b + 5)) (mi (b + 11)) (mi (b + 12)) len (mi (b + 8) k) ck p q).2) ml mr) := by
  refine fc_met rfl (Nat.le_of_ble_eq_true rfl) (fc_run oX7_giftBinds (fun _ => false) 400 ?_)
  refine And.intro (fc_S_0 hS) (Exists.intro _ (And.intro (fc_S_r7 hS) ?_))
  refine Exists.intro _ (Exists.intro _ (And.intro (fc_S_6 hS) (And.intro (fc_ix_nI (p := k) (by omega) (by omega)) ?_)))
  rw [hh]
  refine And.intro (fc_L_0 hL) (Exists.intro _ (And.intro (fc_L_r7 hL) ?_))
  refine Exists.intro _ (Exists.intro _ (And.intro (fc_L_8 hL) (And.intro (fc_ix_nI (p := k) (by omega) (by omega)) ?_)))
  refine And.intro (fc_S_0 hS) (Exists.intro _ (And.intro (c_isBinding hS hL hN h5 hlen hl (by omega) _ _) ?_))
  rintro _ _ _ _ ⟨rfl, rfl, rfl, rfl⟩
  refine And.intro (by first | exact Or.inl rfl | exact Or.inr rfl | exact fc_bb _ | assumption) ?_
  first | exact ⟨rfl, rfl, rfl, rfl⟩ | skip

/-- the memory behind a gift -/
def sp_gv (mi : fc_Mi) (a b k p : Nat) (q : Int32) (s : Nat × (Nat → Int32)) : fc_Mi :=
  if sp_bi s then fc_u (fc_u (fc_u (fc_ur mi (b + 12) s.2) (a + 2) p 1) (a + 6) k q) (a + 7) k q else fc_u (fc_u (fc_ur mi (b + 12) s.2) (a + 2) p 1) (a + 6) k q
theorem c_handOver (hS : fc_S mr a) (hL : fc_L mr b) (hN : mi b 12 = nI n) (h5 : n ≤ 5) {len : Nat} (hlen : mi (b + 10) 2 = nI len) (hl : len ≤ 1000) {k p q : Nat} (hk : k < 6) (hh : mi (a + 6) k = nI p) (hp : p < 5) (hab : a + 8 ≤ b) : fc_R E mX7_handOver (d + 4) fc_sh [.ref a, .ref b, .int (nI k), .int (nI q)] mi ml mr (fc_is (some (.int (fc_b (sp_bi (sp_bd n (mi (a + 1)) (mi (b + 7)) (mi (b + 5)) (mi (b + 11)) (mi (b + 12)) len (mi (b + 8) k) (mi a 1) p q))))) (sp_gv mi a b k p (nI q) (sp_bd n (mi (a + 1)) (mi (b + 7)) (mi (b + 5)) (mi (b + 11)) (mi (b + 12)) len (mi (b + 8) k) (mi a 1) p q)) ml mr) := by
  refine fc_met rfl (Nat.le_of_ble_eq_true rfl) (fc_run oX7_handOver (fun _ => false) 400 ?_)
  refine And.intro (fc_S_0 hS) ?_
  refine And.intro (fc_S_0 hS) (Exists.intro _ (And.intro (c_giftBinds hS hL hN h5 hlen hl hk hh hp _) ?_))
  rintro _ _ _ _ ⟨rfl, rfl, rfl, rfl⟩
  refine And.intro (fc_S_0 hS) (Exists.intro _ (And.intro (fc_S_r3 hS) ?_))
  refine And.intro (fc_S_0 hS) (Exists.intro _ (And.intro (fc_S_r7 hS) ?_))
  refine Exists.intro _ (Exists.intro _ (And.intro (fc_S_6 hS) (And.intro (fc_ix_nI (p := k) (by omega) (by omega)) ?_)))
  rw [fc_ur_off (b := a + 6) _ _ (by omega), hh]
  refine Exists.intro _ (Exists.intro _ (And.intro (fc_S_2 hS) (And.intro (fc_ix_nI (p := p) (by omega) (by omega)) ?_)))
  refine And.intro (fc_S_0 hS) (Exists.intro _ (And.intro (fc_S_r7 hS) ?_))
  refine Exists.intro _ (Exists.intro _ (And.intro (fc_S_6 hS) (And.intro (fc_ix_nI (p := k) (by omega) (by omega)) ?_)))
  refine And.intro (fun h34 => ?_) (fun h34 => ?_)
  · replace h34 := fc_b0.mp h34
    refine And.intro (by first | exact Or.inl rfl | exact Or.inr rfl | exact fc_bb _ | assumption) ?_
    exact ⟨rfl, by simp only [sp_gv, h34]; simp, rfl, rfl⟩
  · replace h34 := fc_b1.mp h34
    refine And.intro (fc_S_0 hS) (Exists.intro _ (And.intro (fc_S_r8 hS) ?_))
    refine Exists.intro _ (Exists.intro _ (And.intro (fc_S_7 hS) (And.intro (fc_ix_nI (p := k) (by omega) (by omega)) ?_)))
    refine And.intro (by first | exact Or.inl rfl | exact Or.inr rfl | exact fc_bb _ | assumption) ?_
    exact ⟨rfl, by simp only [sp_gv, h34]; simp, rfl, rfl⟩

/-- the memory behind a vow -/
def sp_vw0 (mi : fc_Mi) (a p q : Nat) : fc_Mi :=
  let m1 := fc_u (fc_u mi (a + 2) p 1) (a + 2) q 1
  let m2 := fc_u m1 (a + 4) p (m1 (a + 4) p ||| ((1 : Int32) <<< (nI q &&& 31)))
  fc_u m2 (a + 4) q (m2 (a + 4) q ||| ((1 : Int32) <<< (nI p &&& 31)))
def sp_vw1 (mi : fc_Mi) (a p q : Nat) : fc_Mi :=
  let m2 := fc_u mi (a + 5) p (mi (a + 5) p ||| ((1 : Int32) <<< (nI q &&& 31)))
  fc_u m2 (a + 5) q (m2 (a + 5) q ||| ((1 : Int32) <<< (nI p &&& 31)))
def sp_vw (mi : fc_Mi) (a b p q : Nat) (s : Nat × (Nat → Int32)) : fc_Mi :=
  if sp_bi s then sp_vw1 (sp_vw0 (fc_ur mi (b + 12) s.2) a p q) a p q else sp_vw0 (fc_ur mi (b + 12) s.2) a p q
theorem c_pledge (hS : fc_S mr a) (hL : fc_L mr b) (hN : mi b 12 = nI n) (h5 : n ≤ 5) {len : Nat} (hlen : mi (b + 10) 2 = nI len) (hl : len ≤ 1000) {p q : Nat} (hp : p < 5) (hq : q < 5) : fc_R E mX7_pledge (d + 3) fc_sh [.ref a, .ref b, .int (nI p), .int (nI q)] mi ml mr (fc_is (some (.int (fc_b (sp_bi (sp_bd n (mi (a + 1)) (mi (b + 7)) (mi (b + 5)) (mi (b + 11)) (mi (b + 12)) len 0 (mi a 1) p q))))) (sp_vw mi a b p q (sp_bd n (mi (a + 1)) (mi (b + 7)) (mi (b + 5)) (mi (b + 11)) (mi (b + 12)) len 0 (mi a 1) p q)) ml mr) := by
  refine fc_met rfl (Nat.le_of_ble_eq_true rfl) (fc_run oX7_pledge (fun _ => false) 400 ?_)
  refine And.intro (fc_S_0 hS) ?_
  refine And.intro (fc_S_0 hS) (Exists.intro _ (And.intro (c_isBinding hS hL hN h5 hlen hl (by omega) _ _) ?_))
  rintro _ _ _ _ ⟨rfl, rfl, rfl, rfl⟩
  refine And.intro (fc_S_0 hS) (Exists.intro _ (And.intro (fc_S_r3 hS) ?_))
  refine Exists.intro _ (Exists.intro _ (And.intro (fc_S_2 hS) (And.intro (fc_ix_nI (p := p) (by omega) (by omega)) ?_)))
  refine And.intro (fc_S_0 hS) (Exists.intro _ (And.intro (fc_S_r3 hS) ?_))
  refine Exists.intro _ (Exists.intro _ (And.intro (fc_S_2 hS) (And.intro (fc_ix_nI (p := q) (by omega) (by omega)) ?_)))
  refine And.intro (fc_S_0 hS) (Exists.intro _ (And.intro (fc_S_r5 hS) ?_))
  refine Exists.intro _ (Exists.intro _ (And.intro (fc_S_4 hS) (And.intro (fc_ix_nI (p := p) (by omega) (by omega)) ?_)))
  refine Exists.intro _ (Exists.intro _ (And.intro (fc_S_4 hS) (And.intro (fc_ix_nI (p := p) (by omega) (by omega)) ?_)))
  refine And.intro (fc_S_0 hS) (Exists.intro _ (And.intro (fc_S_r5 hS) ?_))
  refine Exists.intro _ (Exists.intro _ (And.intro (fc_S_4 hS) (And.intro (fc_ix_nI (p := q) (by omega) (by omega)) ?_)))
  refine Exists.intro _ (Exists.intro _ (And.intro (fc_S_4 hS) (And.intro (fc_ix_nI (p := q) (by omega) (by omega)) ?_)))
  refine And.intro (fun h54 => ?_) (fun h54 => ?_)
  · replace h54 := fc_b0.mp h54
    refine And.intro (by first | exact Or.inl rfl | exact Or.inr rfl | exact fc_bb _ | assumption) ?_
    exact ⟨rfl, by simp only [sp_vw, h54]; simp [sp_vw0, sp_vw1], rfl, rfl⟩
  · replace h54 := fc_b1.mp h54
    refine And.intro (fc_S_0 hS) (Exists.intro _ (And.intro (fc_S_r6 hS) ?_))
    refine Exists.intro _ (Exists.intro _ (And.intro (fc_S_5 hS) (And.intro (fc_ix_nI (p := p) (by omega) (by omega)) ?_)))
    refine Exists.intro _ (Exists.intro _ (And.intro (fc_S_5 hS) (And.intro (fc_ix_nI (p := p) (by omega) (by omega)) ?_)))
    refine And.intro (fc_S_0 hS) (Exists.intro _ (And.intro (fc_S_r6 hS) ?_))
    refine Exists.intro _ (Exists.intro _ (And.intro (fc_S_5 hS) (And.intro (fc_ix_nI (p := q) (by omega) (by omega)) ?_)))
    refine Exists.intro _ (Exists.intro _ (And.intro (fc_S_5 hS) (And.intro (fc_ix_nI (p := q) (by omega) (by omega)) ?_)))
    refine And.intro (by first | exact Or.inl rfl | exact Or.inr rfl | exact fc_bb _ | assumption) ?_
    exact ⟨rfl, by simp only [sp_vw, h54]; simp [sp_vw0, sp_vw1], rfl, rfl⟩

end M20
end
section
/-! ===== how the places lie ===== -/
section M21
variable {E : fc_E} {d : Nat} {mi : fc_Mi} {ml : fc_Ml} {mr : fc_Mr} {a b n m t : Nat}
def sp_nb (pt : Nat → Int32) (m : Nat) (x : Int32) : Int32 := sp_or (fun p => sp_in x (nI p)) pt m
def sp_sp (pt : Nat → Int32) (m : Nat) (shut x : Int32) : Nat → Int32
  | 0 => x
  | i + 1 => sp_sp pt m shut x i ||| (sp_nb pt m (sp_sp pt m shut x i) &&& (shut ^^^ (-1)))
/-- the answer at the first of whom P is so -/
def sp_ff (P R : Nat → Bool) : Nat → Nat → Bool
  | 0, _ => false
  | j + 1, i => if P i then R i else sp_ff P R j (i + 1)
def sp_one (p : Nat) : Int32 := (1 : Int32) <<< (nI p &&& 31)
theorem l_neighbours (hL : fc_L mr b) (x : Int32) (hM : mi b 10 = nI m) (h7 : m ≤ 7) : ∀ (j i : Nat) (c acc : Int32), i + j = m → c = nI i → acc = sp_or (fun p => sp_in x (nI p)) (mi (b + 4)) i → fc_T E mX9_neighbours (d + 1) (0, 0) fc_sh 4 [some (.ref b), some (.int x), some (.int acc), some (.int c)] [] mi ml mr (fc_is (some (.int (sp_nb (mi (b + 4)) m x))) mi ml mr) := by
  intro j
  induction j with
  | zero =>
    intro i c acc hi hc hacc
    subst hc
    refine fc_run oX9_neighbours (fun pc => pc == 4) 400 ?_
    refine And.intro (fc_L_0 hL) ?_
    refine And.intro (fun h9 => ?_) (fun h9 => ?_)
    · exact ⟨by rw [hacc, show i = m by omega]; rfl, rfl, rfl, rfl⟩
    · exact absurd (by rw [hM]; exact nI_le (by omega) (by omega)) h9
  | succ j ih =>
    intro i c acc hi hc hacc
    subst hc
    refine fc_run oX9_neighbours (fun pc => pc == 4) 400 ?_
    refine And.intro (fc_L_0 hL) ?_
    refine And.intro (fun h9 => ?_) (fun h9 => ?_)
    · exact absurd h9 (by rw [hM]; exact nI_ge (by omega) (by omega))
    · refine Exists.intro _ (And.intro (c_isIn _ _) ?_)
      rintro _ _ _ _ ⟨rfl, rfl, rfl, rfl⟩
      refine And.intro (fun h17 => ?_) (fun h17 => ?_)
      · replace h17 := fc_b0.mp h17
        exact ih (i + 1) _ _ (by omega) (fc_inc i) (by first | (rw [hacc]; exact sp_or_t (P := fun p => sp_in x (nI p)) h17) | (rw [hacc]; exact sp_or_f (P := fun p => sp_in x (nI p)) h17))
      · replace h17 := fc_b1.mp h17
        refine And.intro (fc_L_0 hL) (Exists.intro _ (And.intro (fc_L_r3 hL) ?_))
        refine Exists.intro _ (Exists.intro _ (And.intro (fc_L_4 hL) (And.intro (by first | assumption | exact fc_ix_nI (by omega) (by omega) | exact fc_ix_nI (by assumption) (by omega)) ?_)))
        exact ih (i + 1) _ _ (by omega) (fc_inc i) (by first | (rw [hacc]; exact sp_or_t (P := fun p => sp_in x (nI p)) h17) | (rw [hacc]; exact sp_or_f (P := fun p => sp_in x (nI p)) h17))

theorem c_neighbours (hL : fc_L mr b) (x : Int32) (hM : mi b 10 = nI m) (h7 : m ≤ 7) : fc_R E mX9_neighbours (d + 1) fc_sh [.ref b, .int x] mi ml mr (fc_is (some (.int (sp_nb (mi (b + 4)) m x))) mi ml mr) := by
  refine fc_met rfl (Nat.le_of_ble_eq_true rfl) (fc_run oX9_neighbours (fun pc => pc == 4) 400 ?_)
  exact l_neighbours hL x hM h7 m 0 _ _ (by omega) rfl rfl

theorem l_spread (hL : fc_L mr b) (x : Nat) (z : Int32) (hM : mi b 10 = nI m) (h7 : m ≤ 7) : ∀ (j i : Nat) (c acc : Int32), i + j = m → c = nI i → acc = sp_sp (mi (b + 4)) m z (sp_one x) i → fc_T E mX9_spread (d + 2) (0, 0) fc_sh 8 [some (.ref 6), some (.ref b), some (.int (nI x)), some (.int z), some (.int acc), some (.int c)] [] mi ml mr (fc_is (some (.int (sp_sp (mi (b + 4)) m z (sp_one x) m))) mi ml mr) := by
  intro j
  induction j with
  | zero =>
    intro i c acc hi hc hacc
    subst hc
    refine fc_run oX9_spread (fun pc => pc == 8) 400 ?_
    refine And.intro (fc_L_0 hL) ?_
    refine And.intro (fun h14 => ?_) (fun h14 => ?_)
    · exact ⟨by rw [hacc, show i = m by omega], rfl, rfl, rfl⟩
    · exact absurd (by rw [hM]; exact nI_le (by omega) (by omega)) h14
  | succ j ih =>
    intro i c acc hi hc hacc
    subst hc
    refine fc_run oX9_spread (fun pc => pc == 8) 400 ?_
    refine And.intro (fc_L_0 hL) ?_
    refine And.intro (fun h14 => ?_) (fun h14 => ?_)
    · exact absurd h14 (by rw [hM]; exact nI_ge (by omega) (by omega))
    · refine Exists.intro _ (And.intro (c_neighbours hL _ hM h7) ?_)
      rintro _ _ _ _ ⟨rfl, rfl, rfl, rfl⟩
      exact ih (i + 1) _ _ (by omega) (fc_inc i) (by rw [hacc]; rfl)

theorem c_spread (hL : fc_L mr b) (x : Nat) (z : Int32) (hM : mi b 10 = nI m) (h7 : m ≤ 7) : fc_R E mX9_spread (d + 2) fc_sh [.ref 6, .ref b, .int (nI x), .int z] mi ml mr (fc_is (some (.int (sp_sp (mi (b + 4)) m z (sp_one x) m))) mi ml mr) := by
  refine fc_met rfl (Nat.le_of_ble_eq_true rfl) (fc_run oX9_spread (fun pc => pc == 8) 400 ?_)
  exact l_spread hL x z hM h7 m 0 _ _ (by omega) rfl rfl

def sp_ot (pt : Nat → Int32) (m x : Nat) : Int32 := sp_sp pt m 0 (sp_one x) m &&& (sp_one x ^^^ (-1))
def sp_cut (pt : Nat → Int32) (m x : Nat) : Nat → Nat → Bool := sp_ff (fun q => sp_in (sp_ot pt m x) (nI q)) (fun q => !decide (sp_sp pt m (sp_one x) (sp_one q) m = sp_ot pt m x))
theorem l_isCut (hL : fc_L mr b) (x : Nat) (hM : mi b 10 = nI m) (h7 : m ≤ 7) : ∀ (j i : Nat) (c : Int32), i + j = m → c = nI i → fc_T E mX9_isCut (d + 3) (0, 0) fc_sh 17 [some (.ref 6), some (.ref b), some (.int (nI x)), some (.int (sp_ot (mi (b + 4)) m x)), some (.int c)] [] mi ml mr (fc_is (some (.int (fc_b (sp_cut (mi (b + 4)) m x j i)))) mi ml mr) := by
  intro j
  induction j with
  | zero =>
    intro i c hi hc
    subst hc
    refine fc_run oX9_isCut (fun pc => pc == 17) 400 ?_
    refine And.intro (fc_L_0 hL) ?_
    refine And.intro (fun h23 => ?_) (fun h23 => ?_)
    · refine And.intro (by first | exact Or.inl rfl | exact Or.inr rfl | exact fc_bb _ | assumption) ?_
      exact ⟨rfl, rfl, rfl, rfl⟩
    · exact absurd (by rw [hM]; exact nI_le (by omega) (by omega)) h23
  | succ j ih =>
    intro i c hi hc
    subst hc
    refine fc_run oX9_isCut (fun pc => pc == 17) 400 ?_
    refine And.intro (fc_L_0 hL) ?_
    refine And.intro (fun h23 => ?_) (fun h23 => ?_)
    · exact absurd h23 (by rw [hM]; exact nI_ge (by omega) (by omega))
    · refine Exists.intro _ (And.intro (c_isIn _ _) ?_)
      rintro _ _ _ _ ⟨rfl, rfl, rfl, rfl⟩
      refine And.intro (fun h32 => ?_) (fun h32 => ?_)
      · replace h32 := fc_b0.mp h32
        have e : sp_cut (mi (b + 4)) m x (j + 1) i = sp_cut (mi (b + 4)) m x j (i + 1) := by simp [sp_cut, sp_ff, h32]
        rw [e]
        exact ih (i + 1) _ (by omega) (fc_inc i)
      · replace h32 := fc_b1.mp h32
        refine And.intro rfl (Exists.intro _ (And.intro (c_spread hL _ _ hM h7) ?_))
        rintro _ _ _ _ ⟨rfl, rfl, rfl, rfl⟩
        refine And.intro (fun h46 => ?_) (fun h46 => ?_)
        · refine And.intro (by first | exact Or.inl rfl | exact Or.inr rfl | exact fc_bb _ | assumption) ?_
          refine ⟨?_, rfl, rfl, rfl⟩
          replace h46 := h46
          simp only [sp_cut, sp_ff, h32, if_true]
          first | (rw [decide_eq_true (show sp_sp (mi (b + 4)) m (sp_one x) (sp_one i) m = sp_ot (mi (b + 4)) m x from h46)]; rfl) | (rw [decide_eq_false (show ¬ sp_sp (mi (b + 4)) m (sp_one x) (sp_one i) m = sp_ot (mi (b + 4)) m x from h46)]; rfl)
        · refine And.intro (by first | exact Or.inl rfl | exact Or.inr rfl | exact fc_bb _ | assumption) ?_
          refine ⟨?_, rfl, rfl, rfl⟩
          replace h46 := h46
          simp only [sp_cut, sp_ff, h32, if_true]
          first | (rw [decide_eq_true (show sp_sp (mi (b + 4)) m (sp_one x) (sp_one i) m = sp_ot (mi (b + 4)) m x from h46)]; rfl) | (rw [decide_eq_false (show ¬ sp_sp (mi (b + 4)) m (sp_one x) (sp_one i) m = sp_ot (mi (b + 4)) m x from h46)]; rfl)
theorem c_isCut (hL : fc_L mr b) (x : Nat) (hM : mi b 10 = nI m) (h7 : m ≤ 7) : fc_R E mX9_isCut (d + 3) fc_sh [.ref 6, .ref b, .int (nI x)] mi ml mr (fc_is (some (.int (fc_b (sp_cut (mi (b + 4)) m x m 0)))) mi ml mr) := by
  refine fc_met rfl (Nat.le_of_ble_eq_true rfl) (fc_run oX9_isCut (fun pc => pc == 17) 400 ?_)
  refine And.intro rfl (Exists.intro _ (And.intro (c_spread hL _ _ hM h7) ?_))
  rintro _ _ _ _ ⟨rfl, rfl, rfl, rfl⟩
  exact l_isCut hL x hM h7 m 0 _ (by omega) rfl

/-- the farthest within reach -/
def sp_fr (f : Nat → Int32) : Nat → Int32
  | 0 => 0
  | i + 1 => if f i < 1000 then (if sp_fr f i < f i then f i else sp_fr f i) else sp_fr f i
theorem fc_W7 (hW : fc_Wd mr) {x : Nat} (hx : x < 7) : mr 7 x = some (8 + x) := by
  match x, hx with
  | 0, _ => exact hW 7 0 8 rfl
  | 1, _ => exact hW 7 1 9 rfl
  | 2, _ => exact hW 7 2 10 rfl
  | 3, _ => exact hW 7 3 11 rfl
  | 4, _ => exact hW 7 4 12 rfl
  | 5, _ => exact hW 7 5 13 rfl
  | 6, _ => exact hW 7 6 14 rfl
theorem fc_sh7 {x : Nat} (hx : x < 7) : fc_sh[8 + x]? = some (20, 7) := by
  match x, hx with
  | 0, _ => rfl
  | 1, _ => rfl
  | 2, _ => rfl
  | 3, _ => rfl
  | 4, _ => rfl
  | 5, _ => rfl
  | 6, _ => rfl
theorem l_farthest (hW : fc_Wd mr) (hL : fc_L mr b) {x : Nat} (hx : x < 7) (hM : mi b 10 = nI m) (h7 : m ≤ 7) : ∀ (j i : Nat) (c acc : Int32), i + j = m → c = nI i → acc = sp_fr (mi (8 + x)) i → fc_T E mX9_farthestFrom d (0, 0) fc_sh 5 [some (.ref 6), some (.ref b), some (.int (nI x)), some (.int acc), some (.int c)] [] mi ml mr (fc_is (some (.int (sp_fr (mi (8 + x)) m))) mi ml mr) := by
  intro j
  induction j with
  | zero =>
    intro i c acc hi hc hacc
    subst hc
    refine fc_run oX9_farthestFrom (fun pc => pc == 5) 400 ?_
    refine And.intro (fc_L_0 hL) ?_
    refine And.intro (fun h11 => ?_) (fun h11 => ?_)
    · exact ⟨by rw [hacc, show i = m by omega], rfl, rfl, rfl⟩
    · exact absurd (by rw [hM]; exact nI_le (by omega) (by omega)) h11
  | succ j ih =>
    intro i c acc hi hc hacc
    subst hc
    refine fc_run oX9_farthestFrom (fun pc => pc == 5) 400 ?_
    refine And.intro (fc_L_0 hL) ?_
    refine And.intro (fun h11 => ?_) (fun h11 => ?_)
    · exact absurd h11 (by rw [hM]; exact nI_ge (by omega) (by omega))
    · refine And.intro rfl (Exists.intro _ (And.intro (hW 6 0 7 rfl) ?_))
      refine Exists.intro _ (Exists.intro _ (Exists.intro _ (Exists.intro _ (And.intro rfl (And.intro (by decide) (And.intro (fc_ix_nI (p := x) (by omega) (by omega)) (And.intro (fc_W7 hW hx) ?_)))))))
      refine Exists.intro _ (Exists.intro _ (And.intro (fc_sh7 hx) (And.intro (fc_ix_nI (p := i) (by omega) (by omega)) ?_)))
      refine And.intro (fun h26 => ?_) (fun h26 => ?_)
      · replace h26 := Int32.not_lt.mpr h26
        exact ih (i + 1) _ _ (by omega) (fc_inc i) (by rw [hacc]; simp [sp_fr, h26, Int32.not_le])
      · replace h26 := Int32.not_le.mp h26
        refine And.intro rfl (Exists.intro _ (And.intro (hW 6 0 7 rfl) ?_))
        refine Exists.intro _ (Exists.intro _ (Exists.intro _ (Exists.intro _ (And.intro rfl (And.intro (by decide) (And.intro (fc_ix_nI (p := x) (by omega) (by omega)) (And.intro (fc_W7 hW hx) ?_)))))))
        refine Exists.intro _ (Exists.intro _ (And.intro (fc_sh7 hx) (And.intro (fc_ix_nI (p := i) (by omega) (by omega)) ?_)))
        exact ih (i + 1) _ _ (by omega) (fc_inc i) (by rw [hacc]; simp [sp_fr, h26, Int32.not_le])

theorem c_farthest (hW : fc_Wd mr) (hL : fc_L mr b) {x : Nat} (hx : x < 7) (hM : mi b 10 = nI m) (h7 : m ≤ 7) : fc_R E mX9_farthestFrom d fc_sh [.ref 6, .ref b, .int (nI x)] mi ml mr (fc_is (some (.int (sp_fr (mi (8 + x)) m))) mi ml mr) := by
  refine fc_met rfl (Nat.le_of_ble_eq_true rfl) (fc_run oX9_farthestFrom (fun pc => pc == 5) 400 ?_)
  exact l_farthest hW hL hx hM h7 m 0 _ _ (by omega) rfl rfl

end M21
end
section
/-! ===== the distances ===== -/
section M22
variable {E : fc_E} {d : Nat} {mi : fc_Mi} {ml : fc_Ml} {mr : fc_Mr} {a b n m t : Nat}
/-- edge, been, and the row of distances, steps below i done -/
def sp_me (pt : Nat → Int32) (m x : Nat) (r0 : Nat → Int32) : Nat → Int32 × Int32 × (Nat → Int32)
  | 0 => (sp_one x, 0, fun j => if j < 7 then 1000 else r0 j)
  | i + 1 => (sp_nb pt m (sp_me pt m x r0 i).1 &&& (((sp_me pt m x r0 i).2.1 ||| (sp_me pt m x r0 i).1) ^^^ (-1)), (sp_me pt m x r0 i).2.1 ||| (sp_me pt m x r0 i).1, fun p => if decide (p < m) && sp_in (sp_me pt m x r0 i).1 (nI p) then nI i else (sp_me pt m x r0 i).2.2 p)
theorem l_mf2 (hW : fc_Wd mr) (hL : fc_L mr b) (hb : 100 ≤ b) {x : Nat} (hx : x < 7) (hM : mi b 10 = nI m) (hm7 : m ≤ 7) {s : Nat} {e bn : Int32} {r : Nat → Int32} {Q : fc_Q} (K : ∀ (e' c' : Int32) (x6 : Option Value) (mm' : fc_Mi), e' = sp_nb (mi (b + 4)) m e &&& (bn ^^^ (-1)) → c' = nI (s + 1) → mm' = fc_ur mi (8 + x) (fun p => if decide (p < m) && sp_in e (nI p) then nI s else r p) → fc_T E mX9_measureFrom (d + 2) (0, 0) fc_sh 22 [some (.ref 6), some (.ref b), some (.int (nI x)), some (.int e'), some (.int bn), some (.int c'), x6] [] mm' ml mr Q) : ∀ (j i : Nat) (c : Int32) (mm : fc_Mi), i + j = m → c = nI i → mm = fc_ur mi (8 + x) (fun p => if decide (p < i) && sp_in e (nI p) then nI s else r p) → fc_T E mX9_measureFrom (d + 2) (0, 0) fc_sh 40 [some (.ref 6), some (.ref b), some (.int (nI x)), some (.int e), some (.int bn), some (.int (nI s)), some (.int c)] [] mm ml mr (Q) := by
  intro j
  induction j with
  | zero =>
    intro i c mm hi hc hm
    subst hc
    have hMm : mm b 10 = nI m := by rw [hm, fc_ur_off _ _ (by omega)]; exact hM
    have hpt : mm (b + 4) = mi (b + 4) := by rw [hm, fc_ur_off _ _ (by omega)]
    refine fc_run oX9_measureFrom (fun pc => pc == 40 || pc == 22) 400 ?_
    refine And.intro (fc_L_0 hL) ?_
    refine And.intro (fun h46 => ?_) (fun h46 => ?_)
    · refine Exists.intro _ (And.intro (c_neighbours hL _ hMm hm7) ?_)
      rintro _ _ _ _ ⟨rfl, rfl, rfl, rfl⟩
      rw [hpt]
      exact K _ _ _ _ rfl (fc_inc s) (by rw [hm, show i = m by omega])
    · exact absurd (by rw [hMm]; exact nI_le (by omega) (by omega)) h46
  | succ j ih =>
    intro i c mm hi hc hm
    subst hc
    have hMm : mm b 10 = nI m := by rw [hm, fc_ur_off _ _ (by omega)]; exact hM
    have hpt : mm (b + 4) = mi (b + 4) := by rw [hm, fc_ur_off _ _ (by omega)]
    refine fc_run oX9_measureFrom (fun pc => pc == 40 || pc == 22) 400 ?_
    refine And.intro (fc_L_0 hL) ?_
    refine And.intro (fun h46 => ?_) (fun h46 => ?_)
    · exact absurd h46 (by rw [hMm]; exact nI_ge (by omega) (by omega))
    · refine Exists.intro _ (And.intro (c_isIn _ _) ?_)
      rintro _ _ _ _ ⟨rfl, rfl, rfl, rfl⟩
      refine And.intro (fun h55 => ?_) (fun h55 => ?_)
      · replace h55 := fc_b0.mp h55
        exact ih (i + 1) _ _ (by omega) (fc_inc i) (by
                rw [hm]
                refine fc_rowE (fun j => ?_)
                by_cases h1 : j = i
                · subst h1; simp [h55]
                · simp [h1, show (j < i + 1) ↔ (j < i) by omega])
      · replace h55 := fc_b1.mp h55
        refine And.intro rfl (Exists.intro _ (And.intro (hW 6 0 7 rfl) ?_))
        refine Exists.intro _ (Exists.intro _ (Exists.intro _ (Exists.intro _ (And.intro rfl (And.intro (by decide) (And.intro (fc_ix_nI (p := x) (by omega) (by omega)) (And.intro (fc_W7 hW hx) ?_)))))))
        refine Exists.intro _ (Exists.intro _ (And.intro (fc_sh7 hx) (And.intro (fc_ix_nI (p := i) (by omega) (by omega)) ?_)))
        exact ih (i + 1) _ _ (by omega) (fc_inc i) (by
                rw [hm, fc_u_ur]
                refine fc_rowE (fun j => ?_)
                by_cases h1 : j = i
                · subst h1; simp [h55]
                · simp [h1, show (j < i + 1) ↔ (j < i) by omega])

theorem l_mf1 (hW : fc_Wd mr) (hL : fc_L mr b) (hb : 100 ≤ b) {x : Nat} (hx : x < 7) (hM : mi b 10 = nI m) (hm7 : m ≤ 7) : ∀ (j i : Nat) (e bn c : Int32) (x6 : Option Value) (mm : fc_Mi), i + j = m → c = nI i → e = (sp_me (mi (b + 4)) m x (mi (8 + x)) i).1 → bn = (sp_me (mi (b + 4)) m x (mi (8 + x)) i).2.1 → mm = fc_ur mi (8 + x) (sp_me (mi (b + 4)) m x (mi (8 + x)) i).2.2 → fc_T E mX9_measureFrom (d + 2) (0, 0) fc_sh 22 [some (.ref 6), some (.ref b), some (.int (nI x)), some (.int e), some (.int bn), some (.int c), x6] [] mm ml mr (fc_is none (fc_ur mi (8 + x) (sp_me (mi (b + 4)) m x (mi (8 + x)) m).2.2) ml mr) := by
  intro j
  induction j with
  | zero =>
    intro i e bn c x6 mm hi hc he hbn hm
    subst hc
    have hMm : mm b 10 = nI m := by rw [hm, fc_ur_off _ _ (by omega)]; exact hM
    refine fc_run oX9_measureFrom (fun pc => pc == 22 || pc == 40) 400 ?_
    refine And.intro (fc_L_0 hL) ?_
    refine And.intro (fun h28 => ?_) (fun h28 => ?_)
    · exact ⟨rfl, by rw [hm, show i = m by omega], rfl, rfl⟩
    · exact absurd (by rw [hMm]; exact nI_le (by omega) (by omega)) h28
  | succ j ih =>
    intro i e bn c x6 mm hi hc he hbn hm
    subst hc
    have hMm : mm b 10 = nI m := by rw [hm, fc_ur_off _ _ (by omega)]; exact hM
    refine fc_run oX9_measureFrom (fun pc => pc == 22 || pc == 40) 400 ?_
    refine And.intro (fc_L_0 hL) ?_
    refine And.intro (fun h28 => ?_) (fun h28 => ?_)
    · exact absurd h28 (by rw [hMm]; exact nI_ge (by omega) (by omega))
    · exact l_mf2 (r := (sp_me (mi (b + 4)) m x (mi (8 + x)) i).2.2) hW hL hb hx hM hm7 (fun e' c' x6 mm' he' hc' hm' => ih (i + 1) _ _ _ _ _ (by omega) hc' (by rw [he', he, hbn]; rfl) (by rw [he, hbn]; rfl) (by rw [hm', he]; rfl)) m 0 _ _ (by omega) rfl (by rw [hm]; exact fc_rowE (fun p => by simp))

theorem c_measureFrom (hW : fc_Wd mr) (hL : fc_L mr b) (hb : 100 ≤ b) {x : Nat} (hx : x < 7) (hM : mi b 10 = nI m) (hm7 : m ≤ 7) : fc_R E mX9_measureFrom (d + 2) fc_sh [.ref 6, .ref b, .int (nI x)] mi ml mr (fc_is none (fc_ur mi (8 + x) (sp_me (mi (b + 4)) m x (mi (8 + x)) m).2.2) ml mr) := by
  refine fc_met rfl (Nat.le_of_ble_eq_true rfl) (fc_run oX9_measureFrom (fun pc => pc == 22) 400 ?_)
  refine And.intro rfl (Exists.intro _ (And.intro (hW 6 0 7 rfl) ?_))
  refine Exists.intro _ (Exists.intro _ (Exists.intro _ (Exists.intro _ (And.intro rfl (And.intro (by decide) (And.intro (fc_ix_nI (p := x) (by omega) (by omega)) (And.intro (fc_W7 hW hx) ?_)))))))
  refine Exists.intro _ (And.intro (c_fill (fc_sh7 hx) (by omega) _) ?_)
  rintro _ _ _ _ ⟨rfl, rfl, rfl, rfl⟩
  exact l_mf1 hW hL hb hx hM hm7 m 0 _ _ _ _ _ (by omega) rfl rfl rfl rfl

/-- the memory with the distances from the places below i -/
def sp_mm (mi : fc_Mi) (b m : Nat) : Nat → fc_Mi
  | 0 => mi
  | i + 1 => fc_ur (sp_mm mi b m i) (8 + i) (sp_me (mi (b + 4)) m i (mi (8 + i)) m).2.2
theorem sp_mm_off {mi : fc_Mi} {b m : Nat} : ∀ (i : Nat) {q : Nat}, q < 8 ∨ 8 + i ≤ q → sp_mm mi b m i q = mi q
  | 0, _, _ => rfl
  | i + 1, q, h => by
    unfold sp_mm
    rw [fc_ur_off _ _ (by omega), sp_mm_off i (by omega)]
theorem sp_mm_at {mi : fc_Mi} {b m : Nat} : ∀ (i : Nat) {x : Nat}, x < i → sp_mm mi b m i (8 + x) = (sp_me (mi (b + 4)) m x (mi (8 + x)) m).2.2
  | 0, _, h => by omega
  | i + 1, x, h => by
    unfold sp_mm
    by_cases hx : x = i
    · subst hx; rw [fc_ur_row]
    · rw [fc_ur_off _ _ (by omega), sp_mm_at i (by omega)]
theorem l_measure (hW : fc_Wd mr) (hL : fc_L mr b) (hb : 100 ≤ b) (hM : mi b 10 = nI m) (hm7 : m ≤ 7) : ∀ (j i : Nat) (c : Int32) (mm : fc_Mi), i + j = m → c = nI i → mm = sp_mm mi b m i → fc_T E mX9_measure (d + 3) (0, 0) fc_sh 2 [some (.ref 6), some (.ref b), some (.int c)] [] mm ml mr (fc_is none (sp_mm mi b m m) ml mr) := by
  intro j
  induction j with
  | zero =>
    intro i c mm hi hc hm
    subst hc
    have hMm : mm b 10 = nI m := by rw [hm, sp_mm_off _ (by omega)]; exact hM
    have hpt : mm (b + 4) = mi (b + 4) := by rw [hm, sp_mm_off _ (by omega)]
    have h8 : mm (8 + i) = mi (8 + i) := by rw [hm, sp_mm_off _ (by omega)]
    refine fc_run oX9_measure (fun pc => pc == 2) 400 ?_
    refine And.intro (fc_L_0 hL) ?_
    refine And.intro (fun h7 => ?_) (fun h7 => ?_)
    · exact ⟨rfl, by rw [hm, show i = m by omega], rfl, rfl⟩
    · exact absurd (by rw [hMm]; exact nI_le (by omega) (by omega)) h7
  | succ j ih =>
    intro i c mm hi hc hm
    subst hc
    have hMm : mm b 10 = nI m := by rw [hm, sp_mm_off _ (by omega)]; exact hM
    have hpt : mm (b + 4) = mi (b + 4) := by rw [hm, sp_mm_off _ (by omega)]
    have h8 : mm (8 + i) = mi (8 + i) := by rw [hm, sp_mm_off _ (by omega)]
    refine fc_run oX9_measure (fun pc => pc == 2) 400 ?_
    refine And.intro (fc_L_0 hL) ?_
    refine And.intro (fun h7 => ?_) (fun h7 => ?_)
    · exact absurd h7 (by rw [hMm]; exact nI_ge (by omega) (by omega))
    · refine And.intro rfl (Exists.intro _ (And.intro (c_measureFrom hW hL hb (by omega) hMm hm7) ?_))
      rintro _ _ _ _ ⟨rfl, rfl, rfl, rfl⟩
      exact ih (i + 1) _ _ (by omega) (fc_inc i) (by rw [hpt, h8, hm]; rfl)

theorem c_measure (hW : fc_Wd mr) (hL : fc_L mr b) (hb : 100 ≤ b) (hM : mi b 10 = nI m) (hm7 : m ≤ 7) : fc_R E mX9_measure (d + 3) fc_sh [.ref 6, .ref b] mi ml mr (fc_is none (sp_mm mi b m m) ml mr) := by
  refine fc_met rfl (Nat.le_of_ble_eq_true rfl) (fc_run oX9_measure (fun pc => pc == 2) 400 ?_)
  exact l_measure hW hL hb hM hm7 m 0 _ _ (by omega) rfl rfl

end M22
end
section
/-! ===== FirstChimney: questions that change nothing ===== -/
/-- a Script at sc, its rows behind it -/
def fc_Qs (mr : fc_Mr) (sc : Nat) : Prop := fc_sh[sc]? = some (5, 0) ∧ fc_sh[sc + 1]? = some (20, 40) ∧ fc_sh[sc + 2]? = some (20, 40) ∧ fc_sh[sc + 3]? = some (20, 40) ∧ mr sc 0 = some (sc + 1) ∧ mr sc 1 = some (sc + 2) ∧ mr sc 2 = some (sc + 3)
theorem fc_Q_0 {mr : fc_Mr} {sc : Nat} (h : fc_Qs mr sc) : fc_sh[sc]? = some (5, 0) := h.1
theorem fc_Q_1 {mr : fc_Mr} {sc : Nat} (h : fc_Qs mr sc) : fc_sh[sc + 1]? = some (20, 40) := h.2.1
theorem fc_Q_2 {mr : fc_Mr} {sc : Nat} (h : fc_Qs mr sc) : fc_sh[sc + 2]? = some (20, 40) := h.2.2.1
theorem fc_Q_3 {mr : fc_Mr} {sc : Nat} (h : fc_Qs mr sc) : fc_sh[sc + 3]? = some (20, 40) := h.2.2.2.1
theorem fc_Q_r0 {mr : fc_Mr} {sc : Nat} (h : fc_Qs mr sc) : mr sc 0 = some (sc + 1) := h.2.2.2.2.1
theorem fc_Q_r1 {mr : fc_Mr} {sc : Nat} (h : fc_Qs mr sc) : mr sc 1 = some (sc + 2) := h.2.2.2.2.2.1
theorem fc_Q_r2 {mr : fc_Mr} {sc : Nat} (h : fc_Qs mr sc) : mr sc 2 = some (sc + 3) := h.2.2.2.2.2.2
/-- the land in use is at b, the morning at sc; all is as it must be -/
def fc_H (mi : fc_Mi) (mr : fc_Mr) (b sc n m t : Nat) : Prop := fc_Wd mr ∧ mr 0 7 = some b ∧ fc_L mr b ∧ 218 ≤ b ∧ fc_LN mi b n m t ∧ fc_SV mi 17 n m t ∧ mr 0 9 = some sc ∧ fc_Qs mr sc ∧ 244 ≤ sc
section M23
variable {E : fc_E} {d : Nat} {mi : fc_Mi} {ml : fc_Ml} {mr : fc_Mr} {b sc n m t : Nat}
def q_place (mi : fc_Mi) (b n : Nat) (x w : Int32) : Int32 := if sp_has (mi b 10) x then (if w = 0 then mi (b + 4) x.toNatClampNeg else if w = 1 then sp_set (fun p => decide (mi 18 p = x)) n else if w = 2 then sp_set (fun p => decide (mi 18 p = x)) n &&& sp_set (sp_aw (mi (b + 7)) (mi 17 1)) n else -1) else -1
theorem c_place (hH : fc_H mi mr b sc n m t) (x w : Int32) : fc_R E mX10_place (d + 2) fc_sh [.ref 0, .int x, .int w] mi ml mr (fc_is (some (.int (q_place mi b n x w))) mi ml mr) := by
  obtain ⟨hW, hB, hL, hb, hN, hV, hC, hQ, hsc⟩ := id hH
  obtain ⟨hN1, hN2, hN3, hN4, hN5, hN6⟩ := id hN
  refine fc_met rfl (Nat.le_of_ble_eq_true rfl) (fc_run oX10_place (fun _ => false) 400 ?_)
  refine And.intro rfl (Exists.intro _ (And.intro hB ?_))
  refine And.intro (fc_L_0 hL) (Exists.intro _ (And.intro (c_hasPlace hL _) ?_))
  rintro _ _ _ _ ⟨rfl, rfl, rfl, rfl⟩
  refine And.intro (fun h8 => ?_) (fun h8 => ?_)
  · replace h8 := fc_b0.mp h8
    exact ⟨by simp [q_place, h8], rfl, rfl, rfl⟩
  · replace h8 := fc_b1.mp h8
    rw [hN3] at h8
    obtain ⟨p, hp_p, rfl⟩ := sp_hasN (by omega) h8
    rw [← hN3] at h8
    have hc_p := fc_cl (k := 8) (show p < 8 by omega) (by omega)
    refine And.intro (fun h14 => ?_) (fun _ => And.intro (And.intro (fun h14 => ?_) (And.intro (fun h14 => ?_) (And.intro (fun h14 => ?_) trivial))) (by decide))
    · have n14_0 : ¬ w = 0 := by rintro rfl; revert h14; decide
      have n14_1 : ¬ w = 1 := by rintro rfl; revert h14; decide
      have n14_2 : ¬ w = 2 := by rintro rfl; revert h14; decide
      exact ⟨by simp [q_place, h8, hc_p, h14, n14_0, n14_1, n14_2], rfl, rfl, rfl⟩
    · replace h14 := (fc_ofI 0 (by decide)).mp h14
      refine And.intro rfl (Exists.intro _ (And.intro hB ?_))
      refine And.intro (fc_L_0 hL) (Exists.intro _ (And.intro (fc_L_r3 hL) ?_))
      refine Exists.intro _ (Exists.intro _ (And.intro (fc_L_4 hL) (And.intro (by first | assumption | exact fc_ix_nI (by omega) (by omega) | exact fc_ix_nI (by assumption) (by omega)) ?_)))
      exact ⟨by simp [q_place, h8, hc_p, h14], rfl, rfl, rfl⟩
    · replace h14 := (fc_ofI 1 (by decide)).mp h14
      refine And.intro rfl (Exists.intro _ (And.intro (hW 0 3 17 rfl) ?_))
      refine And.intro rfl (Exists.intro _ (And.intro hB ?_))
      refine And.intro (fc_S_0 (fc_S_at17 hW)) (Exists.intro _ (And.intro (c_bitsAt (fc_S_at17 hW) hL _ hN1 hN2) ?_))
      rintro _ _ _ _ ⟨rfl, rfl, rfl, rfl⟩
      exact ⟨by simp [q_place, h8, hc_p, h14], rfl, rfl, rfl⟩
    · replace h14 := (fc_ofI 2 (by decide)).mp h14
      refine And.intro rfl (Exists.intro _ (And.intro (hW 0 3 17 rfl) ?_))
      refine And.intro rfl (Exists.intro _ (And.intro hB ?_))
      refine And.intro (fc_S_0 (fc_S_at17 hW)) (Exists.intro _ (And.intro (c_bitsAt (fc_S_at17 hW) hL _ hN1 hN2) ?_))
      rintro _ _ _ _ ⟨rfl, rfl, rfl, rfl⟩
      refine And.intro rfl (Exists.intro _ (And.intro hB ?_))
      refine And.intro rfl (Exists.intro _ (And.intro (hW 0 3 17 rfl) ?_))
      refine And.intro (fc_S_0 (fc_S_at17 hW)) ?_
      refine And.intro (fc_L_0 hL) (Exists.intro _ (And.intro (c_awakeBits hL _ hN1 hN2) ?_))
      rintro _ _ _ _ ⟨rfl, rfl, rfl, rfl⟩
      exact ⟨by simp [q_place, h8, hc_p, h14], rfl, rfl, rfl⟩

def q_person (mi : fc_Mi) (b t : Nat) (x w : Int32) : Int32 := if sp_has (mi b 12) x then (if w = 0 then mi (b + 5) x.toNatClampNeg else if w = 1 then mi (b + 6) x.toNatClampNeg else if w = 2 then mi 18 x.toNatClampNeg else if w = 3 then fc_b (sp_aw (mi (b + 7)) (mi 17 1) x.toNatClampNeg) else if w = 4 then fc_b (sp_rd (mi (b + 7)) (mi 19) (mi 17 1) x.toNatClampNeg) else if w = 5 then sp_set (fun q => decide (mi 23 q = x)) t else -1) else -1
theorem l_thingsOf (hH : fc_H mi mr b sc n m t) {r : Nat} (hr : fc_sh[r]? = some (20, 6)) (x : Int32) : ∀ (j i : Nat) (c acc : Int32), i + j = t → c = nI i → acc = sp_set (fun q => decide (mi r q = x)) i → fc_T E mX10_thingsOf d (0, 0) fc_sh 5 [some (.ref 0), some (.ref r), some (.int x), some (.int acc), some (.int c)] [] mi ml mr (fc_is (some (.int (sp_set (fun q => decide (mi r q = x)) t))) mi ml mr) := by
  obtain ⟨hW, hB, hL, hb, hN, hV, hC, hQ, hsc⟩ := id hH
  obtain ⟨hN1, hN2, hN3, hN4, hN5, hN6⟩ := id hN
  intro j
  induction j with
  | zero =>
    intro i c acc hi hc hacc
    subst hc
    refine fc_run oX10_thingsOf (fun pc => pc == 5) 400 ?_
    refine And.intro rfl (Exists.intro _ (And.intro hB ?_))
    refine And.intro (fc_L_0 hL) ?_
    refine And.intro (fun h14 => ?_) (fun h14 => ?_)
    · exact ⟨by rw [hacc, show i = t by omega], rfl, rfl, rfl⟩
    · exact absurd (by rw [hN5]; exact nI_le (by omega) (by omega)) h14
  | succ j ih =>
    intro i c acc hi hc hacc
    subst hc
    refine fc_run oX10_thingsOf (fun pc => pc == 5) 400 ?_
    refine And.intro rfl (Exists.intro _ (And.intro hB ?_))
    refine And.intro (fc_L_0 hL) ?_
    refine And.intro (fun h14 => ?_) (fun h14 => ?_)
    · exact absurd h14 (by rw [hN5]; exact nI_ge (by omega) (by omega))
    · refine Exists.intro _ (Exists.intro _ (And.intro hr (And.intro (by first | assumption | exact fc_ix_nI (by omega) (by omega) | exact fc_ix_nI (by assumption) (by omega)) ?_)))
      refine And.intro (fun h22 => ?_) (fun h22 => ?_)
      · exact ih (i + 1) _ _ (by omega) (fc_inc i) (by first | (rw [hacc]; exact sp_set_t (by simp [*])) | (rw [hacc]; exact sp_set_f (by simp [*])))
      · exact ih (i + 1) _ _ (by omega) (fc_inc i) (by first | (rw [hacc]; exact sp_set_t (by simp [*])) | (rw [hacc]; exact sp_set_f (by simp [*])))

theorem c_thingsOf (hH : fc_H mi mr b sc n m t) {r : Nat} (hr : fc_sh[r]? = some (20, 6)) (x : Int32) : fc_R E mX10_thingsOf d fc_sh [.ref 0, .ref r, .int x] mi ml mr (fc_is (some (.int (sp_set (fun q => decide (mi r q = x)) t))) mi ml mr) := by
  refine fc_met rfl (Nat.le_of_ble_eq_true rfl) (fc_run oX10_thingsOf (fun pc => pc == 5) 400 ?_)
  exact l_thingsOf hH hr x t 0 _ _ (by omega) rfl rfl
theorem c_person (hH : fc_H mi mr b sc n m t) (x w : Int32) : fc_R E mX10_person (d + 2) fc_sh [.ref 0, .int x, .int w] mi ml mr (fc_is (some (.int (q_person mi b t x w))) mi ml mr) := by
  obtain ⟨hW, hB, hL, hb, hN, hV, hC, hQ, hsc⟩ := id hH
  obtain ⟨hN1, hN2, hN3, hN4, hN5, hN6⟩ := id hN
  refine fc_met rfl (Nat.le_of_ble_eq_true rfl) (fc_run oX10_person (fun _ => false) 400 ?_)
  refine And.intro rfl (Exists.intro _ (And.intro hB ?_))
  refine And.intro (fc_L_0 hL) (Exists.intro _ (And.intro (c_hasPerson hL _) ?_))
  rintro _ _ _ _ ⟨rfl, rfl, rfl, rfl⟩
  refine And.intro (fun h8 => ?_) (fun h8 => ?_)
  · replace h8 := fc_b0.mp h8
    exact ⟨by simp [q_person, fc_b, h8], rfl, rfl, rfl⟩
  · replace h8 := fc_b1.mp h8
    rw [hN1] at h8
    obtain ⟨p, hp_p, rfl⟩ := sp_hasN (by omega) h8
    rw [← hN1] at h8
    have hc_p := fc_cl (k := 8) (show p < 8 by omega) (by omega)
    refine And.intro (fun h14 => ?_) (fun _ => And.intro (And.intro (fun h14 => ?_) (And.intro (fun h14 => ?_) (And.intro (fun h14 => ?_) (And.intro (fun h14 => ?_) (And.intro (fun h14 => ?_) (And.intro (fun h14 => ?_) trivial)))))) (by decide))
    · have n14_0 : ¬ w = 0 := by rintro rfl; revert h14; decide
      have n14_1 : ¬ w = 1 := by rintro rfl; revert h14; decide
      have n14_2 : ¬ w = 2 := by rintro rfl; revert h14; decide
      have n14_3 : ¬ w = 3 := by rintro rfl; revert h14; decide
      have n14_4 : ¬ w = 4 := by rintro rfl; revert h14; decide
      have n14_5 : ¬ w = 5 := by rintro rfl; revert h14; decide
      exact ⟨by simp [q_person, fc_b, h8, hc_p, h14, n14_0, n14_1, n14_2, n14_3, n14_4, n14_5], rfl, rfl, rfl⟩
    · replace h14 := (fc_ofI 0 (by decide)).mp h14
      refine And.intro rfl (Exists.intro _ (And.intro hB ?_))
      refine And.intro (fc_L_0 hL) (Exists.intro _ (And.intro (fc_L_r4 hL) ?_))
      refine Exists.intro _ (Exists.intro _ (And.intro (fc_L_5 hL) (And.intro (by first | assumption | exact fc_ix_nI (by omega) (by omega) | exact fc_ix_nI (by assumption) (by omega)) ?_)))
      exact ⟨by simp [q_person, fc_b, h8, hc_p, h14], rfl, rfl, rfl⟩
    · replace h14 := (fc_ofI 1 (by decide)).mp h14
      refine And.intro rfl (Exists.intro _ (And.intro hB ?_))
      refine And.intro (fc_L_0 hL) (Exists.intro _ (And.intro (fc_L_r5 hL) ?_))
      refine Exists.intro _ (Exists.intro _ (And.intro (fc_L_6 hL) (And.intro (by first | assumption | exact fc_ix_nI (by omega) (by omega) | exact fc_ix_nI (by assumption) (by omega)) ?_)))
      exact ⟨by simp [q_person, fc_b, h8, hc_p, h14], rfl, rfl, rfl⟩
    · replace h14 := (fc_ofI 2 (by decide)).mp h14
      refine And.intro rfl (Exists.intro _ (And.intro (hW 0 3 17 rfl) ?_))
      refine And.intro (fc_S_0 (fc_S_at17 hW)) (Exists.intro _ (And.intro (fc_S_r2 (fc_S_at17 hW)) ?_))
      refine Exists.intro _ (Exists.intro _ (And.intro (fc_S_1 (fc_S_at17 hW)) (And.intro (by first | assumption | exact fc_ix_nI (by omega) (by omega) | exact fc_ix_nI (by assumption) (by omega)) ?_)))
      exact ⟨by simp [q_person, fc_b, h8, hc_p, h14], rfl, rfl, rfl⟩
    · replace h14 := (fc_ofI 3 (by decide)).mp h14
      refine And.intro rfl (Exists.intro _ (And.intro hB ?_))
      refine And.intro rfl (Exists.intro _ (And.intro (hW 0 3 17 rfl) ?_))
      refine And.intro (fc_S_0 (fc_S_at17 hW)) ?_
      refine And.intro (fc_L_0 hL) (Exists.intro _ (And.intro (c_isAwake hL (by omega) _) ?_))
      rintro _ _ _ _ ⟨rfl, rfl, rfl, rfl⟩
      refine And.intro (fun h97 => ?_) (fun h97 => ?_)
      · replace h97 := fc_b0.mp h97
        exact ⟨by simp [q_person, fc_b, h8, hc_p, h14, h97], rfl, rfl, rfl⟩
      · replace h97 := fc_b1.mp h97
        exact ⟨by simp [q_person, fc_b, h8, hc_p, h14, h97], rfl, rfl, rfl⟩
    · replace h14 := (fc_ofI 4 (by decide)).mp h14
      refine And.intro rfl (Exists.intro _ (And.intro (hW 0 3 17 rfl) ?_))
      refine And.intro rfl (Exists.intro _ (And.intro hB ?_))
      refine And.intro (fc_S_0 (fc_S_at17 hW)) (Exists.intro _ (And.intro (c_isReady (fc_S_at17 hW) hL (by omega)) ?_))
      rintro _ _ _ _ ⟨rfl, rfl, rfl, rfl⟩
      refine And.intro (fun h118 => ?_) (fun h118 => ?_)
      · replace h118 := fc_b0.mp h118
        exact ⟨by simp [q_person, fc_b, h8, hc_p, h14, h118], rfl, rfl, rfl⟩
      · replace h118 := fc_b1.mp h118
        exact ⟨by simp [q_person, fc_b, h8, hc_p, h14, h118], rfl, rfl, rfl⟩
    · replace h14 := (fc_ofI 5 (by decide)).mp h14
      refine And.intro rfl (Exists.intro _ (And.intro (hW 0 3 17 rfl) ?_))
      refine And.intro (fc_S_0 (fc_S_at17 hW)) (Exists.intro _ (And.intro (fc_S_r7 (fc_S_at17 hW)) ?_))
      refine And.intro rfl (Exists.intro _ (And.intro (c_thingsOf hH rfl _) ?_))
      rintro _ _ _ _ ⟨rfl, rfl, rfl, rfl⟩
      exact ⟨by simp [q_person, fc_b, h8, hc_p, h14], rfl, rfl, rfl⟩

def q_thing (mi : fc_Mi) (b : Nat) (x w : Int32) : Int32 := if sp_has (mi b 13) x then (if w = 0 then mi (b + 8) x.toNatClampNeg else if w = 1 then mi 23 x.toNatClampNeg else if w = 2 then mi 24 x.toNatClampNeg else -1) else -1
theorem c_thing (hH : fc_H mi mr b sc n m t) (x w : Int32) : fc_R E mX10_thing (d + 1) fc_sh [.ref 0, .int x, .int w] mi ml mr (fc_is (some (.int (q_thing mi b x w))) mi ml mr) := by
  obtain ⟨hW, hB, hL, hb, hN, hV, hC, hQ, hsc⟩ := id hH
  obtain ⟨hN1, hN2, hN3, hN4, hN5, hN6⟩ := id hN
  refine fc_met rfl (Nat.le_of_ble_eq_true rfl) (fc_run oX10_thing (fun _ => false) 400 ?_)
  refine And.intro rfl (Exists.intro _ (And.intro hB ?_))
  refine And.intro (fc_L_0 hL) (Exists.intro _ (And.intro (c_hasThing hL _) ?_))
  rintro _ _ _ _ ⟨rfl, rfl, rfl, rfl⟩
  refine And.intro (fun h8 => ?_) (fun h8 => ?_)
  · replace h8 := fc_b0.mp h8
    exact ⟨by simp [q_thing, h8], rfl, rfl, rfl⟩
  · replace h8 := fc_b1.mp h8
    rw [hN5] at h8
    obtain ⟨p, hp_p, rfl⟩ := sp_hasN (by omega) h8
    rw [← hN5] at h8
    have hc_p := fc_cl (k := 8) (show p < 8 by omega) (by omega)
    refine And.intro (fun h14 => ?_) (fun _ => And.intro (And.intro (fun h14 => ?_) (And.intro (fun h14 => ?_) (And.intro (fun h14 => ?_) trivial))) (by decide))
    · have n14_0 : ¬ w = 0 := by rintro rfl; revert h14; decide
      have n14_1 : ¬ w = 1 := by rintro rfl; revert h14; decide
      have n14_2 : ¬ w = 2 := by rintro rfl; revert h14; decide
      exact ⟨by simp [q_thing, h8, hc_p, h14, n14_0, n14_1, n14_2], rfl, rfl, rfl⟩
    · replace h14 := (fc_ofI 0 (by decide)).mp h14
      refine And.intro rfl (Exists.intro _ (And.intro hB ?_))
      refine And.intro (fc_L_0 hL) (Exists.intro _ (And.intro (fc_L_r7 hL) ?_))
      refine Exists.intro _ (Exists.intro _ (And.intro (fc_L_8 hL) (And.intro (by first | assumption | exact fc_ix_nI (by omega) (by omega) | exact fc_ix_nI (by assumption) (by omega)) ?_)))
      exact ⟨by simp [q_thing, h8, hc_p, h14], rfl, rfl, rfl⟩
    · replace h14 := (fc_ofI 1 (by decide)).mp h14
      refine And.intro rfl (Exists.intro _ (And.intro (hW 0 3 17 rfl) ?_))
      refine And.intro (fc_S_0 (fc_S_at17 hW)) (Exists.intro _ (And.intro (fc_S_r7 (fc_S_at17 hW)) ?_))
      refine Exists.intro _ (Exists.intro _ (And.intro (fc_S_6 (fc_S_at17 hW)) (And.intro (by first | assumption | exact fc_ix_nI (by omega) (by omega) | exact fc_ix_nI (by assumption) (by omega)) ?_)))
      exact ⟨by simp [q_thing, h8, hc_p, h14], rfl, rfl, rfl⟩
    · replace h14 := (fc_ofI 2 (by decide)).mp h14
      refine And.intro rfl (Exists.intro _ (And.intro (hW 0 3 17 rfl) ?_))
      refine And.intro (fc_S_0 (fc_S_at17 hW)) (Exists.intro _ (And.intro (fc_S_r8 (fc_S_at17 hW)) ?_))
      refine Exists.intro _ (Exists.intro _ (And.intro (fc_S_7 (fc_S_at17 hW)) (And.intro (by first | assumption | exact fc_ix_nI (by omega) (by omega) | exact fc_ix_nI (by assumption) (by omega)) ?_)))
      exact ⟨by simp [q_thing, h8, hc_p, h14], rfl, rfl, rfl⟩

/-- in how many minutes one can be at a place -/
def q_mt (mi : fc_Mi) (b p k : Nat) : Int32 := sp_mo (mi (b + 7)) (mi 19) (mi (b + 5)) (mi 17 1) p (mi (8 + (mi 18 p).toNatClampNeg) k)
theorem c_minutesTo (hH : fc_H mi mr b sc n m t) {p k : Nat} (hp : p < n) (hk : k < 7) : fc_R E mX10_minutesTo (d + 2) fc_sh [.ref 0, .int (nI p), .int (nI k)] mi ml mr (fc_is (some (.int (q_mt mi b p k))) mi ml mr) := by
  obtain ⟨hW, hB, hL, hb, hN, hV, hC, hQ, hsc⟩ := id hH
  obtain ⟨hN1, hN2, hN3, hN4, hN5, hN6⟩ := id hN
  obtain ⟨jj, hjj, hw⟩ := hV.1 p hp
  have hcj := fc_cl (k := 7) (show jj < 7 by omega) (by omega)
  refine fc_met rfl (Nat.le_of_ble_eq_true rfl) (fc_run oX10_minutesTo (fun _ => false) 400 ?_)
  refine And.intro rfl (Exists.intro _ (And.intro (hW 0 3 17 rfl) ?_))
  refine And.intro rfl (Exists.intro _ (And.intro hB ?_))
  refine And.intro rfl (Exists.intro _ (And.intro (hW 0 2 6 rfl) ?_))
  refine And.intro rfl (Exists.intro _ (And.intro (hW 6 0 7 rfl) ?_))
  refine And.intro rfl (Exists.intro _ (And.intro (hW 0 3 17 rfl) ?_))
  refine And.intro (fc_S_0 (fc_S_at17 hW)) (Exists.intro _ (And.intro (fc_S_r2 (fc_S_at17 hW)) ?_))
  refine Exists.intro _ (Exists.intro _ (And.intro (fc_S_1 (fc_S_at17 hW)) (And.intro (by first | assumption | exact fc_ix_nI (by omega) (by omega) | exact fc_ix_nI (by assumption) (by omega)) ?_)))
  rw [hw]
  refine Exists.intro _ (Exists.intro _ (Exists.intro _ (Exists.intro _ (And.intro rfl (And.intro (by decide) (And.intro (fc_ix_nI (p := jj) (by omega) (by omega)) (And.intro (fc_W7 hW (by omega)) ?_)))))))
  refine Exists.intro _ (Exists.intro _ (And.intro (fc_sh7 (by omega)) (And.intro (by first | assumption | exact fc_ix_nI (by omega) (by omega) | exact fc_ix_nI (by assumption) (by omega)) ?_)))
  refine And.intro (fc_S_0 (fc_S_at17 hW)) (Exists.intro _ (And.intro (c_minutesOver (fc_S_at17 hW) hL (by omega) _) ?_))
  rintro _ _ _ _ ⟨rfl, rfl, rfl, rfl⟩
  exact ⟨by simp [q_mt, hw, hcj], rfl, rfl, rfl⟩

def q_soon (mi : fc_Mi) (b : Nat) (x k : Int32) : Int32 := if sp_has (mi b 12) x && sp_has (mi b 10) k then sp_non (q_mt mi b x.toNatClampNeg k.toNatClampNeg) else -1
theorem c_soon (hH : fc_H mi mr b sc n m t) (x k : Int32) : fc_R E mX10_soon (d + 3) fc_sh [.ref 0, .int x, .int k] mi ml mr (fc_is (some (.int (q_soon mi b x k))) mi ml mr) := by
  obtain ⟨hW, hB, hL, hb, hN, hV, hC, hQ, hsc⟩ := id hH
  obtain ⟨hN1, hN2, hN3, hN4, hN5, hN6⟩ := id hN
  refine fc_met rfl (Nat.le_of_ble_eq_true rfl) (fc_run oX10_soon (fun _ => false) 400 ?_)
  refine And.intro rfl (Exists.intro _ (And.intro hB ?_))
  refine And.intro (fc_L_0 hL) (Exists.intro _ (And.intro (c_hasPerson hL _) ?_))
  rintro _ _ _ _ ⟨rfl, rfl, rfl, rfl⟩
  refine And.intro (fun h8 => ?_) (fun h8 => ?_)
  · replace h8 := fc_b0.mp h8
    exact ⟨by simp [q_soon, h8], rfl, rfl, rfl⟩
  · replace h8 := fc_b1.mp h8
    rw [hN1] at h8
    obtain ⟨p, hp_p, rfl⟩ := sp_hasN (by omega) h8
    rw [← hN1] at h8
    have hc_p := fc_cl (k := 8) (show p < 8 by omega) (by omega)
    refine And.intro rfl (Exists.intro _ (And.intro hB ?_))
    refine And.intro (fc_L_0 hL) (Exists.intro _ (And.intro (c_hasPlace hL _) ?_))
    rintro _ _ _ _ ⟨rfl, rfl, rfl, rfl⟩
    refine And.intro (fun h19 => ?_) (fun h19 => ?_)
    · replace h19 := fc_b0.mp h19
      exact ⟨by simp [q_soon, h8, hc_p, h19], rfl, rfl, rfl⟩
    · replace h19 := fc_b1.mp h19
      rw [hN3] at h19
      obtain ⟨kk, hp_kk, rfl⟩ := sp_hasN (by omega) h19
      rw [← hN3] at h19
      have hc_kk := fc_cl (k := 8) (show kk < 8 by omega) (by omega)
      refine And.intro rfl (Exists.intro _ (And.intro (c_minutesTo hH (by omega) (by omega)) ?_))
      rintro _ _ _ _ ⟨rfl, rfl, rfl, rfl⟩
      refine Exists.intro _ (And.intro (c_orNone _) ?_)
      rintro _ _ _ _ ⟨rfl, rfl, rfl, rfl⟩
      exact ⟨by simp [q_soon, h8, hc_p, h19, hc_kk], rfl, rfl, rfl⟩

def q_intime (mi : fc_Mi) (b : Nat) (x k : Int32) : Bool := (sp_has (mi b 12) x && sp_has (mi b 10) k) && (!decide (99 < q_mt mi b x.toNatClampNeg k.toNatClampNeg) && !decide (mi b 14 ≤ mi 17 1 + q_mt mi b x.toNatClampNeg k.toNatClampNeg))
theorem c_intime (hH : fc_H mi mr b sc n m t) (x k : Int32) : fc_R E mX10_intime (d + 3) fc_sh [.ref 0, .int x, .int k] mi ml mr (fc_is (some (.int (fc_b (q_intime mi b x k)))) mi ml mr) := by
  obtain ⟨hW, hB, hL, hb, hN, hV, hC, hQ, hsc⟩ := id hH
  obtain ⟨hN1, hN2, hN3, hN4, hN5, hN6⟩ := id hN
  refine fc_met rfl (Nat.le_of_ble_eq_true rfl) (fc_run oX10_intime (fun _ => false) 400 ?_)
  refine And.intro rfl (Exists.intro _ (And.intro hB ?_))
  refine And.intro (fc_L_0 hL) (Exists.intro _ (And.intro (c_hasPerson hL _) ?_))
  rintro _ _ _ _ ⟨rfl, rfl, rfl, rfl⟩
  refine And.intro (fun h8 => ?_) (fun h8 => ?_)
  · replace h8 := fc_b0.mp h8
    refine And.intro (by first | exact Or.inl rfl | exact Or.inr rfl | exact fc_bb _ | assumption) ?_
    exact ⟨by simp [q_intime, fc_b, h8], rfl, rfl, rfl⟩
  · replace h8 := fc_b1.mp h8
    rw [hN1] at h8
    obtain ⟨p, hp_p, rfl⟩ := sp_hasN (by omega) h8
    rw [← hN1] at h8
    have hc_p := fc_cl (k := 8) (show p < 8 by omega) (by omega)
    refine And.intro rfl (Exists.intro _ (And.intro hB ?_))
    refine And.intro (fc_L_0 hL) (Exists.intro _ (And.intro (c_hasPlace hL _) ?_))
    rintro _ _ _ _ ⟨rfl, rfl, rfl, rfl⟩
    refine And.intro (fun h19 => ?_) (fun h19 => ?_)
    · replace h19 := fc_b0.mp h19
      refine And.intro (by first | exact Or.inl rfl | exact Or.inr rfl | exact fc_bb _ | assumption) ?_
      exact ⟨by simp [q_intime, fc_b, h8, hc_p, h19], rfl, rfl, rfl⟩
    · replace h19 := fc_b1.mp h19
      rw [hN3] at h19
      obtain ⟨kk, hp_kk, rfl⟩ := sp_hasN (by omega) h19
      rw [← hN3] at h19
      have hc_kk := fc_cl (k := 8) (show kk < 8 by omega) (by omega)
      refine And.intro rfl (Exists.intro _ (And.intro (c_minutesTo hH (by omega) (by omega)) ?_))
      rintro _ _ _ _ ⟨rfl, rfl, rfl, rfl⟩
      refine And.intro (fun h34 => ?_) (fun h34 => ?_)
      · refine And.intro (by first | exact Or.inl rfl | exact Or.inr rfl | exact fc_bb _ | assumption) ?_
        exact ⟨by simp [q_intime, fc_b, h8, hc_p, h19, hc_kk, h34], rfl, rfl, rfl⟩
      · refine And.intro rfl (Exists.intro _ (And.intro (hW 0 3 17 rfl) ?_))
        refine And.intro (fc_S_0 (fc_S_at17 hW)) ?_
        refine And.intro rfl (Exists.intro _ (And.intro hB ?_))
        refine And.intro (fc_L_0 hL) ?_
        refine And.intro (fun h53 => ?_) (fun h53 => ?_)
        · refine And.intro (by first | exact Or.inl rfl | exact Or.inr rfl | exact fc_bb _ | assumption) ?_
          exact ⟨by simp [q_intime, fc_b, h8, hc_p, h19, hc_kk, h34, h53], rfl, rfl, rfl⟩
        · refine And.intro (by first | exact Or.inl rfl | exact Or.inr rfl | exact fc_bb _ | assumption) ?_
          exact ⟨by simp [q_intime, fc_b, h8, hc_p, h19, hc_kk, h34, h53], rfl, rfl, rfl⟩

theorem c_back (hH : fc_H mi mr b sc n m t) : fc_R E mX10_back (d + 1) fc_sh [.ref 0] mi ml mr (fc_is (some (.int (sp_set (fun q => !decide (mi 23 q = mi 24 q)) t))) mi ml mr) := by
  obtain ⟨hW, hB, hL, hb, hN, hV, hC, hQ, hsc⟩ := id hH
  obtain ⟨hN1, hN2, hN3, hN4, hN5, hN6⟩ := id hN
  refine fc_met rfl (Nat.le_of_ble_eq_true rfl) (fc_run oX10_back (fun _ => false) 400 ?_)
  refine And.intro rfl (Exists.intro _ (And.intro (hW 0 3 17 rfl) ?_))
  refine And.intro rfl (Exists.intro _ (And.intro hB ?_))
  refine And.intro (fc_S_0 (fc_S_at17 hW)) (Exists.intro _ (And.intro (c_stray (fc_S_at17 hW) hL hN5 hN6) ?_))
  rintro _ _ _ _ ⟨rfl, rfl, rfl, rfl⟩
  first | exact ⟨rfl, rfl, rfl, rfl⟩ | skip

theorem c_heard (hH : fc_H mi mr b sc n m t) (x : Int32) : fc_R E mX10_heard (d + 1) fc_sh [.ref 0, .int x] mi ml mr (fc_is (some (.int (if sp_has (mi b 12) x then mi 20 x.toNatClampNeg else -1))) mi ml mr) := by
  obtain ⟨hW, hB, hL, hb, hN, hV, hC, hQ, hsc⟩ := id hH
  obtain ⟨hN1, hN2, hN3, hN4, hN5, hN6⟩ := id hN
  refine fc_met rfl (Nat.le_of_ble_eq_true rfl) (fc_run oX10_heard (fun _ => false) 400 ?_)
  refine And.intro rfl (Exists.intro _ (And.intro hB ?_))
  refine And.intro (fc_L_0 hL) (Exists.intro _ (And.intro (c_hasPerson hL _) ?_))
  rintro _ _ _ _ ⟨rfl, rfl, rfl, rfl⟩
  refine And.intro (fun h8 => ?_) (fun h8 => ?_)
  · replace h8 := fc_b0.mp h8
    exact ⟨by simp [h8], rfl, rfl, rfl⟩
  · replace h8 := fc_b1.mp h8
    rw [hN1] at h8
    obtain ⟨p, hp_p, rfl⟩ := sp_hasN (by omega) h8
    rw [← hN1] at h8
    have hc_p := fc_cl (k := 8) (show p < 8 by omega) (by omega)
    refine And.intro rfl (Exists.intro _ (And.intro (hW 0 3 17 rfl) ?_))
    refine And.intro (fc_S_0 (fc_S_at17 hW)) (Exists.intro _ (And.intro (fc_S_r4 (fc_S_at17 hW)) ?_))
    refine Exists.intro _ (Exists.intro _ (And.intro (fc_S_3 (fc_S_at17 hW)) (And.intro (by first | assumption | exact fc_ix_nI (by omega) (by omega) | exact fc_ix_nI (by assumption) (by omega)) ?_)))
    exact ⟨by simp [h8, hc_p], rfl, rfl, rfl⟩

theorem c_vows (hH : fc_H mi mr b sc n m t) (x r : Int32) : fc_R E mX10_vows (d + 1) fc_sh [.ref 0, .int x, .int r] mi ml mr (fc_is (some (.int (if sp_has (mi b 12) x then (if r = 0 then mi 21 x.toNatClampNeg else mi 22 x.toNatClampNeg) else -1))) mi ml mr) := by
  obtain ⟨hW, hB, hL, hb, hN, hV, hC, hQ, hsc⟩ := id hH
  obtain ⟨hN1, hN2, hN3, hN4, hN5, hN6⟩ := id hN
  refine fc_met rfl (Nat.le_of_ble_eq_true rfl) (fc_run oX10_vows (fun _ => false) 400 ?_)
  refine And.intro rfl (Exists.intro _ (And.intro hB ?_))
  refine And.intro (fc_L_0 hL) (Exists.intro _ (And.intro (c_hasPerson hL _) ?_))
  rintro _ _ _ _ ⟨rfl, rfl, rfl, rfl⟩
  refine And.intro (fun h8 => ?_) (fun h8 => ?_)
  · replace h8 := fc_b0.mp h8
    exact ⟨by simp [h8], rfl, rfl, rfl⟩
  · replace h8 := fc_b1.mp h8
    rw [hN1] at h8
    obtain ⟨p, hp_p, rfl⟩ := sp_hasN (by omega) h8
    rw [← hN1] at h8
    have hc_p := fc_cl (k := 8) (show p < 8 by omega) (by omega)
    refine And.intro (fun h14 => ?_) (fun h14 => ?_)
    · refine And.intro rfl (Exists.intro _ (And.intro (hW 0 3 17 rfl) ?_))
      refine And.intro (fc_S_0 (fc_S_at17 hW)) (Exists.intro _ (And.intro (fc_S_r5 (fc_S_at17 hW)) ?_))
      refine Exists.intro _ (Exists.intro _ (And.intro (fc_S_4 (fc_S_at17 hW)) (And.intro (by first | assumption | exact fc_ix_nI (by omega) (by omega) | exact fc_ix_nI (by assumption) (by omega)) ?_)))
      exact ⟨by simp [h8, hc_p, h14], rfl, rfl, rfl⟩
    · refine And.intro rfl (Exists.intro _ (And.intro (hW 0 3 17 rfl) ?_))
      refine And.intro (fc_S_0 (fc_S_at17 hW)) (Exists.intro _ (And.intro (fc_S_r6 (fc_S_at17 hW)) ?_))
      refine Exists.intro _ (Exists.intro _ (And.intro (fc_S_5 (fc_S_at17 hW)) (And.intro (by first | assumption | exact fc_ix_nI (by omega) (by omega) | exact fc_ix_nI (by assumption) (by omega)) ?_)))
      exact ⟨by simp [h8, hc_p, h14], rfl, rfl, rfl⟩

theorem c_reach (hH : fc_H mi mr b sc n m t) (x : Int32) : fc_R E mX10_reach (d + 3) fc_sh [.ref 0, .int x] mi ml mr (fc_is (some (.int (if sp_has (mi b 10) x then sp_sp (mi (b + 4)) m 0 (sp_one x.toNatClampNeg) m else -1))) mi ml mr) := by
  obtain ⟨hW, hB, hL, hb, hN, hV, hC, hQ, hsc⟩ := id hH
  obtain ⟨hN1, hN2, hN3, hN4, hN5, hN6⟩ := id hN
  refine fc_met rfl (Nat.le_of_ble_eq_true rfl) (fc_run oX10_reach (fun _ => false) 400 ?_)
  refine And.intro rfl (Exists.intro _ (And.intro hB ?_))
  refine And.intro (fc_L_0 hL) (Exists.intro _ (And.intro (c_hasPlace hL _) ?_))
  rintro _ _ _ _ ⟨rfl, rfl, rfl, rfl⟩
  refine And.intro (fun h8 => ?_) (fun h8 => ?_)
  · replace h8 := fc_b0.mp h8
    exact ⟨by simp [h8], rfl, rfl, rfl⟩
  · replace h8 := fc_b1.mp h8
    rw [hN3] at h8
    obtain ⟨p, hp_p, rfl⟩ := sp_hasN (by omega) h8
    rw [← hN3] at h8
    have hc_p := fc_cl (k := 8) (show p < 8 by omega) (by omega)
    refine And.intro rfl (Exists.intro _ (And.intro (hW 0 2 6 rfl) ?_))
    refine And.intro rfl (Exists.intro _ (And.intro hB ?_))
    refine And.intro rfl (Exists.intro _ (And.intro (c_spread hL _ _ hN3 hN4) ?_))
    rintro _ _ _ _ ⟨rfl, rfl, rfl, rfl⟩
    exact ⟨by simp [h8, hc_p], rfl, rfl, rfl⟩

theorem c_far (hH : fc_H mi mr b sc n m t) (x k : Int32) : fc_R E mX10_far (d + 1) fc_sh [.ref 0, .int x, .int k] mi ml mr (fc_is (some (.int (if sp_has (mi b 10) x && sp_has (mi b 10) k then sp_non (mi (8 + x.toNatClampNeg) k.toNatClampNeg) else -1))) mi ml mr) := by
  obtain ⟨hW, hB, hL, hb, hN, hV, hC, hQ, hsc⟩ := id hH
  obtain ⟨hN1, hN2, hN3, hN4, hN5, hN6⟩ := id hN
  refine fc_met rfl (Nat.le_of_ble_eq_true rfl) (fc_run oX10_far (fun _ => false) 400 ?_)
  refine And.intro rfl (Exists.intro _ (And.intro hB ?_))
  refine And.intro (fc_L_0 hL) (Exists.intro _ (And.intro (c_hasPlace hL _) ?_))
  rintro _ _ _ _ ⟨rfl, rfl, rfl, rfl⟩
  refine And.intro (fun h8 => ?_) (fun h8 => ?_)
  · replace h8 := fc_b0.mp h8
    exact ⟨by simp [h8], rfl, rfl, rfl⟩
  · replace h8 := fc_b1.mp h8
    rw [hN3] at h8
    obtain ⟨p, hp_p, rfl⟩ := sp_hasN (by omega) h8
    rw [← hN3] at h8
    have hc_p := fc_cl (k := 8) (show p < 8 by omega) (by omega)
    refine And.intro rfl (Exists.intro _ (And.intro hB ?_))
    refine And.intro (fc_L_0 hL) (Exists.intro _ (And.intro (c_hasPlace hL _) ?_))
    rintro _ _ _ _ ⟨rfl, rfl, rfl, rfl⟩
    refine And.intro (fun h19 => ?_) (fun h19 => ?_)
    · replace h19 := fc_b0.mp h19
      exact ⟨by simp [h8, hc_p, h19], rfl, rfl, rfl⟩
    · replace h19 := fc_b1.mp h19
      rw [hN3] at h19
      obtain ⟨kk, hp_kk, rfl⟩ := sp_hasN (by omega) h19
      rw [← hN3] at h19
      have hc_kk := fc_cl (k := 8) (show kk < 8 by omega) (by omega)
      refine And.intro rfl (Exists.intro _ (And.intro (hW 0 2 6 rfl) ?_))
      refine And.intro rfl (Exists.intro _ (And.intro (hW 6 0 7 rfl) ?_))
      refine Exists.intro _ (Exists.intro _ (Exists.intro _ (Exists.intro _ (And.intro rfl (And.intro (by decide) (And.intro (by first | assumption | exact fc_ix_nI (by omega) (by omega) | exact fc_ix_nI (by assumption) (by omega)) (And.intro (fc_W7 hW (by omega)) ?_)))))))
      refine Exists.intro _ (Exists.intro _ (And.intro (fc_sh7 (by omega)) (And.intro (by first | assumption | exact fc_ix_nI (by omega) (by omega) | exact fc_ix_nI (by assumption) (by omega)) ?_)))
      refine Exists.intro _ (And.intro (c_orNone _) ?_)
      rintro _ _ _ _ ⟨rfl, rfl, rfl, rfl⟩
      exact ⟨by simp [h8, hc_p, h19, hc_kk], rfl, rfl, rfl⟩

theorem c_links (hH : fc_H mi mr b sc n m t) (x : Int32) : fc_R E mX10_links (d + 1) fc_sh [.ref 0, .int x] mi ml mr (fc_is (some (.int (if sp_has (mi b 10) x then sp_bc (mi (b + 4) x.toNatClampNeg) else -1))) mi ml mr) := by
  obtain ⟨hW, hB, hL, hb, hN, hV, hC, hQ, hsc⟩ := id hH
  obtain ⟨hN1, hN2, hN3, hN4, hN5, hN6⟩ := id hN
  refine fc_met rfl (Nat.le_of_ble_eq_true rfl) (fc_run oX10_links (fun _ => false) 400 ?_)
  refine And.intro rfl (Exists.intro _ (And.intro hB ?_))
  refine And.intro (fc_L_0 hL) (Exists.intro _ (And.intro (c_hasPlace hL _) ?_))
  rintro _ _ _ _ ⟨rfl, rfl, rfl, rfl⟩
  refine And.intro (fun h8 => ?_) (fun h8 => ?_)
  · replace h8 := fc_b0.mp h8
    exact ⟨by simp [h8], rfl, rfl, rfl⟩
  · replace h8 := fc_b1.mp h8
    rw [hN3] at h8
    obtain ⟨p, hp_p, rfl⟩ := sp_hasN (by omega) h8
    rw [← hN3] at h8
    have hc_p := fc_cl (k := 8) (show p < 8 by omega) (by omega)
    refine And.intro rfl (Exists.intro _ (And.intro hB ?_))
    refine And.intro (fc_L_0 hL) (Exists.intro _ (And.intro (fc_L_r3 hL) ?_))
    refine Exists.intro _ (Exists.intro _ (And.intro (fc_L_4 hL) (And.intro (by first | assumption | exact fc_ix_nI (by omega) (by omega) | exact fc_ix_nI (by assumption) (by omega)) ?_)))
    refine Exists.intro _ (And.intro (c_bitCount _) ?_)
    rintro _ _ _ _ ⟨rfl, rfl, rfl, rfl⟩
    exact ⟨by simp [h8, hc_p], rfl, rfl, rfl⟩

theorem c_sleeps (hH : fc_H mi mr b sc n m t) (x : Int32) : fc_R E mX10_sleeps (d + 1) fc_sh [.ref 0, .int x] mi ml mr (fc_is (some (.int (if sp_has (mi b 12) x then (if 0 < mi (b + 7) x.toNatClampNeg - mi 17 1 then mi (b + 7) x.toNatClampNeg - mi 17 1 else 0) else -1))) mi ml mr) := by
  obtain ⟨hW, hB, hL, hb, hN, hV, hC, hQ, hsc⟩ := id hH
  obtain ⟨hN1, hN2, hN3, hN4, hN5, hN6⟩ := id hN
  refine fc_met rfl (Nat.le_of_ble_eq_true rfl) (fc_run oX10_sleeps (fun _ => false) 400 ?_)
  refine And.intro rfl (Exists.intro _ (And.intro hB ?_))
  refine And.intro (fc_L_0 hL) (Exists.intro _ (And.intro (c_hasPerson hL _) ?_))
  rintro _ _ _ _ ⟨rfl, rfl, rfl, rfl⟩
  refine And.intro (fun h8 => ?_) (fun h8 => ?_)
  · replace h8 := fc_b0.mp h8
    exact ⟨by simp [h8], rfl, rfl, rfl⟩
  · replace h8 := fc_b1.mp h8
    rw [hN1] at h8
    obtain ⟨p, hp_p, rfl⟩ := sp_hasN (by omega) h8
    rw [← hN1] at h8
    have hc_p := fc_cl (k := 8) (show p < 8 by omega) (by omega)
    refine And.intro rfl (Exists.intro _ (And.intro hB ?_))
    refine And.intro rfl (Exists.intro _ (And.intro (hW 0 3 17 rfl) ?_))
    refine And.intro (fc_S_0 (fc_S_at17 hW)) ?_
    refine And.intro (fc_L_0 hL) (Exists.intro _ (And.intro (c_sleepOf hL (by omega) _) ?_))
    rintro _ _ _ _ ⟨rfl, rfl, rfl, rfl⟩
    exact ⟨by simp [h8, hc_p], rfl, rfl, rfl⟩

end M23
end
section
/-! ===== FirstChimney: questions that change nothing, with loops ===== -/
def sp_mx (f : Nat → Int32) : Nat → Int32
  | 0 => 0
  | i + 1 => if sp_mx f i < f i then f i else sp_mx f i
def sp_mn (f : Nat → Int32) : Nat → Int32
  | 0 => 1000
  | i + 1 => if f i < sp_mn f i then f i else sp_mn f i
/-- the first least one and its place -/
def sp_ag (f : Nat → Int32) : Nat → Int32 × Int32
  | 0 => (-1, 1000)
  | i + 1 => if (sp_ag f i).2 ≤ f i then sp_ag f i else (nI i, f i)
def sp_ax (f : Nat → Int32) : Nat → Int32 × Int32
  | 0 => (-1, -1)
  | i + 1 => if f i ≤ (sp_ax f i).2 then sp_ax f i else (nI i, f i)
/-- all from i on, j of them -/
def sp_al (P : Nat → Bool) : Nat → Nat → Bool
  | 0, _ => true
  | j + 1, i => if P i then sp_al P j (i + 1) else false
def sp_sw (P : Nat → Bool) (f : Nat → Int32) : Nat → Int32
  | 0 => 0
  | n + 1 => if P n then sp_sw P f n + f n else sp_sw P f n
section M24
variable {E : fc_E} {d : Nat} {mi : fc_Mi} {ml : fc_Ml} {mr : fc_Mr} {b sc n m t : Nat}
theorem l_minutesOfAllTo (hH : fc_H mi mr b sc n m t) {k : Nat} (hk : k < 7) : ∀ (j i : Nat) (c : Int32) (acc : Int32), i + j = n → c = nI i → acc = sp_mx (fun p => q_mt mi b p k) i → fc_T E mX10_minutesOfAllTo (d + 3) (0, 0) fc_sh 4 [some (.ref 0), some (.int (nI k)), some (.int acc), some (.int c)] [] mi ml mr (fc_is (some (.int (sp_mx (fun p => q_mt mi b p k) n))) mi ml mr) := by
  obtain ⟨hW, hB, hL, hb, hN, hV, hC, hQ, hsc⟩ := id hH
  obtain ⟨hN1, hN2, hN3, hN4, hN5, hN6⟩ := id hN
  intro j
  induction j with
  | zero =>
    intro i c acc  hi hc h_acc
    subst hc
    refine fc_run oX10_minutesOfAllTo (fun pc => pc == 4) 400 ?_
    refine And.intro rfl (Exists.intro _ (And.intro hB ?_))
    refine And.intro (fc_L_0 hL) ?_
    refine And.intro (fun h12 => ?_) (fun h12 => ?_)
    · exact ⟨by rw [h_acc, show i = n by omega], rfl, rfl, rfl⟩
    · exact absurd (by rw [hN1]; exact nI_le (by omega) (by omega)) h12
  | succ j ih =>
    intro i c acc  hi hc h_acc
    subst hc
    refine fc_run oX10_minutesOfAllTo (fun pc => pc == 4) 400 ?_
    refine And.intro rfl (Exists.intro _ (And.intro hB ?_))
    refine And.intro (fc_L_0 hL) ?_
    refine And.intro (fun h12 => ?_) (fun h12 => ?_)
    · exact absurd h12 (by rw [hN1]; exact nI_ge (by omega) (by omega))
    · refine And.intro rfl (Exists.intro _ (And.intro (c_minutesTo hH (by omega) (by omega)) ?_))
      rintro _ _ _ _ ⟨rfl, rfl, rfl, rfl⟩
      exact ih (i + 1) _ _ (by omega) (fc_inc i) (by rw [h_acc]; rfl)

theorem c_minutesOfAllTo (hH : fc_H mi mr b sc n m t) {k : Nat} (hk : k < 7) : fc_R E mX10_minutesOfAllTo (d + 3) fc_sh [.ref 0, .int (nI k)] mi ml mr (fc_is (some (.int (sp_mx (fun p => q_mt mi b p k) n))) mi ml mr) := by
  obtain ⟨hW, hB, hL, hb, hN, hV, hC, hQ, hsc⟩ := id hH
  obtain ⟨hN1, hN2, hN3, hN4, hN5, hN6⟩ := id hN
  refine fc_met rfl (Nat.le_of_ble_eq_true rfl) (fc_run oX10_minutesOfAllTo (fun pc => pc == 4) 400 ?_)
  exact l_minutesOfAllTo hH hk  n 0 _ _ (by omega) rfl rfl

def q_mf (mi : fc_Mi) (b p o : Nat) : Nat → Int32 := fun k => if q_mt mi b p k < q_mt mi b o k then q_mt mi b o k else q_mt mi b p k
theorem l_meet (hH : fc_H mi mr b sc n m t) {p o : Nat} (hp : p < n) (ho : o < n) : ∀ (j i : Nat) (c : Int32) (acc : Int32), i + j = m → c = nI i → acc = sp_mn (q_mf mi b p o) i → fc_T E mX10_meet (d + 3) (0, 0) fc_sh 36 [some (.ref 0), some (.int (nI p)), some (.int (nI o)), some (.int acc), some (.int c)] [] mi ml mr (fc_is (some (.int (sp_non (sp_mn (q_mf mi b p o) m)))) mi ml mr) := by
  obtain ⟨hW, hB, hL, hb, hN, hV, hC, hQ, hsc⟩ := id hH
  obtain ⟨hN1, hN2, hN3, hN4, hN5, hN6⟩ := id hN
  intro j
  induction j with
  | zero =>
    intro i c acc  hi hc h_acc
    subst hc
    refine fc_run oX10_meet (fun pc => pc == 36) 400 ?_
    refine And.intro rfl (Exists.intro _ (And.intro hB ?_))
    refine And.intro (fc_L_0 hL) ?_
    refine And.intro (fun h45 => ?_) (fun h45 => ?_)
    · refine Exists.intro _ (And.intro (c_orNone _) ?_)
      rintro _ _ _ _ ⟨rfl, rfl, rfl, rfl⟩
      exact ⟨by rw [h_acc, show i = m by omega], rfl, rfl, rfl⟩
    · exact absurd (by rw [hN3]; exact nI_le (by omega) (by omega)) h45
  | succ j ih =>
    intro i c acc  hi hc h_acc
    subst hc
    refine fc_run oX10_meet (fun pc => pc == 36) 400 ?_
    refine And.intro rfl (Exists.intro _ (And.intro hB ?_))
    refine And.intro (fc_L_0 hL) ?_
    refine And.intro (fun h45 => ?_) (fun h45 => ?_)
    · exact absurd h45 (by rw [hN3]; exact nI_ge (by omega) (by omega))
    · refine And.intro rfl (Exists.intro _ (And.intro (c_minutesTo hH (by omega) (by omega)) ?_))
      rintro _ _ _ _ ⟨rfl, rfl, rfl, rfl⟩
      refine And.intro rfl (Exists.intro _ (And.intro (c_minutesTo hH (by omega) (by omega)) ?_))
      rintro _ _ _ _ ⟨rfl, rfl, rfl, rfl⟩
      exact ih (i + 1) _ _ (by omega) (fc_inc i) (by rw [h_acc]; rfl)

theorem c_meet (hH : fc_H mi mr b sc n m t) (x z : Int32) : fc_R E mX10_meet (d + 3) fc_sh [.ref 0, .int x, .int z] mi ml mr (fc_is (some (.int (if sp_has (mi b 12) x && (sp_has (mi b 12) z && !decide (x = z)) then sp_non (sp_mn (q_mf mi b x.toNatClampNeg z.toNatClampNeg) m) else -1))) mi ml mr) := by
  obtain ⟨hW, hB, hL, hb, hN, hV, hC, hQ, hsc⟩ := id hH
  obtain ⟨hN1, hN2, hN3, hN4, hN5, hN6⟩ := id hN
  refine fc_met rfl (Nat.le_of_ble_eq_true rfl) (fc_run oX10_meet (fun pc => pc == 36) 400 ?_)
  refine And.intro rfl (Exists.intro _ (And.intro hB ?_))
  refine And.intro (fc_L_0 hL) (Exists.intro _ (And.intro (c_hasPerson hL _) ?_))
  rintro _ _ _ _ ⟨rfl, rfl, rfl, rfl⟩
  refine And.intro (fun h8 => ?_) (fun h8 => ?_)
  · replace h8 := fc_b0.mp h8
    exact ⟨by simp [h8], rfl, rfl, rfl⟩
  · replace h8 := fc_b1.mp h8
    rw [hN1] at h8
    obtain ⟨p, hp_p, rfl⟩ := sp_hasN (by omega) h8
    rw [← hN1] at h8
    have hc_p := fc_cl (k := 8) (show p < 8 by omega) (by omega)
    refine And.intro rfl (Exists.intro _ (And.intro hB ?_))
    refine And.intro (fc_L_0 hL) (Exists.intro _ (And.intro (c_hasPerson hL _) ?_))
    rintro _ _ _ _ ⟨rfl, rfl, rfl, rfl⟩
    refine And.intro (fun h19 => ?_) (fun h19 => ?_)
    · replace h19 := fc_b0.mp h19
      exact ⟨by simp [h8, hc_p, h19], rfl, rfl, rfl⟩
    · replace h19 := fc_b1.mp h19
      rw [hN1] at h19
      obtain ⟨q, hp_q, rfl⟩ := sp_hasN (by omega) h19
      rw [← hN1] at h19
      have hc_q := fc_cl (k := 8) (show q < 8 by omega) (by omega)
      refine And.intro (fun h24 => ?_) (fun h24 => ?_)
      · exact ⟨by simp [h8, hc_p, h19, hc_q, h24], rfl, rfl, rfl⟩
      · rw [show (sp_has (mi b 12) (nI p) && (sp_has (mi b 12) (nI q) && !decide (nI p = nI q))) = true from by simp [h8, h19, h24], if_pos rfl, hc_p, hc_q]
        exact l_meet hH hp_p hp_q m 0 _ _ (by omega) rfl rfl

theorem l_all (hH : fc_H mi mr b sc n m t) (w : Int32) (hw0 : ¬ w < 0) (hw1 : w ≤ 1) : ∀ (j i : Nat) (c : Int32) (wh : Int32) (le : Int32) (x5 : Option Value), i + j = m → c = nI i → wh = (sp_ag (fun k => sp_mx (fun p => q_mt mi b p k) n) i).1 → le = (sp_ag (fun k => sp_mx (fun p => q_mt mi b p k) n) i).2 → fc_T E mX10_all (d + 4) (0, 0) fc_sh 30 [some (.ref 0), some (.int w), some (.int wh), some (.int le), some (.int c), x5] [] mi ml mr (fc_is (some (.int (if w = 0 then (sp_ag (fun k => sp_mx (fun p => q_mt mi b p k) n) m).1 else sp_non (sp_ag (fun k => sp_mx (fun p => q_mt mi b p k) n) m).2))) mi ml mr) := by
  obtain ⟨hW, hB, hL, hb, hN, hV, hC, hQ, hsc⟩ := id hH
  obtain ⟨hN1, hN2, hN3, hN4, hN5, hN6⟩ := id hN
  intro j
  induction j with
  | zero =>
    intro i c wh le x5 hi hc h_wh h_le
    subst hc
    refine fc_run oX10_all (fun pc => pc == 30) 400 ?_
    refine And.intro rfl (Exists.intro _ (And.intro hB ?_))
    refine And.intro (fc_L_0 hL) ?_
    refine And.intro (fun h39 => ?_) (fun h39 => ?_)
    · refine And.intro (fun h69 => ?_) (fun h69 => ?_)
      · exact ⟨by simp [h69, h_wh, h_le, show i = m by omega], rfl, rfl, rfl⟩
      · refine Exists.intro _ (And.intro (c_orNone _) ?_)
        rintro _ _ _ _ ⟨rfl, rfl, rfl, rfl⟩
        exact ⟨by simp [h69, h_wh, h_le, show i = m by omega], rfl, rfl, rfl⟩
    · exact absurd (by rw [hN3]; exact nI_le (by omega) (by omega)) h39
  | succ j ih =>
    intro i c wh le x5 hi hc h_wh h_le
    subst hc
    refine fc_run oX10_all (fun pc => pc == 30) 400 ?_
    refine And.intro rfl (Exists.intro _ (And.intro hB ?_))
    refine And.intro (fc_L_0 hL) ?_
    refine And.intro (fun h39 => ?_) (fun h39 => ?_)
    · exact absurd h39 (by rw [hN3]; exact nI_ge (by omega) (by omega))
    · refine And.intro rfl (Exists.intro _ (And.intro (c_minutesOfAllTo hH (by omega)) ?_))
      rintro _ _ _ _ ⟨rfl, rfl, rfl, rfl⟩
      refine And.intro (fun h53 => ?_) (fun h53 => ?_)
      · exact ih (i + 1) _ _ _ _ (by omega) (fc_inc i) (by rw [h_wh]; rw [h_le] at h53; simp only [sp_ag, if_pos h53]) (by rw [h_le]; rw [h_le] at h53; simp only [sp_ag, if_pos h53])
      · exact ih (i + 1) _ _ _ _ (by omega) (fc_inc i) (by rw [h_le] at h53; simp only [sp_ag, if_neg h53]) (by rw [h_le] at h53; simp only [sp_ag, if_neg h53])

theorem c_all (hH : fc_H mi mr b sc n m t) (w : Int32) : fc_R E mX10_all (d + 4) fc_sh [.ref 0, .int w] mi ml mr (fc_is (some (.int (if mi b 12 = 0 then -1 else if w < 0 then -1 else if w ≤ 1 then (if w = 0 then (sp_ag (fun k => sp_mx (fun p => q_mt mi b p k) n) m).1 else sp_non (sp_ag (fun k => sp_mx (fun p => q_mt mi b p k) n) m).2) else -1))) mi ml mr) := by
  obtain ⟨hW, hB, hL, hb, hN, hV, hC, hQ, hsc⟩ := id hH
  obtain ⟨hN1, hN2, hN3, hN4, hN5, hN6⟩ := id hN
  refine fc_met rfl (Nat.le_of_ble_eq_true rfl) (fc_run oX10_all (fun pc => pc == 30) 400 ?_)
  refine And.intro rfl (Exists.intro _ (And.intro hB ?_))
  refine And.intro (fc_L_0 hL) ?_
  refine And.intro (fun h7 => ?_) (fun h7 => ?_)
  · exact ⟨by simp [h7], rfl, rfl, rfl⟩
  · refine And.intro (fun h11 => ?_) (fun h11 => ?_)
    · exact ⟨by simp [h7, h11], rfl, rfl, rfl⟩
    · refine And.intro (fun h16 => ?_) (fun h16 => ?_)
      · rw [if_neg h7, if_neg h11, if_pos h16]
        exact l_all hH w h11 h16 m 0 _ _ _ _ (by omega) rfl rfl rfl
      · exact ⟨by simp [h7, h11, h16], rfl, rfl, rfl⟩

theorem l_hub (hH : fc_H mi mr b sc n m t) : ∀ (j i : Nat) (c : Int32) (wh : Int32) (le : Int32) (x4 : Option Value), i + j = m → c = nI i → wh = (sp_ag (fun k => sp_fr (mi (8 + k)) m) i).1 → le = (sp_ag (fun k => sp_fr (mi (8 + k)) m) i).2 → fc_T E mX10_hub (d + 1) (0, 0) fc_sh 8 [some (.ref 0), some (.int wh), some (.int le), some (.int c), x4] [] mi ml mr (fc_is (some (.int (sp_ag (fun k => sp_fr (mi (8 + k)) m) m).1)) mi ml mr) := by
  obtain ⟨hW, hB, hL, hb, hN, hV, hC, hQ, hsc⟩ := id hH
  obtain ⟨hN1, hN2, hN3, hN4, hN5, hN6⟩ := id hN
  intro j
  induction j with
  | zero =>
    intro i c wh le x4 hi hc h_wh h_le
    subst hc
    refine fc_run oX10_hub (fun pc => pc == 8) 400 ?_
    refine And.intro rfl (Exists.intro _ (And.intro hB ?_))
    refine And.intro (fc_L_0 hL) ?_
    refine And.intro (fun h16 => ?_) (fun h16 => ?_)
    · exact ⟨by rw [h_wh, show i = m by omega], rfl, rfl, rfl⟩
    · exact absurd (by rw [hN3]; exact nI_le (by omega) (by omega)) h16
  | succ j ih =>
    intro i c wh le x4 hi hc h_wh h_le
    subst hc
    refine fc_run oX10_hub (fun pc => pc == 8) 400 ?_
    refine And.intro rfl (Exists.intro _ (And.intro hB ?_))
    refine And.intro (fc_L_0 hL) ?_
    refine And.intro (fun h16 => ?_) (fun h16 => ?_)
    · exact absurd h16 (by rw [hN3]; exact nI_ge (by omega) (by omega))
    · refine And.intro rfl (Exists.intro _ (And.intro (hW 0 2 6 rfl) ?_))
      refine And.intro rfl (Exists.intro _ (And.intro hB ?_))
      refine And.intro rfl (Exists.intro _ (And.intro (c_farthest hW hL (by omega) hN3 hN4) ?_))
      rintro _ _ _ _ ⟨rfl, rfl, rfl, rfl⟩
      refine And.intro (fun h36 => ?_) (fun h36 => ?_)
      · exact ih (i + 1) _ _ _ _ (by omega) (fc_inc i) (by rw [h_wh]; rw [h_le] at h36; simp only [sp_ag, if_pos h36]) (by rw [h_le]; rw [h_le] at h36; simp only [sp_ag, if_pos h36])
      · exact ih (i + 1) _ _ _ _ (by omega) (fc_inc i) (by rw [h_le] at h36; simp only [sp_ag, if_neg h36]) (by rw [h_le] at h36; simp only [sp_ag, if_neg h36])

theorem c_hub (hH : fc_H mi mr b sc n m t) : fc_R E mX10_hub (d + 1) fc_sh [.ref 0] mi ml mr (fc_is (some (.int (sp_ag (fun k => sp_fr (mi (8 + k)) m) m).1)) mi ml mr) := by
  obtain ⟨hW, hB, hL, hb, hN, hV, hC, hQ, hsc⟩ := id hH
  obtain ⟨hN1, hN2, hN3, hN4, hN5, hN6⟩ := id hN
  refine fc_met rfl (Nat.le_of_ble_eq_true rfl) (fc_run oX10_hub (fun pc => pc == 8) 400 ?_)
  exact l_hub hH m 0 _ _ _ _ (by omega) rfl rfl rfl

theorem l_cuts (hH : fc_H mi mr b sc n m t) : ∀ (j i : Nat) (c : Int32) (acc : Int32), i + j = m → c = nI i → acc = sp_set (fun k => sp_cut (mi (b + 4)) m k m 0) i → fc_T E mX10_cuts (d + 4) (0, 0) fc_sh 4 [some (.ref 0), some (.int acc), some (.int c)] [] mi ml mr (fc_is (some (.int (sp_set (fun k => sp_cut (mi (b + 4)) m k m 0) m))) mi ml mr) := by
  obtain ⟨hW, hB, hL, hb, hN, hV, hC, hQ, hsc⟩ := id hH
  obtain ⟨hN1, hN2, hN3, hN4, hN5, hN6⟩ := id hN
  intro j
  induction j with
  | zero =>
    intro i c acc  hi hc h_acc
    subst hc
    refine fc_run oX10_cuts (fun pc => pc == 4) 400 ?_
    refine And.intro rfl (Exists.intro _ (And.intro hB ?_))
    refine And.intro (fc_L_0 hL) ?_
    refine And.intro (fun h12 => ?_) (fun h12 => ?_)
    · exact ⟨by rw [h_acc, show i = m by omega], rfl, rfl, rfl⟩
    · exact absurd (by rw [hN3]; exact nI_le (by omega) (by omega)) h12
  | succ j ih =>
    intro i c acc  hi hc h_acc
    subst hc
    refine fc_run oX10_cuts (fun pc => pc == 4) 400 ?_
    refine And.intro rfl (Exists.intro _ (And.intro hB ?_))
    refine And.intro (fc_L_0 hL) ?_
    refine And.intro (fun h12 => ?_) (fun h12 => ?_)
    · exact absurd h12 (by rw [hN3]; exact nI_ge (by omega) (by omega))
    · refine And.intro rfl (Exists.intro _ (And.intro (hW 0 2 6 rfl) ?_))
      refine And.intro rfl (Exists.intro _ (And.intro hB ?_))
      refine And.intro rfl (Exists.intro _ (And.intro (c_isCut hL _ hN3 hN4) ?_))
      rintro _ _ _ _ ⟨rfl, rfl, rfl, rfl⟩
      refine And.intro (fun h27 => ?_) (fun h27 => ?_)
      · replace h27 := fc_b0.mp h27
        exact ih (i + 1) _ _ (by omega) (fc_inc i) (by first | (rw [h_acc]; exact sp_set_t (P := fun k => sp_cut (mi (b + 4)) m k m 0) h27) | (rw [h_acc]; exact sp_set_f (P := fun k => sp_cut (mi (b + 4)) m k m 0) h27))
      · replace h27 := fc_b1.mp h27
        exact ih (i + 1) _ _ (by omega) (fc_inc i) (by first | (rw [h_acc]; exact sp_set_t (P := fun k => sp_cut (mi (b + 4)) m k m 0) h27) | (rw [h_acc]; exact sp_set_f (P := fun k => sp_cut (mi (b + 4)) m k m 0) h27))

theorem c_cuts (hH : fc_H mi mr b sc n m t) : fc_R E mX10_cuts (d + 4) fc_sh [.ref 0] mi ml mr (fc_is (some (.int (sp_set (fun k => sp_cut (mi (b + 4)) m k m 0) m))) mi ml mr) := by
  obtain ⟨hW, hB, hL, hb, hN, hV, hC, hQ, hsc⟩ := id hH
  obtain ⟨hN1, hN2, hN3, hN4, hN5, hN6⟩ := id hN
  refine fc_met rfl (Nat.le_of_ble_eq_true rfl) (fc_run oX10_cuts (fun pc => pc == 4) 400 ?_)
  exact l_cuts hH m 0 _ _ (by omega) rfl rfl

theorem l_could (hH : fc_H mi mr b sc n m t) (x : Int32) : ∀ (j i : Nat) (c : Int32) (acc : Int32), i + j = n → c = nI i → acc = sp_set (fun k => sp_cg (mi b 13) (mi b 12) (mi 23) (mi (b + 7)) (mi 19) (mi 18) (mi 17 1) x (nI k)) i → fc_T E mX10_could (d + 3) (0, 0) fc_sh 17 [some (.ref 0), some (.int x), some (.int acc), some (.int c)] [] mi ml mr (fc_is (some (.int (sp_set (fun k => sp_cg (mi b 13) (mi b 12) (mi 23) (mi (b + 7)) (mi 19) (mi 18) (mi 17 1) x (nI k)) n))) mi ml mr) := by
  obtain ⟨hW, hB, hL, hb, hN, hV, hC, hQ, hsc⟩ := id hH
  obtain ⟨hN1, hN2, hN3, hN4, hN5, hN6⟩ := id hN
  intro j
  induction j with
  | zero =>
    intro i c acc  hi hc h_acc
    subst hc
    refine fc_run oX10_could (fun pc => pc == 17) 400 ?_
    refine And.intro rfl (Exists.intro _ (And.intro hB ?_))
    refine And.intro (fc_L_0 hL) ?_
    refine And.intro (fun h25 => ?_) (fun h25 => ?_)
    · exact ⟨by rw [h_acc, show i = n by omega], rfl, rfl, rfl⟩
    · exact absurd (by rw [hN1]; exact nI_le (by omega) (by omega)) h25
  | succ j ih =>
    intro i c acc  hi hc h_acc
    subst hc
    refine fc_run oX10_could (fun pc => pc == 17) 400 ?_
    refine And.intro rfl (Exists.intro _ (And.intro hB ?_))
    refine And.intro (fc_L_0 hL) ?_
    refine And.intro (fun h25 => ?_) (fun h25 => ?_)
    · exact absurd h25 (by rw [hN1]; exact nI_ge (by omega) (by omega))
    · refine And.intro rfl (Exists.intro _ (And.intro (hW 0 3 17 rfl) ?_))
      refine And.intro rfl (Exists.intro _ (And.intro hB ?_))
      refine And.intro (fc_S_0 (fc_S_at17 hW)) (Exists.intro _ (And.intro (c_canGive (fc_S_at17 hW) hL hN hV _ _) ?_))
      rintro _ _ _ _ ⟨rfl, rfl, rfl, rfl⟩
      refine And.intro (fun h41 => ?_) (fun h41 => ?_)
      · replace h41 := fc_b0.mp h41
        exact ih (i + 1) _ _ (by omega) (fc_inc i) (by first | (rw [h_acc]; exact sp_set_t (P := fun k => sp_cg (mi b 13) (mi b 12) (mi 23) (mi (b + 7)) (mi 19) (mi 18) (mi 17 1) x (nI k)) h41) | (rw [h_acc]; exact sp_set_f (P := fun k => sp_cg (mi b 13) (mi b 12) (mi 23) (mi (b + 7)) (mi 19) (mi 18) (mi 17 1) x (nI k)) h41))
      · replace h41 := fc_b1.mp h41
        exact ih (i + 1) _ _ (by omega) (fc_inc i) (by first | (rw [h_acc]; exact sp_set_t (P := fun k => sp_cg (mi b 13) (mi b 12) (mi 23) (mi (b + 7)) (mi 19) (mi 18) (mi 17 1) x (nI k)) h41) | (rw [h_acc]; exact sp_set_f (P := fun k => sp_cg (mi b 13) (mi b 12) (mi 23) (mi (b + 7)) (mi 19) (mi 18) (mi 17 1) x (nI k)) h41))

theorem c_could (hH : fc_H mi mr b sc n m t) (x : Int32) : fc_R E mX10_could (d + 3) fc_sh [.ref 0, .int x] mi ml mr (fc_is (some (.int (if sp_has (mi b 13) x then sp_set (fun k => sp_cg (mi b 13) (mi b 12) (mi 23) (mi (b + 7)) (mi 19) (mi 18) (mi 17 1) x (nI k)) n else -1))) mi ml mr) := by
  obtain ⟨hW, hB, hL, hb, hN, hV, hC, hQ, hsc⟩ := id hH
  obtain ⟨hN1, hN2, hN3, hN4, hN5, hN6⟩ := id hN
  refine fc_met rfl (Nat.le_of_ble_eq_true rfl) (fc_run oX10_could (fun pc => pc == 17) 400 ?_)
  refine And.intro rfl (Exists.intro _ (And.intro hB ?_))
  refine And.intro (fc_L_0 hL) (Exists.intro _ (And.intro (c_hasThing hL _) ?_))
  rintro _ _ _ _ ⟨rfl, rfl, rfl, rfl⟩
  refine And.intro (fun h8 => ?_) (fun h8 => ?_)
  · replace h8 := fc_b0.mp h8
    exact ⟨by simp [h8], rfl, rfl, rfl⟩
  · replace h8 := fc_b1.mp h8
    rw [if_pos h8]
    exact l_could hH x n 0 _ _ (by omega) rfl rfl

end M24
end
section
/-! ===== FirstChimney: the rest of the questions ===== -/
section M25
variable {E : fc_E} {d : Nat} {mi : fc_Mi} {ml : fc_Ml} {mr : fc_Mr} {b sc n m t : Nat}
theorem l_sees (hH : fc_H mi mr b sc n m t) {p : Nat} (hp : p < n) : ∀ (j i : Nat) (c : Int32) (acc : Int32), i + j = m → c = nI i → acc = sp_or (fun k => decide (nI k = mi 18 p) || sp_in (mi (b + 4) (mi 18 p).toNatClampNeg) (nI k)) (fun k => sp_set (fun q => decide (mi 18 q = nI k)) n) i → fc_T E mX10_sees (d + 1) (0, 0) fc_sh 28 [some (.ref 0), some (.int (nI p)), some (.int (mi 18 p)), some (.int acc), some (.int c)] [] mi ml mr (fc_is (some (.int (sp_or (fun k => decide (nI k = mi 18 p) || sp_in (mi (b + 4) (mi 18 p).toNatClampNeg) (nI k)) (fun k => sp_set (fun q => decide (mi 18 q = nI k)) n) m &&& (sp_one p ^^^ (-1))))) mi ml mr) := by
  obtain ⟨hW, hB, hL, hb, hN, hV, hC, hQ, hsc⟩ := id hH
  obtain ⟨hN1, hN2, hN3, hN4, hN5, hN6⟩ := id hN
  obtain ⟨jj, hjj, hw⟩ := hV.1 p hp
  have hcj := fc_cl (k := 7) (show jj < 7 by omega) (by omega)
  intro j
  induction j with
  | zero =>
    intro i c acc  hi hc h_acc
    subst hc
    refine fc_run oX10_sees (fun pc => pc == 28) 400 ?_
    refine And.intro rfl (Exists.intro _ (And.intro hB ?_))
    refine And.intro (fc_L_0 hL) ?_
    refine And.intro (fun h37 => ?_) (fun h37 => ?_)
    · exact ⟨by rw [h_acc, show i = m by omega]; rfl, rfl, rfl, rfl⟩
    · exact absurd (by rw [hN3]; exact nI_le (by omega) (by omega)) h37
  | succ j ih =>
    intro i c acc  hi hc h_acc
    subst hc
    refine fc_run oX10_sees (fun pc => pc == 28) 400 ?_
    refine And.intro rfl (Exists.intro _ (And.intro hB ?_))
    refine And.intro (fc_L_0 hL) ?_
    refine And.intro (fun h37 => ?_) (fun h37 => ?_)
    · exact absurd h37 (by rw [hN3]; exact nI_ge (by omega) (by omega))
    · refine And.intro (fun h43 => ?_) (fun h43 => ?_)
      · refine And.intro rfl (Exists.intro _ (And.intro (hW 0 3 17 rfl) ?_))
        refine And.intro rfl (Exists.intro _ (And.intro hB ?_))
        refine And.intro (fc_S_0 (fc_S_at17 hW)) (Exists.intro _ (And.intro (c_bitsAt (fc_S_at17 hW) hL _ hN1 hN2) ?_))
        rintro _ _ _ _ ⟨rfl, rfl, rfl, rfl⟩
        exact ih (i + 1) _ _ (by omega) (fc_inc i) (by rw [h_acc]; exact sp_or_t (P := fun k => decide (nI k = mi 18 p) || sp_in (mi (b + 4) (mi 18 p).toNatClampNeg) (nI k)) (f := fun k => sp_set (fun q => decide (mi 18 q = nI k)) n) (by simp [h43]))
      · refine And.intro rfl (Exists.intro _ (And.intro hB ?_))
        refine And.intro (fc_L_0 hL) (Exists.intro _ (And.intro (fc_L_r3 hL) ?_))
        refine Exists.intro _ (Exists.intro _ (And.intro (fc_L_4 hL) (And.intro (show fc_ix (mi 18 p) 7 (mi 18 p).toNatClampNeg from fc_ix_in (by rw [hw]; exact vp_in_nI (by omega) (by omega))) ?_)))
        refine Exists.intro _ (And.intro (c_isIn _ _) ?_)
        rintro _ _ _ _ ⟨rfl, rfl, rfl, rfl⟩
        refine And.intro (fun h60 => ?_) (fun h60 => ?_)
        · replace h60 := fc_b0.mp h60
          exact ih (i + 1) _ _ (by omega) (fc_inc i) (by rw [h_acc]; exact sp_or_f (P := fun k => decide (nI k = mi 18 p) || sp_in (mi (b + 4) (mi 18 p).toNatClampNeg) (nI k)) (f := fun k => sp_set (fun q => decide (mi 18 q = nI k)) n) (by simp [h43, h60]))
        · replace h60 := fc_b1.mp h60
          refine And.intro rfl (Exists.intro _ (And.intro (hW 0 3 17 rfl) ?_))
          refine And.intro rfl (Exists.intro _ (And.intro hB ?_))
          refine And.intro (fc_S_0 (fc_S_at17 hW)) (Exists.intro _ (And.intro (c_bitsAt (fc_S_at17 hW) hL _ hN1 hN2) ?_))
          rintro _ _ _ _ ⟨rfl, rfl, rfl, rfl⟩
          exact ih (i + 1) _ _ (by omega) (fc_inc i) (by rw [h_acc]; exact sp_or_t (P := fun k => decide (nI k = mi 18 p) || sp_in (mi (b + 4) (mi 18 p).toNatClampNeg) (nI k)) (f := fun k => sp_set (fun q => decide (mi 18 q = nI k)) n) (by simp [h43, h60]))

theorem c_sees (hH : fc_H mi mr b sc n m t) (x : Int32) : fc_R E mX10_sees (d + 1) fc_sh [.ref 0, .int x] mi ml mr (fc_is (some (.int (if sp_has (mi b 12) x then ((fun p => sp_or (fun k => decide (nI k = mi 18 p) || sp_in (mi (b + 4) (mi 18 p).toNatClampNeg) (nI k)) (fun k => sp_set (fun q => decide (mi 18 q = nI k)) n) m &&& (sp_one p ^^^ (-1))) x.toNatClampNeg) else -1))) mi ml mr) := by
  obtain ⟨hW, hB, hL, hb, hN, hV, hC, hQ, hsc⟩ := id hH
  obtain ⟨hN1, hN2, hN3, hN4, hN5, hN6⟩ := id hN
  refine fc_met rfl (Nat.le_of_ble_eq_true rfl) (fc_run oX10_sees (fun pc => pc == 28) 400 ?_)
  refine And.intro rfl (Exists.intro _ (And.intro hB ?_))
  refine And.intro (fc_L_0 hL) (Exists.intro _ (And.intro (c_hasPerson hL _) ?_))
  rintro _ _ _ _ ⟨rfl, rfl, rfl, rfl⟩
  refine And.intro (fun h8 => ?_) (fun h8 => ?_)
  · replace h8 := fc_b0.mp h8
    exact ⟨by simp [h8], rfl, rfl, rfl⟩
  · replace h8 := fc_b1.mp h8
    rw [hN1] at h8
    obtain ⟨p, hp_p, rfl⟩ := sp_hasN (by omega) h8
    rw [← hN1] at h8
    have hc_p := fc_cl (k := 8) (show p < 8 by omega) (by omega)
    refine And.intro rfl (Exists.intro _ (And.intro (hW 0 3 17 rfl) ?_))
    refine And.intro (fc_S_0 (fc_S_at17 hW)) (Exists.intro _ (And.intro (fc_S_r2 (fc_S_at17 hW)) ?_))
    refine Exists.intro _ (Exists.intro _ (And.intro (fc_S_1 (fc_S_at17 hW)) (And.intro (by first | assumption | exact fc_ix_nI (by omega) (by omega) | exact fc_ix_nI (by assumption) (by omega)) ?_)))
    rw [if_pos h8, hc_p]
    exact l_sees hH hp_p m 0 _ _ (by omega) rfl rfl

theorem l_alone (hH : fc_H mi mr b sc n m t) : ∀ (j i : Nat) (c : Int32) (acc : Int32) (x4 : Option Value), i + j = m → c = nI i → acc = sp_or (fun k => decide (sp_bc (sp_set (fun q => decide (mi 18 q = nI k)) n &&& sp_set (sp_aw (mi (b + 7)) (mi 17 1)) n) = 1)) (fun k => (sp_set (fun q => decide (mi 18 q = nI k)) n &&& sp_set (sp_aw (mi (b + 7)) (mi 17 1)) n)) i → fc_T E mX10_alone (d + 2) (0, 0) fc_sh 19 [some (.ref 0), some (.int (sp_set (sp_aw (mi (b + 7)) (mi 17 1)) n)), some (.int acc), some (.int c), x4] [] mi ml mr (fc_is (some (.int (sp_or (fun k => decide (sp_bc (sp_set (fun q => decide (mi 18 q = nI k)) n &&& sp_set (sp_aw (mi (b + 7)) (mi 17 1)) n) = 1)) (fun k => (sp_set (fun q => decide (mi 18 q = nI k)) n &&& sp_set (sp_aw (mi (b + 7)) (mi 17 1)) n)) m))) mi ml mr) := by
  obtain ⟨hW, hB, hL, hb, hN, hV, hC, hQ, hsc⟩ := id hH
  obtain ⟨hN1, hN2, hN3, hN4, hN5, hN6⟩ := id hN
  intro j
  induction j with
  | zero =>
    intro i c acc x4 hi hc h_acc
    subst hc
    refine fc_run oX10_alone (fun pc => pc == 19) 400 ?_
    refine And.intro rfl (Exists.intro _ (And.intro hB ?_))
    refine And.intro (fc_L_0 hL) ?_
    refine And.intro (fun h27 => ?_) (fun h27 => ?_)
    · exact ⟨by rw [h_acc, show i = m by omega], rfl, rfl, rfl⟩
    · exact absurd (by rw [hN3]; exact nI_le (by omega) (by omega)) h27
  | succ j ih =>
    intro i c acc x4 hi hc h_acc
    subst hc
    refine fc_run oX10_alone (fun pc => pc == 19) 400 ?_
    refine And.intro rfl (Exists.intro _ (And.intro hB ?_))
    refine And.intro (fc_L_0 hL) ?_
    refine And.intro (fun h27 => ?_) (fun h27 => ?_)
    · exact absurd h27 (by rw [hN3]; exact nI_ge (by omega) (by omega))
    · refine And.intro rfl (Exists.intro _ (And.intro (hW 0 3 17 rfl) ?_))
      refine And.intro rfl (Exists.intro _ (And.intro hB ?_))
      refine And.intro (fc_S_0 (fc_S_at17 hW)) (Exists.intro _ (And.intro (c_bitsAt (fc_S_at17 hW) hL _ hN1 hN2) ?_))
      rintro _ _ _ _ ⟨rfl, rfl, rfl, rfl⟩
      refine Exists.intro _ (And.intro (c_bitCount _) ?_)
      rintro _ _ _ _ ⟨rfl, rfl, rfl, rfl⟩
      refine And.intro (fun h52 => ?_) (fun h52 => ?_)
      · exact ih (i + 1) _ _ _ (by omega) (fc_inc i) (by rw [h_acc]; exact sp_or_t (P := fun k => decide (sp_bc (sp_set (fun q => decide (mi 18 q = nI k)) n &&& sp_set (sp_aw (mi (b + 7)) (mi 17 1)) n) = 1)) (f := fun k => (sp_set (fun q => decide (mi 18 q = nI k)) n &&& sp_set (sp_aw (mi (b + 7)) (mi 17 1)) n)) (by simp [h52]))
      · exact ih (i + 1) _ _ _ (by omega) (fc_inc i) (by rw [h_acc]; exact sp_or_f (P := fun k => decide (sp_bc (sp_set (fun q => decide (mi 18 q = nI k)) n &&& sp_set (sp_aw (mi (b + 7)) (mi 17 1)) n) = 1)) (f := fun k => (sp_set (fun q => decide (mi 18 q = nI k)) n &&& sp_set (sp_aw (mi (b + 7)) (mi 17 1)) n)) (by simp [h52]))

theorem c_alone (hH : fc_H mi mr b sc n m t) : fc_R E mX10_alone (d + 2) fc_sh [.ref 0] mi ml mr (fc_is (some (.int (sp_or (fun k => decide (sp_bc (sp_set (fun q => decide (mi 18 q = nI k)) n &&& sp_set (sp_aw (mi (b + 7)) (mi 17 1)) n) = 1)) (fun k => (sp_set (fun q => decide (mi 18 q = nI k)) n &&& sp_set (sp_aw (mi (b + 7)) (mi 17 1)) n)) m))) mi ml mr) := by
  obtain ⟨hW, hB, hL, hb, hN, hV, hC, hQ, hsc⟩ := id hH
  obtain ⟨hN1, hN2, hN3, hN4, hN5, hN6⟩ := id hN
  refine fc_met rfl (Nat.le_of_ble_eq_true rfl) (fc_run oX10_alone (fun pc => pc == 19) 400 ?_)
  refine And.intro rfl (Exists.intro _ (And.intro hB ?_))
  refine And.intro rfl (Exists.intro _ (And.intro (hW 0 3 17 rfl) ?_))
  refine And.intro (fc_S_0 (fc_S_at17 hW)) ?_
  refine And.intro (fc_L_0 hL) (Exists.intro _ (And.intro (c_awakeBits hL _ hN1 hN2) ?_))
  rintro _ _ _ _ ⟨rfl, rfl, rfl, rfl⟩
  exact l_alone hH m 0 _ _ _ (by omega) rfl rfl

/-- k sightings, of places that there are -/
def fc_Se (mi : fc_Mi) (m k : Nat) : Prop := mi 214 3 = nI k ∧ k ≤ 8 ∧ (∀ i, i < k → ∃ j, j < m ∧ mi 215 i = nI j) ∧ ∀ i, i < k → mi 217 i = 0 ∨ mi 217 i = 1
/-- whether the i-th sighting may be of p -/
def q_fit (mi : fc_Mi) (b p : Nat) (i : Nat) : Bool := decide ((if mi 216 i < q_mt mi b p (mi 215 i).toNatClampNeg then (0 : Int32) else 1) = mi 217 i)
theorem l_fits (hH : fc_H mi mr b sc n m t) {k : Nat} (hK : fc_Se mi m k) {p : Nat} (hp : p < n) : ∀ (j i : Nat) (c : Int32) (x3 : Option Value), i + j = k → c = nI i → fc_T E mX10_fitsSeen (d + 3) (0, 0) fc_sh 2 [some (.ref 0), some (.int (nI p)), some (.int c), x3] [] mi ml mr (fc_is (some (.int (fc_b (sp_al (q_fit mi b p) j i)))) mi ml mr) := by
  obtain ⟨hW, hB, hL, hb, hN, hV, hC, hQ, hsc⟩ := id hH
  obtain ⟨hN1, hN2, hN3, hN4, hN5, hN6⟩ := id hN
  obtain ⟨hK1, hK2, hK3, hK4⟩ := id hK
  intro j
  induction j with
  | zero =>
    intro i c x3 hi hc
    subst hc
    refine fc_run oX10_fitsSeen (fun pc => pc == 2) 400 ?_
    refine And.intro rfl (Exists.intro _ (And.intro (hW 0 6 214 rfl) ?_))
    refine And.intro rfl ?_
    refine And.intro (fun h10 => ?_) (fun h10 => ?_)
    · refine And.intro (by first | exact Or.inl rfl | exact Or.inr rfl | exact fc_bb _ | assumption) ?_
      exact ⟨rfl, rfl, rfl, rfl⟩
    · exact absurd (by rw [hK1]; exact nI_le (by omega) (by omega)) h10
  | succ j ih =>
    intro i c x3 hi hc
    subst hc
    obtain ⟨jj, hjj, hw⟩ := hK3 i (by omega)
    have hcj := fc_cl (k := 7) (show jj < 7 by omega) (by omega)
    refine fc_run oX10_fitsSeen (fun pc => pc == 2) 400 ?_
    refine And.intro rfl (Exists.intro _ (And.intro (hW 0 6 214 rfl) ?_))
    refine And.intro rfl ?_
    refine And.intro (fun h10 => ?_) (fun h10 => ?_)
    · exact absurd h10 (by rw [hK1]; exact nI_ge (by omega) (by omega))
    · refine And.intro rfl (Exists.intro _ (And.intro (hW 0 6 214 rfl) ?_))
      refine And.intro rfl (Exists.intro _ (And.intro (hW 214 0 215 rfl) ?_))
      refine Exists.intro _ (Exists.intro _ (And.intro rfl (And.intro (by first | assumption | exact fc_ix_nI (by omega) (by omega) | exact fc_ix_nI (by assumption) (by omega)) ?_)))
      rw [hw]
      refine And.intro rfl (Exists.intro _ (And.intro (c_minutesTo hH (by omega) (by omega)) ?_))
      rintro _ _ _ _ ⟨rfl, rfl, rfl, rfl⟩
      refine And.intro rfl (Exists.intro _ (And.intro (hW 0 6 214 rfl) ?_))
      refine And.intro rfl (Exists.intro _ (And.intro (hW 214 1 216 rfl) ?_))
      refine Exists.intro _ (Exists.intro _ (And.intro rfl (And.intro (by first | assumption | exact fc_ix_nI (by omega) (by omega) | exact fc_ix_nI (by assumption) (by omega)) ?_)))
      refine And.intro (fun h36 => ?_) (fun h36 => ?_)
      · refine And.intro rfl (Exists.intro _ (And.intro (hW 0 6 214 rfl) ?_))
        refine And.intro rfl (Exists.intro _ (And.intro (hW 214 2 217 rfl) ?_))
        refine Exists.intro _ (Exists.intro _ (And.intro rfl (And.intro (by first | assumption | exact fc_ix_nI (by omega) (by omega) | exact fc_ix_nI (by assumption) (by omega)) ?_)))
        refine And.intro (fun h55 => ?_) (fun h55 => ?_)
        · have e : q_fit mi b p i = true := by simp [q_fit, hw, hcj, h36, h55]
          rw [sp_al, if_pos e]
          exact ih (i + 1) _ _ (by omega) (fc_inc i)
        · refine And.intro (by first | exact Or.inl rfl | exact Or.inr rfl | exact fc_bb _ | assumption) ?_
          have e : q_fit mi b p i = false := by simp [q_fit, hw, hcj, h36, h55]
          exact ⟨by rw [sp_al, e]; rfl, rfl, rfl, rfl⟩
      · refine And.intro rfl (Exists.intro _ (And.intro (hW 0 6 214 rfl) ?_))
        refine And.intro rfl (Exists.intro _ (And.intro (hW 214 2 217 rfl) ?_))
        refine Exists.intro _ (Exists.intro _ (And.intro rfl (And.intro (by first | assumption | exact fc_ix_nI (by omega) (by omega) | exact fc_ix_nI (by assumption) (by omega)) ?_)))
        refine And.intro (fun h55 => ?_) (fun h55 => ?_)
        · have e : q_fit mi b p i = true := by simp [q_fit, hw, hcj, h36, h55]
          rw [sp_al, if_pos e]
          exact ih (i + 1) _ _ (by omega) (fc_inc i)
        · refine And.intro (by first | exact Or.inl rfl | exact Or.inr rfl | exact fc_bb _ | assumption) ?_
          have e : q_fit mi b p i = false := by simp [q_fit, hw, hcj, h36, h55]
          exact ⟨by rw [sp_al, e]; rfl, rfl, rfl, rfl⟩

theorem c_fits (hH : fc_H mi mr b sc n m t) {k : Nat} (hK : fc_Se mi m k) {p : Nat} (hp : p < n) : fc_R E mX10_fitsSeen (d + 3) fc_sh [.ref 0, .int (nI p)] mi ml mr (fc_is (some (.int (fc_b (sp_al (q_fit mi b p) k 0)))) mi ml mr) := by
  refine fc_met rfl (Nat.le_of_ble_eq_true rfl) (fc_run oX10_fitsSeen (fun pc => pc == 2) 400 ?_)
  exact l_fits hH hK hp k 0 _ _ (by omega) rfl

theorem l_who (hH : fc_H mi mr b sc n m t) {k : Nat} (hK : fc_Se mi m k) : ∀ (j i : Nat) (c : Int32) (acc : Int32), i + j = n → c = nI i → acc = sp_set (fun p => sp_al (q_fit mi b p) k 0) i → fc_T E mX10_who (d + 4) (0, 0) fc_sh 4 [some (.ref 0), some (.int acc), some (.int c)] [] mi ml mr (fc_is (some (.int (sp_set (fun p => sp_al (q_fit mi b p) k 0) n))) mi ml mr) := by
  obtain ⟨hW, hB, hL, hb, hN, hV, hC, hQ, hsc⟩ := id hH
  obtain ⟨hN1, hN2, hN3, hN4, hN5, hN6⟩ := id hN
  intro j
  induction j with
  | zero =>
    intro i c acc  hi hc h_acc
    subst hc
    refine fc_run oX10_who (fun pc => pc == 4) 400 ?_
    refine And.intro rfl (Exists.intro _ (And.intro hB ?_))
    refine And.intro (fc_L_0 hL) ?_
    refine And.intro (fun h12 => ?_) (fun h12 => ?_)
    · exact ⟨by rw [h_acc, show i = n by omega], rfl, rfl, rfl⟩
    · exact absurd (by rw [hN1]; exact nI_le (by omega) (by omega)) h12
  | succ j ih =>
    intro i c acc  hi hc h_acc
    subst hc
    refine fc_run oX10_who (fun pc => pc == 4) 400 ?_
    refine And.intro rfl (Exists.intro _ (And.intro hB ?_))
    refine And.intro (fc_L_0 hL) ?_
    refine And.intro (fun h12 => ?_) (fun h12 => ?_)
    · exact absurd h12 (by rw [hN1]; exact nI_ge (by omega) (by omega))
    · refine And.intro rfl (Exists.intro _ (And.intro (c_fits hH hK (by omega)) ?_))
      rintro _ _ _ _ ⟨rfl, rfl, rfl, rfl⟩
      refine And.intro (fun h20 => ?_) (fun h20 => ?_)
      · replace h20 := fc_b0.mp h20
        exact ih (i + 1) _ _ (by omega) (fc_inc i) (by first | (rw [h_acc]; exact sp_set_t (P := fun p => sp_al (q_fit mi b p) k 0) h20) | (rw [h_acc]; exact sp_set_f (P := fun p => sp_al (q_fit mi b p) k 0) h20))
      · replace h20 := fc_b1.mp h20
        exact ih (i + 1) _ _ (by omega) (fc_inc i) (by first | (rw [h_acc]; exact sp_set_t (P := fun p => sp_al (q_fit mi b p) k 0) h20) | (rw [h_acc]; exact sp_set_f (P := fun p => sp_al (q_fit mi b p) k 0) h20))

theorem c_who (hH : fc_H mi mr b sc n m t) {k : Nat} (hK : fc_Se mi m k) : fc_R E mX10_who (d + 4) fc_sh [.ref 0] mi ml mr (fc_is (some (.int (sp_set (fun p => sp_al (q_fit mi b p) k 0) n))) mi ml mr) := by
  obtain ⟨hW, hB, hL, hb, hN, hV, hC, hQ, hsc⟩ := id hH
  obtain ⟨hN1, hN2, hN3, hN4, hN5, hN6⟩ := id hN
  refine fc_met rfl (Nat.le_of_ble_eq_true rfl) (fc_run oX10_who (fun pc => pc == 4) 400 ?_)
  exact l_who hH hK n 0 _ _ (by omega) rfl rfl

def q_lw (mi : fc_Mi) (b n : Nat) (s mn : Int32) (kk : Nat) : Int32 := if sp_num (fun p => sp_in s (nI p) && !decide (mn < q_mt mi b p kk)) n < sp_bc s - sp_num (fun p => sp_in s (nI p) && !decide (mn < q_mt mi b p kk)) n then sp_bc s - sp_num (fun p => sp_in s (nI p) && !decide (mn < q_mt mi b p kk)) n else sp_num (fun p => sp_in s (nI p) && !decide (mn < q_mt mi b p kk)) n
theorem l_left (hH : fc_H mi mr b sc n m t) (s mn : Int32) {kk : Nat} (hk : kk < 7) : ∀ (j i : Nat) (c : Int32) (acc : Int32), i + j = n → c = nI i → acc = sp_num (fun p => sp_in s (nI p) && !decide (mn < q_mt mi b p kk)) i → fc_T E mX10_leftAtWorst (d + 3) (0, 0) fc_sh 6 [some (.ref 0), some (.int s), some (.int (nI kk)), some (.int mn), some (.int acc), some (.int c)] [] mi ml mr (fc_is (some (.int (q_lw mi b n s mn kk))) mi ml mr) := by
  obtain ⟨hW, hB, hL, hb, hN, hV, hC, hQ, hsc⟩ := id hH
  obtain ⟨hN1, hN2, hN3, hN4, hN5, hN6⟩ := id hN
  intro j
  induction j with
  | zero =>
    intro i c acc  hi hc h_acc
    subst hc
    refine fc_run oX10_leftAtWorst (fun pc => pc == 6) 400 ?_
    refine And.intro rfl (Exists.intro _ (And.intro hB ?_))
    refine And.intro (fc_L_0 hL) ?_
    refine And.intro (fun h15 => ?_) (fun h15 => ?_)
    · refine Exists.intro _ (And.intro (c_bitCount _) ?_)
      rintro _ _ _ _ ⟨rfl, rfl, rfl, rfl⟩
      exact ⟨by rw [h_acc, show i = n by omega]; rfl, rfl, rfl, rfl⟩
    · exact absurd (by rw [hN1]; exact nI_le (by omega) (by omega)) h15
  | succ j ih =>
    intro i c acc  hi hc h_acc
    subst hc
    refine fc_run oX10_leftAtWorst (fun pc => pc == 6) 400 ?_
    refine And.intro rfl (Exists.intro _ (And.intro hB ?_))
    refine And.intro (fc_L_0 hL) ?_
    refine And.intro (fun h15 => ?_) (fun h15 => ?_)
    · exact absurd h15 (by rw [hN1]; exact nI_ge (by omega) (by omega))
    · refine Exists.intro _ (And.intro (c_isIn _ _) ?_)
      rintro _ _ _ _ ⟨rfl, rfl, rfl, rfl⟩
      refine And.intro (fun h24 => ?_) (fun h24 => ?_)
      · replace h24 := fc_b0.mp h24
        exact ih (i + 1) _ _ (by omega) (fc_inc i) (by rw [h_acc]; exact sp_num_f (P := fun p => sp_in s (nI p) && !decide (mn < q_mt mi b p kk)) (by simp [h24]))
      · replace h24 := fc_b1.mp h24
        refine And.intro rfl (Exists.intro _ (And.intro (c_minutesTo hH (by omega) (by omega)) ?_))
        rintro _ _ _ _ ⟨rfl, rfl, rfl, rfl⟩
        refine And.intro (fun h35 => ?_) (fun h35 => ?_)
        · exact ih (i + 1) _ _ (by omega) (fc_inc i) (by rw [h_acc]; exact sp_num_f (P := fun p => sp_in s (nI p) && !decide (mn < q_mt mi b p kk)) (by simp [h24, h35]))
        · exact ih (i + 1) _ _ (by omega) (fc_inc i) (by rw [h_acc]; exact sp_num_t (P := fun p => sp_in s (nI p) && !decide (mn < q_mt mi b p kk)) (by simp [h24, h35]))

theorem c_left (hH : fc_H mi mr b sc n m t) (s mn : Int32) {kk : Nat} (hk : kk < 7) : fc_R E mX10_leftAtWorst (d + 3) fc_sh [.ref 0, .int s, .int (nI kk), .int mn] mi ml mr (fc_is (some (.int (q_lw mi b n s mn kk))) mi ml mr) := by
  obtain ⟨hW, hB, hL, hb, hN, hV, hC, hQ, hsc⟩ := id hH
  obtain ⟨hN1, hN2, hN3, hN4, hN5, hN6⟩ := id hN
  refine fc_met rfl (Nat.le_of_ble_eq_true rfl) (fc_run oX10_leftAtWorst (fun pc => pc == 6) 400 ?_)
  exact l_left hH s mn hk n 0 _ _ (by omega) rfl rfl

/-- the best question, minutes mn, places below i -/
def sp_a1 (f : Nat → Nat → Int32) (mn : Nat) (s : Int32 × Int32) : Nat → Int32 × Int32
  | 0 => s
  | i + 1 => if (sp_a1 f mn s i).2 ≤ f mn i then sp_a1 f mn s i else (8 * nI mn + nI i, f mn i)
def sp_a2 (f : Nat → Nat → Int32) (m : Nat) (s : Int32 × Int32) : Nat → Int32 × Int32
  | 0 => s
  | i + 1 => sp_a1 f i (sp_a2 f m s i) m
theorem l_ask1 (hH : fc_H mi mr b sc n m t) (s : Int32) (s0 : Int32 × Int32) {mn : Nat} {Q : fc_Q} (K : ∀ (be' le' c' : Int32) (x5 x6 : Option Value), be' = (sp_a1 (fun mn kk => q_lw mi b n s (nI mn) kk) mn s0 m).1 → le' = (sp_a1 (fun mn kk => q_lw mi b n s (nI mn) kk) mn s0 m).2 → c' = nI (mn + 1) → fc_T E mX10_ask (d + 5) (0, 0) fc_sh 15 [some (.ref 0), some (.int s), some (.int be'), some (.int le'), some (.int c'), x5, x6] [] mi ml mr Q) : ∀ (j i : Nat) (c : Int32) (be : Int32) (le : Int32) (x6 : Option Value), i + j = m → c = nI i → be = (sp_a1 (fun mn kk => q_lw mi b n s (nI mn) kk) mn s0 i).1 → le = (sp_a1 (fun mn kk => q_lw mi b n s (nI mn) kk) mn s0 i).2 → fc_T E mX10_ask (d + 5) (0, 0) fc_sh 25 [some (.ref 0), some (.int s), some (.int be), some (.int le), some (.int (nI mn)), some (.int c), x6] [] mi ml mr (Q) := by
  obtain ⟨hW, hB, hL, hb, hN, hV, hC, hQ, hsc⟩ := id hH
  obtain ⟨hN1, hN2, hN3, hN4, hN5, hN6⟩ := id hN
  intro j
  induction j with
  | zero =>
    intro i c be le x6 hi hc h_be h_le
    subst hc
    refine fc_run oX10_ask (fun pc => pc == 25 || pc == 15) 400 ?_
    refine And.intro rfl (Exists.intro _ (And.intro hB ?_))
    refine And.intro (fc_L_0 hL) ?_
    refine And.intro (fun h34 => ?_) (fun h34 => ?_)
    · exact K _ _ _ _ _ (by rw [h_be, show i = m by omega]) (by rw [h_le, show i = m by omega]) (fc_inc mn)
    · exact absurd (by rw [hN3]; exact nI_le (by omega) (by omega)) h34
  | succ j ih =>
    intro i c be le x6 hi hc h_be h_le
    subst hc
    refine fc_run oX10_ask (fun pc => pc == 25 || pc == 15) 400 ?_
    refine And.intro rfl (Exists.intro _ (And.intro hB ?_))
    refine And.intro (fc_L_0 hL) ?_
    refine And.intro (fun h34 => ?_) (fun h34 => ?_)
    · exact absurd h34 (by rw [hN3]; exact nI_ge (by omega) (by omega))
    · refine And.intro rfl (Exists.intro _ (And.intro (c_left hH _ _ (by omega)) ?_))
      rintro _ _ _ _ ⟨rfl, rfl, rfl, rfl⟩
      refine And.intro (fun h51 => ?_) (fun h51 => ?_)
      · exact ih (i + 1) _ _ _ _ (by omega) (fc_inc i) (by rw [h_be]; rw [h_le] at h51; simp only [sp_a1, if_pos h51]) (by rw [h_le]; rw [h_le] at h51; simp only [sp_a1, if_pos h51])
      · exact ih (i + 1) _ _ _ _ (by omega) (fc_inc i) (by rw [h_le] at h51; simp only [sp_a1, if_neg h51]) (by rw [h_le] at h51; simp only [sp_a1, if_neg h51])

theorem l_ask2 (hH : fc_H mi mr b sc n m t) (s : Int32) : ∀ (j i : Nat) (c : Int32) (be : Int32) (le : Int32) (x5 : Option Value) (x6 : Option Value), i + j = 100 → c = nI i → be = (sp_a2 (fun mn kk => q_lw mi b n s (nI mn) kk) m (-1, sp_bc s) i).1 → le = (sp_a2 (fun mn kk => q_lw mi b n s (nI mn) kk) m (-1, sp_bc s) i).2 → fc_T E mX10_ask (d + 5) (0, 0) fc_sh 15 [some (.ref 0), some (.int s), some (.int be), some (.int le), some (.int c), x5, x6] [] mi ml mr (fc_is (some (.int (sp_a2 (fun mn kk => q_lw mi b n s (nI mn) kk) m (-1, sp_bc s) 100).1)) mi ml mr) := by
  obtain ⟨hW, hB, hL, hb, hN, hV, hC, hQ, hsc⟩ := id hH
  obtain ⟨hN1, hN2, hN3, hN4, hN5, hN6⟩ := id hN
  intro j
  induction j with
  | zero =>
    intro i c be le x5 x6 hi hc h_be h_le
    subst hc
    refine fc_run oX10_ask (fun pc => pc == 15 || pc == 25) 400 ?_
    refine And.intro (fun h19 => ?_) (fun h19 => ?_)
    · exact ⟨by rw [h_be, show i = 100 by omega], rfl, rfl, rfl⟩
    · exact absurd (by rw [show i = 100 by omega]; decide) h19
  | succ j ih =>
    intro i c be le x5 x6 hi hc h_be h_le
    subst hc
    refine fc_run oX10_ask (fun pc => pc == 15 || pc == 25) 400 ?_
    refine And.intro (fun h19 => ?_) (fun h19 => ?_)
    · exact absurd h19 (nI_nlt (a := 99) (by omega) (by omega))
    · exact l_ask1 hH s (sp_a2 (fun mn kk => q_lw mi b n s (nI mn) kk) m (-1, sp_bc s) i) (fun be' le' c' x5 x6 h1 h2 h3 => ih (i + 1) _ _ _ _ _ (by omega) h3 (by rw [h1]; rfl) (by rw [h2]; rfl)) m 0 _ _ _ _ (by omega) rfl h_be h_le

theorem c_ask (hH : fc_H mi mr b sc n m t) {k : Nat} (hK : fc_Se mi m k) : fc_R E mX10_ask (d + 5) fc_sh [.ref 0] mi ml mr (fc_is (some (.int ((fun s => (sp_a2 (fun mn kk => q_lw mi b n s (nI mn) kk) m (-1, sp_bc s) 100).1) (sp_set (fun p => sp_al (q_fit mi b p) k 0) n)))) mi ml mr) := by
  obtain ⟨hW, hB, hL, hb, hN, hV, hC, hQ, hsc⟩ := id hH
  obtain ⟨hN1, hN2, hN3, hN4, hN5, hN6⟩ := id hN
  refine fc_met rfl (Nat.le_of_ble_eq_true rfl) (fc_run oX10_ask (fun pc => pc == 15) 400 ?_)
  refine And.intro rfl (Exists.intro _ (And.intro (c_who hH hK) ?_))
  rintro _ _ _ _ ⟨rfl, rfl, rfl, rfl⟩
  refine Exists.intro _ (And.intro (c_bitCount _) ?_)
  rintro _ _ _ _ ⟨rfl, rfl, rfl, rfl⟩
  exact l_ask2 hH (sp_set (fun p => sp_al (q_fit mi b p) k 0) n) 100 0 _ _ _ _ _ (by omega) rfl rfl rfl

end M25
end
