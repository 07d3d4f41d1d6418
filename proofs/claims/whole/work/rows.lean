section
-- ===== PART A: goes FIRST, ahead of the names: the tables' words, and 'selects' of the private methods out of them =====
/-- a private method of a class that the tables say can be made, by its rows of tables_1 -/
def lw_okq (q : MethodName × Nat) : Prop := (q.1.cls ≠ "java/lang/invoke/MethodHandle" ∧ q.1.cls ≠ "java/lang/invoke/VarHandle") ∧ Cond.instantiable q.1.cls q.2 ∈ tables_1 ∧ Cond.privateMethod q.1 ∈ tables_1 ∧ Cond.instanceMethod q.1 ∈ tables_1
theorem lw_p0 : lw_okq (⟨"FirstChimney$Tape", "readWord", "()V"⟩, 8) := ⟨⟨by decide +kernel, by decide +kernel⟩, List.mem_of_getElem? (i := 35) (by decide +kernel), List.mem_of_getElem? (i := 433) (by decide +kernel), List.mem_of_getElem? (i := 434) (by decide +kernel)⟩
theorem lw_p1 : lw_okq (⟨"FirstChimney$Tape", "readNumber", "()V"⟩, 8) := ⟨⟨by decide +kernel, by decide +kernel⟩, List.mem_of_getElem? (i := 35) (by decide +kernel), List.mem_of_getElem? (i := 491) (by decide +kernel), List.mem_of_getElem? (i := 492) (by decide +kernel)⟩
theorem lw_p2 : lw_okq (⟨"FirstChimney$LandReader", "readPlace", "(LFirstChimney$Tape;LFirstChimney$Land;)Z"⟩, 3) := ⟨⟨by decide +kernel, by decide +kernel⟩, List.mem_of_getElem? (i := 76) (by decide +kernel), List.mem_of_getElem? (i := 555) (by decide +kernel), List.mem_of_getElem? (i := 556) (by decide +kernel)⟩
theorem lw_p3 : lw_okq (⟨"FirstChimney$LandReader", "readPath", "(LFirstChimney$Tape;LFirstChimney$Land;)Z"⟩, 3) := ⟨⟨by decide +kernel, by decide +kernel⟩, List.mem_of_getElem? (i := 76) (by decide +kernel), List.mem_of_getElem? (i := 574) (by decide +kernel), List.mem_of_getElem? (i := 575) (by decide +kernel)⟩
theorem lw_p4 : lw_okq (⟨"FirstChimney$LandReader", "readPerson", "(LFirstChimney$Tape;LFirstChimney$Land;)Z"⟩, 3) := ⟨⟨by decide +kernel, by decide +kernel⟩, List.mem_of_getElem? (i := 76) (by decide +kernel), List.mem_of_getElem? (i := 587) (by decide +kernel), List.mem_of_getElem? (i := 588) (by decide +kernel)⟩
theorem lw_p5 : lw_okq (⟨"FirstChimney$LandReader", "readThing", "(LFirstChimney$Tape;LFirstChimney$Land;)Z"⟩, 3) := ⟨⟨by decide +kernel, by decide +kernel⟩, List.mem_of_getElem? (i := 76) (by decide +kernel), List.mem_of_getElem? (i := 600) (by decide +kernel), List.mem_of_getElem? (i := 601) (by decide +kernel)⟩
theorem lw_p6 : lw_okq (⟨"FirstChimney$LandReader", "readSmoke", "(LFirstChimney$Tape;LFirstChimney$Land;)Z"⟩, 3) := ⟨⟨by decide +kernel, by decide +kernel⟩, List.mem_of_getElem? (i := 76) (by decide +kernel), List.mem_of_getElem? (i := 604) (by decide +kernel), List.mem_of_getElem? (i := 605) (by decide +kernel)⟩
theorem lw_p7 : lw_okq (⟨"FirstChimney$LandReader", "readBinds", "(LFirstChimney$Tape;LFirstChimney$Land;)Z"⟩, 3) := ⟨⟨by decide +kernel, by decide +kernel⟩, List.mem_of_getElem? (i := 76) (by decide +kernel), List.mem_of_getElem? (i := 608) (by decide +kernel), List.mem_of_getElem? (i := 609) (by decide +kernel)⟩
theorem lw_p8 : lw_okq (⟨"FirstChimney$LawReader", "writeDown", "(LFirstChimney$Law;I)V"⟩, 4) := ⟨⟨by decide +kernel, by decide +kernel⟩, List.mem_of_getElem? (i := 82) (by decide +kernel), List.mem_of_getElem? (i := 617) (by decide +kernel), List.mem_of_getElem? (i := 618) (by decide +kernel)⟩
theorem lw_p9 : lw_okq (⟨"FirstChimney$LawReader", "readPart", "(LFirstChimney$Tape;LFirstChimney$Law;)Z"⟩, 4) := ⟨⟨by decide +kernel, by decide +kernel⟩, List.mem_of_getElem? (i := 82) (by decide +kernel), List.mem_of_getElem? (i := 628) (by decide +kernel), List.mem_of_getElem? (i := 629) (by decide +kernel)⟩
theorem lw_p10 : lw_okq (⟨"FirstChimney$LawReader", "await", "(I)V"⟩, 4) := ⟨⟨by decide +kernel, by decide +kernel⟩, List.mem_of_getElem? (i := 82) (by decide +kernel), List.mem_of_getElem? (i := 635) (by decide +kernel), List.mem_of_getElem? (i := 636) (by decide +kernel)⟩
theorem lw_p11 : lw_okq (⟨"FirstChimney$LawReader", "closeNots", "(LFirstChimney$Law;)V"⟩, 4) := ⟨⟨by decide +kernel, by decide +kernel⟩, List.mem_of_getElem? (i := 82) (by decide +kernel), List.mem_of_getElem? (i := 639) (by decide +kernel), List.mem_of_getElem? (i := 640) (by decide +kernel)⟩
theorem lw_p12 : lw_okq (⟨"FirstChimney$LawReader", "readBehind", "(LFirstChimney$Tape;LFirstChimney$Law;)Z"⟩, 4) := ⟨⟨by decide +kernel, by decide +kernel⟩, List.mem_of_getElem? (i := 82) (by decide +kernel), List.mem_of_getElem? (i := 643) (by decide +kernel), List.mem_of_getElem? (i := 644) (by decide +kernel)⟩
theorem lw_p13 : lw_okq (⟨"FirstChimney$Ways", "measureFrom", "(LFirstChimney$Land;I)V"⟩, 3) := ⟨⟨by decide +kernel, by decide +kernel⟩, List.mem_of_getElem? (i := 112) (by decide +kernel), List.mem_of_getElem? (i := 656) (by decide +kernel), List.mem_of_getElem? (i := 657) (by decide +kernel)⟩
theorem lw_p14 : lw_okq (⟨"FirstChimney$Script", "readLine", "(LFirstChimney$Tape;LFirstChimney$Land;)Z"⟩, 4) := ⟨⟨by decide +kernel, by decide +kernel⟩, List.mem_of_getElem? (i := 342) (by decide +kernel), List.mem_of_getElem? (i := 683) (by decide +kernel), List.mem_of_getElem? (i := 684) (by decide +kernel)⟩
theorem lw_p15 : lw_okq (⟨"FirstChimney$Script", "readNames", "(LFirstChimney$Tape;LFirstChimney$Land;I)Z"⟩, 4) := ⟨⟨by decide +kernel, by decide +kernel⟩, List.mem_of_getElem? (i := 342) (by decide +kernel), List.mem_of_getElem? (i := 690) (by decide +kernel), List.mem_of_getElem? (i := 691) (by decide +kernel)⟩
def lw_privs_1 : List (MethodName × Nat) := [(⟨"FirstChimney$Tape", "readWord", "()V"⟩, 8), (⟨"FirstChimney$Tape", "readNumber", "()V"⟩, 8), (⟨"FirstChimney$LandReader", "readPlace", "(LFirstChimney$Tape;LFirstChimney$Land;)Z"⟩, 3), (⟨"FirstChimney$LandReader", "readPath", "(LFirstChimney$Tape;LFirstChimney$Land;)Z"⟩, 3), (⟨"FirstChimney$LandReader", "readPerson", "(LFirstChimney$Tape;LFirstChimney$Land;)Z"⟩, 3), (⟨"FirstChimney$LandReader", "readThing", "(LFirstChimney$Tape;LFirstChimney$Land;)Z"⟩, 3), (⟨"FirstChimney$LandReader", "readSmoke", "(LFirstChimney$Tape;LFirstChimney$Land;)Z"⟩, 3), (⟨"FirstChimney$LandReader", "readBinds", "(LFirstChimney$Tape;LFirstChimney$Land;)Z"⟩, 3), (⟨"FirstChimney$LawReader", "writeDown", "(LFirstChimney$Law;I)V"⟩, 4), (⟨"FirstChimney$LawReader", "readPart", "(LFirstChimney$Tape;LFirstChimney$Law;)Z"⟩, 4), (⟨"FirstChimney$LawReader", "await", "(I)V"⟩, 4), (⟨"FirstChimney$LawReader", "closeNots", "(LFirstChimney$Law;)V"⟩, 4), (⟨"FirstChimney$LawReader", "readBehind", "(LFirstChimney$Tape;LFirstChimney$Law;)Z"⟩, 4), (⟨"FirstChimney$Ways", "measureFrom", "(LFirstChimney$Land;I)V"⟩, 3), (⟨"FirstChimney$Script", "readLine", "(LFirstChimney$Tape;LFirstChimney$Land;)Z"⟩, 4), (⟨"FirstChimney$Script", "readNames", "(LFirstChimney$Tape;LFirstChimney$Land;I)Z"⟩, 4)]
theorem lw_r1 : ∀ q ∈ lw_privs_1, lw_okq q := List.forall_mem_cons.mpr ⟨lw_p0, List.forall_mem_cons.mpr ⟨lw_p1, List.forall_mem_cons.mpr ⟨lw_p2, List.forall_mem_cons.mpr ⟨lw_p3, List.forall_mem_cons.mpr ⟨lw_p4, List.forall_mem_cons.mpr ⟨lw_p5, List.forall_mem_cons.mpr ⟨lw_p6, List.forall_mem_cons.mpr ⟨lw_p7, List.forall_mem_cons.mpr ⟨lw_p8, List.forall_mem_cons.mpr ⟨lw_p9, List.forall_mem_cons.mpr ⟨lw_p10, List.forall_mem_cons.mpr ⟨lw_p11, List.forall_mem_cons.mpr ⟨lw_p12, List.forall_mem_cons.mpr ⟨lw_p13, List.forall_mem_cons.mpr ⟨lw_p14, List.forall_mem_cons.mpr ⟨lw_p15, fun _ h => absurd h List.not_mem_nil⟩⟩⟩⟩⟩⟩⟩⟩⟩⟩⟩⟩⟩⟩⟩⟩
theorem lw_p16 : lw_okq (⟨"FirstChimney", "thingsOf", "([II)I"⟩, 12) := ⟨⟨by decide +kernel, by decide +kernel⟩, List.mem_of_getElem? (i := 27) (by decide +kernel), List.mem_of_getElem? (i := 730) (by decide +kernel), List.mem_of_getElem? (i := 731) (by decide +kernel)⟩
theorem lw_p17 : lw_okq (⟨"FirstChimney$State", "isBinding", "(LFirstChimney$Land;IIII)Z"⟩, 9) := ⟨⟨by decide +kernel, by decide +kernel⟩, List.mem_of_getElem? (i := 131) (by decide +kernel), List.mem_of_getElem? (i := 787) (by decide +kernel), List.mem_of_getElem? (i := 788) (by decide +kernel)⟩
theorem lw_p18 : lw_okq (⟨"FirstChimney$State", "shareNews", "(LFirstChimney$Land;I)V"⟩, 9) := ⟨⟨by decide +kernel, by decide +kernel⟩, List.mem_of_getElem? (i := 131) (by decide +kernel), List.mem_of_getElem? (i := 829) (by decide +kernel), List.mem_of_getElem? (i := 830) (by decide +kernel)⟩
theorem lw_p19 : lw_okq (⟨"FirstChimney$State", "riseSmoke", "(LFirstChimney$Land;)V"⟩, 9) := ⟨⟨by decide +kernel, by decide +kernel⟩, List.mem_of_getElem? (i := 131) (by decide +kernel), List.mem_of_getElem? (i := 834) (by decide +kernel), List.mem_of_getElem? (i := 835) (by decide +kernel)⟩
theorem lw_p20 : lw_okq (⟨"FirstChimney", "movedThings", "(LFirstChimney$State;)I"⟩, 12) := ⟨⟨by decide +kernel, by decide +kernel⟩, List.mem_of_getElem? (i := 27) (by decide +kernel), List.mem_of_getElem? (i := 862) (by decide +kernel), List.mem_of_getElem? (i := 863) (by decide +kernel)⟩
theorem lw_p21 : lw_okq (⟨"FirstChimney", "minutesTo", "(II)I"⟩, 12) := ⟨⟨by decide +kernel, by decide +kernel⟩, List.mem_of_getElem? (i := 27) (by decide +kernel), List.mem_of_getElem? (i := 870) (by decide +kernel), List.mem_of_getElem? (i := 871) (by decide +kernel)⟩
theorem lw_p22 : lw_okq (⟨"FirstChimney", "minutesOfAllTo", "(I)I"⟩, 12) := ⟨⟨by decide +kernel, by decide +kernel⟩, List.mem_of_getElem? (i := 27) (by decide +kernel), List.mem_of_getElem? (i := 896) (by decide +kernel), List.mem_of_getElem? (i := 897) (by decide +kernel)⟩
theorem lw_p23 : lw_okq (⟨"FirstChimney$Ways", "stepOn", "(LFirstChimney$Land;)V"⟩, 3) := ⟨⟨by decide +kernel, by decide +kernel⟩, List.mem_of_getElem? (i := 112) (by decide +kernel), List.mem_of_getElem? (i := 912) (by decide +kernel), List.mem_of_getElem? (i := 913) (by decide +kernel)⟩
theorem lw_p24 : lw_okq (⟨"FirstChimney", "isGift", "(II)Z"⟩, 12) := ⟨⟨by decide +kernel, by decide +kernel⟩, List.mem_of_getElem? (i := 27) (by decide +kernel), List.mem_of_getElem? (i := 936) (by decide +kernel), List.mem_of_getElem? (i := 937) (by decide +kernel)⟩
theorem lw_p25 : lw_okq (⟨"FirstChimney", "fitsSeen", "(I)Z"⟩, 12) := ⟨⟨by decide +kernel, by decide +kernel⟩, List.mem_of_getElem? (i := 27) (by decide +kernel), List.mem_of_getElem? (i := 1015) (by decide +kernel), List.mem_of_getElem? (i := 1016) (by decide +kernel)⟩
theorem lw_p26 : lw_okq (⟨"FirstChimney", "leftAtWorst", "(III)I"⟩, 12) := ⟨⟨by decide +kernel, by decide +kernel⟩, List.mem_of_getElem? (i := 27) (by decide +kernel), List.mem_of_getElem? (i := 1024) (by decide +kernel), List.mem_of_getElem? (i := 1025) (by decide +kernel)⟩
theorem lw_p27 : lw_okq (⟨"FirstChimney", "worthOf", "(IZ)I"⟩, 12) := ⟨⟨by decide +kernel, by decide +kernel⟩, List.mem_of_getElem? (i := 27) (by decide +kernel), List.mem_of_getElem? (i := 1036) (by decide +kernel), List.mem_of_getElem? (i := 1037) (by decide +kernel)⟩
theorem lw_p28 : lw_okq (⟨"FirstChimney", "playDrawn", "()Z"⟩, 12) := ⟨⟨by decide +kernel, by decide +kernel⟩, List.mem_of_getElem? (i := 27) (by decide +kernel), List.mem_of_getElem? (i := 1057) (by decide +kernel), List.mem_of_getElem? (i := 1058) (by decide +kernel)⟩
theorem lw_p29 : lw_okq (⟨"FirstChimney", "drawBelow", "(I)I"⟩, 12) := ⟨⟨by decide +kernel, by decide +kernel⟩, List.mem_of_getElem? (i := 27) (by decide +kernel), List.mem_of_getElem? (i := 1061) (by decide +kernel), List.mem_of_getElem? (i := 1062) (by decide +kernel)⟩
theorem lw_p30 : lw_okq (⟨"java/lang/Throwable", "fillInStackTrace", "(I)Ljava/lang/Throwable;"⟩, 6) := ⟨⟨by decide +kernel, by decide +kernel⟩, List.mem_of_getElem? (i := 1136) (by decide +kernel), List.mem_of_getElem? (i := 1134) (by decide +kernel), List.mem_of_getElem? (i := 1135) (by decide +kernel)⟩
theorem lw_p31 : lw_okq (⟨"FirstChimneyModel", "lay", "(J)V"⟩, 30) := ⟨⟨by decide +kernel, by decide +kernel⟩, List.mem_of_getElem? (i := 1182) (by decide +kernel), List.mem_of_getElem? (i := 1180) (by decide +kernel), List.mem_of_getElem? (i := 1181) (by decide +kernel)⟩
def lw_privs_2 : List (MethodName × Nat) := [(⟨"FirstChimney", "thingsOf", "([II)I"⟩, 12), (⟨"FirstChimney$State", "isBinding", "(LFirstChimney$Land;IIII)Z"⟩, 9), (⟨"FirstChimney$State", "shareNews", "(LFirstChimney$Land;I)V"⟩, 9), (⟨"FirstChimney$State", "riseSmoke", "(LFirstChimney$Land;)V"⟩, 9), (⟨"FirstChimney", "movedThings", "(LFirstChimney$State;)I"⟩, 12), (⟨"FirstChimney", "minutesTo", "(II)I"⟩, 12), (⟨"FirstChimney", "minutesOfAllTo", "(I)I"⟩, 12), (⟨"FirstChimney$Ways", "stepOn", "(LFirstChimney$Land;)V"⟩, 3), (⟨"FirstChimney", "isGift", "(II)Z"⟩, 12), (⟨"FirstChimney", "fitsSeen", "(I)Z"⟩, 12), (⟨"FirstChimney", "leftAtWorst", "(III)I"⟩, 12), (⟨"FirstChimney", "worthOf", "(IZ)I"⟩, 12), (⟨"FirstChimney", "playDrawn", "()Z"⟩, 12), (⟨"FirstChimney", "drawBelow", "(I)I"⟩, 12), (⟨"java/lang/Throwable", "fillInStackTrace", "(I)Ljava/lang/Throwable;"⟩, 6), (⟨"FirstChimneyModel", "lay", "(J)V"⟩, 30)]
theorem lw_r2 : ∀ q ∈ lw_privs_2, lw_okq q := List.forall_mem_cons.mpr ⟨lw_p16, List.forall_mem_cons.mpr ⟨lw_p17, List.forall_mem_cons.mpr ⟨lw_p18, List.forall_mem_cons.mpr ⟨lw_p19, List.forall_mem_cons.mpr ⟨lw_p20, List.forall_mem_cons.mpr ⟨lw_p21, List.forall_mem_cons.mpr ⟨lw_p22, List.forall_mem_cons.mpr ⟨lw_p23, List.forall_mem_cons.mpr ⟨lw_p24, List.forall_mem_cons.mpr ⟨lw_p25, List.forall_mem_cons.mpr ⟨lw_p26, List.forall_mem_cons.mpr ⟨lw_p27, List.forall_mem_cons.mpr ⟨lw_p28, List.forall_mem_cons.mpr ⟨lw_p29, List.forall_mem_cons.mpr ⟨lw_p30, List.forall_mem_cons.mpr ⟨lw_p31, fun _ h => absurd h List.not_mem_nil⟩⟩⟩⟩⟩⟩⟩⟩⟩⟩⟩⟩⟩⟩⟩⟩
theorem lw_p32 : lw_okq (⟨"FirstChimneyModel", "standsAsAlways", "(I)V"⟩, 30) := ⟨⟨by decide +kernel, by decide +kernel⟩, List.mem_of_getElem? (i := 1182) (by decide +kernel), List.mem_of_getElem? (i := 1215) (by decide +kernel), List.mem_of_getElem? (i := 1216) (by decide +kernel)⟩
theorem lw_p33 : lw_okq (⟨"FirstChimneyModel", "begins", "()V"⟩, 30) := ⟨⟨by decide +kernel, by decide +kernel⟩, List.mem_of_getElem? (i := 1182) (by decide +kernel), List.mem_of_getElem? (i := 1219) (by decide +kernel), List.mem_of_getElem? (i := 1220) (by decide +kernel)⟩
theorem lw_p34 : lw_okq (⟨"FirstChimneyModel", "starts", "(I)V"⟩, 30) := ⟨⟨by decide +kernel, by decide +kernel⟩, List.mem_of_getElem? (i := 1182) (by decide +kernel), List.mem_of_getElem? (i := 1223) (by decide +kernel), List.mem_of_getElem? (i := 1224) (by decide +kernel)⟩
theorem lw_p35 : lw_okq (⟨"FirstChimneyModel", "persons", "()I"⟩, 30) := ⟨⟨by decide +kernel, by decide +kernel⟩, List.mem_of_getElem? (i := 1182) (by decide +kernel), List.mem_of_getElem? (i := 1227) (by decide +kernel), List.mem_of_getElem? (i := 1228) (by decide +kernel)⟩
theorem lw_p36 : lw_okq (⟨"FirstChimneyModel", "personOf", "(II)I"⟩, 30) := ⟨⟨by decide +kernel, by decide +kernel⟩, List.mem_of_getElem? (i := 1182) (by decide +kernel), List.mem_of_getElem? (i := 1231) (by decide +kernel), List.mem_of_getElem? (i := 1232) (by decide +kernel)⟩
theorem lw_p37 : lw_okq (⟨"FirstChimneyModel", "things", "()I"⟩, 30) := ⟨⟨by decide +kernel, by decide +kernel⟩, List.mem_of_getElem? (i := 1182) (by decide +kernel), List.mem_of_getElem? (i := 1235) (by decide +kernel), List.mem_of_getElem? (i := 1236) (by decide +kernel)⟩
theorem lw_p38 : lw_okq (⟨"FirstChimneyModel", "thingOf", "(II)I"⟩, 30) := ⟨⟨by decide +kernel, by decide +kernel⟩, List.mem_of_getElem? (i := 1182) (by decide +kernel), List.mem_of_getElem? (i := 1239) (by decide +kernel), List.mem_of_getElem? (i := 1240) (by decide +kernel)⟩
theorem lw_p39 : lw_okq (⟨"FirstChimneyModel", "cutAll", "()V"⟩, 30) := ⟨⟨by decide +kernel, by decide +kernel⟩, List.mem_of_getElem? (i := 1182) (by decide +kernel), List.mem_of_getElem? (i := 1338) (by decide +kernel), List.mem_of_getElem? (i := 1339) (by decide +kernel)⟩
theorem lw_p40 : lw_okq (⟨"FirstChimneyModel", "readLine", "()V"⟩, 30) := ⟨⟨by decide +kernel, by decide +kernel⟩, List.mem_of_getElem? (i := 1182) (by decide +kernel), List.mem_of_getElem? (i := 1357) (by decide +kernel), List.mem_of_getElem? (i := 1358) (by decide +kernel)⟩
theorem lw_p41 : lw_okq (⟨"FirstChimneyModel", "isWord", "(I)Z"⟩, 30) := ⟨⟨by decide +kernel, by decide +kernel⟩, List.mem_of_getElem? (i := 1182) (by decide +kernel), List.mem_of_getElem? (i := 1361) (by decide +kernel), List.mem_of_getElem? (i := 1362) (by decide +kernel)⟩
theorem lw_p42 : lw_okq (⟨"FirstChimneyModel", "readName", "(III)V"⟩, 30) := ⟨⟨by decide +kernel, by decide +kernel⟩, List.mem_of_getElem? (i := 1182) (by decide +kernel), List.mem_of_getElem? (i := 1365) (by decide +kernel), List.mem_of_getElem? (i := 1366) (by decide +kernel)⟩
theorem lw_p43 : lw_okq (⟨"FirstChimneyModel", "wrong", "(I)V"⟩, 30) := ⟨⟨by decide +kernel, by decide +kernel⟩, List.mem_of_getElem? (i := 1182) (by decide +kernel), List.mem_of_getElem? (i := 1369) (by decide +kernel), List.mem_of_getElem? (i := 1370) (by decide +kernel)⟩
theorem lw_p44 : lw_okq (⟨"FirstChimneyModel", "isName", "()Z"⟩, 30) := ⟨⟨by decide +kernel, by decide +kernel⟩, List.mem_of_getElem? (i := 1182) (by decide +kernel), List.mem_of_getElem? (i := 1373) (by decide +kernel), List.mem_of_getElem? (i := 1374) (by decide +kernel)⟩
theorem lw_p45 : lw_okq (⟨"FirstChimneyModel", "wordHere", "(II)I"⟩, 30) := ⟨⟨by decide +kernel, by decide +kernel⟩, List.mem_of_getElem? (i := 1182) (by decide +kernel), List.mem_of_getElem? (i := 1377) (by decide +kernel), List.mem_of_getElem? (i := 1378) (by decide +kernel)⟩
theorem lw_p46 : lw_okq (⟨"FirstChimneyModel", "nameAt", "(Z)I"⟩, 30) := ⟨⟨by decide +kernel, by decide +kernel⟩, List.mem_of_getElem? (i := 1182) (by decide +kernel), List.mem_of_getElem? (i := 1381) (by decide +kernel), List.mem_of_getElem? (i := 1382) (by decide +kernel)⟩
theorem lw_p47 : lw_okq (⟨"FirstChimneyModel", "readPath", "()V"⟩, 30) := ⟨⟨by decide +kernel, by decide +kernel⟩, List.mem_of_getElem? (i := 1182) (by decide +kernel), List.mem_of_getElem? (i := 1385) (by decide +kernel), List.mem_of_getElem? (i := 1386) (by decide +kernel)⟩
def lw_privs_3 : List (MethodName × Nat) := [(⟨"FirstChimneyModel", "standsAsAlways", "(I)V"⟩, 30), (⟨"FirstChimneyModel", "begins", "()V"⟩, 30), (⟨"FirstChimneyModel", "starts", "(I)V"⟩, 30), (⟨"FirstChimneyModel", "persons", "()I"⟩, 30), (⟨"FirstChimneyModel", "personOf", "(II)I"⟩, 30), (⟨"FirstChimneyModel", "things", "()I"⟩, 30), (⟨"FirstChimneyModel", "thingOf", "(II)I"⟩, 30), (⟨"FirstChimneyModel", "cutAll", "()V"⟩, 30), (⟨"FirstChimneyModel", "readLine", "()V"⟩, 30), (⟨"FirstChimneyModel", "isWord", "(I)Z"⟩, 30), (⟨"FirstChimneyModel", "readName", "(III)V"⟩, 30), (⟨"FirstChimneyModel", "wrong", "(I)V"⟩, 30), (⟨"FirstChimneyModel", "isName", "()Z"⟩, 30), (⟨"FirstChimneyModel", "wordHere", "(II)I"⟩, 30), (⟨"FirstChimneyModel", "nameAt", "(Z)I"⟩, 30), (⟨"FirstChimneyModel", "readPath", "()V"⟩, 30)]
theorem lw_r3 : ∀ q ∈ lw_privs_3, lw_okq q := List.forall_mem_cons.mpr ⟨lw_p32, List.forall_mem_cons.mpr ⟨lw_p33, List.forall_mem_cons.mpr ⟨lw_p34, List.forall_mem_cons.mpr ⟨lw_p35, List.forall_mem_cons.mpr ⟨lw_p36, List.forall_mem_cons.mpr ⟨lw_p37, List.forall_mem_cons.mpr ⟨lw_p38, List.forall_mem_cons.mpr ⟨lw_p39, List.forall_mem_cons.mpr ⟨lw_p40, List.forall_mem_cons.mpr ⟨lw_p41, List.forall_mem_cons.mpr ⟨lw_p42, List.forall_mem_cons.mpr ⟨lw_p43, List.forall_mem_cons.mpr ⟨lw_p44, List.forall_mem_cons.mpr ⟨lw_p45, List.forall_mem_cons.mpr ⟨lw_p46, List.forall_mem_cons.mpr ⟨lw_p47, fun _ h => absurd h List.not_mem_nil⟩⟩⟩⟩⟩⟩⟩⟩⟩⟩⟩⟩⟩⟩⟩⟩
theorem lw_p48 : lw_okq (⟨"FirstChimneyModel", "takeTold", "(ZII)I"⟩, 30) := ⟨⟨by decide +kernel, by decide +kernel⟩, List.mem_of_getElem? (i := 1182) (by decide +kernel), List.mem_of_getElem? (i := 1389) (by decide +kernel), List.mem_of_getElem? (i := 1390) (by decide +kernel)⟩
theorem lw_p49 : lw_okq (⟨"FirstChimneyModel", "takeOne", "(II)I"⟩, 30) := ⟨⟨by decide +kernel, by decide +kernel⟩, List.mem_of_getElem? (i := 1182) (by decide +kernel), List.mem_of_getElem? (i := 1396) (by decide +kernel), List.mem_of_getElem? (i := 1397) (by decide +kernel)⟩
theorem lw_p50 : lw_okq (⟨"FirstChimneyModel", "takeWord", "(I)V"⟩, 30) := ⟨⟨by decide +kernel, by decide +kernel⟩, List.mem_of_getElem? (i := 1182) (by decide +kernel), List.mem_of_getElem? (i := 1400) (by decide +kernel), List.mem_of_getElem? (i := 1401) (by decide +kernel)⟩
theorem lw_p51 : lw_okq (⟨"FirstChimneyModel", "hasWord", "(I)Z"⟩, 30) := ⟨⟨by decide +kernel, by decide +kernel⟩, List.mem_of_getElem? (i := 1182) (by decide +kernel), List.mem_of_getElem? (i := 1404) (by decide +kernel), List.mem_of_getElem? (i := 1405) (by decide +kernel)⟩
theorem lw_p52 : lw_okq (⟨"FirstChimneyModel", "takeAfter", "(III)I"⟩, 30) := ⟨⟨by decide +kernel, by decide +kernel⟩, List.mem_of_getElem? (i := 1182) (by decide +kernel), List.mem_of_getElem? (i := 1408) (by decide +kernel), List.mem_of_getElem? (i := 1409) (by decide +kernel)⟩
theorem lw_p53 : lw_okq (⟨"FirstChimneyModel", "takeNumber", "(II)I"⟩, 30) := ⟨⟨by decide +kernel, by decide +kernel⟩, List.mem_of_getElem? (i := 1182) (by decide +kernel), List.mem_of_getElem? (i := 1412) (by decide +kernel), List.mem_of_getElem? (i := 1413) (by decide +kernel)⟩
theorem lw_p54 : lw_okq (⟨"FirstChimneyModel", "readOnce", "()V"⟩, 30) := ⟨⟨by decide +kernel, by decide +kernel⟩, List.mem_of_getElem? (i := 1182) (by decide +kernel), List.mem_of_getElem? (i := 1416) (by decide +kernel), List.mem_of_getElem? (i := 1417) (by decide +kernel)⟩
theorem lw_p55 : lw_okq (⟨"FirstChimneyModel", "whole", "(I)V"⟩, 30) := ⟨⟨by decide +kernel, by decide +kernel⟩, List.mem_of_getElem? (i := 1182) (by decide +kernel), List.mem_of_getElem? (i := 1420) (by decide +kernel), List.mem_of_getElem? (i := 1421) (by decide +kernel)⟩
theorem lw_p56 : lw_okq (⟨"FirstChimneyModel", "test", "(I)V"⟩, 30) := ⟨⟨by decide +kernel, by decide +kernel⟩, List.mem_of_getElem? (i := 1182) (by decide +kernel), List.mem_of_getElem? (i := 1424) (by decide +kernel), List.mem_of_getElem? (i := 1425) (by decide +kernel)⟩
theorem lw_p57 : lw_okq (⟨"FirstChimneyModel", "sums", "(I)V"⟩, 30) := ⟨⟨by decide +kernel, by decide +kernel⟩, List.mem_of_getElem? (i := 1182) (by decide +kernel), List.mem_of_getElem? (i := 1428) (by decide +kernel), List.mem_of_getElem? (i := 1429) (by decide +kernel)⟩
theorem lw_p58 : lw_okq (⟨"FirstChimneyModel", "products", "(I)V"⟩, 30) := ⟨⟨by decide +kernel, by decide +kernel⟩, List.mem_of_getElem? (i := 1182) (by decide +kernel), List.mem_of_getElem? (i := 1432) (by decide +kernel), List.mem_of_getElem? (i := 1433) (by decide +kernel)⟩
theorem lw_p59 : lw_okq (⟨"FirstChimneyModel", "takePart", "(I)V"⟩, 30) := ⟨⟨by decide +kernel, by decide +kernel⟩, List.mem_of_getElem? (i := 1182) (by decide +kernel), List.mem_of_getElem? (i := 1436) (by decide +kernel), List.mem_of_getElem? (i := 1437) (by decide +kernel)⟩
theorem lw_p60 : lw_okq (⟨"FirstChimneyModel", "isSign", "(I)Z"⟩, 30) := ⟨⟨by decide +kernel, by decide +kernel⟩, List.mem_of_getElem? (i := 1182) (by decide +kernel), List.mem_of_getElem? (i := 1440) (by decide +kernel), List.mem_of_getElem? (i := 1441) (by decide +kernel)⟩
theorem lw_p61 : lw_okq (⟨"FirstChimneyModel", "emit", "(II)V"⟩, 30) := ⟨⟨by decide +kernel, by decide +kernel⟩, List.mem_of_getElem? (i := 1182) (by decide +kernel), List.mem_of_getElem? (i := 1444) (by decide +kernel), List.mem_of_getElem? (i := 1445) (by decide +kernel)⟩
theorem lw_p62 : lw_okq (⟨"FirstChimneyModel", "hasSign", "(I)Z"⟩, 30) := ⟨⟨by decide +kernel, by decide +kernel⟩, List.mem_of_getElem? (i := 1182) (by decide +kernel), List.mem_of_getElem? (i := 1448) (by decide +kernel), List.mem_of_getElem? (i := 1449) (by decide +kernel)⟩
theorem lw_p63 : lw_okq (⟨"FirstChimneyModel", "takeSign", "(I)V"⟩, 30) := ⟨⟨by decide +kernel, by decide +kernel⟩, List.mem_of_getElem? (i := 1182) (by decide +kernel), List.mem_of_getElem? (i := 1452) (by decide +kernel), List.mem_of_getElem? (i := 1453) (by decide +kernel)⟩
def lw_privs_4 : List (MethodName × Nat) := [(⟨"FirstChimneyModel", "takeTold", "(ZII)I"⟩, 30), (⟨"FirstChimneyModel", "takeOne", "(II)I"⟩, 30), (⟨"FirstChimneyModel", "takeWord", "(I)V"⟩, 30), (⟨"FirstChimneyModel", "hasWord", "(I)Z"⟩, 30), (⟨"FirstChimneyModel", "takeAfter", "(III)I"⟩, 30), (⟨"FirstChimneyModel", "takeNumber", "(II)I"⟩, 30), (⟨"FirstChimneyModel", "readOnce", "()V"⟩, 30), (⟨"FirstChimneyModel", "whole", "(I)V"⟩, 30), (⟨"FirstChimneyModel", "test", "(I)V"⟩, 30), (⟨"FirstChimneyModel", "sums", "(I)V"⟩, 30), (⟨"FirstChimneyModel", "products", "(I)V"⟩, 30), (⟨"FirstChimneyModel", "takePart", "(I)V"⟩, 30), (⟨"FirstChimneyModel", "isSign", "(I)Z"⟩, 30), (⟨"FirstChimneyModel", "emit", "(II)V"⟩, 30), (⟨"FirstChimneyModel", "hasSign", "(I)Z"⟩, 30), (⟨"FirstChimneyModel", "takeSign", "(I)V"⟩, 30)]
theorem lw_r4 : ∀ q ∈ lw_privs_4, lw_okq q := List.forall_mem_cons.mpr ⟨lw_p48, List.forall_mem_cons.mpr ⟨lw_p49, List.forall_mem_cons.mpr ⟨lw_p50, List.forall_mem_cons.mpr ⟨lw_p51, List.forall_mem_cons.mpr ⟨lw_p52, List.forall_mem_cons.mpr ⟨lw_p53, List.forall_mem_cons.mpr ⟨lw_p54, List.forall_mem_cons.mpr ⟨lw_p55, List.forall_mem_cons.mpr ⟨lw_p56, List.forall_mem_cons.mpr ⟨lw_p57, List.forall_mem_cons.mpr ⟨lw_p58, List.forall_mem_cons.mpr ⟨lw_p59, List.forall_mem_cons.mpr ⟨lw_p60, List.forall_mem_cons.mpr ⟨lw_p61, List.forall_mem_cons.mpr ⟨lw_p62, List.forall_mem_cons.mpr ⟨lw_p63, fun _ h => absurd h List.not_mem_nil⟩⟩⟩⟩⟩⟩⟩⟩⟩⟩⟩⟩⟩⟩⟩⟩
theorem lw_p64 : lw_okq (⟨"FirstChimneyModel", "readMorning", "(II)V"⟩, 30) := ⟨⟨by decide +kernel, by decide +kernel⟩, List.mem_of_getElem? (i := 1182) (by decide +kernel), List.mem_of_getElem? (i := 1460) (by decide +kernel), List.mem_of_getElem? (i := 1461) (by decide +kernel)⟩
theorem lw_p65 : lw_okq (⟨"FirstChimneyModel", "isPlace", "(I)Z"⟩, 30) := ⟨⟨by decide +kernel, by decide +kernel⟩, List.mem_of_getElem? (i := 1182) (by decide +kernel), List.mem_of_getElem? (i := 1468) (by decide +kernel), List.mem_of_getElem? (i := 1469) (by decide +kernel)⟩
theorem lw_p66 : lw_okq (⟨"FirstChimneyModel", "places", "()I"⟩, 30) := ⟨⟨by decide +kernel, by decide +kernel⟩, List.mem_of_getElem? (i := 1182) (by decide +kernel), List.mem_of_getElem? (i := 1472) (by decide +kernel), List.mem_of_getElem? (i := 1473) (by decide +kernel)⟩
theorem lw_p67 : lw_okq (⟨"FirstChimneyModel", "pathsFrom", "(I)I"⟩, 30) := ⟨⟨by decide +kernel, by decide +kernel⟩, List.mem_of_getElem? (i := 1182) (by decide +kernel), List.mem_of_getElem? (i := 1476) (by decide +kernel), List.mem_of_getElem? (i := 1477) (by decide +kernel)⟩
theorem lw_p68 : lw_okq (⟨"FirstChimneyModel", "whoIn", "(II)I"⟩, 30) := ⟨⟨by decide +kernel, by decide +kernel⟩, List.mem_of_getElem? (i := 1182) (by decide +kernel), List.mem_of_getElem? (i := 1480) (by decide +kernel), List.mem_of_getElem? (i := 1481) (by decide +kernel)⟩
theorem lw_p69 : lw_okq (⟨"FirstChimneyModel", "awakeAt", "(I)I"⟩, 30) := ⟨⟨by decide +kernel, by decide +kernel⟩, List.mem_of_getElem? (i := 1182) (by decide +kernel), List.mem_of_getElem? (i := 1484) (by decide +kernel), List.mem_of_getElem? (i := 1485) (by decide +kernel)⟩
theorem lw_p70 : lw_okq (⟨"FirstChimneyModel", "isPerson", "(I)Z"⟩, 30) := ⟨⟨by decide +kernel, by decide +kernel⟩, List.mem_of_getElem? (i := 1182) (by decide +kernel), List.mem_of_getElem? (i := 1492) (by decide +kernel), List.mem_of_getElem? (i := 1493) (by decide +kernel)⟩
theorem lw_p71 : lw_okq (⟨"FirstChimneyModel", "isAwake", "(II)Z"⟩, 30) := ⟨⟨by decide +kernel, by decide +kernel⟩, List.mem_of_getElem? (i := 1182) (by decide +kernel), List.mem_of_getElem? (i := 1496) (by decide +kernel), List.mem_of_getElem? (i := 1497) (by decide +kernel)⟩
theorem lw_p72 : lw_okq (⟨"FirstChimneyModel", "isReady", "(II)Z"⟩, 30) := ⟨⟨by decide +kernel, by decide +kernel⟩, List.mem_of_getElem? (i := 1182) (by decide +kernel), List.mem_of_getElem? (i := 1500) (by decide +kernel), List.mem_of_getElem? (i := 1501) (by decide +kernel)⟩
theorem lw_p73 : lw_okq (⟨"FirstChimneyModel", "thingsWith", "(II)I"⟩, 30) := ⟨⟨by decide +kernel, by decide +kernel⟩, List.mem_of_getElem? (i := 1182) (by decide +kernel), List.mem_of_getElem? (i := 1504) (by decide +kernel), List.mem_of_getElem? (i := 1505) (by decide +kernel)⟩
theorem lw_p74 : lw_okq (⟨"FirstChimneyModel", "isThing", "(I)Z"⟩, 30) := ⟨⟨by decide +kernel, by decide +kernel⟩, List.mem_of_getElem? (i := 1182) (by decide +kernel), List.mem_of_getElem? (i := 1512) (by decide +kernel), List.mem_of_getElem? (i := 1513) (by decide +kernel)⟩
theorem lw_p75 : lw_okq (⟨"FirstChimneyModel", "mayWalk", "(III)Z"⟩, 30) := ⟨⟨by decide +kernel, by decide +kernel⟩, List.mem_of_getElem? (i := 1182) (by decide +kernel), List.mem_of_getElem? (i := 1520) (by decide +kernel), List.mem_of_getElem? (i := 1521) (by decide +kernel)⟩
theorem lw_p76 : lw_okq (⟨"FirstChimneyModel", "keeps", "()V"⟩, 30) := ⟨⟨by decide +kernel, by decide +kernel⟩, List.mem_of_getElem? (i := 1182) (by decide +kernel), List.mem_of_getElem? (i := 1524) (by decide +kernel), List.mem_of_getElem? (i := 1525) (by decide +kernel)⟩
theorem lw_p77 : lw_okq (⟨"FirstChimneyModel", "copies", "(III)V"⟩, 30) := ⟨⟨by decide +kernel, by decide +kernel⟩, List.mem_of_getElem? (i := 1182) (by decide +kernel), List.mem_of_getElem? (i := 1528) (by decide +kernel), List.mem_of_getElem? (i := 1529) (by decide +kernel)⟩
theorem lw_p78 : lw_okq (⟨"FirstChimneyModel", "walks", "(III)V"⟩, 30) := ⟨⟨by decide +kernel, by decide +kernel⟩, List.mem_of_getElem? (i := 1182) (by decide +kernel), List.mem_of_getElem? (i := 1532) (by decide +kernel), List.mem_of_getElem? (i := 1533) (by decide +kernel)⟩
theorem lw_p79 : lw_okq (⟨"FirstChimneyModel", "mayGive", "(III)Z"⟩, 30) := ⟨⟨by decide +kernel, by decide +kernel⟩, List.mem_of_getElem? (i := 1182) (by decide +kernel), List.mem_of_getElem? (i := 1540) (by decide +kernel), List.mem_of_getElem? (i := 1541) (by decide +kernel)⟩
def lw_privs_5 : List (MethodName × Nat) := [(⟨"FirstChimneyModel", "readMorning", "(II)V"⟩, 30), (⟨"FirstChimneyModel", "isPlace", "(I)Z"⟩, 30), (⟨"FirstChimneyModel", "places", "()I"⟩, 30), (⟨"FirstChimneyModel", "pathsFrom", "(I)I"⟩, 30), (⟨"FirstChimneyModel", "whoIn", "(II)I"⟩, 30), (⟨"FirstChimneyModel", "awakeAt", "(I)I"⟩, 30), (⟨"FirstChimneyModel", "isPerson", "(I)Z"⟩, 30), (⟨"FirstChimneyModel", "isAwake", "(II)Z"⟩, 30), (⟨"FirstChimneyModel", "isReady", "(II)Z"⟩, 30), (⟨"FirstChimneyModel", "thingsWith", "(II)I"⟩, 30), (⟨"FirstChimneyModel", "isThing", "(I)Z"⟩, 30), (⟨"FirstChimneyModel", "mayWalk", "(III)Z"⟩, 30), (⟨"FirstChimneyModel", "keeps", "()V"⟩, 30), (⟨"FirstChimneyModel", "copies", "(III)V"⟩, 30), (⟨"FirstChimneyModel", "walks", "(III)V"⟩, 30), (⟨"FirstChimneyModel", "mayGive", "(III)Z"⟩, 30)]
theorem lw_r5 : ∀ q ∈ lw_privs_5, lw_okq q := List.forall_mem_cons.mpr ⟨lw_p64, List.forall_mem_cons.mpr ⟨lw_p65, List.forall_mem_cons.mpr ⟨lw_p66, List.forall_mem_cons.mpr ⟨lw_p67, List.forall_mem_cons.mpr ⟨lw_p68, List.forall_mem_cons.mpr ⟨lw_p69, List.forall_mem_cons.mpr ⟨lw_p70, List.forall_mem_cons.mpr ⟨lw_p71, List.forall_mem_cons.mpr ⟨lw_p72, List.forall_mem_cons.mpr ⟨lw_p73, List.forall_mem_cons.mpr ⟨lw_p74, List.forall_mem_cons.mpr ⟨lw_p75, List.forall_mem_cons.mpr ⟨lw_p76, List.forall_mem_cons.mpr ⟨lw_p77, List.forall_mem_cons.mpr ⟨lw_p78, List.forall_mem_cons.mpr ⟨lw_p79, fun _ h => absurd h List.not_mem_nil⟩⟩⟩⟩⟩⟩⟩⟩⟩⟩⟩⟩⟩⟩⟩⟩
theorem lw_p80 : lw_okq (⟨"FirstChimneyModel", "gives", "(III)Z"⟩, 30) := ⟨⟨by decide +kernel, by decide +kernel⟩, List.mem_of_getElem? (i := 1182) (by decide +kernel), List.mem_of_getElem? (i := 1544) (by decide +kernel), List.mem_of_getElem? (i := 1545) (by decide +kernel)⟩
theorem lw_p81 : lw_okq (⟨"FirstChimneyModel", "doesBind", "(IIIII)Z"⟩, 30) := ⟨⟨by decide +kernel, by decide +kernel⟩, List.mem_of_getElem? (i := 1182) (by decide +kernel), List.mem_of_getElem? (i := 1548) (by decide +kernel), List.mem_of_getElem? (i := 1549) (by decide +kernel)⟩
theorem lw_p82 : lw_okq (⟨"FirstChimneyModel", "benches", "()I"⟩, 30) := ⟨⟨by decide +kernel, by decide +kernel⟩, List.mem_of_getElem? (i := 1182) (by decide +kernel), List.mem_of_getElem? (i := 1555) (by decide +kernel), List.mem_of_getElem? (i := 1556) (by decide +kernel)⟩
theorem lw_p83 : lw_okq (⟨"FirstChimneyModel", "worthAt", "(I)I"⟩, 30) := ⟨⟨by decide +kernel, by decide +kernel⟩, List.mem_of_getElem? (i := 1182) (by decide +kernel), List.mem_of_getElem? (i := 1559) (by decide +kernel), List.mem_of_getElem? (i := 1560) (by decide +kernel)⟩
theorem lw_p84 : lw_okq (⟨"FirstChimneyModel", "mayVow", "(III)Z"⟩, 30) := ⟨⟨by decide +kernel, by decide +kernel⟩, List.mem_of_getElem? (i := 1182) (by decide +kernel), List.mem_of_getElem? (i := 1570) (by decide +kernel), List.mem_of_getElem? (i := 1571) (by decide +kernel)⟩
theorem lw_p85 : lw_okq (⟨"FirstChimneyModel", "vowsBy", "(III)Z"⟩, 30) := ⟨⟨by decide +kernel, by decide +kernel⟩, List.mem_of_getElem? (i := 1182) (by decide +kernel), List.mem_of_getElem? (i := 1574) (by decide +kernel), List.mem_of_getElem? (i := 1575) (by decide +kernel)⟩
theorem lw_p86 : lw_okq (⟨"FirstChimneyModel", "passes", "(I)Z"⟩, 30) := ⟨⟨by decide +kernel, by decide +kernel⟩, List.mem_of_getElem? (i := 1182) (by decide +kernel), List.mem_of_getElem? (i := 1582) (by decide +kernel), List.mem_of_getElem? (i := 1583) (by decide +kernel)⟩
theorem lw_p87 : lw_okq (⟨"FirstChimneyModel", "smokeAt", "()I"⟩, 30) := ⟨⟨by decide +kernel, by decide +kernel⟩, List.mem_of_getElem? (i := 1182) (by decide +kernel), List.mem_of_getElem? (i := 1586) (by decide +kernel), List.mem_of_getElem? (i := 1587) (by decide +kernel)⟩
theorem lw_p88 : lw_okq (⟨"FirstChimneyModel", "smokes", "(I)V"⟩, 30) := ⟨⟨by decide +kernel, by decide +kernel⟩, List.mem_of_getElem? (i := 1182) (by decide +kernel), List.mem_of_getElem? (i := 1590) (by decide +kernel), List.mem_of_getElem? (i := 1591) (by decide +kernel)⟩
theorem lw_p89 : lw_okq (⟨"FirstChimneyModel", "reachBy", "(II)I"⟩, 30) := ⟨⟨by decide +kernel, by decide +kernel⟩, List.mem_of_getElem? (i := 1182) (by decide +kernel), List.mem_of_getElem? (i := 1606) (by decide +kernel), List.mem_of_getElem? (i := 1607) (by decide +kernel)⟩
theorem lw_p90 : lw_okq (⟨"FirstChimneyModel", "onFrom", "(II)I"⟩, 30) := ⟨⟨by decide +kernel, by decide +kernel⟩, List.mem_of_getElem? (i := 1182) (by decide +kernel), List.mem_of_getElem? (i := 1610) (by decide +kernel), List.mem_of_getElem? (i := 1611) (by decide +kernel)⟩
theorem lw_p91 : lw_okq (⟨"FirstChimneyModel", "farOf", "(II)I"⟩, 30) := ⟨⟨by decide +kernel, by decide +kernel⟩, List.mem_of_getElem? (i := 1182) (by decide +kernel), List.mem_of_getElem? (i := 1618) (by decide +kernel), List.mem_of_getElem? (i := 1619) (by decide +kernel)⟩
theorem lw_p92 : lw_okq (⟨"FirstChimneyModel", "soonOf", "(II)I"⟩, 30) := ⟨⟨by decide +kernel, by decide +kernel⟩, List.mem_of_getElem? (i := 1182) (by decide +kernel), List.mem_of_getElem? (i := 1642) (by decide +kernel), List.mem_of_getElem? (i := 1643) (by decide +kernel)⟩
theorem lw_p93 : lw_okq (⟨"FirstChimneyModel", "readyIn", "(I)I"⟩, 30) := ⟨⟨by decide +kernel, by decide +kernel⟩, List.mem_of_getElem? (i := 1182) (by decide +kernel), List.mem_of_getElem? (i := 1646) (by decide +kernel), List.mem_of_getElem? (i := 1647) (by decide +kernel)⟩
theorem lw_p94 : lw_okq (⟨"FirstChimneyModel", "paceOf", "(I)I"⟩, 30) := ⟨⟨by decide +kernel, by decide +kernel⟩, List.mem_of_getElem? (i := 1182) (by decide +kernel), List.mem_of_getElem? (i := 1650) (by decide +kernel), List.mem_of_getElem? (i := 1651) (by decide +kernel)⟩
theorem lw_p95 : lw_okq (⟨"FirstChimneyModel", "wrongThings", "(I)I"⟩, 30) := ⟨⟨by decide +kernel, by decide +kernel⟩, List.mem_of_getElem? (i := 1182) (by decide +kernel), List.mem_of_getElem? (i := 1677) (by decide +kernel), List.mem_of_getElem? (i := 1678) (by decide +kernel)⟩
def lw_privs_6 : List (MethodName × Nat) := [(⟨"FirstChimneyModel", "gives", "(III)Z"⟩, 30), (⟨"FirstChimneyModel", "doesBind", "(IIIII)Z"⟩, 30), (⟨"FirstChimneyModel", "benches", "()I"⟩, 30), (⟨"FirstChimneyModel", "worthAt", "(I)I"⟩, 30), (⟨"FirstChimneyModel", "mayVow", "(III)Z"⟩, 30), (⟨"FirstChimneyModel", "vowsBy", "(III)Z"⟩, 30), (⟨"FirstChimneyModel", "passes", "(I)Z"⟩, 30), (⟨"FirstChimneyModel", "smokeAt", "()I"⟩, 30), (⟨"FirstChimneyModel", "smokes", "(I)V"⟩, 30), (⟨"FirstChimneyModel", "reachBy", "(II)I"⟩, 30), (⟨"FirstChimneyModel", "onFrom", "(II)I"⟩, 30), (⟨"FirstChimneyModel", "farOf", "(II)I"⟩, 30), (⟨"FirstChimneyModel", "soonOf", "(II)I"⟩, 30), (⟨"FirstChimneyModel", "readyIn", "(I)I"⟩, 30), (⟨"FirstChimneyModel", "paceOf", "(I)I"⟩, 30), (⟨"FirstChimneyModel", "wrongThings", "(I)I"⟩, 30)]
theorem lw_r6 : ∀ q ∈ lw_privs_6, lw_okq q := List.forall_mem_cons.mpr ⟨lw_p80, List.forall_mem_cons.mpr ⟨lw_p81, List.forall_mem_cons.mpr ⟨lw_p82, List.forall_mem_cons.mpr ⟨lw_p83, List.forall_mem_cons.mpr ⟨lw_p84, List.forall_mem_cons.mpr ⟨lw_p85, List.forall_mem_cons.mpr ⟨lw_p86, List.forall_mem_cons.mpr ⟨lw_p87, List.forall_mem_cons.mpr ⟨lw_p88, List.forall_mem_cons.mpr ⟨lw_p89, List.forall_mem_cons.mpr ⟨lw_p90, List.forall_mem_cons.mpr ⟨lw_p91, List.forall_mem_cons.mpr ⟨lw_p92, List.forall_mem_cons.mpr ⟨lw_p93, List.forall_mem_cons.mpr ⟨lw_p94, List.forall_mem_cons.mpr ⟨lw_p95, fun _ h => absurd h List.not_mem_nil⟩⟩⟩⟩⟩⟩⟩⟩⟩⟩⟩⟩⟩⟩⟩⟩
theorem lw_p96 : lw_okq (⟨"FirstChimneyModel", "isGift", "(II)Z"⟩, 30) := ⟨⟨by decide +kernel, by decide +kernel⟩, List.mem_of_getElem? (i := 1182) (by decide +kernel), List.mem_of_getElem? (i := 1689) (by decide +kernel), List.mem_of_getElem? (i := 1690) (by decide +kernel)⟩
theorem lw_p97 : lw_okq (⟨"FirstChimneyModel", "wouldBind", "(III)Z"⟩, 30) := ⟨⟨by decide +kernel, by decide +kernel⟩, List.mem_of_getElem? (i := 1182) (by decide +kernel), List.mem_of_getElem? (i := 1693) (by decide +kernel), List.mem_of_getElem? (i := 1694) (by decide +kernel)⟩
theorem lw_p98 : lw_okq (⟨"FirstChimneyModel", "triesNow", "()V"⟩, 30) := ⟨⟨by decide +kernel, by decide +kernel⟩, List.mem_of_getElem? (i := 1182) (by decide +kernel), List.mem_of_getElem? (i := 1717) (by decide +kernel), List.mem_of_getElem? (i := 1718) (by decide +kernel)⟩
theorem lw_p99 : lw_okq (⟨"FirstChimneyModel", "heardOfAll", "(I)I"⟩, 30) := ⟨⟨by decide +kernel, by decide +kernel⟩, List.mem_of_getElem? (i := 1182) (by decide +kernel), List.mem_of_getElem? (i := 1721) (by decide +kernel), List.mem_of_getElem? (i := 1722) (by decide +kernel)⟩
theorem lw_p100 : lw_okq (⟨"FirstChimneyModel", "whoNow", "()I"⟩, 30) := ⟨⟨by decide +kernel, by decide +kernel⟩, List.mem_of_getElem? (i := 1182) (by decide +kernel), List.mem_of_getElem? (i := 1737) (by decide +kernel), List.mem_of_getElem? (i := 1738) (by decide +kernel)⟩
theorem lw_p101 : lw_okq (⟨"FirstChimneyModel", "worthOf", "(IZ)I"⟩, 30) := ⟨⟨by decide +kernel, by decide +kernel⟩, List.mem_of_getElem? (i := 1182) (by decide +kernel), List.mem_of_getElem? (i := 1749) (by decide +kernel), List.mem_of_getElem? (i := 1750) (by decide +kernel)⟩
theorem lw_p102 : lw_okq (⟨"FirstChimneyModel", "drawsDeed", "()Z"⟩, 30) := ⟨⟨by decide +kernel, by decide +kernel⟩, List.mem_of_getElem? (i := 1182) (by decide +kernel), List.mem_of_getElem? (i := 1777) (by decide +kernel), List.mem_of_getElem? (i := 1778) (by decide +kernel)⟩
theorem lw_p103 : lw_okq (⟨"FirstChimneyModel", "draw", "(I)I"⟩, 30) := ⟨⟨by decide +kernel, by decide +kernel⟩, List.mem_of_getElem? (i := 1182) (by decide +kernel), List.mem_of_getElem? (i := 1781) (by decide +kernel), List.mem_of_getElem? (i := 1782) (by decide +kernel)⟩
theorem lw_p104 : lw_okq (⟨"FirstChimneyModel", "pairsOf", "(I)I"⟩, 30) := ⟨⟨by decide +kernel, by decide +kernel⟩, List.mem_of_getElem? (i := 1182) (by decide +kernel), List.mem_of_getElem? (i := 1797) (by decide +kernel), List.mem_of_getElem? (i := 1798) (by decide +kernel)⟩
def lw_privs_7 : List (MethodName × Nat) := [(⟨"FirstChimneyModel", "isGift", "(II)Z"⟩, 30), (⟨"FirstChimneyModel", "wouldBind", "(III)Z"⟩, 30), (⟨"FirstChimneyModel", "triesNow", "()V"⟩, 30), (⟨"FirstChimneyModel", "heardOfAll", "(I)I"⟩, 30), (⟨"FirstChimneyModel", "whoNow", "()I"⟩, 30), (⟨"FirstChimneyModel", "worthOf", "(IZ)I"⟩, 30), (⟨"FirstChimneyModel", "drawsDeed", "()Z"⟩, 30), (⟨"FirstChimneyModel", "draw", "(I)I"⟩, 30), (⟨"FirstChimneyModel", "pairsOf", "(I)I"⟩, 30)]
theorem lw_r7 : ∀ q ∈ lw_privs_7, lw_okq q := List.forall_mem_cons.mpr ⟨lw_p96, List.forall_mem_cons.mpr ⟨lw_p97, List.forall_mem_cons.mpr ⟨lw_p98, List.forall_mem_cons.mpr ⟨lw_p99, List.forall_mem_cons.mpr ⟨lw_p100, List.forall_mem_cons.mpr ⟨lw_p101, List.forall_mem_cons.mpr ⟨lw_p102, List.forall_mem_cons.mpr ⟨lw_p103, List.forall_mem_cons.mpr ⟨lw_p104, fun _ h => absurd h List.not_mem_nil⟩⟩⟩⟩⟩⟩⟩⟩⟩
def lw_privs : List (MethodName × Nat) := lw_privs_1 ++ (lw_privs_2 ++ (lw_privs_3 ++ (lw_privs_4 ++ (lw_privs_5 ++ (lw_privs_6 ++ (lw_privs_7))))))
def lw_tbl : List Cond := k2_sels lw_privs ++ tables_1
theorem lw_privs_ok : ∀ q ∈ lw_privs, lw_okq q := by
  show ∀ q ∈ lw_privs_1 ++ (lw_privs_2 ++ (lw_privs_3 ++ (lw_privs_4 ++ (lw_privs_5 ++ (lw_privs_6 ++ (lw_privs_7)))))), lw_okq q
  exact List.forall_mem_append.mpr ⟨lw_r1, List.forall_mem_append.mpr ⟨lw_r2, List.forall_mem_append.mpr ⟨lw_r3, List.forall_mem_append.mpr ⟨lw_r4, List.forall_mem_append.mpr ⟨lw_r5, List.forall_mem_append.mpr ⟨lw_r6, lw_r7⟩⟩⟩⟩⟩⟩
-- ===== end of PART A; then your names; then what follows =====
end
section
def RX0 : String := "FirstChimney$Land"
def TX0 : u_T := fun k => match k with
  | 0 => ("FirstChimney$Land", "placeNames", "[J", true)
  | 1 => ("FirstChimney$Land", "personNames", "[J", true)
  | 2 => ("FirstChimney$Land", "thingNames", "[J", true)
  | 3 => ("FirstChimney$Land", "paths", "[I", true)
  | 4 => ("FirstChimney$Land", "kinds", "[I", true)
  | 5 => ("FirstChimney$Land", "houses", "[I", true)
  | 6 => ("FirstChimney$Land", "wakes", "[I", true)
  | 7 => ("FirstChimney$Land", "worths", "[I", true)
  | 8 => ("FirstChimney$Land", "givers", "[I", true)
  | 9 => ("FirstChimney$Land", "law", "LFirstChimney$Law;", true)
  | 10 => ("FirstChimney$Land", "places", "I", false)
  | 11 => ("FirstChimney$Land", "pathsTold", "I", false)
  | 12 => ("FirstChimney$Land", "persons", "I", false)
  | 13 => ("FirstChimney$Land", "things", "I", false)
  | _ => ("FirstChimney$Land", "smoke", "I", false)
def tyX0 : Nat → FieldType := fun k => match k with
  | 0 => .array .long
  | 1 => .array .long
  | 2 => .array .long
  | 3 => .array .int
  | 4 => .array .int
  | 5 => .array .int
  | 6 => .array .int
  | 7 => .array .int
  | 8 => .array .int
  | 9 => .object "FirstChimney$Law"
  | 10 => .int
  | 11 => .int
  | 12 => .int
  | 13 => .int
  | _ => .int
abbrev wsX00 : List Cond := u_ws RX0 TX0 15
theorem nmX0 : ∀ a, a < 15 → ∀ b, b < 15 → a ≠ b → (TX0 a).2.1 ≠ (TX0 b).2.1 := by decide +kernel
theorem tyX0_ok : ∀ k, k < 15 → parseFieldDescriptor (TX0 k).2.2.1 = some (tyX0 k) := by decide +kernel
abbrev cX0_init : ByteArray := prog_2_method_1_code
def yX0_init : MethodName := ⟨RX0, "<init>", "()V"⟩
abbrev cX0_clear : ByteArray := prog_2_method_2_code
def yX0_clear : MethodName := ⟨RX0, "clear", "()V"⟩
abbrev cX0_indexOf : ByteArray := prog_2_method_3_code
def yX0_indexOf : MethodName := ⟨RX0, "indexOf", "([JIJ)I"⟩
abbrev cX0_isTold : ByteArray := prog_2_method_4_code
def yX0_isTold : MethodName := ⟨RX0, "isTold", "(J)Z"⟩
abbrev cX0_hasPlace : ByteArray := prog_2_method_5_code
def yX0_hasPlace : MethodName := ⟨RX0, "hasPlace", "(I)Z"⟩
abbrev cX0_hasPerson : ByteArray := prog_2_method_6_code
def yX0_hasPerson : MethodName := ⟨RX0, "hasPerson", "(I)Z"⟩
abbrev cX0_hasThing : ByteArray := prog_2_method_7_code
def yX0_hasThing : MethodName := ⟨RX0, "hasThing", "(I)Z"⟩
abbrev cX0_isAwake : ByteArray := prog_2_method_8_code
def yX0_isAwake : MethodName := ⟨RX0, "isAwake", "(II)Z"⟩
abbrev cX0_sleepOf : ByteArray := prog_2_method_9_code
def yX0_sleepOf : MethodName := ⟨RX0, "sleepOf", "(II)I"⟩
abbrev cX0_awakeBits : ByteArray := prog_2_method_10_code
def yX0_awakeBits : MethodName := ⟨RX0, "awakeBits", "(I)I"⟩
def RX1 : String := "FirstChimney$LandReader"
def TX1 : u_T := fun k => match k with
  | 0 => ("FirstChimney$LandReader", "lawReader", "LFirstChimney$LawReader;", true)
  | 1 => ("FirstChimney$LandReader", "smokeTold", "Z", false)
  | _ => ("FirstChimney$LandReader", "bindsTold", "Z", false)
def tyX1 : Nat → FieldType := fun k => match k with
  | 0 => .object "FirstChimney$LawReader"
  | 1 => .boolean
  | _ => .boolean
abbrev wsX10 : List Cond := u_ws RX1 TX1 3
theorem nmX1 : ∀ a, a < 3 → ∀ b, b < 3 → a ≠ b → (TX1 a).2.1 ≠ (TX1 b).2.1 := by decide +kernel
theorem tyX1_ok : ∀ k, k < 3 → parseFieldDescriptor (TX1 k).2.2.1 = some (tyX1 k) := by decide +kernel
abbrev cX1_init : ByteArray := prog_3_method_1_code
def yX1_init : MethodName := ⟨RX1, "<init>", "()V"⟩
abbrev cX1_read : ByteArray := prog_3_method_2_code
def yX1_read : MethodName := ⟨RX1, "read", "(LFirstChimney$Tape;LFirstChimney$Land;)I"⟩
abbrev cX1_isNewName : ByteArray := prog_3_method_3_code
def yX1_isNewName : MethodName := ⟨RX1, "isNewName", "(LFirstChimney$Tape;LFirstChimney$Land;)Z"⟩
abbrev cX1_readPlace : ByteArray := prog_3_method_4_code
def yX1_readPlace : MethodName := ⟨RX1, "readPlace", "(LFirstChimney$Tape;LFirstChimney$Land;)Z"⟩
abbrev cX1_readPath : ByteArray := prog_3_method_5_code
def yX1_readPath : MethodName := ⟨RX1, "readPath", "(LFirstChimney$Tape;LFirstChimney$Land;)Z"⟩
abbrev cX1_readPerson : ByteArray := prog_3_method_6_code
def yX1_readPerson : MethodName := ⟨RX1, "readPerson", "(LFirstChimney$Tape;LFirstChimney$Land;)Z"⟩
abbrev cX1_readThing : ByteArray := prog_3_method_7_code
def yX1_readThing : MethodName := ⟨RX1, "readThing", "(LFirstChimney$Tape;LFirstChimney$Land;)Z"⟩
abbrev cX1_readSmoke : ByteArray := prog_3_method_8_code
def yX1_readSmoke : MethodName := ⟨RX1, "readSmoke", "(LFirstChimney$Tape;LFirstChimney$Land;)Z"⟩
abbrev cX1_readBinds : ByteArray := prog_3_method_9_code
def yX1_readBinds : MethodName := ⟨RX1, "readBinds", "(LFirstChimney$Tape;LFirstChimney$Land;)Z"⟩
def RX2 : String := "FirstChimney$Law"
def TX2 : u_T := fun k => match k with
  | 0 => ("FirstChimney$Law", "code", "[I", true)
  | 1 => ("FirstChimney$Law", "values", "[I", true)
  | _ => ("FirstChimney$Law", "length", "I", false)
def tyX2 : Nat → FieldType := fun k => match k with
  | 0 => .array .int
  | 1 => .array .int
  | _ => .int
abbrev wsX20 : List Cond := u_ws RX2 TX2 3
theorem nmX2 : ∀ a, a < 3 → ∀ b, b < 3 → a ≠ b → (TX2 a).2.1 ≠ (TX2 b).2.1 := by decide +kernel
theorem tyX2_ok : ∀ k, k < 3 → parseFieldDescriptor (TX2 k).2.2.1 = some (tyX2 k) := by decide +kernel
abbrev cX2_init : ByteArray := prog_4_method_1_code
def yX2_init : MethodName := ⟨RX2, "<init>", "()V"⟩
abbrev cX2_write : ByteArray := prog_4_method_2_code
def yX2_write : MethodName := ⟨RX2, "write", "(I)V"⟩
abbrev cX2_valueAt : ByteArray := prog_4_method_3_code
def yX2_valueAt : MethodName := ⟨RX2, "valueAt", "(IIII)I"⟩
abbrev cX2_operand : ByteArray := prog_4_method_4_code
def yX2_operand : MethodName := ⟨RX2, "operand", "(IIIII)I"⟩
abbrev cX2_joined : ByteArray := prog_4_method_5_code
def yX2_joined : MethodName := ⟨RX2, "joined", "(III)I"⟩
def RX3 : String := "FirstChimney$LawReader"
def TX3 : u_T := fun k => match k with
  | 0 => ("FirstChimney$LawReader", "waiting", "[I", true)
  | 1 => ("FirstChimney$LawReader", "top", "I", false)
  | 2 => ("FirstChimney$LawReader", "depth", "I", false)
  | _ => ("FirstChimney$LawReader", "partDue", "Z", false)
def tyX3 : Nat → FieldType := fun k => match k with
  | 0 => .array .int
  | 1 => .int
  | 2 => .int
  | _ => .boolean
abbrev wsX30 : List Cond := u_ws RX3 TX3 4
theorem nmX3 : ∀ a, a < 4 → ∀ b, b < 4 → a ≠ b → (TX3 a).2.1 ≠ (TX3 b).2.1 := by decide +kernel
theorem tyX3_ok : ∀ k, k < 4 → parseFieldDescriptor (TX3 k).2.2.1 = some (tyX3 k) := by decide +kernel
abbrev cX3_init : ByteArray := prog_5_method_1_code
def yX3_init : MethodName := ⟨RX3, "<init>", "()V"⟩
abbrev cX3_read : ByteArray := prog_5_method_2_code
def yX3_read : MethodName := ⟨RX3, "read", "(LFirstChimney$Tape;LFirstChimney$Law;)Z"⟩
abbrev cX3_readPart : ByteArray := prog_5_method_3_code
def yX3_readPart : MethodName := ⟨RX3, "readPart", "(LFirstChimney$Tape;LFirstChimney$Law;)Z"⟩
abbrev cX3_readBehind : ByteArray := prog_5_method_4_code
def yX3_readBehind : MethodName := ⟨RX3, "readBehind", "(LFirstChimney$Tape;LFirstChimney$Law;)Z"⟩
abbrev cX3_closeNots : ByteArray := prog_5_method_5_code
def yX3_closeNots : MethodName := ⟨RX3, "closeNots", "(LFirstChimney$Law;)V"⟩
abbrev cX3_await : ByteArray := prog_5_method_6_code
def yX3_await : MethodName := ⟨RX3, "await", "(I)V"⟩
abbrev cX3_writeDown : ByteArray := prog_5_method_7_code
def yX3_writeDown : MethodName := ⟨RX3, "writeDown", "(LFirstChimney$Law;I)V"⟩
abbrev cX3_rankOf : ByteArray := prog_5_method_8_code
def yX3_rankOf : MethodName := ⟨RX3, "rankOf", "(I)I"⟩
def RX4 : String := "FirstChimney$Past"
def TX4 : u_T := fun k => match k with
  | 0 => ("FirstChimney$Past", "ring", "[LFirstChimney$State;", true)
  | 1 => ("FirstChimney$Past", "marked", "[LFirstChimney$State;", true)
  | 2 => ("FirstChimney$Past", "markedSeen", "[LFirstChimney$Seen;", true)
  | 3 => ("FirstChimney$Past", "laid", "[Z", true)
  | 4 => ("FirstChimney$Past", "nextSlot", "I", false)
  | _ => ("FirstChimney$Past", "kept", "I", false)
def tyX4 : Nat → FieldType := fun k => match k with
  | 0 => .array (.object "FirstChimney$State")
  | 1 => .array (.object "FirstChimney$State")
  | 2 => .array (.object "FirstChimney$Seen")
  | 3 => .array .boolean
  | 4 => .int
  | _ => .int
abbrev wsX40 : List Cond := u_ws RX4 TX4 6
theorem nmX4 : ∀ a, a < 6 → ∀ b, b < 6 → a ≠ b → (TX4 a).2.1 ≠ (TX4 b).2.1 := by decide +kernel
theorem tyX4_ok : ∀ k, k < 6 → parseFieldDescriptor (TX4 k).2.2.1 = some (tyX4 k) := by decide +kernel
abbrev cX4_init : ByteArray := prog_6_method_1_code
def yX4_init : MethodName := ⟨RX4, "<init>", "()V"⟩
abbrev cX4_forget : ByteArray := prog_6_method_2_code
def yX4_forget : MethodName := ⟨RX4, "forget", "()V"⟩
abbrev cX4_keep : ByteArray := prog_6_method_3_code
def yX4_keep : MethodName := ⟨RX4, "keep", "(LFirstChimney$State;)V"⟩
abbrev cX4_bringBack : ByteArray := prog_6_method_4_code
def yX4_bringBack : MethodName := ⟨RX4, "bringBack", "(LFirstChimney$State;)Z"⟩
abbrev cX4_lay : ByteArray := prog_6_method_5_code
def yX4_lay : MethodName := ⟨RX4, "lay", "(ILFirstChimney$State;LFirstChimney$Seen;)V"⟩
abbrev cX4_goBack : ByteArray := prog_6_method_6_code
def yX4_goBack : MethodName := ⟨RX4, "goBack", "(ILFirstChimney$State;LFirstChimney$Seen;)Z"⟩
def RX5 : String := "FirstChimney$Script"
def TX5 : u_T := fun k => match k with
  | 0 => ("FirstChimney$Script", "deeds", "[I", true)
  | 1 => ("FirstChimney$Script", "ones", "[I", true)
  | 2 => ("FirstChimney$Script", "others", "[I", true)
  | _ => ("FirstChimney$Script", "lines", "I", false)
def tyX5 : Nat → FieldType := fun k => match k with
  | 0 => .array .int
  | 1 => .array .int
  | 2 => .array .int
  | _ => .int
abbrev wsX50 : List Cond := u_ws RX5 TX5 4
theorem nmX5 : ∀ a, a < 4 → ∀ b, b < 4 → a ≠ b → (TX5 a).2.1 ≠ (TX5 b).2.1 := by decide +kernel
theorem tyX5_ok : ∀ k, k < 4 → parseFieldDescriptor (TX5 k).2.2.1 = some (tyX5 k) := by decide +kernel
abbrev cX5_init : ByteArray := prog_7_method_1_code
def yX5_init : MethodName := ⟨RX5, "<init>", "()V"⟩
abbrev cX5_read : ByteArray := prog_7_method_2_code
def yX5_read : MethodName := ⟨RX5, "read", "(LFirstChimney$Tape;LFirstChimney$Land;)I"⟩
abbrev cX5_readLine : ByteArray := prog_7_method_3_code
def yX5_readLine : MethodName := ⟨RX5, "readLine", "(LFirstChimney$Tape;LFirstChimney$Land;)Z"⟩
abbrev cX5_readNames : ByteArray := prog_7_method_4_code
def yX5_readNames : MethodName := ⟨RX5, "readNames", "(LFirstChimney$Tape;LFirstChimney$Land;I)Z"⟩
abbrev cX5_play : ByteArray := prog_7_method_5_code
def yX5_play : MethodName := ⟨RX5, "play", "(ILFirstChimney$Land;LFirstChimney$State;)I"⟩
def RX6 : String := "FirstChimney$Seen"
def TX6 : u_T := fun k => match k with
  | 0 => ("FirstChimney$Seen", "places", "[I", true)
  | 1 => ("FirstChimney$Seen", "minutes", "[I", true)
  | 2 => ("FirstChimney$Seen", "can", "[Z", true)
  | _ => ("FirstChimney$Seen", "number", "I", false)
def tyX6 : Nat → FieldType := fun k => match k with
  | 0 => .array .int
  | 1 => .array .int
  | 2 => .array .boolean
  | _ => .int
abbrev wsX60 : List Cond := u_ws RX6 TX6 4
theorem nmX6 : ∀ a, a < 4 → ∀ b, b < 4 → a ≠ b → (TX6 a).2.1 ≠ (TX6 b).2.1 := by decide +kernel
theorem tyX6_ok : ∀ k, k < 4 → parseFieldDescriptor (TX6 k).2.2.1 = some (tyX6 k) := by decide +kernel
abbrev cX6_init : ByteArray := prog_8_method_1_code
def yX6_init : MethodName := ⟨RX6, "<init>", "()V"⟩
abbrev cX6_add : ByteArray := prog_8_method_2_code
def yX6_add : MethodName := ⟨RX6, "add", "(IIZ)Z"⟩
abbrev cX6_copy : ByteArray := prog_8_method_3_code
def yX6_copy : MethodName := ⟨RX6, "copy", "(LFirstChimney$Seen;)V"⟩
def RX7 : String := "FirstChimney$State"
def TX7 : u_T := fun k => match k with
  | 0 => ("FirstChimney$State", "morning", "I", false)
  | 1 => ("FirstChimney$State", "minute", "I", false)
  | 2 => ("FirstChimney$State", "where", "[I", true)
  | 3 => ("FirstChimney$State", "acted", "[I", true)
  | 4 => ("FirstChimney$State", "news", "[I", true)
  | 5 => ("FirstChimney$State", "vowed", "[I", true)
  | 6 => ("FirstChimney$State", "rightVows", "[I", true)
  | 7 => ("FirstChimney$State", "holders", "[I", true)
  | _ => ("FirstChimney$State", "owners", "[I", true)
def tyX7 : Nat → FieldType := fun k => match k with
  | 0 => .int
  | 1 => .int
  | 2 => .array .int
  | 3 => .array .int
  | 4 => .array .int
  | 5 => .array .int
  | 6 => .array .int
  | 7 => .array .int
  | _ => .array .int
abbrev wsX70 : List Cond := u_ws RX7 TX7 9
theorem nmX7 : ∀ a, a < 9 → ∀ b, b < 9 → a ≠ b → (TX7 a).2.1 ≠ (TX7 b).2.1 := by decide +kernel
theorem tyX7_ok : ∀ k, k < 9 → parseFieldDescriptor (TX7 k).2.2.1 = some (tyX7 k) := by decide +kernel
abbrev cX7_init : ByteArray := prog_9_method_1_code
def yX7_init : MethodName := ⟨RX7, "<init>", "()V"⟩
abbrev cX7_begin : ByteArray := prog_9_method_2_code
def yX7_begin : MethodName := ⟨RX7, "begin", "(LFirstChimney$Land;)V"⟩
abbrev cX7_copy : ByteArray := prog_9_method_3_code
def yX7_copy : MethodName := ⟨RX7, "copy", "(LFirstChimney$State;)V"⟩
abbrev cX7_bitsAt : ByteArray := prog_9_method_4_code
def yX7_bitsAt : MethodName := ⟨RX7, "bitsAt", "(LFirstChimney$Land;I)I"⟩
abbrev cX7_strayThings : ByteArray := prog_9_method_5_code
def yX7_strayThings : MethodName := ⟨RX7, "strayThings", "(LFirstChimney$Land;)I"⟩
abbrev cX7_newsOfAll : ByteArray := prog_9_method_6_code
def yX7_newsOfAll : MethodName := ⟨RX7, "newsOfAll", "(LFirstChimney$Land;)I"⟩
abbrev cX7_isReady : ByteArray := prog_9_method_7_code
def yX7_isReady : MethodName := ⟨RX7, "isReady", "(LFirstChimney$Land;I)Z"⟩
abbrev cX7_minutesOver : ByteArray := prog_9_method_8_code
def yX7_minutesOver : MethodName := ⟨RX7, "minutesOver", "(LFirstChimney$Land;II)I"⟩
abbrev cX7_canWalk : ByteArray := prog_9_method_9_code
def yX7_canWalk : MethodName := ⟨RX7, "canWalk", "(LFirstChimney$Land;II)Z"⟩
abbrev cX7_goTo : ByteArray := prog_9_method_10_code
def yX7_goTo : MethodName := ⟨RX7, "goTo", "(LFirstChimney$Land;II)V"⟩
abbrev cX7_canGive : ByteArray := prog_9_method_11_code
def yX7_canGive : MethodName := ⟨RX7, "canGive", "(LFirstChimney$Land;II)Z"⟩
abbrev cX7_handOver : ByteArray := prog_9_method_12_code
def yX7_handOver : MethodName := ⟨RX7, "handOver", "(LFirstChimney$Land;II)Z"⟩
abbrev cX7_canVow : ByteArray := prog_9_method_13_code
def yX7_canVow : MethodName := ⟨RX7, "canVow", "(LFirstChimney$Land;II)Z"⟩
abbrev cX7_pledge : ByteArray := prog_9_method_14_code
def yX7_pledge : MethodName := ⟨RX7, "pledge", "(LFirstChimney$Land;II)Z"⟩
abbrev cX7_giftBinds : ByteArray := prog_9_method_15_code
def yX7_giftBinds : MethodName := ⟨RX7, "giftBinds", "(LFirstChimney$Land;III)Z"⟩
abbrev cX7_isBinding : ByteArray := prog_9_method_16_code
def yX7_isBinding : MethodName := ⟨RX7, "isBinding", "(LFirstChimney$Land;IIII)Z"⟩
abbrev cX7_pass : ByteArray := prog_9_method_17_code
def yX7_pass : MethodName := ⟨RX7, "pass", "(LFirstChimney$Land;)Z"⟩
abbrev cX7_shareNews : ByteArray := prog_9_method_18_code
def yX7_shareNews : MethodName := ⟨RX7, "shareNews", "(LFirstChimney$Land;I)V"⟩
abbrev cX7_riseSmoke : ByteArray := prog_9_method_19_code
def yX7_riseSmoke : MethodName := ⟨RX7, "riseSmoke", "(LFirstChimney$Land;)V"⟩
def RX8 : String := "FirstChimney$Tape"
def TX8 : u_T := fun k => match k with
  | 0 => ("FirstChimney$Tape", "signs", "[C", true)
  | 1 => ("FirstChimney$Tape", "length", "I", false)
  | 2 => ("FirstChimney$Tape", "start", "I", false)
  | 3 => ("FirstChimney$Tape", "end", "I", false)
  | 4 => ("FirstChimney$Tape", "kind", "I", false)
  | 5 => ("FirstChimney$Tape", "number", "I", false)
  | 6 => ("FirstChimney$Tape", "word", "J", false)
  | _ => ("FirstChimney$Tape", "fault", "I", false)
def tyX8 : Nat → FieldType := fun k => match k with
  | 0 => .array .char
  | 1 => .int
  | 2 => .int
  | 3 => .int
  | 4 => .int
  | 5 => .int
  | 6 => .long
  | _ => .int
abbrev wsX80 : List Cond := u_ws RX8 TX8 8
theorem nmX8 : ∀ a, a < 8 → ∀ b, b < 8 → a ≠ b → (TX8 a).2.1 ≠ (TX8 b).2.1 := by decide +kernel
theorem tyX8_ok : ∀ k, k < 8 → parseFieldDescriptor (TX8 k).2.2.1 = some (tyX8 k) := by decide +kernel
abbrev cX8_init : ByteArray := prog_10_method_1_code
def yX8_init : MethodName := ⟨RX8, "<init>", "()V"⟩
abbrev cX8_put : ByteArray := prog_10_method_2_code
def yX8_put : MethodName := ⟨RX8, "put", "(J)V"⟩
abbrev cX8_clear : ByteArray := prog_10_method_3_code
def yX8_clear : MethodName := ⟨RX8, "clear", "()V"⟩
abbrev cX8_open : ByteArray := prog_10_method_4_code
def yX8_open : MethodName := ⟨RX8, "open", "()V"⟩
abbrev cX8_next : ByteArray := prog_10_method_5_code
def yX8_next : MethodName := ⟨RX8, "next", "()V"⟩
abbrev cX8_readWord : ByteArray := prog_10_method_6_code
def yX8_readWord : MethodName := ⟨RX8, "readWord", "()V"⟩
abbrev cX8_readNumber : ByteArray := prog_10_method_7_code
def yX8_readNumber : MethodName := ⟨RX8, "readNumber", "()V"⟩
abbrev cX8_cellIn : ByteArray := prog_10_method_8_code
def yX8_cellIn : MethodName := ⟨RX8, "cellIn", "(Ljava/lang/String;)I"⟩
abbrev cX8_fail : ByteArray := prog_10_method_9_code
def yX8_fail : MethodName := ⟨RX8, "fail", "(I)Z"⟩
abbrev cX8_take : ByteArray := prog_10_method_10_code
def yX8_take : MethodName := ⟨RX8, "take", "(I)Z"⟩
abbrev cX8_isNumber : ByteArray := prog_10_method_11_code
def yX8_isNumber : MethodName := ⟨RX8, "isNumber", "(II)Z"⟩
abbrev cX8_known : ByteArray := prog_10_method_12_code
def yX8_known : MethodName := ⟨RX8, "known", "([JI)I"⟩
def RX9 : String := "FirstChimney$Ways"
def TX9 : u_T := fun k => match k with
  | 0 => ("FirstChimney$Ways", "paths", "[[I", true)
  | 1 => ("FirstChimney$Ways", "ends", "[I", false)
  | _ => ("FirstChimney$Ways", "nextEnds", "[I", false)
def tyX9 : Nat → FieldType := fun k => match k with
  | 0 => .array (.array .int)
  | 1 => .array .int
  | _ => .array .int
abbrev wsX90 : List Cond := u_ws RX9 TX9 3
theorem nmX9 : ∀ a, a < 3 → ∀ b, b < 3 → a ≠ b → (TX9 a).2.1 ≠ (TX9 b).2.1 := by decide +kernel
theorem tyX9_ok : ∀ k, k < 3 → parseFieldDescriptor (TX9 k).2.2.1 = some (tyX9 k) := by decide +kernel
abbrev cX9_init : ByteArray := prog_11_method_1_code
def yX9_init : MethodName := ⟨RX9, "<init>", "()V"⟩
abbrev cX9_measure : ByteArray := prog_11_method_2_code
def yX9_measure : MethodName := ⟨RX9, "measure", "(LFirstChimney$Land;)V"⟩
abbrev cX9_measureFrom : ByteArray := prog_11_method_3_code
def yX9_measureFrom : MethodName := ⟨RX9, "measureFrom", "(LFirstChimney$Land;I)V"⟩
abbrev cX9_neighbours : ByteArray := prog_11_method_4_code
def yX9_neighbours : MethodName := ⟨RX9, "neighbours", "(LFirstChimney$Land;I)I"⟩
abbrev cX9_spread : ByteArray := prog_11_method_5_code
def yX9_spread : MethodName := ⟨RX9, "spread", "(LFirstChimney$Land;II)I"⟩
abbrev cX9_isCut : ByteArray := prog_11_method_6_code
def yX9_isCut : MethodName := ⟨RX9, "isCut", "(LFirstChimney$Land;I)Z"⟩
abbrev cX9_farthestFrom : ByteArray := prog_11_method_7_code
def yX9_farthestFrom : MethodName := ⟨RX9, "farthestFrom", "(LFirstChimney$Land;I)I"⟩
abbrev cX9_pathsOfTour : ByteArray := prog_11_method_8_code
def yX9_pathsOfTour : MethodName := ⟨RX9, "pathsOfTour", "(LFirstChimney$Land;I)I"⟩
abbrev cX9_stepOn : ByteArray := prog_11_method_9_code
def yX9_stepOn : MethodName := ⟨RX9, "stepOn", "(LFirstChimney$Land;)V"⟩
def RX10 : String := "FirstChimney"
def TX10 : u_T := fun k => match k with
  | 0 => ("FirstChimney", "tape", "LFirstChimney$Tape;", true)
  | 1 => ("FirstChimney", "landReader", "LFirstChimney$LandReader;", true)
  | 2 => ("FirstChimney", "ways", "LFirstChimney$Ways;", true)
  | 3 => ("FirstChimney", "now", "LFirstChimney$State;", true)
  | 4 => ("FirstChimney", "trial", "LFirstChimney$State;", true)
  | 5 => ("FirstChimney", "past", "LFirstChimney$Past;", true)
  | 6 => ("FirstChimney", "seen", "LFirstChimney$Seen;", true)
  | 7 => ("FirstChimney", "land", "LFirstChimney$Land;", false)
  | 8 => ("FirstChimney", "spareLand", "LFirstChimney$Land;", false)
  | 9 => ("FirstChimney", "script", "LFirstChimney$Script;", false)
  | 10 => ("FirstChimney", "spareScript", "LFirstChimney$Script;", false)
  | _ => ("FirstChimney", "drawn", "J", false)
def tyX10 : Nat → FieldType := fun k => match k with
  | 0 => .object "FirstChimney$Tape"
  | 1 => .object "FirstChimney$LandReader"
  | 2 => .object "FirstChimney$Ways"
  | 3 => .object "FirstChimney$State"
  | 4 => .object "FirstChimney$State"
  | 5 => .object "FirstChimney$Past"
  | 6 => .object "FirstChimney$Seen"
  | 7 => .object "FirstChimney$Land"
  | 8 => .object "FirstChimney$Land"
  | 9 => .object "FirstChimney$Script"
  | 10 => .object "FirstChimney$Script"
  | _ => .long
abbrev wsX100 : List Cond := u_ws RX10 TX10 12
theorem nmX10 : ∀ a, a < 12 → ∀ b, b < 12 → a ≠ b → (TX10 a).2.1 ≠ (TX10 b).2.1 := by decide +kernel
theorem tyX10_ok : ∀ k, k < 12 → parseFieldDescriptor (TX10 k).2.2.1 = some (tyX10 k) := by decide +kernel
abbrev cX10_init : ByteArray := prog_1_method_1_code
def yX10_init : MethodName := ⟨RX10, "<init>", "()V"⟩
abbrev cX10_feed : ByteArray := prog_1_method_2_code
def yX10_feed : MethodName := ⟨RX10, "feed", "(JJJ)I"⟩
abbrev cX10_land : ByteArray := prog_1_method_3_code
def yX10_land : MethodName := ⟨RX10, "land", "()I"⟩
abbrev cX10_morning : ByteArray := prog_1_method_4_code
def yX10_morning : MethodName := ⟨RX10, "morning", "()I"⟩
abbrev cX10_place : ByteArray := prog_1_method_5_code
def yX10_place : MethodName := ⟨RX10, "place", "(II)I"⟩
abbrev cX10_person : ByteArray := prog_1_method_6_code
def yX10_person : MethodName := ⟨RX10, "person", "(II)I"⟩
abbrev cX10_thing : ByteArray := prog_1_method_7_code
def yX10_thing : MethodName := ⟨RX10, "thing", "(II)I"⟩
abbrev cX10_walk : ByteArray := prog_1_method_8_code
def yX10_walk : MethodName := ⟨RX10, "walk", "(II)Z"⟩
abbrev cX10_give : ByteArray := prog_1_method_9_code
def yX10_give : MethodName := ⟨RX10, "give", "(II)I"⟩
abbrev cX10_vow : ByteArray := prog_1_method_10_code
def yX10_vow : MethodName := ⟨RX10, "vow", "(II)I"⟩
abbrev cX10_minute : ByteArray := prog_1_method_11_code
def yX10_minute : MethodName := ⟨RX10, "minute", "()Z"⟩
abbrev cX10_undo : ByteArray := prog_1_method_12_code
def yX10_undo : MethodName := ⟨RX10, "undo", "()Z"⟩
abbrev cX10_judged : ByteArray := prog_1_method_13_code
def yX10_judged : MethodName := ⟨RX10, "judged", "(I)I"⟩
abbrev cX10_soon : ByteArray := prog_1_method_14_code
def yX10_soon : MethodName := ⟨RX10, "soon", "(II)I"⟩
abbrev cX10_meet : ByteArray := prog_1_method_15_code
def yX10_meet : MethodName := ⟨RX10, "meet", "(II)I"⟩
abbrev cX10_all : ByteArray := prog_1_method_16_code
def yX10_all : MethodName := ⟨RX10, "all", "(I)I"⟩
abbrev cX10_tour : ByteArray := prog_1_method_17_code
def yX10_tour : MethodName := ⟨RX10, "tour", "(I)I"⟩
abbrev cX10_intime : ByteArray := prog_1_method_18_code
def yX10_intime : MethodName := ⟨RX10, "intime", "(II)Z"⟩
abbrev cX10_back : ByteArray := prog_1_method_19_code
def yX10_back : MethodName := ⟨RX10, "back", "()I"⟩
abbrev cX10_could : ByteArray := prog_1_method_20_code
def yX10_could : MethodName := ⟨RX10, "could", "(I)I"⟩
abbrev cX10_would : ByteArray := prog_1_method_21_code
def yX10_would : MethodName := ⟨RX10, "would", "(II)Z"⟩
abbrev cX10_when : ByteArray := prog_1_method_22_code
def yX10_when : MethodName := ⟨RX10, "when", "(II)I"⟩
abbrev cX10_vows : ByteArray := prog_1_method_23_code
def yX10_vows : MethodName := ⟨RX10, "vows", "(IZ)I"⟩
abbrev cX10_sees : ByteArray := prog_1_method_24_code
def yX10_sees : MethodName := ⟨RX10, "sees", "(I)I"⟩
abbrev cX10_heard : ByteArray := prog_1_method_25_code
def yX10_heard : MethodName := ⟨RX10, "heard", "(I)I"⟩
abbrev cX10_news : ByteArray := prog_1_method_26_code
def yX10_news : MethodName := ⟨RX10, "news", "()I"⟩
abbrev cX10_alone : ByteArray := prog_1_method_27_code
def yX10_alone : MethodName := ⟨RX10, "alone", "()I"⟩
abbrev cX10_reach : ByteArray := prog_1_method_28_code
def yX10_reach : MethodName := ⟨RX10, "reach", "(I)I"⟩
abbrev cX10_far : ByteArray := prog_1_method_29_code
def yX10_far : MethodName := ⟨RX10, "far", "(II)I"⟩
abbrev cX10_cuts : ByteArray := prog_1_method_30_code
def yX10_cuts : MethodName := ⟨RX10, "cuts", "()I"⟩
abbrev cX10_hub : ByteArray := prog_1_method_31_code
def yX10_hub : MethodName := ⟨RX10, "hub", "()I"⟩
abbrev cX10_links : ByteArray := prog_1_method_32_code
def yX10_links : MethodName := ⟨RX10, "links", "(I)I"⟩
abbrev cX10_see : ByteArray := prog_1_method_33_code
def yX10_see : MethodName := ⟨RX10, "see", "(IIZ)Z"⟩
abbrev cX10_who : ByteArray := prog_1_method_34_code
def yX10_who : MethodName := ⟨RX10, "who", "()I"⟩
abbrev cX10_ask : ByteArray := prog_1_method_35_code
def yX10_ask : MethodName := ⟨RX10, "ask", "()I"⟩
abbrev cX10_wide : ByteArray := prog_1_method_36_code
def yX10_wide : MethodName := ⟨RX10, "wide", "()I"⟩
abbrev cX10_has : ByteArray := prog_1_method_37_code
def yX10_has : MethodName := ⟨RX10, "has", "(IZ)I"⟩
abbrev cX10_sleeps : ByteArray := prog_1_method_38_code
def yX10_sleeps : MethodName := ⟨RX10, "sleeps", "(I)I"⟩
abbrev cX10_rich : ByteArray := prog_1_method_39_code
def yX10_rich : MethodName := ⟨RX10, "rich", "(Z)I"⟩
abbrev cX10_chance : ByteArray := prog_1_method_40_code
def yX10_chance : MethodName := ⟨RX10, "chance", "(II)I"⟩
abbrev cX10_rests : ByteArray := prog_1_method_41_code
def yX10_rests : MethodName := ⟨RX10, "rests", "(IIII)I"⟩
abbrev cX10_mornings : ByteArray := prog_1_method_42_code
def yX10_mornings : MethodName := ⟨RX10, "mornings", "(III)I"⟩
abbrev cX10_mark : ByteArray := prog_1_method_43_code
def yX10_mark : MethodName := ⟨RX10, "mark", "(IZ)Z"⟩
abbrev cX10_count : ByteArray := prog_1_method_44_code
def yX10_count : MethodName := ⟨RX10, "count", "(I)I"⟩
abbrev cX10_isFrom : ByteArray := prog_1_method_45_code
def yX10_isFrom : MethodName := ⟨RX10, "isFrom", "(III)Z"⟩
abbrev cX10_isIn : ByteArray := prog_1_method_46_code
def yX10_isIn : MethodName := ⟨RX10, "isIn", "(II)Z"⟩
abbrev cX10_orNone : ByteArray := prog_1_method_47_code
def yX10_orNone : MethodName := ⟨RX10, "orNone", "(I)I"⟩
abbrev cX10_pairsIn : ByteArray := prog_1_method_48_code
def yX10_pairsIn : MethodName := ⟨RX10, "pairsIn", "([I)I"⟩
abbrev cX10_thingsOf : ByteArray := prog_1_method_49_code
def yX10_thingsOf : MethodName := ⟨RX10, "thingsOf", "([II)I"⟩
abbrev cX10_worthOf : ByteArray := prog_1_method_50_code
def yX10_worthOf : MethodName := ⟨RX10, "worthOf", "(IZ)I"⟩
abbrev cX10_movedThings : ByteArray := prog_1_method_51_code
def yX10_movedThings : MethodName := ⟨RX10, "movedThings", "(LFirstChimney$State;)I"⟩
abbrev cX10_minutesTo : ByteArray := prog_1_method_52_code
def yX10_minutesTo : MethodName := ⟨RX10, "minutesTo", "(II)I"⟩
abbrev cX10_minutesOfAllTo : ByteArray := prog_1_method_53_code
def yX10_minutesOfAllTo : MethodName := ⟨RX10, "minutesOfAllTo", "(I)I"⟩
abbrev cX10_isGift : ByteArray := prog_1_method_54_code
def yX10_isGift : MethodName := ⟨RX10, "isGift", "(II)Z"⟩
abbrev cX10_fitsSeen : ByteArray := prog_1_method_55_code
def yX10_fitsSeen : MethodName := ⟨RX10, "fitsSeen", "(I)Z"⟩
abbrev cX10_leftAtWorst : ByteArray := prog_1_method_56_code
def yX10_leftAtWorst : MethodName := ⟨RX10, "leftAtWorst", "(III)I"⟩
abbrev cX10_isRest : ByteArray := prog_1_method_57_code
def yX10_isRest : MethodName := ⟨RX10, "isRest", "(IIII)Z"⟩
abbrev cX10_gets : ByteArray := prog_1_method_58_code
def yX10_gets : MethodName := ⟨RX10, "gets", "(IIIII)I"⟩
abbrev cX10_drawBelow : ByteArray := prog_1_method_59_code
def yX10_drawBelow : MethodName := ⟨RX10, "drawBelow", "(I)I"⟩
abbrev cX10_playDrawn : ByteArray := prog_1_method_60_code
def yX10_playDrawn : MethodName := ⟨RX10, "playDrawn", "()Z"⟩
def RX11 : String := "FirstChimneyModel"
def TX11 : u_T := fun k => match k with
  | 0 => ("FirstChimneyModel", "thrown", "I", false)
  | 1 => ("FirstChimneyModel", "tape", "[I", true)
  | 2 => ("FirstChimneyModel", "taped", "I", false)
  | 3 => ("FirstChimneyModel", "size", "I", false)
  | 4 => ("FirstChimneyModel", "sort", "[I", true)
  | 5 => ("FirstChimneyModel", "place", "[I", true)
  | 6 => ("FirstChimneyModel", "value", "[J", true)
  | 7 => ("FirstChimneyModel", "at", "I", false)
  | 8 => ("FirstChimneyModel", "fault", "I", false)
  | 9 => ("FirstChimneyModel", "words", "[J", true)
  | 10 => ("FirstChimneyModel", "lands", "[I", true)
  | 11 => ("FirstChimneyModel", "op", "[I", true)
  | 12 => ("FirstChimneyModel", "arg", "[I", true)
  | 13 => ("FirstChimneyModel", "codes", "I", false)
  | 14 => ("FirstChimneyModel", "names", "[J", true)
  | 15 => ("FirstChimneyModel", "readNames", "[J", true)
  | 16 => ("FirstChimneyModel", "nameOf", "[I", true)
  | 17 => ("FirstChimneyModel", "readNameOf", "[I", true)
  | 18 => ("FirstChimneyModel", "namesMany", "I", false)
  | 19 => ("FirstChimneyModel", "readMany", "I", false)
  | 20 => ("FirstChimneyModel", "once", "I", false)
  | 21 => ("FirstChimneyModel", "lines", "[I", true)
  | 22 => ("FirstChimneyModel", "facts", "[I", true)
  | 23 => ("FirstChimneyModel", "pile", "[I", true)
  | 24 => ("FirstChimneyModel", "state", "[I", true)
  | 25 => ("FirstChimneyModel", "undos", "I", false)
  | 26 => ("FirstChimneyModel", "isMarked", "[Z", true)
  | 27 => ("FirstChimneyModel", "told", "[I", true)
  | 28 => ("FirstChimneyModel", "can", "[Z", true)
  | _ => ("FirstChimneyModel", "g", "J", false)
def tyX11 : Nat → FieldType := fun k => match k with
  | 0 => .int
  | 1 => .array .int
  | 2 => .int
  | 3 => .int
  | 4 => .array .int
  | 5 => .array .int
  | 6 => .array .long
  | 7 => .int
  | 8 => .int
  | 9 => .array .long
  | 10 => .array .int
  | 11 => .array .int
  | 12 => .array .int
  | 13 => .int
  | 14 => .array .long
  | 15 => .array .long
  | 16 => .array .int
  | 17 => .array .int
  | 18 => .int
  | 19 => .int
  | 20 => .int
  | 21 => .array .int
  | 22 => .array .int
  | 23 => .array .int
  | 24 => .array .int
  | 25 => .int
  | 26 => .array .boolean
  | 27 => .array .int
  | 28 => .array .boolean
  | _ => .long
abbrev wsX110 : List Cond := u_ws RX11 TX11 30
theorem nmX11 : ∀ a, a < 30 → ∀ b, b < 30 → a ≠ b → (TX11 a).2.1 ≠ (TX11 b).2.1 := by decide +kernel
theorem tyX11_ok : ∀ k, k < 30 → parseFieldDescriptor (TX11 k).2.2.1 = some (tyX11 k) := by decide +kernel
abbrev cX11_thrown : ByteArray := prog_13_method_1_code
def yX11_thrown : MethodName := ⟨RX11, "thrown", "()I"⟩
abbrev cX11_feed : ByteArray := prog_13_method_2_code
def yX11_feed : MethodName := ⟨RX11, "feed", "(JJJ)I"⟩
abbrev cX11_lay : ByteArray := prog_13_method_3_code
def yX11_lay : MethodName := ⟨RX11, "lay", "(J)V"⟩
abbrev cX11_init : ByteArray := prog_13_method_4_code
def yX11_init : MethodName := ⟨RX11, "<init>", "()V"⟩
abbrev cX11_isLetter : ByteArray := prog_13_method_5_code
def yX11_isLetter : MethodName := ⟨RX11, "isLetter", "(I)Z"⟩
abbrev cX11_isDigit : ByteArray := prog_13_method_6_code
def yX11_isDigit : MethodName := ⟨RX11, "isDigit", "(I)Z"⟩
abbrev cX11_rank : ByteArray := prog_13_method_7_code
def yX11_rank : MethodName := ⟨RX11, "rank", "(I)I"⟩
abbrev cX11_isSignOf : ByteArray := prog_13_method_8_code
def yX11_isSignOf : MethodName := ⟨RX11, "isSignOf", "(I)Z"⟩
abbrev cX11_cutAll : ByteArray := prog_13_method_9_code
def yX11_cutAll : MethodName := ⟨RX11, "cutAll", "()V"⟩
abbrev cX11_wrong : ByteArray := prog_13_method_10_code
def yX11_wrong : MethodName := ⟨RX11, "wrong", "(I)V"⟩
abbrev cX11_isSign : ByteArray := prog_13_method_11_code
def yX11_isSign : MethodName := ⟨RX11, "isSign", "(I)Z"⟩
abbrev cX11_isWord : ByteArray := prog_13_method_12_code
def yX11_isWord : MethodName := ⟨RX11, "isWord", "(I)Z"⟩
abbrev cX11_takeSign : ByteArray := prog_13_method_13_code
def yX11_takeSign : MethodName := ⟨RX11, "takeSign", "(I)V"⟩
abbrev cX11_hasSign : ByteArray := prog_13_method_14_code
def yX11_hasSign : MethodName := ⟨RX11, "hasSign", "(I)Z"⟩
abbrev cX11_hasWord : ByteArray := prog_13_method_15_code
def yX11_hasWord : MethodName := ⟨RX11, "hasWord", "(I)Z"⟩
abbrev cX11_takeWord : ByteArray := prog_13_method_16_code
def yX11_takeWord : MethodName := ⟨RX11, "takeWord", "(I)V"⟩
abbrev cX11_within : ByteArray := prog_13_method_17_code
def yX11_within : MethodName := ⟨RX11, "within", "(III)Z"⟩
abbrev cX11_standsAsAlways : ByteArray := prog_13_method_18_code
def yX11_standsAsAlways : MethodName := ⟨RX11, "standsAsAlways", "(I)V"⟩
abbrev cX11_takeNumber : ByteArray := prog_13_method_19_code
def yX11_takeNumber : MethodName := ⟨RX11, "takeNumber", "(II)I"⟩
abbrev cX11_takeAfter : ByteArray := prog_13_method_20_code
def yX11_takeAfter : MethodName := ⟨RX11, "takeAfter", "(III)I"⟩
abbrev cX11_wordHere : ByteArray := prog_13_method_21_code
def yX11_wordHere : MethodName := ⟨RX11, "wordHere", "(II)I"⟩
abbrev cX11_takeOne : ByteArray := prog_13_method_22_code
def yX11_takeOne : MethodName := ⟨RX11, "takeOne", "(II)I"⟩
abbrev cX11_isName : ByteArray := prog_13_method_23_code
def yX11_isName : MethodName := ⟨RX11, "isName", "()Z"⟩
abbrev cX11_nameAt : ByteArray := prog_13_method_24_code
def yX11_nameAt : MethodName := ⟨RX11, "nameAt", "(Z)I"⟩
abbrev cX11_takeTold : ByteArray := prog_13_method_25_code
def yX11_takeTold : MethodName := ⟨RX11, "takeTold", "(ZII)I"⟩
abbrev cX11_land : ByteArray := prog_13_method_26_code
def yX11_land : MethodName := ⟨RX11, "land", "()I"⟩
abbrev cX11_readLine : ByteArray := prog_13_method_27_code
def yX11_readLine : MethodName := ⟨RX11, "readLine", "()V"⟩
abbrev cX11_readName : ByteArray := prog_13_method_28_code
def yX11_readName : MethodName := ⟨RX11, "readName", "(III)V"⟩
abbrev cX11_readPath : ByteArray := prog_13_method_29_code
def yX11_readPath : MethodName := ⟨RX11, "readPath", "()V"⟩
abbrev cX11_readOnce : ByteArray := prog_13_method_30_code
def yX11_readOnce : MethodName := ⟨RX11, "readOnce", "()V"⟩
abbrev cX11_morning : ByteArray := prog_13_method_31_code
def yX11_morning : MethodName := ⟨RX11, "morning", "()I"⟩
abbrev cX11_readMorning : ByteArray := prog_13_method_32_code
def yX11_readMorning : MethodName := ⟨RX11, "readMorning", "(II)V"⟩
abbrev cX11_emit : ByteArray := prog_13_method_33_code
def yX11_emit : MethodName := ⟨RX11, "emit", "(II)V"⟩
abbrev cX11_whole : ByteArray := prog_13_method_34_code
def yX11_whole : MethodName := ⟨RX11, "whole", "(I)V"⟩
abbrev cX11_test : ByteArray := prog_13_method_35_code
def yX11_test : MethodName := ⟨RX11, "test", "(I)V"⟩
abbrev cX11_sums : ByteArray := prog_13_method_36_code
def yX11_sums : MethodName := ⟨RX11, "sums", "(I)V"⟩
abbrev cX11_products : ByteArray := prog_13_method_37_code
def yX11_products : MethodName := ⟨RX11, "products", "(I)V"⟩
abbrev cX11_takePart : ByteArray := prog_13_method_38_code
def yX11_takePart : MethodName := ⟨RX11, "takePart", "(I)V"⟩
abbrev cX11_worthAt : ByteArray := prog_13_method_39_code
def yX11_worthAt : MethodName := ⟨RX11, "worthAt", "(I)I"⟩
abbrev cX11_both : ByteArray := prog_13_method_40_code
def yX11_both : MethodName := ⟨RX11, "both", "(III)I"⟩
abbrev cX11_copies : ByteArray := prog_13_method_41_code
def yX11_copies : MethodName := ⟨RX11, "copies", "(III)V"⟩
abbrev cX11_starts : ByteArray := prog_13_method_42_code
def yX11_starts : MethodName := ⟨RX11, "starts", "(I)V"⟩
abbrev cX11_begins : ByteArray := prog_13_method_43_code
def yX11_begins : MethodName := ⟨RX11, "begins", "()V"⟩
abbrev cX11_keeps : ByteArray := prog_13_method_44_code
def yX11_keeps : MethodName := ⟨RX11, "keeps", "()V"⟩
abbrev cX11_places : ByteArray := prog_13_method_45_code
def yX11_places : MethodName := ⟨RX11, "places", "()I"⟩
abbrev cX11_persons : ByteArray := prog_13_method_46_code
def yX11_persons : MethodName := ⟨RX11, "persons", "()I"⟩
abbrev cX11_things : ByteArray := prog_13_method_47_code
def yX11_things : MethodName := ⟨RX11, "things", "()I"⟩
abbrev cX11_smokeAt : ByteArray := prog_13_method_48_code
def yX11_smokeAt : MethodName := ⟨RX11, "smokeAt", "()I"⟩
abbrev cX11_pathsFrom : ByteArray := prog_13_method_49_code
def yX11_pathsFrom : MethodName := ⟨RX11, "pathsFrom", "(I)I"⟩
abbrev cX11_personOf : ByteArray := prog_13_method_50_code
def yX11_personOf : MethodName := ⟨RX11, "personOf", "(II)I"⟩
abbrev cX11_thingOf : ByteArray := prog_13_method_51_code
def yX11_thingOf : MethodName := ⟨RX11, "thingOf", "(II)I"⟩
abbrev cX11_isPlace : ByteArray := prog_13_method_52_code
def yX11_isPlace : MethodName := ⟨RX11, "isPlace", "(I)Z"⟩
abbrev cX11_isPerson : ByteArray := prog_13_method_53_code
def yX11_isPerson : MethodName := ⟨RX11, "isPerson", "(I)Z"⟩
abbrev cX11_isThing : ByteArray := prog_13_method_54_code
def yX11_isThing : MethodName := ⟨RX11, "isThing", "(I)Z"⟩
abbrev cX11_bits : ByteArray := prog_13_method_55_code
def yX11_bits : MethodName := ⟨RX11, "bits", "(I)I"⟩
abbrev cX11_awakeAt : ByteArray := prog_13_method_56_code
def yX11_awakeAt : MethodName := ⟨RX11, "awakeAt", "(I)I"⟩
abbrev cX11_isAwake : ByteArray := prog_13_method_57_code
def yX11_isAwake : MethodName := ⟨RX11, "isAwake", "(II)Z"⟩
abbrev cX11_isReady : ByteArray := prog_13_method_58_code
def yX11_isReady : MethodName := ⟨RX11, "isReady", "(II)Z"⟩
abbrev cX11_whoIn : ByteArray := prog_13_method_59_code
def yX11_whoIn : MethodName := ⟨RX11, "whoIn", "(II)I"⟩
abbrev cX11_benches : ByteArray := prog_13_method_60_code
def yX11_benches : MethodName := ⟨RX11, "benches", "()I"⟩
abbrev cX11_doesBind : ByteArray := prog_13_method_61_code
def yX11_doesBind : MethodName := ⟨RX11, "doesBind", "(IIIII)Z"⟩
abbrev cX11_mayWalk : ByteArray := prog_13_method_62_code
def yX11_mayWalk : MethodName := ⟨RX11, "mayWalk", "(III)Z"⟩
abbrev cX11_walks : ByteArray := prog_13_method_63_code
def yX11_walks : MethodName := ⟨RX11, "walks", "(III)V"⟩
abbrev cX11_mayGive : ByteArray := prog_13_method_64_code
def yX11_mayGive : MethodName := ⟨RX11, "mayGive", "(III)Z"⟩
abbrev cX11_gives : ByteArray := prog_13_method_65_code
def yX11_gives : MethodName := ⟨RX11, "gives", "(III)Z"⟩
abbrev cX11_mayVow : ByteArray := prog_13_method_66_code
def yX11_mayVow : MethodName := ⟨RX11, "mayVow", "(III)Z"⟩
abbrev cX11_vowsBy : ByteArray := prog_13_method_67_code
def yX11_vowsBy : MethodName := ⟨RX11, "vowsBy", "(III)Z"⟩
abbrev cX11_smokes : ByteArray := prog_13_method_68_code
def yX11_smokes : MethodName := ⟨RX11, "smokes", "(I)V"⟩
abbrev cX11_passes : ByteArray := prog_13_method_69_code
def yX11_passes : MethodName := ⟨RX11, "passes", "(I)Z"⟩
abbrev cX11_thingsWith : ByteArray := prog_13_method_70_code
def yX11_thingsWith : MethodName := ⟨RX11, "thingsWith", "(II)I"⟩
abbrev cX11_wrongThings : ByteArray := prog_13_method_71_code
def yX11_wrongThings : MethodName := ⟨RX11, "wrongThings", "(I)I"⟩
abbrev cX11_place : ByteArray := prog_13_method_72_code
def yX11_place : MethodName := ⟨RX11, "place", "(II)I"⟩
abbrev cX11_person : ByteArray := prog_13_method_73_code
def yX11_person : MethodName := ⟨RX11, "person", "(II)I"⟩
abbrev cX11_thing : ByteArray := prog_13_method_74_code
def yX11_thing : MethodName := ⟨RX11, "thing", "(II)I"⟩
abbrev cX11_walk : ByteArray := prog_13_method_75_code
def yX11_walk : MethodName := ⟨RX11, "walk", "(II)Z"⟩
abbrev cX11_give : ByteArray := prog_13_method_76_code
def yX11_give : MethodName := ⟨RX11, "give", "(II)I"⟩
abbrev cX11_vow : ByteArray := prog_13_method_77_code
def yX11_vow : MethodName := ⟨RX11, "vow", "(II)I"⟩
abbrev cX11_minute : ByteArray := prog_13_method_78_code
def yX11_minute : MethodName := ⟨RX11, "minute", "()Z"⟩
abbrev cX11_undo : ByteArray := prog_13_method_79_code
def yX11_undo : MethodName := ⟨RX11, "undo", "()Z"⟩
abbrev cX11_judged : ByteArray := prog_13_method_80_code
def yX11_judged : MethodName := ⟨RX11, "judged", "(I)I"⟩
abbrev cX11_onFrom : ByteArray := prog_13_method_81_code
def yX11_onFrom : MethodName := ⟨RX11, "onFrom", "(II)I"⟩
abbrev cX11_reachBy : ByteArray := prog_13_method_82_code
def yX11_reachBy : MethodName := ⟨RX11, "reachBy", "(II)I"⟩
abbrev cX11_farOf : ByteArray := prog_13_method_83_code
def yX11_farOf : MethodName := ⟨RX11, "farOf", "(II)I"⟩
abbrev cX11_reach : ByteArray := prog_13_method_84_code
def yX11_reach : MethodName := ⟨RX11, "reach", "(I)I"⟩
abbrev cX11_far : ByteArray := prog_13_method_85_code
def yX11_far : MethodName := ⟨RX11, "far", "(II)I"⟩
abbrev cX11_cuts : ByteArray := prog_13_method_86_code
def yX11_cuts : MethodName := ⟨RX11, "cuts", "()I"⟩
abbrev cX11_hub : ByteArray := prog_13_method_87_code
def yX11_hub : MethodName := ⟨RX11, "hub", "()I"⟩
abbrev cX11_links : ByteArray := prog_13_method_88_code
def yX11_links : MethodName := ⟨RX11, "links", "(I)I"⟩
abbrev cX11_wide : ByteArray := prog_13_method_89_code
def yX11_wide : MethodName := ⟨RX11, "wide", "()I"⟩
abbrev cX11_readyIn : ByteArray := prog_13_method_90_code
def yX11_readyIn : MethodName := ⟨RX11, "readyIn", "(I)I"⟩
abbrev cX11_paceOf : ByteArray := prog_13_method_91_code
def yX11_paceOf : MethodName := ⟨RX11, "paceOf", "(I)I"⟩
abbrev cX11_soonOf : ByteArray := prog_13_method_92_code
def yX11_soonOf : MethodName := ⟨RX11, "soonOf", "(II)I"⟩
abbrev cX11_told : ByteArray := prog_13_method_93_code
def yX11_told : MethodName := ⟨RX11, "told", "(I)I"⟩
abbrev cX11_soon : ByteArray := prog_13_method_94_code
def yX11_soon : MethodName := ⟨RX11, "soon", "(II)I"⟩
abbrev cX11_meet : ByteArray := prog_13_method_95_code
def yX11_meet : MethodName := ⟨RX11, "meet", "(II)I"⟩
abbrev cX11_all : ByteArray := prog_13_method_96_code
def yX11_all : MethodName := ⟨RX11, "all", "(I)I"⟩
abbrev cX11_tour : ByteArray := prog_13_method_97_code
def yX11_tour : MethodName := ⟨RX11, "tour", "(I)I"⟩
abbrev cX11_intime : ByteArray := prog_13_method_98_code
def yX11_intime : MethodName := ⟨RX11, "intime", "(II)Z"⟩
abbrev cX11_back : ByteArray := prog_13_method_99_code
def yX11_back : MethodName := ⟨RX11, "back", "()I"⟩
abbrev cX11_could : ByteArray := prog_13_method_100_code
def yX11_could : MethodName := ⟨RX11, "could", "(I)I"⟩
abbrev cX11_wouldBind : ByteArray := prog_13_method_101_code
def yX11_wouldBind : MethodName := ⟨RX11, "wouldBind", "(III)Z"⟩
abbrev cX11_isGift : ByteArray := prog_13_method_102_code
def yX11_isGift : MethodName := ⟨RX11, "isGift", "(II)Z"⟩
abbrev cX11_would : ByteArray := prog_13_method_103_code
def yX11_would : MethodName := ⟨RX11, "would", "(II)Z"⟩
abbrev cX11_when : ByteArray := prog_13_method_104_code
def yX11_when : MethodName := ⟨RX11, "when", "(II)I"⟩
abbrev cX11_vows : ByteArray := prog_13_method_105_code
def yX11_vows : MethodName := ⟨RX11, "vows", "(IZ)I"⟩
abbrev cX11_sees : ByteArray := prog_13_method_106_code
def yX11_sees : MethodName := ⟨RX11, "sees", "(I)I"⟩
abbrev cX11_heard : ByteArray := prog_13_method_107_code
def yX11_heard : MethodName := ⟨RX11, "heard", "(I)I"⟩
abbrev cX11_heardOfAll : ByteArray := prog_13_method_108_code
def yX11_heardOfAll : MethodName := ⟨RX11, "heardOfAll", "(I)I"⟩
abbrev cX11_triesNow : ByteArray := prog_13_method_109_code
def yX11_triesNow : MethodName := ⟨RX11, "triesNow", "()V"⟩
abbrev cX11_news : ByteArray := prog_13_method_110_code
def yX11_news : MethodName := ⟨RX11, "news", "()I"⟩
abbrev cX11_alone : ByteArray := prog_13_method_111_code
def yX11_alone : MethodName := ⟨RX11, "alone", "()I"⟩
abbrev cX11_see : ByteArray := prog_13_method_112_code
def yX11_see : MethodName := ⟨RX11, "see", "(IIZ)Z"⟩
abbrev cX11_whoNow : ByteArray := prog_13_method_113_code
def yX11_whoNow : MethodName := ⟨RX11, "whoNow", "()I"⟩
abbrev cX11_who : ByteArray := prog_13_method_114_code
def yX11_who : MethodName := ⟨RX11, "who", "()I"⟩
abbrev cX11_ask : ByteArray := prog_13_method_115_code
def yX11_ask : MethodName := ⟨RX11, "ask", "()I"⟩
abbrev cX11_worthOf : ByteArray := prog_13_method_116_code
def yX11_worthOf : MethodName := ⟨RX11, "worthOf", "(IZ)I"⟩
abbrev cX11_has : ByteArray := prog_13_method_117_code
def yX11_has : MethodName := ⟨RX11, "has", "(IZ)I"⟩
abbrev cX11_sleeps : ByteArray := prog_13_method_118_code
def yX11_sleeps : MethodName := ⟨RX11, "sleeps", "(I)I"⟩
abbrev cX11_rich : ByteArray := prog_13_method_119_code
def yX11_rich : MethodName := ⟨RX11, "rich", "(Z)I"⟩
abbrev cX11_chance : ByteArray := prog_13_method_120_code
def yX11_chance : MethodName := ⟨RX11, "chance", "(II)I"⟩
abbrev cX11_getsBy : ByteArray := prog_13_method_121_code
def yX11_getsBy : MethodName := ⟨RX11, "getsBy", "(IIIII)I"⟩
abbrev cX11_rests : ByteArray := prog_13_method_122_code
def yX11_rests : MethodName := ⟨RX11, "rests", "(IIII)I"⟩
abbrev cX11_draw : ByteArray := prog_13_method_123_code
def yX11_draw : MethodName := ⟨RX11, "draw", "(I)I"⟩
abbrev cX11_drawsDeed : ByteArray := prog_13_method_124_code
def yX11_drawsDeed : MethodName := ⟨RX11, "drawsDeed", "()Z"⟩
abbrev cX11_mornings : ByteArray := prog_13_method_125_code
def yX11_mornings : MethodName := ⟨RX11, "mornings", "(III)I"⟩
abbrev cX11_mark : ByteArray := prog_13_method_126_code
def yX11_mark : MethodName := ⟨RX11, "mark", "(IZ)Z"⟩
abbrev cX11_pairsOf : ByteArray := prog_13_method_127_code
def yX11_pairsOf : MethodName := ⟨RX11, "pairsOf", "(I)I"⟩
abbrev cX11_count : ByteArray := prog_13_method_128_code
def yX11_count : MethodName := ⟨RX11, "count", "(I)I"⟩
def TJx145de : u_T := fun k => match k with
  | _ => ("", "", "", false)
def tyJx145de : Nat → FieldType := fun k => match k with
  | _ => .int
theorem nmJx145de : ∀ a, a < 0 → ∀ b, b < 0 → a ≠ b → (TJx145de a).2.1 ≠ (TJx145de b).2.1 := by decide +kernel
def TJx9f9b0 : u_T := fun k => match k with
  | _ => ("", "", "", false)
def tyJx9f9b0 : Nat → FieldType := fun k => match k with
  | _ => .int
theorem nmJx9f9b0 : ∀ a, a < 0 → ∀ b, b < 0 → a ≠ b → (TJx9f9b0 a).2.1 ≠ (TJx9f9b0 b).2.1 := by decide +kernel
def RJ11 : String := "java/lang/Character"
def TJ11 : u_T := fun k => match k with
  | _ => ("", "", "", false)
def tyJ11 : Nat → FieldType := fun k => match k with
  | _ => .int
abbrev wsJ110 : List Cond := u_ws RJ11 TJ11 0
theorem nmJ11 : ∀ a, a < 0 → ∀ b, b < 0 → a ≠ b → (TJ11 a).2.1 ≠ (TJ11 b).2.1 := by decide +kernel
theorem tyJ11_ok : ∀ k, k < 0 → parseFieldDescriptor (TJ11 k).2.2.1 = some (tyJ11 k) := by decide +kernel
abbrev cJ11_isValidCodePoint_9a6ad : ByteArray := prog_16_method_11_code
def yJ11_isValidCodePoint_9a6ad : MethodName := ⟨RJ11, "isValidCodePoint", "(I)Z"⟩
abbrev cJ11_highSurrogate_5068e : ByteArray := prog_16_method_28_code
def yJ11_highSurrogate_5068e : MethodName := ⟨RJ11, "highSurrogate", "(I)C"⟩
abbrev cJ11_lowSurrogate_5068e : ByteArray := prog_16_method_29_code
def yJ11_lowSurrogate_5068e : MethodName := ⟨RJ11, "lowSurrogate", "(I)C"⟩
def RJ6 : String := "java/lang/Integer"
def TJ6 : u_T := fun k => match k with
  | _ => ("", "", "", false)
def tyJ6 : Nat → FieldType := fun k => match k with
  | _ => .int
abbrev wsJ60 : List Cond := u_ws RJ6 TJ6 0
theorem nmJ6 : ∀ a, a < 0 → ∀ b, b < 0 → a ≠ b → (TJ6 a).2.1 ≠ (TJ6 b).2.1 := by decide +kernel
theorem tyJ6_ok : ∀ k, k < 0 → parseFieldDescriptor (TJ6 k).2.2.1 = some (tyJ6 k) := by decide +kernel
abbrev cJ6_bitCount_0f7a4 : ByteArray := prog_19_method_49_code
def yJ6_bitCount_0f7a4 : MethodName := ⟨RJ6, "bitCount", "(I)I"⟩
def RJ9 : String := "java/lang/Math"
def TJ9 : u_T := fun k => match k with
  | _ => ("", "", "", false)
def tyJ9 : Nat → FieldType := fun k => match k with
  | _ => .int
abbrev wsJ90 : List Cond := u_ws RJ9 TJ9 0
theorem nmJ9 : ∀ a, a < 0 → ∀ b, b < 0 → a ≠ b → (TJ9 a).2.1 ≠ (TJ9 b).2.1 := by decide +kernel
theorem tyJ9_ok : ∀ k, k < 0 → parseFieldDescriptor (TJ9 k).2.2.1 = some (tyJ9 k) := by decide +kernel
abbrev cJ9_max_7cf53 : ByteArray := prog_20_method_65_code
def yJ9_max_7cf53 : MethodName := ⟨RJ9, "max", "(II)I"⟩
abbrev cJ9_min_7cf53 : ByteArray := prog_20_method_69_code
def yJ9_min_7cf53 : MethodName := ⟨RJ9, "min", "(II)I"⟩
def RJ0 : String := "java/lang/String"
def TJ0 : u_T := fun k => match k with
  | _ => ("", "", "", false)
def tyJ0 : Nat → FieldType := fun k => match k with
  | _ => .int
abbrev wsJ00 : List Cond := u_ws RJ0 TJ0 0
theorem nmJ0 : ∀ a, a < 0 → ∀ b, b < 0 → a ≠ b → (TJ0 a).2.1 ≠ (TJ0 b).2.1 := by decide +kernel
theorem tyJ0_ok : ∀ k, k < 0 → parseFieldDescriptor (TJ0 k).2.2.1 = some (tyJ0 k) := by decide +kernel
abbrev cJ0_length_8abf5 : ByteArray := prog_22_method_54_code
def yJ0_length_8abf5 : MethodName := ⟨RJ0, "length", "()I"⟩
abbrev cJ0_charAt_5068e : ByteArray := prog_22_method_56_code
def yJ0_charAt_5068e : MethodName := ⟨RJ0, "charAt", "(I)C"⟩
abbrev cJ0_indexOf_0f7a4 : ByteArray := prog_22_method_79_code
def yJ0_indexOf_0f7a4 : MethodName := ⟨RJ0, "indexOf", "(I)I"⟩
abbrev cJ0_indexOf_7cf53 : ByteArray := prog_22_method_80_code
def yJ0_indexOf_7cf53 : MethodName := ⟨RJ0, "indexOf", "(II)I"⟩
abbrev cJ0_coder_7d493 : ByteArray := prog_22_method_152_code
def yJ0_coder_7d493 : MethodName := ⟨RJ0, "coder", "()B"⟩
abbrev cJ0_isLatin1_aae02 : ByteArray := prog_22_method_154_code
def yJ0_isLatin1_aae02 : MethodName := ⟨RJ0, "isLatin1", "()Z"⟩
abbrev cJ0_checkIndex_df160 : ByteArray := prog_22_method_155_code
def yJ0_checkIndex_df160 : MethodName := ⟨RJ0, "checkIndex", "(II)V"⟩
abbrev cJ0_checkBoundsBeginEnd_23922 : ByteArray := prog_22_method_158_code
def yJ0_checkBoundsBeginEnd_23922 : MethodName := ⟨RJ0, "checkBoundsBeginEnd", "(III)V"⟩
def RJ1 : String := "java/lang/StringLatin1"
def TJ1 : u_T := fun k => match k with
  | _ => ("", "", "", false)
def tyJ1 : Nat → FieldType := fun k => match k with
  | _ => .int
abbrev wsJ10 : List Cond := u_ws RJ1 TJ1 0
theorem nmJ1 : ∀ a, a < 0 → ∀ b, b < 0 → a ≠ b → (TJ1 a).2.1 ≠ (TJ1 b).2.1 := by decide +kernel
theorem tyJ1_ok : ∀ k, k < 0 → parseFieldDescriptor (TJ1 k).2.2.1 = some (tyJ1 k) := by decide +kernel
abbrev cJ1_charAt_3b067 : ByteArray := prog_23_method_2_code
def yJ1_charAt_3b067 : MethodName := ⟨RJ1, "charAt", "([BI)C"⟩
abbrev cJ1_canEncode_9a6ad : ByteArray := prog_23_method_4_code
def yJ1_canEncode_9a6ad : MethodName := ⟨RJ1, "canEncode", "(I)Z"⟩
abbrev cJ1_indexOf_4cfef : ByteArray := prog_23_method_22_code
def yJ1_indexOf_4cfef : MethodName := ⟨RJ1, "indexOf", "([BIII)I"⟩
abbrev cJ1_indexOfChar_4cfef : ByteArray := prog_23_method_23_code
def yJ1_indexOfChar_4cfef : MethodName := ⟨RJ1, "indexOfChar", "([BIII)I"⟩
def RJ2 : String := "java/lang/StringUTF16"
def TJ2 : u_T := fun k => match k with
  | _ => ("", "", "", false)
def tyJ2 : Nat → FieldType := fun k => match k with
  | _ => .int
abbrev wsJ20 : List Cond := u_ws RJ2 TJ2 0
theorem nmJ2 : ∀ a, a < 0 → ∀ b, b < 0 → a ≠ b → (TJ2 a).2.1 ≠ (TJ2 b).2.1 := by decide +kernel
theorem tyJ2_ok : ∀ k, k < 0 → parseFieldDescriptor (TJ2 k).2.2.1 = some (tyJ2 k) := by decide +kernel
abbrev cJ2_getChar_3b067 : ByteArray := prog_24_method_5_code
def yJ2_getChar_3b067 : MethodName := ⟨RJ2, "getChar", "([BI)C"⟩
abbrev cJ2_length_9d52b : ByteArray := prog_24_method_6_code
def yJ2_length_9d52b : MethodName := ⟨RJ2, "length", "([B)I"⟩
abbrev cJ2_indexOf_4cfef : ByteArray := prog_24_method_40_code
def yJ2_indexOf_4cfef : MethodName := ⟨RJ2, "indexOf", "([BIII)I"⟩
abbrev cJ2_indexOfChar_4cfef : ByteArray := prog_24_method_47_code
def yJ2_indexOfChar_4cfef : MethodName := ⟨RJ2, "indexOfChar", "([BIII)I"⟩
abbrev cJ2_indexOfCharUnsafe_4cfef : ByteArray := prog_24_method_48_code
def yJ2_indexOfCharUnsafe_4cfef : MethodName := ⟨RJ2, "indexOfCharUnsafe", "([BIII)I"⟩
abbrev cJ2_indexOfSupplementary_4cfef : ByteArray := prog_24_method_49_code
def yJ2_indexOfSupplementary_4cfef : MethodName := ⟨RJ2, "indexOfSupplementary", "([BIII)I"⟩
abbrev cJ2_charAt_3b067 : ByteArray := prog_24_method_83_code
def yJ2_charAt_3b067 : MethodName := ⟨RJ2, "charAt", "([BI)C"⟩
abbrev cJ2_checkIndex_2214a : ByteArray := prog_24_method_91_code
def yJ2_checkIndex_2214a : MethodName := ⟨RJ2, "checkIndex", "(I[B)V"⟩
abbrev cJ2_checkBoundsBeginEnd_d044e : ByteArray := prog_24_method_93_code
def yJ2_checkBoundsBeginEnd_d044e : MethodName := ⟨RJ2, "checkBoundsBeginEnd", "(II[B)V"⟩
def RJ10 : String := "java/lang/System"
def TJ10 : u_T := fun k => match k with
  | _ => ("", "", "", false)
def tyJ10 : Nat → FieldType := fun k => match k with
  | _ => .int
abbrev wsJ100 : List Cond := u_ws RJ10 TJ10 0
theorem nmJ10 : ∀ a, a < 0 → ∀ b, b < 0 → a ≠ b → (TJ10 a).2.1 ≠ (TJ10 b).2.1 := by decide +kernel
theorem tyJ10_ok : ∀ k, k < 0 → parseFieldDescriptor (TJ10 k).2.2.1 = some (tyJ10 k) := by decide +kernel
def TJx3cf43 : u_T := fun k => match k with
  | _ => ("", "", "", false)
def tyJx3cf43 : Nat → FieldType := fun k => match k with
  | _ => .int
theorem nmJx3cf43 : ∀ a, a < 0 → ∀ b, b < 0 → a ≠ b → (TJx3cf43 a).2.1 ≠ (TJx3cf43 b).2.1 := by decide +kernel
def RJ7 : String := "java/util/Arrays"
def TJ7 : u_T := fun k => match k with
  | _ => ("", "", "", false)
def tyJ7 : Nat → FieldType := fun k => match k with
  | _ => .int
abbrev wsJ70 : List Cond := u_ws RJ7 TJ7 0
theorem nmJ7 : ∀ a, a < 0 → ∀ b, b < 0 → a ≠ b → (TJ7 a).2.1 ≠ (TJ7 b).2.1 := by decide +kernel
theorem tyJ7_ok : ∀ k, k < 0 → parseFieldDescriptor (TJ7 k).2.2.1 = some (tyJ7 k) := by decide +kernel
abbrev cJ7_fill_53178 : ByteArray := prog_29_method_103_code
def yJ7_fill_53178 : MethodName := ⟨RJ7, "fill", "([II)V"⟩
def RJ3 : String := "jdk/internal/util/Preconditions"
def TJ3 : u_T := fun k => match k with
  | _ => ("", "", "", false)
def tyJ3 : Nat → FieldType := fun k => match k with
  | _ => .int
abbrev wsJ30 : List Cond := u_ws RJ3 TJ3 0
theorem nmJ3 : ∀ a, a < 0 → ∀ b, b < 0 → a ≠ b → (TJ3 a).2.1 ≠ (TJ3 b).2.1 := by decide +kernel
theorem tyJ3_ok : ∀ k, k < 0 → parseFieldDescriptor (TJ3 k).2.2.1 = some (tyJ3 k) := by decide +kernel
abbrev cJ3_checkIndex_8e157 : ByteArray := prog_31_method_11_code
def yJ3_checkIndex_8e157 : MethodName := ⟨RJ3, "checkIndex", "(IILjava/util/function/BiFunction;)I"⟩
abbrev cJ3_checkFromToIndex_8c36e : ByteArray := prog_31_method_12_code
def yJ3_checkFromToIndex_8c36e : MethodName := ⟨RJ3, "checkFromToIndex", "(IIILjava/util/function/BiFunction;)I"⟩
def RL : String := "FirstChimneyLaw"
abbrev cL_rests : ByteArray := method_3_code
def yL_rests : MethodName := ⟨RL, "rests", "(LFirstChimney;IIII[J)I"⟩
abbrev cL_law : ByteArray := code
def yL_law : MethodName := ⟨RL, "law", "([I)Z"⟩
abbrev vwCl : List vw_C := [(RX0, TX0, 15), (RX1, TX1, 3), (RX2, TX2, 3), (RX3, TX3, 4), (RX4, TX4, 6), (RX5, TX5, 4), (RX6, TX6, 4), (RX7, TX7, 9), (RX8, TX8, 8), (RX9, TX9, 3), (RX10, TX10, 12), (RX11, TX11, 30)]
end
section
/-! ===== the methods, and what the tables say of each ===== -/
/-- the tables' words that hold everywhere -/
def fc_G : List Cond := lw_tbl.filter goodWord
theorem fc_G_of {w : Cond} (i : Nat) (h : lw_tbl[i]? = some w) (hg : goodWord w = true) : w ∈ fc_G := List.mem_filter.mpr ⟨List.mem_of_getElem? h, hg⟩
/-- a method: name, code, locals, kind of answer -/
abbrev fc_M : Type := MethodName × ByteArray × Nat × Option FieldType
/-- what the tables say of a callee of n parameters -/
def fc_mw (z : fc_M) (n : Nat) : Prop := Cond.code z.1 z.2.1 z.2.2.1 z.2.2.2 ∈ fc_G ∧ Cond.initialized z.1.cls ∈ fc_G ∧ (z.1.cls ≠ "java/lang/invoke/MethodHandle" ∧ z.1.cls ≠ "java/lang/invoke/VarHandle" ∧ (parseMethodDescriptor z.1.desc).map (fun d => d.parameters.length) = some n) ∧ z.2.2.1 ≤ 45
def mX0_clear : fc_M := (yX0_clear, cX0_clear, 1, none)
def mX0_indexOf : fc_M := (yX0_indexOf, cX0_indexOf, 5, some .int)
def mX0_isTold : fc_M := (yX0_isTold, cX0_isTold, 3, some .boolean)
def mX0_hasPlace : fc_M := (yX0_hasPlace, cX0_hasPlace, 2, some .boolean)
def mX0_hasPerson : fc_M := (yX0_hasPerson, cX0_hasPerson, 2, some .boolean)
def mX0_hasThing : fc_M := (yX0_hasThing, cX0_hasThing, 2, some .boolean)
def mX0_isAwake : fc_M := (yX0_isAwake, cX0_isAwake, 3, some .boolean)
def mX0_sleepOf : fc_M := (yX0_sleepOf, cX0_sleepOf, 3, some .int)
def mX0_awakeBits : fc_M := (yX0_awakeBits, cX0_awakeBits, 4, some .int)
def mX1_read : fc_M := (yX1_read, cX1_read, 5, some .int)
def mX1_isNewName : fc_M := (yX1_isNewName, cX1_isNewName, 2, some .boolean)
def mX1_readPlace : fc_M := (yX1_readPlace, cX1_readPlace, 3, some .boolean)
def mX1_readPath : fc_M := (yX1_readPath, cX1_readPath, 5, some .boolean)
def mX1_readPerson : fc_M := (yX1_readPerson, cX1_readPerson, 5, some .boolean)
def mX1_readThing : fc_M := (yX1_readThing, cX1_readThing, 5, some .boolean)
def mX1_readSmoke : fc_M := (yX1_readSmoke, cX1_readSmoke, 3, some .boolean)
def mX1_readBinds : fc_M := (yX1_readBinds, cX1_readBinds, 3, some .boolean)
def mX2_write : fc_M := (yX2_write, cX2_write, 2, none)
def mX2_valueAt : fc_M := (yX2_valueAt, cX2_valueAt, 8, some .int)
def mX2_operand : fc_M := (yX2_operand, cX2_operand, 5, some .int)
def mX2_joined : fc_M := (yX2_joined, cX2_joined, 3, some .int)
def mX3_read : fc_M := (yX3_read, cX3_read, 4, some .boolean)
def mX3_readPart : fc_M := (yX3_readPart, cX3_readPart, 5, some .boolean)
def mX3_readBehind : fc_M := (yX3_readBehind, cX3_readBehind, 5, some .boolean)
def mX3_closeNots : fc_M := (yX3_closeNots, cX3_closeNots, 2, none)
def mX3_await : fc_M := (yX3_await, cX3_await, 2, none)
def mX3_writeDown : fc_M := (yX3_writeDown, cX3_writeDown, 3, none)
def mX3_rankOf : fc_M := (yX3_rankOf, cX3_rankOf, 1, some .int)
def mX4_forget : fc_M := (yX4_forget, cX4_forget, 2, none)
def mX4_keep : fc_M := (yX4_keep, cX4_keep, 2, none)
def mX4_bringBack : fc_M := (yX4_bringBack, cX4_bringBack, 2, some .boolean)
def mX4_lay : fc_M := (yX4_lay, cX4_lay, 4, none)
def mX4_goBack : fc_M := (yX4_goBack, cX4_goBack, 4, some .boolean)
def mX5_read : fc_M := (yX5_read, cX5_read, 4, some .int)
def mX5_readLine : fc_M := (yX5_readLine, cX5_readLine, 4, some .boolean)
def mX5_readNames : fc_M := (yX5_readNames, cX5_readNames, 6, some .boolean)
def mX5_play : fc_M := (yX5_play, cX5_play, 6, some .int)
def mX6_add : fc_M := (yX6_add, cX6_add, 4, some .boolean)
def mX6_copy : fc_M := (yX6_copy, cX6_copy, 3, none)
def mX7_begin : fc_M := (yX7_begin, cX7_begin, 3, none)
def mX7_copy : fc_M := (yX7_copy, cX7_copy, 2, none)
def mX7_bitsAt : fc_M := (yX7_bitsAt, cX7_bitsAt, 5, some .int)
def mX7_strayThings : fc_M := (yX7_strayThings, cX7_strayThings, 4, some .int)
def mX7_newsOfAll : fc_M := (yX7_newsOfAll, cX7_newsOfAll, 4, some .int)
def mX7_isReady : fc_M := (yX7_isReady, cX7_isReady, 3, some .boolean)
def mX7_minutesOver : fc_M := (yX7_minutesOver, cX7_minutesOver, 5, some .int)
def mX7_canWalk : fc_M := (yX7_canWalk, cX7_canWalk, 4, some .boolean)
def mX7_goTo : fc_M := (yX7_goTo, cX7_goTo, 4, none)
def mX7_canGive : fc_M := (yX7_canGive, cX7_canGive, 5, some .boolean)
def mX7_handOver : fc_M := (yX7_handOver, cX7_handOver, 5, some .boolean)
def mX7_canVow : fc_M := (yX7_canVow, cX7_canVow, 4, some .boolean)
def mX7_pledge : fc_M := (yX7_pledge, cX7_pledge, 5, some .boolean)
def mX7_giftBinds : fc_M := (yX7_giftBinds, cX7_giftBinds, 5, some .boolean)
def mX7_isBinding : fc_M := (yX7_isBinding, cX7_isBinding, 9, some .boolean)
def mX7_pass : fc_M := (yX7_pass, cX7_pass, 3, some .boolean)
def mX7_shareNews : fc_M := (yX7_shareNews, cX7_shareNews, 5, none)
def mX7_riseSmoke : fc_M := (yX7_riseSmoke, cX7_riseSmoke, 2, none)
def mX8_put : fc_M := (yX8_put, cX8_put, 5, none)
def mX8_clear : fc_M := (yX8_clear, cX8_clear, 1, none)
def mX8_open : fc_M := (yX8_open, cX8_open, 1, none)
def mX8_next : fc_M := (yX8_next, cX8_next, 1, none)
def mX8_readWord : fc_M := (yX8_readWord, cX8_readWord, 2, none)
def mX8_readNumber : fc_M := (yX8_readNumber, cX8_readNumber, 1, none)
def mX8_cellIn : fc_M := (yX8_cellIn, cX8_cellIn, 7, some .int)
def mX8_fail : fc_M := (yX8_fail, cX8_fail, 2, some .boolean)
def mX8_take : fc_M := (yX8_take, cX8_take, 2, some .boolean)
def mX8_isNumber : fc_M := (yX8_isNumber, cX8_isNumber, 3, some .boolean)
def mX8_known : fc_M := (yX8_known, cX8_known, 4, some .int)
def mX9_measure : fc_M := (yX9_measure, cX9_measure, 3, none)
def mX9_measureFrom : fc_M := (yX9_measureFrom, cX9_measureFrom, 7, none)
def mX9_neighbours : fc_M := (yX9_neighbours, cX9_neighbours, 4, some .int)
def mX9_spread : fc_M := (yX9_spread, cX9_spread, 6, some .int)
def mX9_isCut : fc_M := (yX9_isCut, cX9_isCut, 5, some .boolean)
def mX9_farthestFrom : fc_M := (yX9_farthestFrom, cX9_farthestFrom, 5, some .int)
def mX9_pathsOfTour : fc_M := (yX9_pathsOfTour, cX9_pathsOfTour, 5, some .int)
def mX9_stepOn : fc_M := (yX9_stepOn, cX9_stepOn, 5, none)
def mX10_feed : fc_M := (yX10_feed, cX10_feed, 7, some .int)
def mX10_land : fc_M := (yX10_land, cX10_land, 3, some .int)
def mX10_morning : fc_M := (yX10_morning, cX10_morning, 3, some .int)
def mX10_place : fc_M := (yX10_place, cX10_place, 3, some .int)
def mX10_person : fc_M := (yX10_person, cX10_person, 3, some .int)
def mX10_thing : fc_M := (yX10_thing, cX10_thing, 3, some .int)
def mX10_walk : fc_M := (yX10_walk, cX10_walk, 3, some .boolean)
def mX10_give : fc_M := (yX10_give, cX10_give, 3, some .int)
def mX10_vow : fc_M := (yX10_vow, cX10_vow, 3, some .int)
def mX10_minute : fc_M := (yX10_minute, cX10_minute, 1, some .boolean)
def mX10_undo : fc_M := (yX10_undo, cX10_undo, 1, some .boolean)
def mX10_judged : fc_M := (yX10_judged, cX10_judged, 6, some .int)
def mX10_soon : fc_M := (yX10_soon, cX10_soon, 3, some .int)
def mX10_meet : fc_M := (yX10_meet, cX10_meet, 5, some .int)
def mX10_all : fc_M := (yX10_all, cX10_all, 6, some .int)
def mX10_tour : fc_M := (yX10_tour, cX10_tour, 3, some .int)
def mX10_intime : fc_M := (yX10_intime, cX10_intime, 4, some .boolean)
def mX10_back : fc_M := (yX10_back, cX10_back, 1, some .int)
def mX10_could : fc_M := (yX10_could, cX10_could, 4, some .int)
def mX10_would : fc_M := (yX10_would, cX10_would, 3, some .boolean)
def mX10_when : fc_M := (yX10_when, cX10_when, 4, some .int)
def mX10_vows : fc_M := (yX10_vows, cX10_vows, 3, some .int)
def mX10_sees : fc_M := (yX10_sees, cX10_sees, 5, some .int)
def mX10_heard : fc_M := (yX10_heard, cX10_heard, 2, some .int)
def mX10_news : fc_M := (yX10_news, cX10_news, 2, some .int)
def mX10_alone : fc_M := (yX10_alone, cX10_alone, 5, some .int)
def mX10_reach : fc_M := (yX10_reach, cX10_reach, 2, some .int)
def mX10_far : fc_M := (yX10_far, cX10_far, 3, some .int)
def mX10_cuts : fc_M := (yX10_cuts, cX10_cuts, 3, some .int)
def mX10_hub : fc_M := (yX10_hub, cX10_hub, 5, some .int)
def mX10_links : fc_M := (yX10_links, cX10_links, 2, some .int)
def mX10_see : fc_M := (yX10_see, cX10_see, 4, some .boolean)
def mX10_who : fc_M := (yX10_who, cX10_who, 3, some .int)
def mX10_ask : fc_M := (yX10_ask, cX10_ask, 7, some .int)
def mX10_wide : fc_M := (yX10_wide, cX10_wide, 6, some .int)
def mX10_has : fc_M := (yX10_has, cX10_has, 3, some .int)
def mX10_sleeps : fc_M := (yX10_sleeps, cX10_sleeps, 2, some .int)
def mX10_rich : fc_M := (yX10_rich, cX10_rich, 6, some .int)
def mX10_chance : fc_M := (yX10_chance, cX10_chance, 6, some .int)
def mX10_rests : fc_M := (yX10_rests, cX10_rests, 7, some .int)
def mX10_mornings : fc_M := (yX10_mornings, cX10_mornings, 6, some .int)
def mX10_mark : fc_M := (yX10_mark, cX10_mark, 3, some .boolean)
def mX10_count : fc_M := (yX10_count, cX10_count, 2, some .int)
def mX10_isFrom : fc_M := (yX10_isFrom, cX10_isFrom, 3, some .boolean)
def mX10_isIn : fc_M := (yX10_isIn, cX10_isIn, 2, some .boolean)
def mX10_orNone : fc_M := (yX10_orNone, cX10_orNone, 1, some .int)
def mX10_pairsIn : fc_M := (yX10_pairsIn, cX10_pairsIn, 3, some .int)
def mX10_thingsOf : fc_M := (yX10_thingsOf, cX10_thingsOf, 5, some .int)
def mX10_worthOf : fc_M := (yX10_worthOf, cX10_worthOf, 6, some .int)
def mX10_movedThings : fc_M := (yX10_movedThings, cX10_movedThings, 4, some .int)
def mX10_minutesTo : fc_M := (yX10_minutesTo, cX10_minutesTo, 3, some .int)
def mX10_minutesOfAllTo : fc_M := (yX10_minutesOfAllTo, cX10_minutesOfAllTo, 4, some .int)
def mX10_isGift : fc_M := (yX10_isGift, cX10_isGift, 3, some .boolean)
def mX10_fitsSeen : fc_M := (yX10_fitsSeen, cX10_fitsSeen, 4, some .boolean)
def mX10_leftAtWorst : fc_M := (yX10_leftAtWorst, cX10_leftAtWorst, 6, some .int)
def mX10_isRest : fc_M := (yX10_isRest, cX10_isRest, 6, some .boolean)
def mX10_gets : fc_M := (yX10_gets, cX10_gets, 5, some .int)
def mX10_drawBelow : fc_M := (yX10_drawBelow, cX10_drawBelow, 2, some .int)
def mX10_playDrawn : fc_M := (yX10_playDrawn, cX10_playDrawn, 5, some .boolean)
def mX11_thrown : fc_M := (yX11_thrown, cX11_thrown, 1, some .int)
def mX11_feed : fc_M := (yX11_feed, cX11_feed, 7, some .int)
def mX11_lay : fc_M := (yX11_lay, cX11_lay, 5, none)
def mX11_isLetter : fc_M := (yX11_isLetter, cX11_isLetter, 1, some .boolean)
def mX11_isDigit : fc_M := (yX11_isDigit, cX11_isDigit, 1, some .boolean)
def mX11_rank : fc_M := (yX11_rank, cX11_rank, 1, some .int)
def mX11_isSignOf : fc_M := (yX11_isSignOf, cX11_isSignOf, 1, some .boolean)
def mX11_cutAll : fc_M := (yX11_cutAll, cX11_cutAll, 7, none)
def mX11_wrong : fc_M := (yX11_wrong, cX11_wrong, 2, none)
def mX11_isSign : fc_M := (yX11_isSign, cX11_isSign, 2, some .boolean)
def mX11_isWord : fc_M := (yX11_isWord, cX11_isWord, 2, some .boolean)
def mX11_takeSign : fc_M := (yX11_takeSign, cX11_takeSign, 2, none)
def mX11_hasSign : fc_M := (yX11_hasSign, cX11_hasSign, 3, some .boolean)
def mX11_hasWord : fc_M := (yX11_hasWord, cX11_hasWord, 3, some .boolean)
def mX11_takeWord : fc_M := (yX11_takeWord, cX11_takeWord, 2, none)
def mX11_within : fc_M := (yX11_within, cX11_within, 3, some .boolean)
def mX11_standsAsAlways : fc_M := (yX11_standsAsAlways, cX11_standsAsAlways, 3, none)
def mX11_takeNumber : fc_M := (yX11_takeNumber, cX11_takeNumber, 3, some .int)
def mX11_takeAfter : fc_M := (yX11_takeAfter, cX11_takeAfter, 4, some .int)
def mX11_wordHere : fc_M := (yX11_wordHere, cX11_wordHere, 5, some .int)
def mX11_takeOne : fc_M := (yX11_takeOne, cX11_takeOne, 4, some .int)
def mX11_isName : fc_M := (yX11_isName, cX11_isName, 1, some .boolean)
def mX11_nameAt : fc_M := (yX11_nameAt, cX11_nameAt, 3, some .int)
def mX11_takeTold : fc_M := (yX11_takeTold, cX11_takeTold, 5, some .int)
def mX11_land : fc_M := (yX11_land, cX11_land, 2, some .int)
def mX11_readLine : fc_M := (yX11_readLine, cX11_readLine, 5, none)
def mX11_readName : fc_M := (yX11_readName, cX11_readName, 5, none)
def mX11_readPath : fc_M := (yX11_readPath, cX11_readPath, 3, none)
def mX11_readOnce : fc_M := (yX11_readOnce, cX11_readOnce, 2, none)
def mX11_morning : fc_M := (yX11_morning, cX11_morning, 3, some .int)
def mX11_readMorning : fc_M := (yX11_readMorning, cX11_readMorning, 3, none)
def mX11_emit : fc_M := (yX11_emit, cX11_emit, 3, none)
def mX11_whole : fc_M := (yX11_whole, cX11_whole, 3, none)
def mX11_test : fc_M := (yX11_test, cX11_test, 3, none)
def mX11_sums : fc_M := (yX11_sums, cX11_sums, 3, none)
def mX11_products : fc_M := (yX11_products, cX11_products, 2, none)
def mX11_takePart : fc_M := (yX11_takePart, cX11_takePart, 4, none)
def mX11_worthAt : fc_M := (yX11_worthAt, cX11_worthAt, 5, some .int)
def mX11_both : fc_M := (yX11_both, cX11_both, 3, some .int)
def mX11_copies : fc_M := (yX11_copies, cX11_copies, 5, none)
def mX11_starts : fc_M := (yX11_starts, cX11_starts, 3, none)
def mX11_begins : fc_M := (yX11_begins, cX11_begins, 2, none)
def mX11_keeps : fc_M := (yX11_keeps, cX11_keeps, 2, none)
def mX11_places : fc_M := (yX11_places, cX11_places, 1, some .int)
def mX11_persons : fc_M := (yX11_persons, cX11_persons, 1, some .int)
def mX11_things : fc_M := (yX11_things, cX11_things, 1, some .int)
def mX11_smokeAt : fc_M := (yX11_smokeAt, cX11_smokeAt, 1, some .int)
def mX11_pathsFrom : fc_M := (yX11_pathsFrom, cX11_pathsFrom, 2, some .int)
def mX11_personOf : fc_M := (yX11_personOf, cX11_personOf, 3, some .int)
def mX11_thingOf : fc_M := (yX11_thingOf, cX11_thingOf, 3, some .int)
def mX11_isPlace : fc_M := (yX11_isPlace, cX11_isPlace, 2, some .boolean)
def mX11_isPerson : fc_M := (yX11_isPerson, cX11_isPerson, 2, some .boolean)
def mX11_isThing : fc_M := (yX11_isThing, cX11_isThing, 2, some .boolean)
def mX11_bits : fc_M := (yX11_bits, cX11_bits, 3, some .int)
def mX11_awakeAt : fc_M := (yX11_awakeAt, cX11_awakeAt, 4, some .int)
def mX11_isAwake : fc_M := (yX11_isAwake, cX11_isAwake, 3, some .boolean)
def mX11_isReady : fc_M := (yX11_isReady, cX11_isReady, 3, some .boolean)
def mX11_whoIn : fc_M := (yX11_whoIn, cX11_whoIn, 5, some .int)
def mX11_benches : fc_M := (yX11_benches, cX11_benches, 3, some .int)
def mX11_doesBind : fc_M := (yX11_doesBind, cX11_doesBind, 7, some .boolean)
def mX11_mayWalk : fc_M := (yX11_mayWalk, cX11_mayWalk, 4, some .boolean)
def mX11_walks : fc_M := (yX11_walks, cX11_walks, 4, none)
def mX11_mayGive : fc_M := (yX11_mayGive, cX11_mayGive, 5, some .boolean)
def mX11_gives : fc_M := (yX11_gives, cX11_gives, 6, some .boolean)
def mX11_mayVow : fc_M := (yX11_mayVow, cX11_mayVow, 5, some .boolean)
def mX11_vowsBy : fc_M := (yX11_vowsBy, cX11_vowsBy, 5, some .boolean)
def mX11_smokes : fc_M := (yX11_smokes, cX11_smokes, 3, none)
def mX11_passes : fc_M := (yX11_passes, cX11_passes, 4, some .boolean)
def mX11_thingsWith : fc_M := (yX11_thingsWith, cX11_thingsWith, 5, some .int)
def mX11_wrongThings : fc_M := (yX11_wrongThings, cX11_wrongThings, 4, some .int)
def mX11_place : fc_M := (yX11_place, cX11_place, 3, some .int)
def mX11_person : fc_M := (yX11_person, cX11_person, 3, some .int)
def mX11_thing : fc_M := (yX11_thing, cX11_thing, 3, some .int)
def mX11_walk : fc_M := (yX11_walk, cX11_walk, 3, some .boolean)
def mX11_give : fc_M := (yX11_give, cX11_give, 3, some .int)
def mX11_vow : fc_M := (yX11_vow, cX11_vow, 3, some .int)
def mX11_minute : fc_M := (yX11_minute, cX11_minute, 1, some .boolean)
def mX11_undo : fc_M := (yX11_undo, cX11_undo, 1, some .boolean)
def mX11_judged : fc_M := (yX11_judged, cX11_judged, 10, some .int)
def mX11_onFrom : fc_M := (yX11_onFrom, cX11_onFrom, 5, some .int)
def mX11_reachBy : fc_M := (yX11_reachBy, cX11_reachBy, 5, some .int)
def mX11_farOf : fc_M := (yX11_farOf, cX11_farOf, 5, some .int)
def mX11_reach : fc_M := (yX11_reach, cX11_reach, 2, some .int)
def mX11_far : fc_M := (yX11_far, cX11_far, 4, some .int)
def mX11_cuts : fc_M := (yX11_cuts, cX11_cuts, 6, some .int)
def mX11_hub : fc_M := (yX11_hub, cX11_hub, 7, some .int)
def mX11_links : fc_M := (yX11_links, cX11_links, 2, some .int)
def mX11_wide : fc_M := (yX11_wide, cX11_wide, 7, some .int)
def mX11_readyIn : fc_M := (yX11_readyIn, cX11_readyIn, 4, some .int)
def mX11_paceOf : fc_M := (yX11_paceOf, cX11_paceOf, 2, some .int)
def mX11_soonOf : fc_M := (yX11_soonOf, cX11_soonOf, 4, some .int)
def mX11_told : fc_M := (yX11_told, cX11_told, 1, some .int)
def mX11_soon : fc_M := (yX11_soon, cX11_soon, 3, some .int)
def mX11_meet : fc_M := (yX11_meet, cX11_meet, 8, some .int)
def mX11_all : fc_M := (yX11_all, cX11_all, 8, some .int)
def mX11_tour : fc_M := (yX11_tour, cX11_tour, 8, some .int)
def mX11_intime : fc_M := (yX11_intime, cX11_intime, 3, some .boolean)
def mX11_back : fc_M := (yX11_back, cX11_back, 1, some .int)
def mX11_could : fc_M := (yX11_could, cX11_could, 4, some .int)
def mX11_wouldBind : fc_M := (yX11_wouldBind, cX11_wouldBind, 4, some .boolean)
def mX11_isGift : fc_M := (yX11_isGift, cX11_isGift, 3, some .boolean)
def mX11_would : fc_M := (yX11_would, cX11_would, 3, some .boolean)
def mX11_when : fc_M := (yX11_when, cX11_when, 4, some .int)
def mX11_vows : fc_M := (yX11_vows, cX11_vows, 3, some .int)
def mX11_sees : fc_M := (yX11_sees, cX11_sees, 5, some .int)
def mX11_heard : fc_M := (yX11_heard, cX11_heard, 2, some .int)
def mX11_heardOfAll : fc_M := (yX11_heardOfAll, cX11_heardOfAll, 4, some .int)
def mX11_triesNow : fc_M := (yX11_triesNow, cX11_triesNow, 1, none)
def mX11_news : fc_M := (yX11_news, cX11_news, 2, some .int)
def mX11_alone : fc_M := (yX11_alone, cX11_alone, 4, some .int)
def mX11_see : fc_M := (yX11_see, cX11_see, 5, some .boolean)
def mX11_whoNow : fc_M := (yX11_whoNow, cX11_whoNow, 6, some .int)
def mX11_who : fc_M := (yX11_who, cX11_who, 1, some .int)
def mX11_ask : fc_M := (yX11_ask, cX11_ask, 9, some .int)
def mX11_worthOf : fc_M := (yX11_worthOf, cX11_worthOf, 5, some .int)
def mX11_has : fc_M := (yX11_has, cX11_has, 3, some .int)
def mX11_sleeps : fc_M := (yX11_sleeps, cX11_sleeps, 3, some .int)
def mX11_rich : fc_M := (yX11_rich, cX11_rich, 4, some .int)
def mX11_chance : fc_M := (yX11_chance, cX11_chance, 8, some .int)
def mX11_getsBy : fc_M := (yX11_getsBy, cX11_getsBy, 5, some .int)
def mX11_rests : fc_M := (yX11_rests, cX11_rests, 12, some .int)
def mX11_draw : fc_M := (yX11_draw, cX11_draw, 2, some .int)
def mX11_drawsDeed : fc_M := (yX11_drawsDeed, cX11_drawsDeed, 5, some .boolean)
def mX11_mornings : fc_M := (yX11_mornings, cX11_mornings, 6, some .int)
def mX11_mark : fc_M := (yX11_mark, cX11_mark, 3, some .boolean)
def mX11_pairsOf : fc_M := (yX11_pairsOf, cX11_pairsOf, 4, some .int)
def mX11_count : fc_M := (yX11_count, cX11_count, 2, some .int)
def mJ11_isValidCodePoint_9a6ad : fc_M := (yJ11_isValidCodePoint_9a6ad, cJ11_isValidCodePoint_9a6ad, 2, some .boolean)
def mJ11_highSurrogate_5068e : fc_M := (yJ11_highSurrogate_5068e, cJ11_highSurrogate_5068e, 1, some .char)
def mJ11_lowSurrogate_5068e : fc_M := (yJ11_lowSurrogate_5068e, cJ11_lowSurrogate_5068e, 1, some .char)
def mJ6_bitCount_0f7a4 : fc_M := (yJ6_bitCount_0f7a4, cJ6_bitCount_0f7a4, 1, some .int)
def mJ9_max_7cf53 : fc_M := (yJ9_max_7cf53, cJ9_max_7cf53, 2, some .int)
def mJ9_min_7cf53 : fc_M := (yJ9_min_7cf53, cJ9_min_7cf53, 2, some .int)
def mJ0_length_8abf5 : fc_M := (yJ0_length_8abf5, cJ0_length_8abf5, 1, some .int)
def mJ0_charAt_5068e : fc_M := (yJ0_charAt_5068e, cJ0_charAt_5068e, 2, some .char)
def mJ0_indexOf_0f7a4 : fc_M := (yJ0_indexOf_0f7a4, cJ0_indexOf_0f7a4, 2, some .int)
def mJ0_indexOf_7cf53 : fc_M := (yJ0_indexOf_7cf53, cJ0_indexOf_7cf53, 3, some .int)
def mJ0_isLatin1_aae02 : fc_M := (yJ0_isLatin1_aae02, cJ0_isLatin1_aae02, 1, some .boolean)
def mJ0_checkIndex_df160 : fc_M := (yJ0_checkIndex_df160, cJ0_checkIndex_df160, 2, none)
def mJ0_checkBoundsBeginEnd_23922 : fc_M := (yJ0_checkBoundsBeginEnd_23922, cJ0_checkBoundsBeginEnd_23922, 3, none)
def mJ1_charAt_3b067 : fc_M := (yJ1_charAt_3b067, cJ1_charAt_3b067, 2, some .char)
def mJ1_canEncode_9a6ad : fc_M := (yJ1_canEncode_9a6ad, cJ1_canEncode_9a6ad, 1, some .boolean)
def mJ1_indexOf_4cfef : fc_M := (yJ1_indexOf_4cfef, cJ1_indexOf_4cfef, 4, some .int)
def mJ1_indexOfChar_4cfef : fc_M := (yJ1_indexOfChar_4cfef, cJ1_indexOfChar_4cfef, 6, some .int)
def mJ2_getChar_3b067 : fc_M := (yJ2_getChar_3b067, cJ2_getChar_3b067, 2, some .char)
def mJ2_length_9d52b : fc_M := (yJ2_length_9d52b, cJ2_length_9d52b, 1, some .int)
def mJ2_indexOf_4cfef : fc_M := (yJ2_indexOf_4cfef, cJ2_indexOf_4cfef, 4, some .int)
def mJ2_indexOfChar_4cfef : fc_M := (yJ2_indexOfChar_4cfef, cJ2_indexOfChar_4cfef, 4, some .int)
def mJ2_indexOfCharUnsafe_4cfef : fc_M := (yJ2_indexOfCharUnsafe_4cfef, cJ2_indexOfCharUnsafe_4cfef, 5, some .int)
def mJ2_indexOfSupplementary_4cfef : fc_M := (yJ2_indexOfSupplementary_4cfef, cJ2_indexOfSupplementary_4cfef, 7, some .int)
def mJ2_charAt_3b067 : fc_M := (yJ2_charAt_3b067, cJ2_charAt_3b067, 2, some .char)
def mJ2_checkIndex_2214a : fc_M := (yJ2_checkIndex_2214a, cJ2_checkIndex_2214a, 2, none)
def mJ2_checkBoundsBeginEnd_d044e : fc_M := (yJ2_checkBoundsBeginEnd_d044e, cJ2_checkBoundsBeginEnd_d044e, 3, none)
def mJ7_fill_53178 : fc_M := (yJ7_fill_53178, cJ7_fill_53178, 4, none)
def mJ3_checkIndex_8e157 : fc_M := (yJ3_checkIndex_8e157, cJ3_checkIndex_8e157, 3, some .int)
def mJ3_checkFromToIndex_8c36e : fc_M := (yJ3_checkFromToIndex_8c36e, cJ3_checkFromToIndex_8c36e, 4, some .int)
def fc_mp (t : fc_M × Nat × Nat) : Prop := fc_mw t.1 t.2.1 ∧ (t.2.2 = 0 → Cond.instanceMethod t.1.1 ∈ fc_G ∧ Cond.selects t.1.1.cls t.1.1 t.1.1 ∈ fc_G) ∧ (t.2.2 = 1 → Cond.static t.1.1 ∈ fc_G)
theorem kX0_clear : fc_mp (mX0_clear, 0, 0) := ⟨⟨fc_G_of 525 (by decide +kernel) rfl, fc_G_of 114 (by decide +kernel) rfl, by decide +kernel, by decide⟩, fun _ => ⟨fc_G_of 523 (by decide +kernel) rfl, fc_G_of 524 (by decide +kernel) rfl⟩, fun h => absurd h (by decide)⟩
theorem kX0_indexOf : fc_mp (mX0_indexOf, 3, 1) := ⟨⟨fc_G_of 677 (by decide +kernel) rfl, fc_G_of 114 (by decide +kernel) rfl, by decide +kernel, by decide⟩, fun h => absurd h (by decide), fun _ => fc_G_of 676 (by decide +kernel) rfl⟩
theorem kX0_isTold : fc_mp (mX0_isTold, 1, 0) := ⟨⟨fc_G_of 674 (by decide +kernel) rfl, fc_G_of 114 (by decide +kernel) rfl, by decide +kernel, by decide⟩, fun _ => ⟨fc_G_of 672 (by decide +kernel) rfl, fc_G_of 673 (by decide +kernel) rfl⟩, fun h => absurd h (by decide)⟩
theorem kX0_hasPlace : fc_mp (mX0_hasPlace, 1, 0) := ⟨⟨fc_G_of 807 (by decide +kernel) rfl, fc_G_of 114 (by decide +kernel) rfl, by decide +kernel, by decide⟩, fun _ => ⟨fc_G_of 805 (by decide +kernel) rfl, fc_G_of 806 (by decide +kernel) rfl⟩, fun h => absurd h (by decide)⟩
theorem kX0_hasPerson : fc_mp (mX0_hasPerson, 1, 0) := ⟨⟨fc_G_of 827 (by decide +kernel) rfl, fc_G_of 114 (by decide +kernel) rfl, by decide +kernel, by decide⟩, fun _ => ⟨fc_G_of 825 (by decide +kernel) rfl, fc_G_of 826 (by decide +kernel) rfl⟩, fun h => absurd h (by decide)⟩
theorem kX0_hasThing : fc_mp (mX0_hasThing, 1, 0) := ⟨⟨fc_G_of 845 (by decide +kernel) rfl, fc_G_of 114 (by decide +kernel) rfl, by decide +kernel, by decide⟩, fun _ => ⟨fc_G_of 843 (by decide +kernel) rfl, fc_G_of 844 (by decide +kernel) rfl⟩, fun h => absurd h (by decide)⟩
theorem kX0_isAwake : fc_mp (mX0_isAwake, 2, 0) := ⟨⟨fc_G_of 819 (by decide +kernel) rfl, fc_G_of 114 (by decide +kernel) rfl, by decide +kernel, by decide⟩, fun _ => ⟨fc_G_of 817 (by decide +kernel) rfl, fc_G_of 818 (by decide +kernel) rfl⟩, fun h => absurd h (by decide)⟩
theorem kX0_sleepOf : fc_mp (mX0_sleepOf, 2, 0) := ⟨⟨fc_G_of 985 (by decide +kernel) rfl, fc_G_of 114 (by decide +kernel) rfl, by decide +kernel, by decide⟩, fun _ => ⟨fc_G_of 983 (by decide +kernel) rfl, fc_G_of 984 (by decide +kernel) rfl⟩, fun h => absurd h (by decide)⟩
theorem kX0_awakeBits : fc_mp (mX0_awakeBits, 1, 0) := ⟨⟨fc_G_of 815 (by decide +kernel) rfl, fc_G_of 114 (by decide +kernel) rfl, by decide +kernel, by decide⟩, fun _ => ⟨fc_G_of 813 (by decide +kernel) rfl, fc_G_of 814 (by decide +kernel) rfl⟩, fun h => absurd h (by decide)⟩
theorem kX1_read : fc_mp (mX1_read, 2, 0) := ⟨⟨fc_G_of 521 (by decide +kernel) rfl, fc_G_of 108 (by decide +kernel) rfl, by decide +kernel, by decide⟩, fun _ => ⟨fc_G_of 519 (by decide +kernel) rfl, fc_G_of 520 (by decide +kernel) rfl⟩, fun h => absurd h (by decide)⟩
theorem kX1_isNewName : fc_mp (mX1_isNewName, 2, 1) := ⟨⟨fc_G_of 670 (by decide +kernel) rfl, fc_G_of 108 (by decide +kernel) rfl, by decide +kernel, by decide⟩, fun h => absurd h (by decide), fun _ => fc_G_of 669 (by decide +kernel) rfl⟩
theorem kX1_readPlace : fc_mp (mX1_readPlace, 2, 0) := ⟨⟨fc_G_of 662 (by decide +kernel) rfl, fc_G_of 108 (by decide +kernel) rfl, by decide +kernel, by decide⟩, fun _ => ⟨fc_G_of 661 (by decide +kernel) rfl, fc_G_of 2 (by decide +kernel) rfl⟩, fun h => absurd h (by decide)⟩
theorem kX1_readPath : fc_mp (mX1_readPath, 2, 0) := ⟨⟨fc_G_of 681 (by decide +kernel) rfl, fc_G_of 108 (by decide +kernel) rfl, by decide +kernel, by decide⟩, fun _ => ⟨fc_G_of 680 (by decide +kernel) rfl, fc_G_of 3 (by decide +kernel) rfl⟩, fun h => absurd h (by decide)⟩
theorem kX1_readPerson : fc_mp (mX1_readPerson, 2, 0) := ⟨⟨fc_G_of 694 (by decide +kernel) rfl, fc_G_of 108 (by decide +kernel) rfl, by decide +kernel, by decide⟩, fun _ => ⟨fc_G_of 693 (by decide +kernel) rfl, fc_G_of 4 (by decide +kernel) rfl⟩, fun h => absurd h (by decide)⟩
theorem kX1_readThing : fc_mp (mX1_readThing, 2, 0) := ⟨⟨fc_G_of 707 (by decide +kernel) rfl, fc_G_of 108 (by decide +kernel) rfl, by decide +kernel, by decide⟩, fun _ => ⟨fc_G_of 706 (by decide +kernel) rfl, fc_G_of 5 (by decide +kernel) rfl⟩, fun h => absurd h (by decide)⟩
theorem kX1_readSmoke : fc_mp (mX1_readSmoke, 2, 0) := ⟨⟨fc_G_of 711 (by decide +kernel) rfl, fc_G_of 108 (by decide +kernel) rfl, by decide +kernel, by decide⟩, fun _ => ⟨fc_G_of 710 (by decide +kernel) rfl, fc_G_of 6 (by decide +kernel) rfl⟩, fun h => absurd h (by decide)⟩
theorem kX1_readBinds : fc_mp (mX1_readBinds, 2, 0) := ⟨⟨fc_G_of 715 (by decide +kernel) rfl, fc_G_of 108 (by decide +kernel) rfl, by decide +kernel, by decide⟩, fun _ => ⟨fc_G_of 714 (by decide +kernel) rfl, fc_G_of 7 (by decide +kernel) rfl⟩, fun h => absurd h (by decide)⟩
theorem kX2_write : fc_mp (mX2_write, 1, 0) := ⟨⟨fc_G_of 731 (by decide +kernel) rfl, fc_G_of 115 (by decide +kernel) rfl, by decide +kernel, by decide⟩, fun _ => ⟨fc_G_of 729 (by decide +kernel) rfl, fc_G_of 730 (by decide +kernel) rfl⟩, fun h => absurd h (by decide)⟩
theorem kX2_valueAt : fc_mp (mX2_valueAt, 4, 0) := ⟨⟨fc_G_of 906 (by decide +kernel) rfl, fc_G_of 115 (by decide +kernel) rfl, by decide +kernel, by decide⟩, fun _ => ⟨fc_G_of 904 (by decide +kernel) rfl, fc_G_of 905 (by decide +kernel) rfl⟩, fun h => absurd h (by decide)⟩
theorem kX2_operand : fc_mp (mX2_operand, 5, 1) := ⟨⟨fc_G_of 909 (by decide +kernel) rfl, fc_G_of 115 (by decide +kernel) rfl, by decide +kernel, by decide⟩, fun h => absurd h (by decide), fun _ => fc_G_of 908 (by decide +kernel) rfl⟩
theorem kX2_joined : fc_mp (mX2_joined, 3, 1) := ⟨⟨fc_G_of 912 (by decide +kernel) rfl, fc_G_of 115 (by decide +kernel) rfl, by decide +kernel, by decide⟩, fun h => absurd h (by decide), fun _ => fc_G_of 911 (by decide +kernel) rfl⟩
theorem kX3_read : fc_mp (mX3_read, 2, 0) := ⟨⟨fc_G_of 719 (by decide +kernel) rfl, fc_G_of 109 (by decide +kernel) rfl, by decide +kernel, by decide⟩, fun _ => ⟨fc_G_of 717 (by decide +kernel) rfl, fc_G_of 718 (by decide +kernel) rfl⟩, fun h => absurd h (by decide)⟩
theorem kX3_readPart : fc_mp (mX3_readPart, 2, 0) := ⟨⟨fc_G_of 735 (by decide +kernel) rfl, fc_G_of 109 (by decide +kernel) rfl, by decide +kernel, by decide⟩, fun _ => ⟨fc_G_of 734 (by decide +kernel) rfl, fc_G_of 9 (by decide +kernel) rfl⟩, fun h => absurd h (by decide)⟩
theorem kX3_readBehind : fc_mp (mX3_readBehind, 2, 0) := ⟨⟨fc_G_of 750 (by decide +kernel) rfl, fc_G_of 109 (by decide +kernel) rfl, by decide +kernel, by decide⟩, fun _ => ⟨fc_G_of 749 (by decide +kernel) rfl, fc_G_of 12 (by decide +kernel) rfl⟩, fun h => absurd h (by decide)⟩
theorem kX3_closeNots : fc_mp (mX3_closeNots, 1, 0) := ⟨⟨fc_G_of 746 (by decide +kernel) rfl, fc_G_of 109 (by decide +kernel) rfl, by decide +kernel, by decide⟩, fun _ => ⟨fc_G_of 745 (by decide +kernel) rfl, fc_G_of 11 (by decide +kernel) rfl⟩, fun h => absurd h (by decide)⟩
theorem kX3_await : fc_mp (mX3_await, 1, 0) := ⟨⟨fc_G_of 742 (by decide +kernel) rfl, fc_G_of 109 (by decide +kernel) rfl, by decide +kernel, by decide⟩, fun _ => ⟨fc_G_of 741 (by decide +kernel) rfl, fc_G_of 10 (by decide +kernel) rfl⟩, fun h => absurd h (by decide)⟩
theorem kX3_writeDown : fc_mp (mX3_writeDown, 2, 0) := ⟨⟨fc_G_of 724 (by decide +kernel) rfl, fc_G_of 109 (by decide +kernel) rfl, by decide +kernel, by decide⟩, fun _ => ⟨fc_G_of 723 (by decide +kernel) rfl, fc_G_of 8 (by decide +kernel) rfl⟩, fun h => absurd h (by decide)⟩
theorem kX3_rankOf : fc_mp (mX3_rankOf, 1, 1) := ⟨⟨fc_G_of 727 (by decide +kernel) rfl, fc_G_of 109 (by decide +kernel) rfl, by decide +kernel, by decide⟩, fun h => absurd h (by decide), fun _ => fc_G_of 726 (by decide +kernel) rfl⟩
theorem kX4_forget : fc_mp (mX4_forget, 0, 0) := ⟨⟨fc_G_of 776 (by decide +kernel) rfl, fc_G_of 112 (by decide +kernel) rfl, by decide +kernel, by decide⟩, fun _ => ⟨fc_G_of 774 (by decide +kernel) rfl, fc_G_of 775 (by decide +kernel) rfl⟩, fun h => absurd h (by decide)⟩
theorem kX4_keep : fc_mp (mX4_keep, 1, 0) := ⟨⟨fc_G_of 861 (by decide +kernel) rfl, fc_G_of 112 (by decide +kernel) rfl, by decide +kernel, by decide⟩, fun _ => ⟨fc_G_of 859 (by decide +kernel) rfl, fc_G_of 860 (by decide +kernel) rfl⟩, fun h => absurd h (by decide)⟩
theorem kX4_bringBack : fc_mp (mX4_bringBack, 1, 0) := ⟨⟨fc_G_of 950 (by decide +kernel) rfl, fc_G_of 112 (by decide +kernel) rfl, by decide +kernel, by decide⟩, fun _ => ⟨fc_G_of 948 (by decide +kernel) rfl, fc_G_of 949 (by decide +kernel) rfl⟩, fun h => absurd h (by decide)⟩
theorem kX4_lay : fc_mp (mX4_lay, 3, 0) := ⟨⟨fc_G_of 1188 (by decide +kernel) rfl, fc_G_of 112 (by decide +kernel) rfl, by decide +kernel, by decide⟩, fun _ => ⟨fc_G_of 1186 (by decide +kernel) rfl, fc_G_of 1187 (by decide +kernel) rfl⟩, fun h => absurd h (by decide)⟩
theorem kX4_goBack : fc_mp (mX4_goBack, 3, 0) := ⟨⟨fc_G_of 1180 (by decide +kernel) rfl, fc_G_of 112 (by decide +kernel) rfl, by decide +kernel, by decide⟩, fun _ => ⟨fc_G_of 1178 (by decide +kernel) rfl, fc_G_of 1179 (by decide +kernel) rfl⟩, fun h => absurd h (by decide)⟩
theorem kX5_read : fc_mp (mX5_read, 2, 0) := ⟨⟨fc_G_of 785 (by decide +kernel) rfl, fc_G_of 116 (by decide +kernel) rfl, by decide +kernel, by decide⟩, fun _ => ⟨fc_G_of 783 (by decide +kernel) rfl, fc_G_of 784 (by decide +kernel) rfl⟩, fun h => absurd h (by decide)⟩
theorem kX5_readLine : fc_mp (mX5_readLine, 2, 0) := ⟨⟨fc_G_of 790 (by decide +kernel) rfl, fc_G_of 116 (by decide +kernel) rfl, by decide +kernel, by decide⟩, fun _ => ⟨fc_G_of 789 (by decide +kernel) rfl, fc_G_of 14 (by decide +kernel) rfl⟩, fun h => absurd h (by decide)⟩
theorem kX5_readNames : fc_mp (mX5_readNames, 3, 0) := ⟨⟨fc_G_of 797 (by decide +kernel) rfl, fc_G_of 116 (by decide +kernel) rfl, by decide +kernel, by decide⟩, fun _ => ⟨fc_G_of 796 (by decide +kernel) rfl, fc_G_of 15 (by decide +kernel) rfl⟩, fun h => absurd h (by decide)⟩
theorem kX5_play : fc_mp (mX5_play, 3, 0) := ⟨⟨fc_G_of 958 (by decide +kernel) rfl, fc_G_of 116 (by decide +kernel) rfl, by decide +kernel, by decide⟩, fun _ => ⟨fc_G_of 956 (by decide +kernel) rfl, fc_G_of 957 (by decide +kernel) rfl⟩, fun h => absurd h (by decide)⟩
theorem kX6_add : fc_mp (mX6_add, 3, 0) := ⟨⟨fc_G_of 1114 (by decide +kernel) rfl, fc_G_of 113 (by decide +kernel) rfl, by decide +kernel, by decide⟩, fun _ => ⟨fc_G_of 1112 (by decide +kernel) rfl, fc_G_of 1113 (by decide +kernel) rfl⟩, fun h => absurd h (by decide)⟩
theorem kX6_copy : fc_mp (mX6_copy, 1, 0) := ⟨⟨fc_G_of 1184 (by decide +kernel) rfl, fc_G_of 113 (by decide +kernel) rfl, by decide +kernel, by decide⟩, fun _ => ⟨fc_G_of 1182 (by decide +kernel) rfl, fc_G_of 1183 (by decide +kernel) rfl⟩, fun h => absurd h (by decide)⟩
theorem kX7_begin : fc_mp (mX7_begin, 1, 0) := ⟨⟨fc_G_of 772 (by decide +kernel) rfl, fc_G_of 111 (by decide +kernel) rfl, by decide +kernel, by decide⟩, fun _ => ⟨fc_G_of 770 (by decide +kernel) rfl, fc_G_of 771 (by decide +kernel) rfl⟩, fun h => absurd h (by decide)⟩
theorem kX7_copy : fc_mp (mX7_copy, 1, 0) := ⟨⟨fc_G_of 865 (by decide +kernel) rfl, fc_G_of 111 (by decide +kernel) rfl, by decide +kernel, by decide⟩, fun _ => ⟨fc_G_of 863 (by decide +kernel) rfl, fc_G_of 864 (by decide +kernel) rfl⟩, fun h => absurd h (by decide)⟩
theorem kX7_bitsAt : fc_mp (mX7_bitsAt, 2, 0) := ⟨⟨fc_G_of 811 (by decide +kernel) rfl, fc_G_of 111 (by decide +kernel) rfl, by decide +kernel, by decide⟩, fun _ => ⟨fc_G_of 809 (by decide +kernel) rfl, fc_G_of 810 (by decide +kernel) rfl⟩, fun h => absurd h (by decide)⟩
theorem kX7_strayThings : fc_mp (mX7_strayThings, 1, 0) := ⟨⟨fc_G_of 1031 (by decide +kernel) rfl, fc_G_of 111 (by decide +kernel) rfl, by decide +kernel, by decide⟩, fun _ => ⟨fc_G_of 1029 (by decide +kernel) rfl, fc_G_of 1030 (by decide +kernel) rfl⟩, fun h => absurd h (by decide)⟩
theorem kX7_newsOfAll : fc_mp (mX7_newsOfAll, 1, 0) := ⟨⟨fc_G_of 1070 (by decide +kernel) rfl, fc_G_of 111 (by decide +kernel) rfl, by decide +kernel, by decide⟩, fun _ => ⟨fc_G_of 1068 (by decide +kernel) rfl, fc_G_of 1069 (by decide +kernel) rfl⟩, fun h => absurd h (by decide)⟩
theorem kX7_isReady : fc_mp (mX7_isReady, 2, 0) := ⟨⟨fc_G_of 832 (by decide +kernel) rfl, fc_G_of 111 (by decide +kernel) rfl, by decide +kernel, by decide⟩, fun _ => ⟨fc_G_of 830 (by decide +kernel) rfl, fc_G_of 831 (by decide +kernel) rfl⟩, fun h => absurd h (by decide)⟩
theorem kX7_minutesOver : fc_mp (mX7_minutesOver, 3, 0) := ⟨⟨fc_G_of 981 (by decide +kernel) rfl, fc_G_of 111 (by decide +kernel) rfl, by decide +kernel, by decide⟩, fun _ => ⟨fc_G_of 979 (by decide +kernel) rfl, fc_G_of 980 (by decide +kernel) rfl⟩, fun h => absurd h (by decide)⟩
theorem kX7_canWalk : fc_mp (mX7_canWalk, 3, 0) := ⟨⟨fc_G_of 853 (by decide +kernel) rfl, fc_G_of 111 (by decide +kernel) rfl, by decide +kernel, by decide⟩, fun _ => ⟨fc_G_of 851 (by decide +kernel) rfl, fc_G_of 852 (by decide +kernel) rfl⟩, fun h => absurd h (by decide)⟩
theorem kX7_goTo : fc_mp (mX7_goTo, 3, 0) := ⟨⟨fc_G_of 873 (by decide +kernel) rfl, fc_G_of 111 (by decide +kernel) rfl, by decide +kernel, by decide⟩, fun _ => ⟨fc_G_of 871 (by decide +kernel) rfl, fc_G_of 872 (by decide +kernel) rfl⟩, fun h => absurd h (by decide)⟩
theorem kX7_canGive : fc_mp (mX7_canGive, 3, 0) := ⟨⟨fc_G_of 881 (by decide +kernel) rfl, fc_G_of 111 (by decide +kernel) rfl, by decide +kernel, by decide⟩, fun _ => ⟨fc_G_of 879 (by decide +kernel) rfl, fc_G_of 880 (by decide +kernel) rfl⟩, fun h => absurd h (by decide)⟩
theorem kX7_handOver : fc_mp (mX7_handOver, 3, 0) := ⟨⟨fc_G_of 886 (by decide +kernel) rfl, fc_G_of 111 (by decide +kernel) rfl, by decide +kernel, by decide⟩, fun _ => ⟨fc_G_of 884 (by decide +kernel) rfl, fc_G_of 885 (by decide +kernel) rfl⟩, fun h => absurd h (by decide)⟩
theorem kX7_canVow : fc_mp (mX7_canVow, 3, 0) := ⟨⟨fc_G_of 920 (by decide +kernel) rfl, fc_G_of 111 (by decide +kernel) rfl, by decide +kernel, by decide⟩, fun _ => ⟨fc_G_of 918 (by decide +kernel) rfl, fc_G_of 919 (by decide +kernel) rfl⟩, fun h => absurd h (by decide)⟩
theorem kX7_pledge : fc_mp (mX7_pledge, 3, 0) := ⟨⟨fc_G_of 924 (by decide +kernel) rfl, fc_G_of 111 (by decide +kernel) rfl, by decide +kernel, by decide⟩, fun _ => ⟨fc_G_of 922 (by decide +kernel) rfl, fc_G_of 923 (by decide +kernel) rfl⟩, fun h => absurd h (by decide)⟩
theorem kX7_giftBinds : fc_mp (mX7_giftBinds, 4, 0) := ⟨⟨fc_G_of 890 (by decide +kernel) rfl, fc_G_of 111 (by decide +kernel) rfl, by decide +kernel, by decide⟩, fun _ => ⟨fc_G_of 888 (by decide +kernel) rfl, fc_G_of 889 (by decide +kernel) rfl⟩, fun h => absurd h (by decide)⟩
theorem kX7_isBinding : fc_mp (mX7_isBinding, 5, 0) := ⟨⟨fc_G_of 894 (by decide +kernel) rfl, fc_G_of 111 (by decide +kernel) rfl, by decide +kernel, by decide⟩, fun _ => ⟨fc_G_of 893 (by decide +kernel) rfl, fc_G_of 17 (by decide +kernel) rfl⟩, fun h => absurd h (by decide)⟩
theorem kX7_pass : fc_mp (mX7_pass, 1, 0) := ⟨⟨fc_G_of 932 (by decide +kernel) rfl, fc_G_of 111 (by decide +kernel) rfl, by decide +kernel, by decide⟩, fun _ => ⟨fc_G_of 930 (by decide +kernel) rfl, fc_G_of 931 (by decide +kernel) rfl⟩, fun h => absurd h (by decide)⟩
theorem kX7_shareNews : fc_mp (mX7_shareNews, 2, 0) := ⟨⟨fc_G_of 936 (by decide +kernel) rfl, fc_G_of 111 (by decide +kernel) rfl, by decide +kernel, by decide⟩, fun _ => ⟨fc_G_of 935 (by decide +kernel) rfl, fc_G_of 18 (by decide +kernel) rfl⟩, fun h => absurd h (by decide)⟩
theorem kX7_riseSmoke : fc_mp (mX7_riseSmoke, 1, 0) := ⟨⟨fc_G_of 941 (by decide +kernel) rfl, fc_G_of 111 (by decide +kernel) rfl, by decide +kernel, by decide⟩, fun _ => ⟨fc_G_of 940 (by decide +kernel) rfl, fc_G_of 19 (by decide +kernel) rfl⟩, fun h => absurd h (by decide)⟩
theorem kX8_put : fc_mp (mX8_put, 1, 0) := ⟨⟨fc_G_of 510 (by decide +kernel) rfl, fc_G_of 107 (by decide +kernel) rfl, by decide +kernel, by decide⟩, fun _ => ⟨fc_G_of 508 (by decide +kernel) rfl, fc_G_of 509 (by decide +kernel) rfl⟩, fun h => absurd h (by decide)⟩
theorem kX8_clear : fc_mp (mX8_clear, 0, 0) := ⟨⟨fc_G_of 755 (by decide +kernel) rfl, fc_G_of 107 (by decide +kernel) rfl, by decide +kernel, by decide⟩, fun _ => ⟨fc_G_of 753 (by decide +kernel) rfl, fc_G_of 754 (by decide +kernel) rfl⟩, fun h => absurd h (by decide)⟩
theorem kX8_open : fc_mp (mX8_open, 0, 0) := ⟨⟨fc_G_of 532 (by decide +kernel) rfl, fc_G_of 107 (by decide +kernel) rfl, by decide +kernel, by decide⟩, fun _ => ⟨fc_G_of 530 (by decide +kernel) rfl, fc_G_of 531 (by decide +kernel) rfl⟩, fun h => absurd h (by decide)⟩
theorem kX8_next : fc_mp (mX8_next, 0, 0) := ⟨⟨fc_G_of 536 (by decide +kernel) rfl, fc_G_of 107 (by decide +kernel) rfl, by decide +kernel, by decide⟩, fun _ => ⟨fc_G_of 534 (by decide +kernel) rfl, fc_G_of 535 (by decide +kernel) rfl⟩, fun h => absurd h (by decide)⟩
theorem kX8_readWord : fc_mp (mX8_readWord, 0, 0) := ⟨⟨fc_G_of 540 (by decide +kernel) rfl, fc_G_of 107 (by decide +kernel) rfl, by decide +kernel, by decide⟩, fun _ => ⟨fc_G_of 539 (by decide +kernel) rfl, fc_G_of 0 (by decide +kernel) rfl⟩, fun h => absurd h (by decide)⟩
theorem kX8_readNumber : fc_mp (mX8_readNumber, 0, 0) := ⟨⟨fc_G_of 598 (by decide +kernel) rfl, fc_G_of 107 (by decide +kernel) rfl, by decide +kernel, by decide⟩, fun _ => ⟨fc_G_of 597 (by decide +kernel) rfl, fc_G_of 1 (by decide +kernel) rfl⟩, fun h => absurd h (by decide)⟩
theorem kX8_cellIn : fc_mp (mX8_cellIn, 1, 0) := ⟨⟨fc_G_of 546 (by decide +kernel) rfl, fc_G_of 107 (by decide +kernel) rfl, by decide +kernel, by decide⟩, fun _ => ⟨fc_G_of 544 (by decide +kernel) rfl, fc_G_of 545 (by decide +kernel) rfl⟩, fun h => absurd h (by decide)⟩
theorem kX8_fail : fc_mp (mX8_fail, 1, 0) := ⟨⟨fc_G_of 666 (by decide +kernel) rfl, fc_G_of 107 (by decide +kernel) rfl, by decide +kernel, by decide⟩, fun _ => ⟨fc_G_of 664 (by decide +kernel) rfl, fc_G_of 665 (by decide +kernel) rfl⟩, fun h => absurd h (by decide)⟩
theorem kX8_take : fc_mp (mX8_take, 1, 0) := ⟨⟨fc_G_of 699 (by decide +kernel) rfl, fc_G_of 107 (by decide +kernel) rfl, by decide +kernel, by decide⟩, fun _ => ⟨fc_G_of 697 (by decide +kernel) rfl, fc_G_of 698 (by decide +kernel) rfl⟩, fun h => absurd h (by decide)⟩
theorem kX8_isNumber : fc_mp (mX8_isNumber, 2, 0) := ⟨⟨fc_G_of 703 (by decide +kernel) rfl, fc_G_of 107 (by decide +kernel) rfl, by decide +kernel, by decide⟩, fun _ => ⟨fc_G_of 701 (by decide +kernel) rfl, fc_G_of 702 (by decide +kernel) rfl⟩, fun h => absurd h (by decide)⟩
theorem kX8_known : fc_mp (mX8_known, 2, 0) := ⟨⟨fc_G_of 685 (by decide +kernel) rfl, fc_G_of 107 (by decide +kernel) rfl, by decide +kernel, by decide⟩, fun _ => ⟨fc_G_of 683 (by decide +kernel) rfl, fc_G_of 684 (by decide +kernel) rfl⟩, fun h => absurd h (by decide)⟩
theorem kX9_measure : fc_mp (mX9_measure, 1, 0) := ⟨⟨fc_G_of 759 (by decide +kernel) rfl, fc_G_of 110 (by decide +kernel) rfl, by decide +kernel, by decide⟩, fun _ => ⟨fc_G_of 757 (by decide +kernel) rfl, fc_G_of 758 (by decide +kernel) rfl⟩, fun h => absurd h (by decide)⟩
theorem kX9_measureFrom : fc_mp (mX9_measureFrom, 2, 0) := ⟨⟨fc_G_of 763 (by decide +kernel) rfl, fc_G_of 110 (by decide +kernel) rfl, by decide +kernel, by decide⟩, fun _ => ⟨fc_G_of 762 (by decide +kernel) rfl, fc_G_of 13 (by decide +kernel) rfl⟩, fun h => absurd h (by decide)⟩
theorem kX9_neighbours : fc_mp (mX9_neighbours, 2, 1) := ⟨⟨fc_G_of 768 (by decide +kernel) rfl, fc_G_of 110 (by decide +kernel) rfl, by decide +kernel, by decide⟩, fun h => absurd h (by decide), fun _ => fc_G_of 767 (by decide +kernel) rfl⟩
theorem kX9_spread : fc_mp (mX9_spread, 3, 0) := ⟨⟨fc_G_of 1015 (by decide +kernel) rfl, fc_G_of 110 (by decide +kernel) rfl, by decide +kernel, by decide⟩, fun _ => ⟨fc_G_of 1013 (by decide +kernel) rfl, fc_G_of 1014 (by decide +kernel) rfl⟩, fun h => absurd h (by decide)⟩
theorem kX9_isCut : fc_mp (mX9_isCut, 2, 0) := ⟨⟨fc_G_of 1092 (by decide +kernel) rfl, fc_G_of 110 (by decide +kernel) rfl, by decide +kernel, by decide⟩, fun _ => ⟨fc_G_of 1090 (by decide +kernel) rfl, fc_G_of 1091 (by decide +kernel) rfl⟩, fun h => absurd h (by decide)⟩
theorem kX9_farthestFrom : fc_mp (mX9_farthestFrom, 2, 0) := ⟨⟨fc_G_of 1100 (by decide +kernel) rfl, fc_G_of 110 (by decide +kernel) rfl, by decide +kernel, by decide⟩, fun _ => ⟨fc_G_of 1098 (by decide +kernel) rfl, fc_G_of 1099 (by decide +kernel) rfl⟩, fun h => absurd h (by decide)⟩
theorem kX9_pathsOfTour : fc_mp (mX9_pathsOfTour, 2, 0) := ⟨⟨fc_G_of 1011 (by decide +kernel) rfl, fc_G_of 110 (by decide +kernel) rfl, by decide +kernel, by decide⟩, fun _ => ⟨fc_G_of 1009 (by decide +kernel) rfl, fc_G_of 1010 (by decide +kernel) rfl⟩, fun h => absurd h (by decide)⟩
theorem kX9_stepOn : fc_mp (mX9_stepOn, 1, 0) := ⟨⟨fc_G_of 1019 (by decide +kernel) rfl, fc_G_of 110 (by decide +kernel) rfl, by decide +kernel, by decide⟩, fun _ => ⟨fc_G_of 1018 (by decide +kernel) rfl, fc_G_of 23 (by decide +kernel) rfl⟩, fun h => absurd h (by decide)⟩
theorem kX10_feed : fc_mp (mX10_feed, 3, 0) := ⟨⟨fc_G_of 506 (by decide +kernel) rfl, fc_G_of 106 (by decide +kernel) rfl, by decide +kernel, by decide⟩, fun _ => ⟨fc_G_of 504 (by decide +kernel) rfl, fc_G_of 505 (by decide +kernel) rfl⟩, fun h => absurd h (by decide)⟩
theorem kX10_land : fc_mp (mX10_land, 0, 0) := ⟨⟨fc_G_of 517 (by decide +kernel) rfl, fc_G_of 106 (by decide +kernel) rfl, by decide +kernel, by decide⟩, fun _ => ⟨fc_G_of 515 (by decide +kernel) rfl, fc_G_of 516 (by decide +kernel) rfl⟩, fun h => absurd h (by decide)⟩
theorem kX10_morning : fc_mp (mX10_morning, 0, 0) := ⟨⟨fc_G_of 781 (by decide +kernel) rfl, fc_G_of 106 (by decide +kernel) rfl, by decide +kernel, by decide⟩, fun _ => ⟨fc_G_of 779 (by decide +kernel) rfl, fc_G_of 780 (by decide +kernel) rfl⟩, fun h => absurd h (by decide)⟩
theorem kX10_place : fc_mp (mX10_place, 2, 0) := ⟨⟨fc_G_of 803 (by decide +kernel) rfl, fc_G_of 106 (by decide +kernel) rfl, by decide +kernel, by decide⟩, fun _ => ⟨fc_G_of 801 (by decide +kernel) rfl, fc_G_of 802 (by decide +kernel) rfl⟩, fun h => absurd h (by decide)⟩
theorem kX10_person : fc_mp (mX10_person, 2, 0) := ⟨⟨fc_G_of 823 (by decide +kernel) rfl, fc_G_of 106 (by decide +kernel) rfl, by decide +kernel, by decide⟩, fun _ => ⟨fc_G_of 821 (by decide +kernel) rfl, fc_G_of 822 (by decide +kernel) rfl⟩, fun h => absurd h (by decide)⟩
theorem kX10_thing : fc_mp (mX10_thing, 2, 0) := ⟨⟨fc_G_of 841 (by decide +kernel) rfl, fc_G_of 106 (by decide +kernel) rfl, by decide +kernel, by decide⟩, fun _ => ⟨fc_G_of 839 (by decide +kernel) rfl, fc_G_of 840 (by decide +kernel) rfl⟩, fun h => absurd h (by decide)⟩
theorem kX10_walk : fc_mp (mX10_walk, 2, 0) := ⟨⟨fc_G_of 849 (by decide +kernel) rfl, fc_G_of 106 (by decide +kernel) rfl, by decide +kernel, by decide⟩, fun _ => ⟨fc_G_of 847 (by decide +kernel) rfl, fc_G_of 848 (by decide +kernel) rfl⟩, fun h => absurd h (by decide)⟩
theorem kX10_give : fc_mp (mX10_give, 2, 0) := ⟨⟨fc_G_of 877 (by decide +kernel) rfl, fc_G_of 106 (by decide +kernel) rfl, by decide +kernel, by decide⟩, fun _ => ⟨fc_G_of 875 (by decide +kernel) rfl, fc_G_of 876 (by decide +kernel) rfl⟩, fun h => absurd h (by decide)⟩
theorem kX10_vow : fc_mp (mX10_vow, 2, 0) := ⟨⟨fc_G_of 916 (by decide +kernel) rfl, fc_G_of 106 (by decide +kernel) rfl, by decide +kernel, by decide⟩, fun _ => ⟨fc_G_of 914 (by decide +kernel) rfl, fc_G_of 915 (by decide +kernel) rfl⟩, fun h => absurd h (by decide)⟩
theorem kX10_minute : fc_mp (mX10_minute, 0, 0) := ⟨⟨fc_G_of 928 (by decide +kernel) rfl, fc_G_of 106 (by decide +kernel) rfl, by decide +kernel, by decide⟩, fun _ => ⟨fc_G_of 926 (by decide +kernel) rfl, fc_G_of 927 (by decide +kernel) rfl⟩, fun h => absurd h (by decide)⟩
theorem kX10_undo : fc_mp (mX10_undo, 0, 0) := ⟨⟨fc_G_of 946 (by decide +kernel) rfl, fc_G_of 106 (by decide +kernel) rfl, by decide +kernel, by decide⟩, fun _ => ⟨fc_G_of 944 (by decide +kernel) rfl, fc_G_of 945 (by decide +kernel) rfl⟩, fun h => absurd h (by decide)⟩
theorem kX10_judged : fc_mp (mX10_judged, 1, 0) := ⟨⟨fc_G_of 954 (by decide +kernel) rfl, fc_G_of 106 (by decide +kernel) rfl, by decide +kernel, by decide⟩, fun _ => ⟨fc_G_of 952 (by decide +kernel) rfl, fc_G_of 953 (by decide +kernel) rfl⟩, fun h => absurd h (by decide)⟩
theorem kX10_soon : fc_mp (mX10_soon, 2, 0) := ⟨⟨fc_G_of 973 (by decide +kernel) rfl, fc_G_of 106 (by decide +kernel) rfl, by decide +kernel, by decide⟩, fun _ => ⟨fc_G_of 971 (by decide +kernel) rfl, fc_G_of 972 (by decide +kernel) rfl⟩, fun h => absurd h (by decide)⟩
theorem kX10_meet : fc_mp (mX10_meet, 2, 0) := ⟨⟨fc_G_of 993 (by decide +kernel) rfl, fc_G_of 106 (by decide +kernel) rfl, by decide +kernel, by decide⟩, fun _ => ⟨fc_G_of 991 (by decide +kernel) rfl, fc_G_of 992 (by decide +kernel) rfl⟩, fun h => absurd h (by decide)⟩
theorem kX10_all : fc_mp (mX10_all, 1, 0) := ⟨⟨fc_G_of 999 (by decide +kernel) rfl, fc_G_of 106 (by decide +kernel) rfl, by decide +kernel, by decide⟩, fun _ => ⟨fc_G_of 997 (by decide +kernel) rfl, fc_G_of 998 (by decide +kernel) rfl⟩, fun h => absurd h (by decide)⟩
theorem kX10_tour : fc_mp (mX10_tour, 1, 0) := ⟨⟨fc_G_of 1007 (by decide +kernel) rfl, fc_G_of 106 (by decide +kernel) rfl, by decide +kernel, by decide⟩, fun _ => ⟨fc_G_of 1005 (by decide +kernel) rfl, fc_G_of 1006 (by decide +kernel) rfl⟩, fun h => absurd h (by decide)⟩
theorem kX10_intime : fc_mp (mX10_intime, 2, 0) := ⟨⟨fc_G_of 1023 (by decide +kernel) rfl, fc_G_of 106 (by decide +kernel) rfl, by decide +kernel, by decide⟩, fun _ => ⟨fc_G_of 1021 (by decide +kernel) rfl, fc_G_of 1022 (by decide +kernel) rfl⟩, fun h => absurd h (by decide)⟩
theorem kX10_back : fc_mp (mX10_back, 0, 0) := ⟨⟨fc_G_of 1027 (by decide +kernel) rfl, fc_G_of 106 (by decide +kernel) rfl, by decide +kernel, by decide⟩, fun _ => ⟨fc_G_of 1025 (by decide +kernel) rfl, fc_G_of 1026 (by decide +kernel) rfl⟩, fun h => absurd h (by decide)⟩
theorem kX10_could : fc_mp (mX10_could, 1, 0) := ⟨⟨fc_G_of 1035 (by decide +kernel) rfl, fc_G_of 106 (by decide +kernel) rfl, by decide +kernel, by decide⟩, fun _ => ⟨fc_G_of 1033 (by decide +kernel) rfl, fc_G_of 1034 (by decide +kernel) rfl⟩, fun h => absurd h (by decide)⟩
theorem kX10_would : fc_mp (mX10_would, 2, 0) := ⟨⟨fc_G_of 1039 (by decide +kernel) rfl, fc_G_of 106 (by decide +kernel) rfl, by decide +kernel, by decide⟩, fun _ => ⟨fc_G_of 1037 (by decide +kernel) rfl, fc_G_of 1038 (by decide +kernel) rfl⟩, fun h => absurd h (by decide)⟩
theorem kX10_when : fc_mp (mX10_when, 2, 0) := ⟨⟨fc_G_of 1048 (by decide +kernel) rfl, fc_G_of 106 (by decide +kernel) rfl, by decide +kernel, by decide⟩, fun _ => ⟨fc_G_of 1046 (by decide +kernel) rfl, fc_G_of 1047 (by decide +kernel) rfl⟩, fun h => absurd h (by decide)⟩
theorem kX10_vows : fc_mp (mX10_vows, 2, 0) := ⟨⟨fc_G_of 1052 (by decide +kernel) rfl, fc_G_of 106 (by decide +kernel) rfl, by decide +kernel, by decide⟩, fun _ => ⟨fc_G_of 1050 (by decide +kernel) rfl, fc_G_of 1051 (by decide +kernel) rfl⟩, fun h => absurd h (by decide)⟩
theorem kX10_sees : fc_mp (mX10_sees, 1, 0) := ⟨⟨fc_G_of 1056 (by decide +kernel) rfl, fc_G_of 106 (by decide +kernel) rfl, by decide +kernel, by decide⟩, fun _ => ⟨fc_G_of 1054 (by decide +kernel) rfl, fc_G_of 1055 (by decide +kernel) rfl⟩, fun h => absurd h (by decide)⟩
theorem kX10_heard : fc_mp (mX10_heard, 1, 0) := ⟨⟨fc_G_of 1061 (by decide +kernel) rfl, fc_G_of 106 (by decide +kernel) rfl, by decide +kernel, by decide⟩, fun _ => ⟨fc_G_of 1059 (by decide +kernel) rfl, fc_G_of 1060 (by decide +kernel) rfl⟩, fun h => absurd h (by decide)⟩
theorem kX10_news : fc_mp (mX10_news, 0, 0) := ⟨⟨fc_G_of 1065 (by decide +kernel) rfl, fc_G_of 106 (by decide +kernel) rfl, by decide +kernel, by decide⟩, fun _ => ⟨fc_G_of 1063 (by decide +kernel) rfl, fc_G_of 1064 (by decide +kernel) rfl⟩, fun h => absurd h (by decide)⟩
theorem kX10_alone : fc_mp (mX10_alone, 0, 0) := ⟨⟨fc_G_of 1074 (by decide +kernel) rfl, fc_G_of 106 (by decide +kernel) rfl, by decide +kernel, by decide⟩, fun _ => ⟨fc_G_of 1072 (by decide +kernel) rfl, fc_G_of 1073 (by decide +kernel) rfl⟩, fun h => absurd h (by decide)⟩
theorem kX10_reach : fc_mp (mX10_reach, 1, 0) := ⟨⟨fc_G_of 1079 (by decide +kernel) rfl, fc_G_of 106 (by decide +kernel) rfl, by decide +kernel, by decide⟩, fun _ => ⟨fc_G_of 1077 (by decide +kernel) rfl, fc_G_of 1078 (by decide +kernel) rfl⟩, fun h => absurd h (by decide)⟩
theorem kX10_far : fc_mp (mX10_far, 2, 0) := ⟨⟨fc_G_of 1084 (by decide +kernel) rfl, fc_G_of 106 (by decide +kernel) rfl, by decide +kernel, by decide⟩, fun _ => ⟨fc_G_of 1082 (by decide +kernel) rfl, fc_G_of 1083 (by decide +kernel) rfl⟩, fun h => absurd h (by decide)⟩
theorem kX10_cuts : fc_mp (mX10_cuts, 0, 0) := ⟨⟨fc_G_of 1088 (by decide +kernel) rfl, fc_G_of 106 (by decide +kernel) rfl, by decide +kernel, by decide⟩, fun _ => ⟨fc_G_of 1086 (by decide +kernel) rfl, fc_G_of 1087 (by decide +kernel) rfl⟩, fun h => absurd h (by decide)⟩
theorem kX10_hub : fc_mp (mX10_hub, 0, 0) := ⟨⟨fc_G_of 1096 (by decide +kernel) rfl, fc_G_of 106 (by decide +kernel) rfl, by decide +kernel, by decide⟩, fun _ => ⟨fc_G_of 1094 (by decide +kernel) rfl, fc_G_of 1095 (by decide +kernel) rfl⟩, fun h => absurd h (by decide)⟩
theorem kX10_links : fc_mp (mX10_links, 1, 0) := ⟨⟨fc_G_of 1105 (by decide +kernel) rfl, fc_G_of 106 (by decide +kernel) rfl, by decide +kernel, by decide⟩, fun _ => ⟨fc_G_of 1103 (by decide +kernel) rfl, fc_G_of 1104 (by decide +kernel) rfl⟩, fun h => absurd h (by decide)⟩
theorem kX10_see : fc_mp (mX10_see, 3, 0) := ⟨⟨fc_G_of 1109 (by decide +kernel) rfl, fc_G_of 106 (by decide +kernel) rfl, by decide +kernel, by decide⟩, fun _ => ⟨fc_G_of 1107 (by decide +kernel) rfl, fc_G_of 1108 (by decide +kernel) rfl⟩, fun h => absurd h (by decide)⟩
theorem kX10_who : fc_mp (mX10_who, 0, 0) := ⟨⟨fc_G_of 1118 (by decide +kernel) rfl, fc_G_of 106 (by decide +kernel) rfl, by decide +kernel, by decide⟩, fun _ => ⟨fc_G_of 1116 (by decide +kernel) rfl, fc_G_of 1117 (by decide +kernel) rfl⟩, fun h => absurd h (by decide)⟩
theorem kX10_ask : fc_mp (mX10_ask, 0, 0) := ⟨⟨fc_G_of 1126 (by decide +kernel) rfl, fc_G_of 106 (by decide +kernel) rfl, by decide +kernel, by decide⟩, fun _ => ⟨fc_G_of 1124 (by decide +kernel) rfl, fc_G_of 1125 (by decide +kernel) rfl⟩, fun h => absurd h (by decide)⟩
theorem kX10_wide : fc_mp (mX10_wide, 0, 0) := ⟨⟨fc_G_of 1135 (by decide +kernel) rfl, fc_G_of 106 (by decide +kernel) rfl, by decide +kernel, by decide⟩, fun _ => ⟨fc_G_of 1133 (by decide +kernel) rfl, fc_G_of 1134 (by decide +kernel) rfl⟩, fun h => absurd h (by decide)⟩
theorem kX10_has : fc_mp (mX10_has, 2, 0) := ⟨⟨fc_G_of 1139 (by decide +kernel) rfl, fc_G_of 106 (by decide +kernel) rfl, by decide +kernel, by decide⟩, fun _ => ⟨fc_G_of 1137 (by decide +kernel) rfl, fc_G_of 1138 (by decide +kernel) rfl⟩, fun h => absurd h (by decide)⟩
theorem kX10_sleeps : fc_mp (mX10_sleeps, 1, 0) := ⟨⟨fc_G_of 1147 (by decide +kernel) rfl, fc_G_of 106 (by decide +kernel) rfl, by decide +kernel, by decide⟩, fun _ => ⟨fc_G_of 1145 (by decide +kernel) rfl, fc_G_of 1146 (by decide +kernel) rfl⟩, fun h => absurd h (by decide)⟩
theorem kX10_rich : fc_mp (mX10_rich, 1, 0) := ⟨⟨fc_G_of 1152 (by decide +kernel) rfl, fc_G_of 106 (by decide +kernel) rfl, by decide +kernel, by decide⟩, fun _ => ⟨fc_G_of 1150 (by decide +kernel) rfl, fc_G_of 1151 (by decide +kernel) rfl⟩, fun h => absurd h (by decide)⟩
theorem kX10_chance : fc_mp (mX10_chance, 2, 0) := ⟨⟨fc_G_of 1156 (by decide +kernel) rfl, fc_G_of 106 (by decide +kernel) rfl, by decide +kernel, by decide⟩, fun _ => ⟨fc_G_of 1154 (by decide +kernel) rfl, fc_G_of 1155 (by decide +kernel) rfl⟩, fun h => absurd h (by decide)⟩
theorem kX10_rests : fc_mp (mX10_rests, 4, 0) := ⟨⟨fc_G_of 1203 (by decide +kernel) rfl, fc_G_of 106 (by decide +kernel) rfl, by decide +kernel, by decide⟩, fun _ => ⟨fc_G_of 1201 (by decide +kernel) rfl, fc_G_of 1202 (by decide +kernel) rfl⟩, fun h => absurd h (by decide)⟩
theorem kX10_mornings : fc_mp (mX10_mornings, 3, 0) := ⟨⟨fc_G_of 1160 (by decide +kernel) rfl, fc_G_of 106 (by decide +kernel) rfl, by decide +kernel, by decide⟩, fun _ => ⟨fc_G_of 1158 (by decide +kernel) rfl, fc_G_of 1159 (by decide +kernel) rfl⟩, fun h => absurd h (by decide)⟩
theorem kX10_mark : fc_mp (mX10_mark, 2, 0) := ⟨⟨fc_G_of 1176 (by decide +kernel) rfl, fc_G_of 106 (by decide +kernel) rfl, by decide +kernel, by decide⟩, fun _ => ⟨fc_G_of 1174 (by decide +kernel) rfl, fc_G_of 1175 (by decide +kernel) rfl⟩, fun h => absurd h (by decide)⟩
theorem kX10_count : fc_mp (mX10_count, 1, 0) := ⟨⟨fc_G_of 1192 (by decide +kernel) rfl, fc_G_of 106 (by decide +kernel) rfl, by decide +kernel, by decide⟩, fun _ => ⟨fc_G_of 1190 (by decide +kernel) rfl, fc_G_of 1191 (by decide +kernel) rfl⟩, fun h => absurd h (by decide)⟩
theorem kX10_isFrom : fc_mp (mX10_isFrom, 3, 1) := ⟨⟨fc_G_of 513 (by decide +kernel) rfl, fc_G_of 106 (by decide +kernel) rfl, by decide +kernel, by decide⟩, fun h => absurd h (by decide), fun _ => fc_G_of 512 (by decide +kernel) rfl⟩
theorem kX10_isIn : fc_mp (mX10_isIn, 2, 1) := ⟨⟨fc_G_of 690 (by decide +kernel) rfl, fc_G_of 106 (by decide +kernel) rfl, by decide +kernel, by decide⟩, fun h => absurd h (by decide), fun _ => fc_G_of 689 (by decide +kernel) rfl⟩
theorem kX10_orNone : fc_mp (mX10_orNone, 1, 1) := ⟨⟨fc_G_of 989 (by decide +kernel) rfl, fc_G_of 106 (by decide +kernel) rfl, by decide +kernel, by decide⟩, fun h => absurd h (by decide), fun _ => fc_G_of 988 (by decide +kernel) rfl⟩
theorem kX10_pairsIn : fc_mp (mX10_pairsIn, 1, 1) := ⟨⟨fc_G_of 1195 (by decide +kernel) rfl, fc_G_of 106 (by decide +kernel) rfl, by decide +kernel, by decide⟩, fun h => absurd h (by decide), fun _ => fc_G_of 1194 (by decide +kernel) rfl⟩
theorem kX10_thingsOf : fc_mp (mX10_thingsOf, 2, 0) := ⟨⟨fc_G_of 837 (by decide +kernel) rfl, fc_G_of 106 (by decide +kernel) rfl, by decide +kernel, by decide⟩, fun _ => ⟨fc_G_of 836 (by decide +kernel) rfl, fc_G_of 16 (by decide +kernel) rfl⟩, fun h => absurd h (by decide)⟩
theorem kX10_worthOf : fc_mp (mX10_worthOf, 2, 0) := ⟨⟨fc_G_of 1143 (by decide +kernel) rfl, fc_G_of 106 (by decide +kernel) rfl, by decide +kernel, by decide⟩, fun _ => ⟨fc_G_of 1142 (by decide +kernel) rfl, fc_G_of 27 (by decide +kernel) rfl⟩, fun h => absurd h (by decide)⟩
theorem kX10_movedThings : fc_mp (mX10_movedThings, 1, 0) := ⟨⟨fc_G_of 969 (by decide +kernel) rfl, fc_G_of 106 (by decide +kernel) rfl, by decide +kernel, by decide⟩, fun _ => ⟨fc_G_of 968 (by decide +kernel) rfl, fc_G_of 20 (by decide +kernel) rfl⟩, fun h => absurd h (by decide)⟩
theorem kX10_minutesTo : fc_mp (mX10_minutesTo, 2, 0) := ⟨⟨fc_G_of 977 (by decide +kernel) rfl, fc_G_of 106 (by decide +kernel) rfl, by decide +kernel, by decide⟩, fun _ => ⟨fc_G_of 976 (by decide +kernel) rfl, fc_G_of 21 (by decide +kernel) rfl⟩, fun h => absurd h (by decide)⟩
theorem kX10_minutesOfAllTo : fc_mp (mX10_minutesOfAllTo, 1, 0) := ⟨⟨fc_G_of 1003 (by decide +kernel) rfl, fc_G_of 106 (by decide +kernel) rfl, by decide +kernel, by decide⟩, fun _ => ⟨fc_G_of 1002 (by decide +kernel) rfl, fc_G_of 22 (by decide +kernel) rfl⟩, fun h => absurd h (by decide)⟩
theorem kX10_isGift : fc_mp (mX10_isGift, 2, 0) := ⟨⟨fc_G_of 1043 (by decide +kernel) rfl, fc_G_of 106 (by decide +kernel) rfl, by decide +kernel, by decide⟩, fun _ => ⟨fc_G_of 1042 (by decide +kernel) rfl, fc_G_of 24 (by decide +kernel) rfl⟩, fun h => absurd h (by decide)⟩
theorem kX10_fitsSeen : fc_mp (mX10_fitsSeen, 1, 0) := ⟨⟨fc_G_of 1122 (by decide +kernel) rfl, fc_G_of 106 (by decide +kernel) rfl, by decide +kernel, by decide⟩, fun _ => ⟨fc_G_of 1121 (by decide +kernel) rfl, fc_G_of 25 (by decide +kernel) rfl⟩, fun h => absurd h (by decide)⟩
theorem kX10_leftAtWorst : fc_mp (mX10_leftAtWorst, 3, 0) := ⟨⟨fc_G_of 1131 (by decide +kernel) rfl, fc_G_of 106 (by decide +kernel) rfl, by decide +kernel, by decide⟩, fun _ => ⟨fc_G_of 1130 (by decide +kernel) rfl, fc_G_of 26 (by decide +kernel) rfl⟩, fun h => absurd h (by decide)⟩
theorem kX10_isRest : fc_mp (mX10_isRest, 4, 1) := ⟨⟨fc_G_of 1271 (by decide +kernel) rfl, fc_G_of 106 (by decide +kernel) rfl, by decide +kernel, by decide⟩, fun h => absurd h (by decide), fun _ => fc_G_of 1270 (by decide +kernel) rfl⟩
theorem kX10_gets : fc_mp (mX10_gets, 5, 1) := ⟨⟨fc_G_of 1274 (by decide +kernel) rfl, fc_G_of 106 (by decide +kernel) rfl, by decide +kernel, by decide⟩, fun h => absurd h (by decide), fun _ => fc_G_of 1273 (by decide +kernel) rfl⟩
theorem kX10_drawBelow : fc_mp (mX10_drawBelow, 1, 0) := ⟨⟨fc_G_of 1168 (by decide +kernel) rfl, fc_G_of 106 (by decide +kernel) rfl, by decide +kernel, by decide⟩, fun _ => ⟨fc_G_of 1167 (by decide +kernel) rfl, fc_G_of 29 (by decide +kernel) rfl⟩, fun h => absurd h (by decide)⟩
theorem kX10_playDrawn : fc_mp (mX10_playDrawn, 0, 0) := ⟨⟨fc_G_of 1164 (by decide +kernel) rfl, fc_G_of 106 (by decide +kernel) rfl, by decide +kernel, by decide⟩, fun _ => ⟨fc_G_of 1163 (by decide +kernel) rfl, fc_G_of 28 (by decide +kernel) rfl⟩, fun h => absurd h (by decide)⟩
theorem kX11_thrown : fc_mp (mX11_thrown, 0, 0) := ⟨⟨fc_G_of 1279 (by decide +kernel) rfl, fc_G_of 117 (by decide +kernel) rfl, by decide +kernel, by decide⟩, fun _ => ⟨fc_G_of 1277 (by decide +kernel) rfl, fc_G_of 1278 (by decide +kernel) rfl⟩, fun h => absurd h (by decide)⟩
theorem kX11_feed : fc_mp (mX11_feed, 3, 0) := ⟨⟨fc_G_of 1283 (by decide +kernel) rfl, fc_G_of 117 (by decide +kernel) rfl, by decide +kernel, by decide⟩, fun _ => ⟨fc_G_of 1281 (by decide +kernel) rfl, fc_G_of 1282 (by decide +kernel) rfl⟩, fun h => absurd h (by decide)⟩
theorem kX11_lay : fc_mp (mX11_lay, 1, 0) := ⟨⟨fc_G_of 1288 (by decide +kernel) rfl, fc_G_of 117 (by decide +kernel) rfl, by decide +kernel, by decide⟩, fun _ => ⟨fc_G_of 1286 (by decide +kernel) rfl, fc_G_of 31 (by decide +kernel) rfl⟩, fun h => absurd h (by decide)⟩
theorem kX11_isLetter : fc_mp (mX11_isLetter, 1, 1) := ⟨⟨fc_G_of 1448 (by decide +kernel) rfl, fc_G_of 117 (by decide +kernel) rfl, by decide +kernel, by decide⟩, fun h => absurd h (by decide), fun _ => fc_G_of 1447 (by decide +kernel) rfl⟩
theorem kX11_isDigit : fc_mp (mX11_isDigit, 1, 1) := ⟨⟨fc_G_of 1455 (by decide +kernel) rfl, fc_G_of 117 (by decide +kernel) rfl, by decide +kernel, by decide⟩, fun h => absurd h (by decide), fun _ => fc_G_of 1454 (by decide +kernel) rfl⟩
theorem kX11_rank : fc_mp (mX11_rank, 1, 1) := ⟨⟨fc_G_of 1452 (by decide +kernel) rfl, fc_G_of 117 (by decide +kernel) rfl, by decide +kernel, by decide⟩, fun h => absurd h (by decide), fun _ => fc_G_of 1451 (by decide +kernel) rfl⟩
theorem kX11_isSignOf : fc_mp (mX11_isSignOf, 1, 1) := ⟨⟨fc_G_of 1460 (by decide +kernel) rfl, fc_G_of 117 (by decide +kernel) rfl, by decide +kernel, by decide⟩, fun h => absurd h (by decide), fun _ => fc_G_of 1459 (by decide +kernel) rfl⟩
theorem kX11_cutAll : fc_mp (mX11_cutAll, 0, 0) := ⟨⟨fc_G_of 1445 (by decide +kernel) rfl, fc_G_of 117 (by decide +kernel) rfl, by decide +kernel, by decide⟩, fun _ => ⟨fc_G_of 1444 (by decide +kernel) rfl, fc_G_of 39 (by decide +kernel) rfl⟩, fun h => absurd h (by decide)⟩
theorem kX11_wrong : fc_mp (mX11_wrong, 1, 0) := ⟨⟨fc_G_of 1476 (by decide +kernel) rfl, fc_G_of 117 (by decide +kernel) rfl, by decide +kernel, by decide⟩, fun _ => ⟨fc_G_of 1475 (by decide +kernel) rfl, fc_G_of 43 (by decide +kernel) rfl⟩, fun h => absurd h (by decide)⟩
theorem kX11_isSign : fc_mp (mX11_isSign, 1, 0) := ⟨⟨fc_G_of 1547 (by decide +kernel) rfl, fc_G_of 117 (by decide +kernel) rfl, by decide +kernel, by decide⟩, fun _ => ⟨fc_G_of 1546 (by decide +kernel) rfl, fc_G_of 60 (by decide +kernel) rfl⟩, fun h => absurd h (by decide)⟩
theorem kX11_isWord : fc_mp (mX11_isWord, 1, 0) := ⟨⟨fc_G_of 1468 (by decide +kernel) rfl, fc_G_of 117 (by decide +kernel) rfl, by decide +kernel, by decide⟩, fun _ => ⟨fc_G_of 1467 (by decide +kernel) rfl, fc_G_of 41 (by decide +kernel) rfl⟩, fun h => absurd h (by decide)⟩
theorem kX11_takeSign : fc_mp (mX11_takeSign, 1, 0) := ⟨⟨fc_G_of 1559 (by decide +kernel) rfl, fc_G_of 117 (by decide +kernel) rfl, by decide +kernel, by decide⟩, fun _ => ⟨fc_G_of 1558 (by decide +kernel) rfl, fc_G_of 63 (by decide +kernel) rfl⟩, fun h => absurd h (by decide)⟩
theorem kX11_hasSign : fc_mp (mX11_hasSign, 1, 0) := ⟨⟨fc_G_of 1555 (by decide +kernel) rfl, fc_G_of 117 (by decide +kernel) rfl, by decide +kernel, by decide⟩, fun _ => ⟨fc_G_of 1554 (by decide +kernel) rfl, fc_G_of 62 (by decide +kernel) rfl⟩, fun h => absurd h (by decide)⟩
theorem kX11_hasWord : fc_mp (mX11_hasWord, 1, 0) := ⟨⟨fc_G_of 1511 (by decide +kernel) rfl, fc_G_of 117 (by decide +kernel) rfl, by decide +kernel, by decide⟩, fun _ => ⟨fc_G_of 1510 (by decide +kernel) rfl, fc_G_of 51 (by decide +kernel) rfl⟩, fun h => absurd h (by decide)⟩
theorem kX11_takeWord : fc_mp (mX11_takeWord, 1, 0) := ⟨⟨fc_G_of 1507 (by decide +kernel) rfl, fc_G_of 117 (by decide +kernel) rfl, by decide +kernel, by decide⟩, fun _ => ⟨fc_G_of 1506 (by decide +kernel) rfl, fc_G_of 50 (by decide +kernel) rfl⟩, fun h => absurd h (by decide)⟩
theorem kX11_within : fc_mp (mX11_within, 3, 1) := ⟨⟨fc_G_of 1499 (by decide +kernel) rfl, fc_G_of 117 (by decide +kernel) rfl, by decide +kernel, by decide⟩, fun h => absurd h (by decide), fun _ => fc_G_of 1498 (by decide +kernel) rfl⟩
theorem kX11_standsAsAlways : fc_mp (mX11_standsAsAlways, 1, 0) := ⟨⟨fc_G_of 1322 (by decide +kernel) rfl, fc_G_of 117 (by decide +kernel) rfl, by decide +kernel, by decide⟩, fun _ => ⟨fc_G_of 1321 (by decide +kernel) rfl, fc_G_of 32 (by decide +kernel) rfl⟩, fun h => absurd h (by decide)⟩
theorem kX11_takeNumber : fc_mp (mX11_takeNumber, 2, 0) := ⟨⟨fc_G_of 1519 (by decide +kernel) rfl, fc_G_of 117 (by decide +kernel) rfl, by decide +kernel, by decide⟩, fun _ => ⟨fc_G_of 1518 (by decide +kernel) rfl, fc_G_of 53 (by decide +kernel) rfl⟩, fun h => absurd h (by decide)⟩
theorem kX11_takeAfter : fc_mp (mX11_takeAfter, 3, 0) := ⟨⟨fc_G_of 1515 (by decide +kernel) rfl, fc_G_of 117 (by decide +kernel) rfl, by decide +kernel, by decide⟩, fun _ => ⟨fc_G_of 1514 (by decide +kernel) rfl, fc_G_of 52 (by decide +kernel) rfl⟩, fun h => absurd h (by decide)⟩
theorem kX11_wordHere : fc_mp (mX11_wordHere, 2, 0) := ⟨⟨fc_G_of 1484 (by decide +kernel) rfl, fc_G_of 117 (by decide +kernel) rfl, by decide +kernel, by decide⟩, fun _ => ⟨fc_G_of 1483 (by decide +kernel) rfl, fc_G_of 45 (by decide +kernel) rfl⟩, fun h => absurd h (by decide)⟩
theorem kX11_takeOne : fc_mp (mX11_takeOne, 2, 0) := ⟨⟨fc_G_of 1503 (by decide +kernel) rfl, fc_G_of 117 (by decide +kernel) rfl, by decide +kernel, by decide⟩, fun _ => ⟨fc_G_of 1502 (by decide +kernel) rfl, fc_G_of 49 (by decide +kernel) rfl⟩, fun h => absurd h (by decide)⟩
theorem kX11_isName : fc_mp (mX11_isName, 0, 0) := ⟨⟨fc_G_of 1480 (by decide +kernel) rfl, fc_G_of 117 (by decide +kernel) rfl, by decide +kernel, by decide⟩, fun _ => ⟨fc_G_of 1479 (by decide +kernel) rfl, fc_G_of 44 (by decide +kernel) rfl⟩, fun h => absurd h (by decide)⟩
theorem kX11_nameAt : fc_mp (mX11_nameAt, 1, 0) := ⟨⟨fc_G_of 1488 (by decide +kernel) rfl, fc_G_of 117 (by decide +kernel) rfl, by decide +kernel, by decide⟩, fun _ => ⟨fc_G_of 1487 (by decide +kernel) rfl, fc_G_of 46 (by decide +kernel) rfl⟩, fun h => absurd h (by decide)⟩
theorem kX11_takeTold : fc_mp (mX11_takeTold, 3, 0) := ⟨⟨fc_G_of 1496 (by decide +kernel) rfl, fc_G_of 117 (by decide +kernel) rfl, by decide +kernel, by decide⟩, fun _ => ⟨fc_G_of 1495 (by decide +kernel) rfl, fc_G_of 48 (by decide +kernel) rfl⟩, fun h => absurd h (by decide)⟩
theorem kX11_land : fc_mp (mX11_land, 0, 0) := ⟨⟨fc_G_of 1441 (by decide +kernel) rfl, fc_G_of 117 (by decide +kernel) rfl, by decide +kernel, by decide⟩, fun _ => ⟨fc_G_of 1439 (by decide +kernel) rfl, fc_G_of 1440 (by decide +kernel) rfl⟩, fun h => absurd h (by decide)⟩
theorem kX11_readLine : fc_mp (mX11_readLine, 0, 0) := ⟨⟨fc_G_of 1464 (by decide +kernel) rfl, fc_G_of 117 (by decide +kernel) rfl, by decide +kernel, by decide⟩, fun _ => ⟨fc_G_of 1463 (by decide +kernel) rfl, fc_G_of 40 (by decide +kernel) rfl⟩, fun h => absurd h (by decide)⟩
theorem kX11_readName : fc_mp (mX11_readName, 3, 0) := ⟨⟨fc_G_of 1472 (by decide +kernel) rfl, fc_G_of 117 (by decide +kernel) rfl, by decide +kernel, by decide⟩, fun _ => ⟨fc_G_of 1471 (by decide +kernel) rfl, fc_G_of 42 (by decide +kernel) rfl⟩, fun h => absurd h (by decide)⟩
theorem kX11_readPath : fc_mp (mX11_readPath, 0, 0) := ⟨⟨fc_G_of 1492 (by decide +kernel) rfl, fc_G_of 117 (by decide +kernel) rfl, by decide +kernel, by decide⟩, fun _ => ⟨fc_G_of 1491 (by decide +kernel) rfl, fc_G_of 47 (by decide +kernel) rfl⟩, fun h => absurd h (by decide)⟩
theorem kX11_readOnce : fc_mp (mX11_readOnce, 0, 0) := ⟨⟨fc_G_of 1523 (by decide +kernel) rfl, fc_G_of 117 (by decide +kernel) rfl, by decide +kernel, by decide⟩, fun _ => ⟨fc_G_of 1522 (by decide +kernel) rfl, fc_G_of 54 (by decide +kernel) rfl⟩, fun h => absurd h (by decide)⟩
theorem kX11_morning : fc_mp (mX11_morning, 0, 0) := ⟨⟨fc_G_of 1563 (by decide +kernel) rfl, fc_G_of 117 (by decide +kernel) rfl, by decide +kernel, by decide⟩, fun _ => ⟨fc_G_of 1561 (by decide +kernel) rfl, fc_G_of 1562 (by decide +kernel) rfl⟩, fun h => absurd h (by decide)⟩
theorem kX11_readMorning : fc_mp (mX11_readMorning, 2, 0) := ⟨⟨fc_G_of 1567 (by decide +kernel) rfl, fc_G_of 117 (by decide +kernel) rfl, by decide +kernel, by decide⟩, fun _ => ⟨fc_G_of 1566 (by decide +kernel) rfl, fc_G_of 64 (by decide +kernel) rfl⟩, fun h => absurd h (by decide)⟩
theorem kX11_emit : fc_mp (mX11_emit, 2, 0) := ⟨⟨fc_G_of 1551 (by decide +kernel) rfl, fc_G_of 117 (by decide +kernel) rfl, by decide +kernel, by decide⟩, fun _ => ⟨fc_G_of 1550 (by decide +kernel) rfl, fc_G_of 61 (by decide +kernel) rfl⟩, fun h => absurd h (by decide)⟩
theorem kX11_whole : fc_mp (mX11_whole, 1, 0) := ⟨⟨fc_G_of 1527 (by decide +kernel) rfl, fc_G_of 117 (by decide +kernel) rfl, by decide +kernel, by decide⟩, fun _ => ⟨fc_G_of 1526 (by decide +kernel) rfl, fc_G_of 55 (by decide +kernel) rfl⟩, fun h => absurd h (by decide)⟩
theorem kX11_test : fc_mp (mX11_test, 1, 0) := ⟨⟨fc_G_of 1531 (by decide +kernel) rfl, fc_G_of 117 (by decide +kernel) rfl, by decide +kernel, by decide⟩, fun _ => ⟨fc_G_of 1530 (by decide +kernel) rfl, fc_G_of 56 (by decide +kernel) rfl⟩, fun h => absurd h (by decide)⟩
theorem kX11_sums : fc_mp (mX11_sums, 1, 0) := ⟨⟨fc_G_of 1535 (by decide +kernel) rfl, fc_G_of 117 (by decide +kernel) rfl, by decide +kernel, by decide⟩, fun _ => ⟨fc_G_of 1534 (by decide +kernel) rfl, fc_G_of 57 (by decide +kernel) rfl⟩, fun h => absurd h (by decide)⟩
theorem kX11_products : fc_mp (mX11_products, 1, 0) := ⟨⟨fc_G_of 1539 (by decide +kernel) rfl, fc_G_of 117 (by decide +kernel) rfl, by decide +kernel, by decide⟩, fun _ => ⟨fc_G_of 1538 (by decide +kernel) rfl, fc_G_of 58 (by decide +kernel) rfl⟩, fun h => absurd h (by decide)⟩
theorem kX11_takePart : fc_mp (mX11_takePart, 1, 0) := ⟨⟨fc_G_of 1543 (by decide +kernel) rfl, fc_G_of 117 (by decide +kernel) rfl, by decide +kernel, by decide⟩, fun _ => ⟨fc_G_of 1542 (by decide +kernel) rfl, fc_G_of 59 (by decide +kernel) rfl⟩, fun h => absurd h (by decide)⟩
theorem kX11_worthAt : fc_mp (mX11_worthAt, 1, 0) := ⟨⟨fc_G_of 1666 (by decide +kernel) rfl, fc_G_of 117 (by decide +kernel) rfl, by decide +kernel, by decide⟩, fun _ => ⟨fc_G_of 1665 (by decide +kernel) rfl, fc_G_of 83 (by decide +kernel) rfl⟩, fun h => absurd h (by decide)⟩
theorem kX11_both : fc_mp (mX11_both, 3, 1) := ⟨⟨fc_G_of 1669 (by decide +kernel) rfl, fc_G_of 117 (by decide +kernel) rfl, by decide +kernel, by decide⟩, fun h => absurd h (by decide), fun _ => fc_G_of 1668 (by decide +kernel) rfl⟩
theorem kX11_copies : fc_mp (mX11_copies, 3, 0) := ⟨⟨fc_G_of 1635 (by decide +kernel) rfl, fc_G_of 117 (by decide +kernel) rfl, by decide +kernel, by decide⟩, fun _ => ⟨fc_G_of 1634 (by decide +kernel) rfl, fc_G_of 77 (by decide +kernel) rfl⟩, fun h => absurd h (by decide)⟩
theorem kX11_starts : fc_mp (mX11_starts, 1, 0) := ⟨⟨fc_G_of 1330 (by decide +kernel) rfl, fc_G_of 117 (by decide +kernel) rfl, by decide +kernel, by decide⟩, fun _ => ⟨fc_G_of 1329 (by decide +kernel) rfl, fc_G_of 34 (by decide +kernel) rfl⟩, fun h => absurd h (by decide)⟩
theorem kX11_begins : fc_mp (mX11_begins, 0, 0) := ⟨⟨fc_G_of 1326 (by decide +kernel) rfl, fc_G_of 117 (by decide +kernel) rfl, by decide +kernel, by decide⟩, fun _ => ⟨fc_G_of 1325 (by decide +kernel) rfl, fc_G_of 33 (by decide +kernel) rfl⟩, fun h => absurd h (by decide)⟩
theorem kX11_keeps : fc_mp (mX11_keeps, 0, 0) := ⟨⟨fc_G_of 1631 (by decide +kernel) rfl, fc_G_of 117 (by decide +kernel) rfl, by decide +kernel, by decide⟩, fun _ => ⟨fc_G_of 1630 (by decide +kernel) rfl, fc_G_of 76 (by decide +kernel) rfl⟩, fun h => absurd h (by decide)⟩
theorem kX11_places : fc_mp (mX11_places, 0, 0) := ⟨⟨fc_G_of 1579 (by decide +kernel) rfl, fc_G_of 117 (by decide +kernel) rfl, by decide +kernel, by decide⟩, fun _ => ⟨fc_G_of 1578 (by decide +kernel) rfl, fc_G_of 66 (by decide +kernel) rfl⟩, fun h => absurd h (by decide)⟩
theorem kX11_persons : fc_mp (mX11_persons, 0, 0) := ⟨⟨fc_G_of 1334 (by decide +kernel) rfl, fc_G_of 117 (by decide +kernel) rfl, by decide +kernel, by decide⟩, fun _ => ⟨fc_G_of 1333 (by decide +kernel) rfl, fc_G_of 35 (by decide +kernel) rfl⟩, fun h => absurd h (by decide)⟩
theorem kX11_things : fc_mp (mX11_things, 0, 0) := ⟨⟨fc_G_of 1342 (by decide +kernel) rfl, fc_G_of 117 (by decide +kernel) rfl, by decide +kernel, by decide⟩, fun _ => ⟨fc_G_of 1341 (by decide +kernel) rfl, fc_G_of 37 (by decide +kernel) rfl⟩, fun h => absurd h (by decide)⟩
theorem kX11_smokeAt : fc_mp (mX11_smokeAt, 0, 0) := ⟨⟨fc_G_of 1693 (by decide +kernel) rfl, fc_G_of 117 (by decide +kernel) rfl, by decide +kernel, by decide⟩, fun _ => ⟨fc_G_of 1692 (by decide +kernel) rfl, fc_G_of 87 (by decide +kernel) rfl⟩, fun h => absurd h (by decide)⟩
theorem kX11_pathsFrom : fc_mp (mX11_pathsFrom, 1, 0) := ⟨⟨fc_G_of 1583 (by decide +kernel) rfl, fc_G_of 117 (by decide +kernel) rfl, by decide +kernel, by decide⟩, fun _ => ⟨fc_G_of 1582 (by decide +kernel) rfl, fc_G_of 67 (by decide +kernel) rfl⟩, fun h => absurd h (by decide)⟩
theorem kX11_personOf : fc_mp (mX11_personOf, 2, 0) := ⟨⟨fc_G_of 1338 (by decide +kernel) rfl, fc_G_of 117 (by decide +kernel) rfl, by decide +kernel, by decide⟩, fun _ => ⟨fc_G_of 1337 (by decide +kernel) rfl, fc_G_of 36 (by decide +kernel) rfl⟩, fun h => absurd h (by decide)⟩
theorem kX11_thingOf : fc_mp (mX11_thingOf, 2, 0) := ⟨⟨fc_G_of 1346 (by decide +kernel) rfl, fc_G_of 117 (by decide +kernel) rfl, by decide +kernel, by decide⟩, fun _ => ⟨fc_G_of 1345 (by decide +kernel) rfl, fc_G_of 38 (by decide +kernel) rfl⟩, fun h => absurd h (by decide)⟩
theorem kX11_isPlace : fc_mp (mX11_isPlace, 1, 0) := ⟨⟨fc_G_of 1575 (by decide +kernel) rfl, fc_G_of 117 (by decide +kernel) rfl, by decide +kernel, by decide⟩, fun _ => ⟨fc_G_of 1574 (by decide +kernel) rfl, fc_G_of 65 (by decide +kernel) rfl⟩, fun h => absurd h (by decide)⟩
theorem kX11_isPerson : fc_mp (mX11_isPerson, 1, 0) := ⟨⟨fc_G_of 1599 (by decide +kernel) rfl, fc_G_of 117 (by decide +kernel) rfl, by decide +kernel, by decide⟩, fun _ => ⟨fc_G_of 1598 (by decide +kernel) rfl, fc_G_of 70 (by decide +kernel) rfl⟩, fun h => absurd h (by decide)⟩
theorem kX11_isThing : fc_mp (mX11_isThing, 1, 0) := ⟨⟨fc_G_of 1619 (by decide +kernel) rfl, fc_G_of 117 (by decide +kernel) rfl, by decide +kernel, by decide⟩, fun _ => ⟨fc_G_of 1618 (by decide +kernel) rfl, fc_G_of 74 (by decide +kernel) rfl⟩, fun h => absurd h (by decide)⟩
theorem kX11_bits : fc_mp (mX11_bits, 1, 1) := ⟨⟨fc_G_of 1658 (by decide +kernel) rfl, fc_G_of 117 (by decide +kernel) rfl, by decide +kernel, by decide⟩, fun h => absurd h (by decide), fun _ => fc_G_of 1657 (by decide +kernel) rfl⟩
theorem kX11_awakeAt : fc_mp (mX11_awakeAt, 1, 0) := ⟨⟨fc_G_of 1591 (by decide +kernel) rfl, fc_G_of 117 (by decide +kernel) rfl, by decide +kernel, by decide⟩, fun _ => ⟨fc_G_of 1590 (by decide +kernel) rfl, fc_G_of 69 (by decide +kernel) rfl⟩, fun h => absurd h (by decide)⟩
theorem kX11_isAwake : fc_mp (mX11_isAwake, 2, 0) := ⟨⟨fc_G_of 1603 (by decide +kernel) rfl, fc_G_of 117 (by decide +kernel) rfl, by decide +kernel, by decide⟩, fun _ => ⟨fc_G_of 1602 (by decide +kernel) rfl, fc_G_of 71 (by decide +kernel) rfl⟩, fun h => absurd h (by decide)⟩
theorem kX11_isReady : fc_mp (mX11_isReady, 2, 0) := ⟨⟨fc_G_of 1607 (by decide +kernel) rfl, fc_G_of 117 (by decide +kernel) rfl, by decide +kernel, by decide⟩, fun _ => ⟨fc_G_of 1606 (by decide +kernel) rfl, fc_G_of 72 (by decide +kernel) rfl⟩, fun h => absurd h (by decide)⟩
theorem kX11_whoIn : fc_mp (mX11_whoIn, 2, 0) := ⟨⟨fc_G_of 1587 (by decide +kernel) rfl, fc_G_of 117 (by decide +kernel) rfl, by decide +kernel, by decide⟩, fun _ => ⟨fc_G_of 1586 (by decide +kernel) rfl, fc_G_of 68 (by decide +kernel) rfl⟩, fun h => absurd h (by decide)⟩
theorem kX11_benches : fc_mp (mX11_benches, 0, 0) := ⟨⟨fc_G_of 1662 (by decide +kernel) rfl, fc_G_of 117 (by decide +kernel) rfl, by decide +kernel, by decide⟩, fun _ => ⟨fc_G_of 1661 (by decide +kernel) rfl, fc_G_of 82 (by decide +kernel) rfl⟩, fun h => absurd h (by decide)⟩
theorem kX11_doesBind : fc_mp (mX11_doesBind, 5, 0) := ⟨⟨fc_G_of 1655 (by decide +kernel) rfl, fc_G_of 117 (by decide +kernel) rfl, by decide +kernel, by decide⟩, fun _ => ⟨fc_G_of 1654 (by decide +kernel) rfl, fc_G_of 81 (by decide +kernel) rfl⟩, fun h => absurd h (by decide)⟩
theorem kX11_mayWalk : fc_mp (mX11_mayWalk, 3, 0) := ⟨⟨fc_G_of 1627 (by decide +kernel) rfl, fc_G_of 117 (by decide +kernel) rfl, by decide +kernel, by decide⟩, fun _ => ⟨fc_G_of 1626 (by decide +kernel) rfl, fc_G_of 75 (by decide +kernel) rfl⟩, fun h => absurd h (by decide)⟩
theorem kX11_walks : fc_mp (mX11_walks, 3, 0) := ⟨⟨fc_G_of 1639 (by decide +kernel) rfl, fc_G_of 117 (by decide +kernel) rfl, by decide +kernel, by decide⟩, fun _ => ⟨fc_G_of 1638 (by decide +kernel) rfl, fc_G_of 78 (by decide +kernel) rfl⟩, fun h => absurd h (by decide)⟩
theorem kX11_mayGive : fc_mp (mX11_mayGive, 3, 0) := ⟨⟨fc_G_of 1647 (by decide +kernel) rfl, fc_G_of 117 (by decide +kernel) rfl, by decide +kernel, by decide⟩, fun _ => ⟨fc_G_of 1646 (by decide +kernel) rfl, fc_G_of 79 (by decide +kernel) rfl⟩, fun h => absurd h (by decide)⟩
theorem kX11_gives : fc_mp (mX11_gives, 3, 0) := ⟨⟨fc_G_of 1651 (by decide +kernel) rfl, fc_G_of 117 (by decide +kernel) rfl, by decide +kernel, by decide⟩, fun _ => ⟨fc_G_of 1650 (by decide +kernel) rfl, fc_G_of 80 (by decide +kernel) rfl⟩, fun h => absurd h (by decide)⟩
theorem kX11_mayVow : fc_mp (mX11_mayVow, 3, 0) := ⟨⟨fc_G_of 1677 (by decide +kernel) rfl, fc_G_of 117 (by decide +kernel) rfl, by decide +kernel, by decide⟩, fun _ => ⟨fc_G_of 1676 (by decide +kernel) rfl, fc_G_of 84 (by decide +kernel) rfl⟩, fun h => absurd h (by decide)⟩
theorem kX11_vowsBy : fc_mp (mX11_vowsBy, 3, 0) := ⟨⟨fc_G_of 1681 (by decide +kernel) rfl, fc_G_of 117 (by decide +kernel) rfl, by decide +kernel, by decide⟩, fun _ => ⟨fc_G_of 1680 (by decide +kernel) rfl, fc_G_of 85 (by decide +kernel) rfl⟩, fun h => absurd h (by decide)⟩
theorem kX11_smokes : fc_mp (mX11_smokes, 1, 0) := ⟨⟨fc_G_of 1697 (by decide +kernel) rfl, fc_G_of 117 (by decide +kernel) rfl, by decide +kernel, by decide⟩, fun _ => ⟨fc_G_of 1696 (by decide +kernel) rfl, fc_G_of 88 (by decide +kernel) rfl⟩, fun h => absurd h (by decide)⟩
theorem kX11_passes : fc_mp (mX11_passes, 1, 0) := ⟨⟨fc_G_of 1689 (by decide +kernel) rfl, fc_G_of 117 (by decide +kernel) rfl, by decide +kernel, by decide⟩, fun _ => ⟨fc_G_of 1688 (by decide +kernel) rfl, fc_G_of 86 (by decide +kernel) rfl⟩, fun h => absurd h (by decide)⟩
theorem kX11_thingsWith : fc_mp (mX11_thingsWith, 2, 0) := ⟨⟨fc_G_of 1611 (by decide +kernel) rfl, fc_G_of 117 (by decide +kernel) rfl, by decide +kernel, by decide⟩, fun _ => ⟨fc_G_of 1610 (by decide +kernel) rfl, fc_G_of 73 (by decide +kernel) rfl⟩, fun h => absurd h (by decide)⟩
theorem kX11_wrongThings : fc_mp (mX11_wrongThings, 1, 0) := ⟨⟨fc_G_of 1784 (by decide +kernel) rfl, fc_G_of 117 (by decide +kernel) rfl, by decide +kernel, by decide⟩, fun _ => ⟨fc_G_of 1783 (by decide +kernel) rfl, fc_G_of 95 (by decide +kernel) rfl⟩, fun h => absurd h (by decide)⟩
theorem kX11_place : fc_mp (mX11_place, 2, 0) := ⟨⟨fc_G_of 1571 (by decide +kernel) rfl, fc_G_of 117 (by decide +kernel) rfl, by decide +kernel, by decide⟩, fun _ => ⟨fc_G_of 1569 (by decide +kernel) rfl, fc_G_of 1570 (by decide +kernel) rfl⟩, fun h => absurd h (by decide)⟩
theorem kX11_person : fc_mp (mX11_person, 2, 0) := ⟨⟨fc_G_of 1595 (by decide +kernel) rfl, fc_G_of 117 (by decide +kernel) rfl, by decide +kernel, by decide⟩, fun _ => ⟨fc_G_of 1593 (by decide +kernel) rfl, fc_G_of 1594 (by decide +kernel) rfl⟩, fun h => absurd h (by decide)⟩
theorem kX11_thing : fc_mp (mX11_thing, 2, 0) := ⟨⟨fc_G_of 1615 (by decide +kernel) rfl, fc_G_of 117 (by decide +kernel) rfl, by decide +kernel, by decide⟩, fun _ => ⟨fc_G_of 1613 (by decide +kernel) rfl, fc_G_of 1614 (by decide +kernel) rfl⟩, fun h => absurd h (by decide)⟩
theorem kX11_walk : fc_mp (mX11_walk, 2, 0) := ⟨⟨fc_G_of 1623 (by decide +kernel) rfl, fc_G_of 117 (by decide +kernel) rfl, by decide +kernel, by decide⟩, fun _ => ⟨fc_G_of 1621 (by decide +kernel) rfl, fc_G_of 1622 (by decide +kernel) rfl⟩, fun h => absurd h (by decide)⟩
theorem kX11_give : fc_mp (mX11_give, 2, 0) := ⟨⟨fc_G_of 1643 (by decide +kernel) rfl, fc_G_of 117 (by decide +kernel) rfl, by decide +kernel, by decide⟩, fun _ => ⟨fc_G_of 1641 (by decide +kernel) rfl, fc_G_of 1642 (by decide +kernel) rfl⟩, fun h => absurd h (by decide)⟩
theorem kX11_vow : fc_mp (mX11_vow, 2, 0) := ⟨⟨fc_G_of 1673 (by decide +kernel) rfl, fc_G_of 117 (by decide +kernel) rfl, by decide +kernel, by decide⟩, fun _ => ⟨fc_G_of 1671 (by decide +kernel) rfl, fc_G_of 1672 (by decide +kernel) rfl⟩, fun h => absurd h (by decide)⟩
theorem kX11_minute : fc_mp (mX11_minute, 0, 0) := ⟨⟨fc_G_of 1685 (by decide +kernel) rfl, fc_G_of 117 (by decide +kernel) rfl, by decide +kernel, by decide⟩, fun _ => ⟨fc_G_of 1683 (by decide +kernel) rfl, fc_G_of 1684 (by decide +kernel) rfl⟩, fun h => absurd h (by decide)⟩
theorem kX11_undo : fc_mp (mX11_undo, 0, 0) := ⟨⟨fc_G_of 1701 (by decide +kernel) rfl, fc_G_of 117 (by decide +kernel) rfl, by decide +kernel, by decide⟩, fun _ => ⟨fc_G_of 1699 (by decide +kernel) rfl, fc_G_of 1700 (by decide +kernel) rfl⟩, fun h => absurd h (by decide)⟩
theorem kX11_judged : fc_mp (mX11_judged, 1, 0) := ⟨⟨fc_G_of 1705 (by decide +kernel) rfl, fc_G_of 117 (by decide +kernel) rfl, by decide +kernel, by decide⟩, fun _ => ⟨fc_G_of 1703 (by decide +kernel) rfl, fc_G_of 1704 (by decide +kernel) rfl⟩, fun h => absurd h (by decide)⟩
theorem kX11_onFrom : fc_mp (mX11_onFrom, 2, 0) := ⟨⟨fc_G_of 1717 (by decide +kernel) rfl, fc_G_of 117 (by decide +kernel) rfl, by decide +kernel, by decide⟩, fun _ => ⟨fc_G_of 1716 (by decide +kernel) rfl, fc_G_of 90 (by decide +kernel) rfl⟩, fun h => absurd h (by decide)⟩
theorem kX11_reachBy : fc_mp (mX11_reachBy, 2, 0) := ⟨⟨fc_G_of 1713 (by decide +kernel) rfl, fc_G_of 117 (by decide +kernel) rfl, by decide +kernel, by decide⟩, fun _ => ⟨fc_G_of 1712 (by decide +kernel) rfl, fc_G_of 89 (by decide +kernel) rfl⟩, fun h => absurd h (by decide)⟩
theorem kX11_farOf : fc_mp (mX11_farOf, 2, 0) := ⟨⟨fc_G_of 1725 (by decide +kernel) rfl, fc_G_of 117 (by decide +kernel) rfl, by decide +kernel, by decide⟩, fun _ => ⟨fc_G_of 1724 (by decide +kernel) rfl, fc_G_of 91 (by decide +kernel) rfl⟩, fun h => absurd h (by decide)⟩
theorem kX11_reach : fc_mp (mX11_reach, 1, 0) := ⟨⟨fc_G_of 1709 (by decide +kernel) rfl, fc_G_of 117 (by decide +kernel) rfl, by decide +kernel, by decide⟩, fun _ => ⟨fc_G_of 1707 (by decide +kernel) rfl, fc_G_of 1708 (by decide +kernel) rfl⟩, fun h => absurd h (by decide)⟩
theorem kX11_far : fc_mp (mX11_far, 2, 0) := ⟨⟨fc_G_of 1721 (by decide +kernel) rfl, fc_G_of 117 (by decide +kernel) rfl, by decide +kernel, by decide⟩, fun _ => ⟨fc_G_of 1719 (by decide +kernel) rfl, fc_G_of 1720 (by decide +kernel) rfl⟩, fun h => absurd h (by decide)⟩
theorem kX11_cuts : fc_mp (mX11_cuts, 0, 0) := ⟨⟨fc_G_of 1729 (by decide +kernel) rfl, fc_G_of 117 (by decide +kernel) rfl, by decide +kernel, by decide⟩, fun _ => ⟨fc_G_of 1727 (by decide +kernel) rfl, fc_G_of 1728 (by decide +kernel) rfl⟩, fun h => absurd h (by decide)⟩
theorem kX11_hub : fc_mp (mX11_hub, 0, 0) := ⟨⟨fc_G_of 1733 (by decide +kernel) rfl, fc_G_of 117 (by decide +kernel) rfl, by decide +kernel, by decide⟩, fun _ => ⟨fc_G_of 1731 (by decide +kernel) rfl, fc_G_of 1732 (by decide +kernel) rfl⟩, fun h => absurd h (by decide)⟩
theorem kX11_links : fc_mp (mX11_links, 1, 0) := ⟨⟨fc_G_of 1737 (by decide +kernel) rfl, fc_G_of 117 (by decide +kernel) rfl, by decide +kernel, by decide⟩, fun _ => ⟨fc_G_of 1735 (by decide +kernel) rfl, fc_G_of 1736 (by decide +kernel) rfl⟩, fun h => absurd h (by decide)⟩
theorem kX11_wide : fc_mp (mX11_wide, 0, 0) := ⟨⟨fc_G_of 1741 (by decide +kernel) rfl, fc_G_of 117 (by decide +kernel) rfl, by decide +kernel, by decide⟩, fun _ => ⟨fc_G_of 1739 (by decide +kernel) rfl, fc_G_of 1740 (by decide +kernel) rfl⟩, fun h => absurd h (by decide)⟩
theorem kX11_readyIn : fc_mp (mX11_readyIn, 1, 0) := ⟨⟨fc_G_of 1753 (by decide +kernel) rfl, fc_G_of 117 (by decide +kernel) rfl, by decide +kernel, by decide⟩, fun _ => ⟨fc_G_of 1752 (by decide +kernel) rfl, fc_G_of 93 (by decide +kernel) rfl⟩, fun h => absurd h (by decide)⟩
theorem kX11_paceOf : fc_mp (mX11_paceOf, 1, 0) := ⟨⟨fc_G_of 1757 (by decide +kernel) rfl, fc_G_of 117 (by decide +kernel) rfl, by decide +kernel, by decide⟩, fun _ => ⟨fc_G_of 1756 (by decide +kernel) rfl, fc_G_of 94 (by decide +kernel) rfl⟩, fun h => absurd h (by decide)⟩
theorem kX11_soonOf : fc_mp (mX11_soonOf, 2, 0) := ⟨⟨fc_G_of 1749 (by decide +kernel) rfl, fc_G_of 117 (by decide +kernel) rfl, by decide +kernel, by decide⟩, fun _ => ⟨fc_G_of 1748 (by decide +kernel) rfl, fc_G_of 92 (by decide +kernel) rfl⟩, fun h => absurd h (by decide)⟩
theorem kX11_told : fc_mp (mX11_told, 1, 1) := ⟨⟨fc_G_of 1760 (by decide +kernel) rfl, fc_G_of 117 (by decide +kernel) rfl, by decide +kernel, by decide⟩, fun h => absurd h (by decide), fun _ => fc_G_of 1759 (by decide +kernel) rfl⟩
theorem kX11_soon : fc_mp (mX11_soon, 2, 0) := ⟨⟨fc_G_of 1745 (by decide +kernel) rfl, fc_G_of 117 (by decide +kernel) rfl, by decide +kernel, by decide⟩, fun _ => ⟨fc_G_of 1743 (by decide +kernel) rfl, fc_G_of 1744 (by decide +kernel) rfl⟩, fun h => absurd h (by decide)⟩
theorem kX11_meet : fc_mp (mX11_meet, 2, 0) := ⟨⟨fc_G_of 1764 (by decide +kernel) rfl, fc_G_of 117 (by decide +kernel) rfl, by decide +kernel, by decide⟩, fun _ => ⟨fc_G_of 1762 (by decide +kernel) rfl, fc_G_of 1763 (by decide +kernel) rfl⟩, fun h => absurd h (by decide)⟩
theorem kX11_all : fc_mp (mX11_all, 1, 0) := ⟨⟨fc_G_of 1768 (by decide +kernel) rfl, fc_G_of 117 (by decide +kernel) rfl, by decide +kernel, by decide⟩, fun _ => ⟨fc_G_of 1766 (by decide +kernel) rfl, fc_G_of 1767 (by decide +kernel) rfl⟩, fun h => absurd h (by decide)⟩
theorem kX11_tour : fc_mp (mX11_tour, 1, 0) := ⟨⟨fc_G_of 1772 (by decide +kernel) rfl, fc_G_of 117 (by decide +kernel) rfl, by decide +kernel, by decide⟩, fun _ => ⟨fc_G_of 1770 (by decide +kernel) rfl, fc_G_of 1771 (by decide +kernel) rfl⟩, fun h => absurd h (by decide)⟩
theorem kX11_intime : fc_mp (mX11_intime, 2, 0) := ⟨⟨fc_G_of 1776 (by decide +kernel) rfl, fc_G_of 117 (by decide +kernel) rfl, by decide +kernel, by decide⟩, fun _ => ⟨fc_G_of 1774 (by decide +kernel) rfl, fc_G_of 1775 (by decide +kernel) rfl⟩, fun h => absurd h (by decide)⟩
theorem kX11_back : fc_mp (mX11_back, 0, 0) := ⟨⟨fc_G_of 1780 (by decide +kernel) rfl, fc_G_of 117 (by decide +kernel) rfl, by decide +kernel, by decide⟩, fun _ => ⟨fc_G_of 1778 (by decide +kernel) rfl, fc_G_of 1779 (by decide +kernel) rfl⟩, fun h => absurd h (by decide)⟩
theorem kX11_could : fc_mp (mX11_could, 1, 0) := ⟨⟨fc_G_of 1788 (by decide +kernel) rfl, fc_G_of 117 (by decide +kernel) rfl, by decide +kernel, by decide⟩, fun _ => ⟨fc_G_of 1786 (by decide +kernel) rfl, fc_G_of 1787 (by decide +kernel) rfl⟩, fun h => absurd h (by decide)⟩
theorem kX11_wouldBind : fc_mp (mX11_wouldBind, 3, 0) := ⟨⟨fc_G_of 1800 (by decide +kernel) rfl, fc_G_of 117 (by decide +kernel) rfl, by decide +kernel, by decide⟩, fun _ => ⟨fc_G_of 1799 (by decide +kernel) rfl, fc_G_of 97 (by decide +kernel) rfl⟩, fun h => absurd h (by decide)⟩
theorem kX11_isGift : fc_mp (mX11_isGift, 2, 0) := ⟨⟨fc_G_of 1796 (by decide +kernel) rfl, fc_G_of 117 (by decide +kernel) rfl, by decide +kernel, by decide⟩, fun _ => ⟨fc_G_of 1795 (by decide +kernel) rfl, fc_G_of 96 (by decide +kernel) rfl⟩, fun h => absurd h (by decide)⟩
theorem kX11_would : fc_mp (mX11_would, 2, 0) := ⟨⟨fc_G_of 1792 (by decide +kernel) rfl, fc_G_of 117 (by decide +kernel) rfl, by decide +kernel, by decide⟩, fun _ => ⟨fc_G_of 1790 (by decide +kernel) rfl, fc_G_of 1791 (by decide +kernel) rfl⟩, fun h => absurd h (by decide)⟩
theorem kX11_when : fc_mp (mX11_when, 2, 0) := ⟨⟨fc_G_of 1804 (by decide +kernel) rfl, fc_G_of 117 (by decide +kernel) rfl, by decide +kernel, by decide⟩, fun _ => ⟨fc_G_of 1802 (by decide +kernel) rfl, fc_G_of 1803 (by decide +kernel) rfl⟩, fun h => absurd h (by decide)⟩
theorem kX11_vows : fc_mp (mX11_vows, 2, 0) := ⟨⟨fc_G_of 1808 (by decide +kernel) rfl, fc_G_of 117 (by decide +kernel) rfl, by decide +kernel, by decide⟩, fun _ => ⟨fc_G_of 1806 (by decide +kernel) rfl, fc_G_of 1807 (by decide +kernel) rfl⟩, fun h => absurd h (by decide)⟩
theorem kX11_sees : fc_mp (mX11_sees, 1, 0) := ⟨⟨fc_G_of 1812 (by decide +kernel) rfl, fc_G_of 117 (by decide +kernel) rfl, by decide +kernel, by decide⟩, fun _ => ⟨fc_G_of 1810 (by decide +kernel) rfl, fc_G_of 1811 (by decide +kernel) rfl⟩, fun h => absurd h (by decide)⟩
theorem kX11_heard : fc_mp (mX11_heard, 1, 0) := ⟨⟨fc_G_of 1816 (by decide +kernel) rfl, fc_G_of 117 (by decide +kernel) rfl, by decide +kernel, by decide⟩, fun _ => ⟨fc_G_of 1814 (by decide +kernel) rfl, fc_G_of 1815 (by decide +kernel) rfl⟩, fun h => absurd h (by decide)⟩
theorem kX11_heardOfAll : fc_mp (mX11_heardOfAll, 1, 0) := ⟨⟨fc_G_of 1828 (by decide +kernel) rfl, fc_G_of 117 (by decide +kernel) rfl, by decide +kernel, by decide⟩, fun _ => ⟨fc_G_of 1827 (by decide +kernel) rfl, fc_G_of 99 (by decide +kernel) rfl⟩, fun h => absurd h (by decide)⟩
theorem kX11_triesNow : fc_mp (mX11_triesNow, 0, 0) := ⟨⟨fc_G_of 1824 (by decide +kernel) rfl, fc_G_of 117 (by decide +kernel) rfl, by decide +kernel, by decide⟩, fun _ => ⟨fc_G_of 1823 (by decide +kernel) rfl, fc_G_of 98 (by decide +kernel) rfl⟩, fun h => absurd h (by decide)⟩
theorem kX11_news : fc_mp (mX11_news, 0, 0) := ⟨⟨fc_G_of 1820 (by decide +kernel) rfl, fc_G_of 117 (by decide +kernel) rfl, by decide +kernel, by decide⟩, fun _ => ⟨fc_G_of 1818 (by decide +kernel) rfl, fc_G_of 1819 (by decide +kernel) rfl⟩, fun h => absurd h (by decide)⟩
theorem kX11_alone : fc_mp (mX11_alone, 0, 0) := ⟨⟨fc_G_of 1832 (by decide +kernel) rfl, fc_G_of 117 (by decide +kernel) rfl, by decide +kernel, by decide⟩, fun _ => ⟨fc_G_of 1830 (by decide +kernel) rfl, fc_G_of 1831 (by decide +kernel) rfl⟩, fun h => absurd h (by decide)⟩
theorem kX11_see : fc_mp (mX11_see, 3, 0) := ⟨⟨fc_G_of 1836 (by decide +kernel) rfl, fc_G_of 117 (by decide +kernel) rfl, by decide +kernel, by decide⟩, fun _ => ⟨fc_G_of 1834 (by decide +kernel) rfl, fc_G_of 1835 (by decide +kernel) rfl⟩, fun h => absurd h (by decide)⟩
theorem kX11_whoNow : fc_mp (mX11_whoNow, 0, 0) := ⟨⟨fc_G_of 1844 (by decide +kernel) rfl, fc_G_of 117 (by decide +kernel) rfl, by decide +kernel, by decide⟩, fun _ => ⟨fc_G_of 1843 (by decide +kernel) rfl, fc_G_of 100 (by decide +kernel) rfl⟩, fun h => absurd h (by decide)⟩
theorem kX11_who : fc_mp (mX11_who, 0, 0) := ⟨⟨fc_G_of 1840 (by decide +kernel) rfl, fc_G_of 117 (by decide +kernel) rfl, by decide +kernel, by decide⟩, fun _ => ⟨fc_G_of 1838 (by decide +kernel) rfl, fc_G_of 1839 (by decide +kernel) rfl⟩, fun h => absurd h (by decide)⟩
theorem kX11_ask : fc_mp (mX11_ask, 0, 0) := ⟨⟨fc_G_of 1848 (by decide +kernel) rfl, fc_G_of 117 (by decide +kernel) rfl, by decide +kernel, by decide⟩, fun _ => ⟨fc_G_of 1846 (by decide +kernel) rfl, fc_G_of 1847 (by decide +kernel) rfl⟩, fun h => absurd h (by decide)⟩
theorem kX11_worthOf : fc_mp (mX11_worthOf, 2, 0) := ⟨⟨fc_G_of 1856 (by decide +kernel) rfl, fc_G_of 117 (by decide +kernel) rfl, by decide +kernel, by decide⟩, fun _ => ⟨fc_G_of 1855 (by decide +kernel) rfl, fc_G_of 101 (by decide +kernel) rfl⟩, fun h => absurd h (by decide)⟩
theorem kX11_has : fc_mp (mX11_has, 2, 0) := ⟨⟨fc_G_of 1852 (by decide +kernel) rfl, fc_G_of 117 (by decide +kernel) rfl, by decide +kernel, by decide⟩, fun _ => ⟨fc_G_of 1850 (by decide +kernel) rfl, fc_G_of 1851 (by decide +kernel) rfl⟩, fun h => absurd h (by decide)⟩
theorem kX11_sleeps : fc_mp (mX11_sleeps, 1, 0) := ⟨⟨fc_G_of 1860 (by decide +kernel) rfl, fc_G_of 117 (by decide +kernel) rfl, by decide +kernel, by decide⟩, fun _ => ⟨fc_G_of 1858 (by decide +kernel) rfl, fc_G_of 1859 (by decide +kernel) rfl⟩, fun h => absurd h (by decide)⟩
theorem kX11_rich : fc_mp (mX11_rich, 1, 0) := ⟨⟨fc_G_of 1864 (by decide +kernel) rfl, fc_G_of 117 (by decide +kernel) rfl, by decide +kernel, by decide⟩, fun _ => ⟨fc_G_of 1862 (by decide +kernel) rfl, fc_G_of 1863 (by decide +kernel) rfl⟩, fun h => absurd h (by decide)⟩
theorem kX11_chance : fc_mp (mX11_chance, 2, 0) := ⟨⟨fc_G_of 1868 (by decide +kernel) rfl, fc_G_of 117 (by decide +kernel) rfl, by decide +kernel, by decide⟩, fun _ => ⟨fc_G_of 1866 (by decide +kernel) rfl, fc_G_of 1867 (by decide +kernel) rfl⟩, fun h => absurd h (by decide)⟩
theorem kX11_getsBy : fc_mp (mX11_getsBy, 5, 1) := ⟨⟨fc_G_of 1876 (by decide +kernel) rfl, fc_G_of 117 (by decide +kernel) rfl, by decide +kernel, by decide⟩, fun h => absurd h (by decide), fun _ => fc_G_of 1875 (by decide +kernel) rfl⟩
theorem kX11_rests : fc_mp (mX11_rests, 4, 0) := ⟨⟨fc_G_of 1873 (by decide +kernel) rfl, fc_G_of 117 (by decide +kernel) rfl, by decide +kernel, by decide⟩, fun _ => ⟨fc_G_of 1871 (by decide +kernel) rfl, fc_G_of 1872 (by decide +kernel) rfl⟩, fun h => absurd h (by decide)⟩
theorem kX11_draw : fc_mp (mX11_draw, 1, 0) := ⟨⟨fc_G_of 1888 (by decide +kernel) rfl, fc_G_of 117 (by decide +kernel) rfl, by decide +kernel, by decide⟩, fun _ => ⟨fc_G_of 1887 (by decide +kernel) rfl, fc_G_of 103 (by decide +kernel) rfl⟩, fun h => absurd h (by decide)⟩
theorem kX11_drawsDeed : fc_mp (mX11_drawsDeed, 0, 0) := ⟨⟨fc_G_of 1884 (by decide +kernel) rfl, fc_G_of 117 (by decide +kernel) rfl, by decide +kernel, by decide⟩, fun _ => ⟨fc_G_of 1883 (by decide +kernel) rfl, fc_G_of 102 (by decide +kernel) rfl⟩, fun h => absurd h (by decide)⟩
theorem kX11_mornings : fc_mp (mX11_mornings, 3, 0) := ⟨⟨fc_G_of 1880 (by decide +kernel) rfl, fc_G_of 117 (by decide +kernel) rfl, by decide +kernel, by decide⟩, fun _ => ⟨fc_G_of 1878 (by decide +kernel) rfl, fc_G_of 1879 (by decide +kernel) rfl⟩, fun h => absurd h (by decide)⟩
theorem kX11_mark : fc_mp (mX11_mark, 2, 0) := ⟨⟨fc_G_of 1896 (by decide +kernel) rfl, fc_G_of 117 (by decide +kernel) rfl, by decide +kernel, by decide⟩, fun _ => ⟨fc_G_of 1894 (by decide +kernel) rfl, fc_G_of 1895 (by decide +kernel) rfl⟩, fun h => absurd h (by decide)⟩
theorem kX11_pairsOf : fc_mp (mX11_pairsOf, 1, 0) := ⟨⟨fc_G_of 1904 (by decide +kernel) rfl, fc_G_of 117 (by decide +kernel) rfl, by decide +kernel, by decide⟩, fun _ => ⟨fc_G_of 1903 (by decide +kernel) rfl, fc_G_of 104 (by decide +kernel) rfl⟩, fun h => absurd h (by decide)⟩
theorem kX11_count : fc_mp (mX11_count, 1, 0) := ⟨⟨fc_G_of 1900 (by decide +kernel) rfl, fc_G_of 117 (by decide +kernel) rfl, by decide +kernel, by decide⟩, fun _ => ⟨fc_G_of 1898 (by decide +kernel) rfl, fc_G_of 1899 (by decide +kernel) rfl⟩, fun h => absurd h (by decide)⟩
theorem kJ11_isValidCodePoint_9a6ad : fc_mp (mJ11_isValidCodePoint_9a6ad, 1, 1) := ⟨⟨fc_G_of 650 (by decide +kernel) rfl, fc_G_of 124 (by decide +kernel) rfl, by decide +kernel, by decide⟩, fun h => absurd h (by decide), fun _ => fc_G_of 649 (by decide +kernel) rfl⟩
theorem kJ11_highSurrogate_5068e : fc_mp (mJ11_highSurrogate_5068e, 1, 1) := ⟨⟨fc_G_of 653 (by decide +kernel) rfl, fc_G_of 124 (by decide +kernel) rfl, by decide +kernel, by decide⟩, fun h => absurd h (by decide), fun _ => fc_G_of 652 (by decide +kernel) rfl⟩
theorem kJ11_lowSurrogate_5068e : fc_mp (mJ11_lowSurrogate_5068e, 1, 1) := ⟨⟨fc_G_of 657 (by decide +kernel) rfl, fc_G_of 124 (by decide +kernel) rfl, by decide +kernel, by decide⟩, fun h => absurd h (by decide), fun _ => fc_G_of 656 (by decide +kernel) rfl⟩
theorem kJ6_bitCount_0f7a4 : fc_mp (mJ6_bitCount_0f7a4, 1, 1) := ⟨⟨fc_G_of 899 (by decide +kernel) rfl, fc_G_of 126 (by decide +kernel) rfl, by decide +kernel, by decide⟩, fun h => absurd h (by decide), fun _ => fc_G_of 898 (by decide +kernel) rfl⟩
theorem kJ9_max_7cf53 : fc_mp (mJ9_max_7cf53, 2, 1) := ⟨⟨fc_G_of 617 (by decide +kernel) rfl, fc_G_of 123 (by decide +kernel) rfl, by decide +kernel, by decide⟩, fun h => absurd h (by decide), fun _ => fc_G_of 616 (by decide +kernel) rfl⟩
theorem kJ9_min_7cf53 : fc_mp (mJ9_min_7cf53, 2, 1) := ⟨⟨fc_G_of 620 (by decide +kernel) rfl, fc_G_of 123 (by decide +kernel) rfl, by decide +kernel, by decide⟩, fun h => absurd h (by decide), fun _ => fc_G_of 619 (by decide +kernel) rfl⟩
theorem kJ0_length_8abf5 : fc_mp (mJ0_length_8abf5, 0, 0) := ⟨⟨fc_G_of 550 (by decide +kernel) rfl, fc_G_of 119 (by decide +kernel) rfl, by decide +kernel, by decide⟩, fun _ => ⟨fc_G_of 548 (by decide +kernel) rfl, fc_G_of 549 (by decide +kernel) rfl⟩, fun h => absurd h (by decide)⟩
theorem kJ0_charAt_5068e : fc_mp (mJ0_charAt_5068e, 1, 0) := ⟨⟨fc_G_of 560 (by decide +kernel) rfl, fc_G_of 119 (by decide +kernel) rfl, by decide +kernel, by decide⟩, fun _ => ⟨fc_G_of 558 (by decide +kernel) rfl, fc_G_of 559 (by decide +kernel) rfl⟩, fun h => absurd h (by decide)⟩
theorem kJ0_indexOf_0f7a4 : fc_mp (mJ0_indexOf_0f7a4, 1, 0) := ⟨⟨fc_G_of 603 (by decide +kernel) rfl, fc_G_of 119 (by decide +kernel) rfl, by decide +kernel, by decide⟩, fun _ => ⟨fc_G_of 601 (by decide +kernel) rfl, fc_G_of 602 (by decide +kernel) rfl⟩, fun h => absurd h (by decide)⟩
theorem kJ0_indexOf_7cf53 : fc_mp (mJ0_indexOf_7cf53, 2, 0) := ⟨⟨fc_G_of 607 (by decide +kernel) rfl, fc_G_of 119 (by decide +kernel) rfl, by decide +kernel, by decide⟩, fun _ => ⟨fc_G_of 605 (by decide +kernel) rfl, fc_G_of 606 (by decide +kernel) rfl⟩, fun h => absurd h (by decide)⟩
theorem kJ0_isLatin1_aae02 : fc_mp (mJ0_isLatin1_aae02, 0, 0) := ⟨⟨fc_G_of 564 (by decide +kernel) rfl, fc_G_of 119 (by decide +kernel) rfl, by decide +kernel, by decide⟩, fun _ => ⟨fc_G_of 562 (by decide +kernel) rfl, fc_G_of 563 (by decide +kernel) rfl⟩, fun h => absurd h (by decide)⟩
theorem kJ0_checkIndex_df160 : fc_mp (mJ0_checkIndex_df160, 2, 1) := ⟨⟨fc_G_of 570 (by decide +kernel) rfl, fc_G_of 119 (by decide +kernel) rfl, by decide +kernel, by decide⟩, fun h => absurd h (by decide), fun _ => fc_G_of 569 (by decide +kernel) rfl⟩
theorem kJ0_checkBoundsBeginEnd_23922 : fc_mp (mJ0_checkBoundsBeginEnd_23922, 3, 1) := ⟨⟨fc_G_of 638 (by decide +kernel) rfl, fc_G_of 119 (by decide +kernel) rfl, by decide +kernel, by decide⟩, fun h => absurd h (by decide), fun _ => fc_G_of 637 (by decide +kernel) rfl⟩
theorem kJ1_charAt_3b067 : fc_mp (mJ1_charAt_3b067, 2, 1) := ⟨⟨fc_G_of 567 (by decide +kernel) rfl, fc_G_of 120 (by decide +kernel) rfl, by decide +kernel, by decide⟩, fun h => absurd h (by decide), fun _ => fc_G_of 566 (by decide +kernel) rfl⟩
theorem kJ1_canEncode_9a6ad : fc_mp (mJ1_canEncode_9a6ad, 1, 1) := ⟨⟨fc_G_of 614 (by decide +kernel) rfl, fc_G_of 120 (by decide +kernel) rfl, by decide +kernel, by decide⟩, fun h => absurd h (by decide), fun _ => fc_G_of 613 (by decide +kernel) rfl⟩
theorem kJ1_indexOf_4cfef : fc_mp (mJ1_indexOf_4cfef, 4, 1) := ⟨⟨fc_G_of 611 (by decide +kernel) rfl, fc_G_of 120 (by decide +kernel) rfl, by decide +kernel, by decide⟩, fun h => absurd h (by decide), fun _ => fc_G_of 610 (by decide +kernel) rfl⟩
theorem kJ1_indexOfChar_4cfef : fc_mp (mJ1_indexOfChar_4cfef, 4, 1) := ⟨⟨fc_G_of 623 (by decide +kernel) rfl, fc_G_of 120 (by decide +kernel) rfl, by decide +kernel, by decide⟩, fun h => absurd h (by decide), fun _ => fc_G_of 622 (by decide +kernel) rfl⟩
theorem kJ2_getChar_3b067 : fc_mp (mJ2_getChar_3b067, 2, 1) := ⟨⟨fc_G_of 588 (by decide +kernel) rfl, fc_G_of 122 (by decide +kernel) rfl, by decide +kernel, by decide⟩, fun h => absurd h (by decide), fun _ => fc_G_of 587 (by decide +kernel) rfl⟩
theorem kJ2_length_9d52b : fc_mp (mJ2_length_9d52b, 1, 1) := ⟨⟨fc_G_of 584 (by decide +kernel) rfl, fc_G_of 122 (by decide +kernel) rfl, by decide +kernel, by decide⟩, fun h => absurd h (by decide), fun _ => fc_G_of 583 (by decide +kernel) rfl⟩
theorem kJ2_indexOf_4cfef : fc_mp (mJ2_indexOf_4cfef, 4, 1) := ⟨⟨fc_G_of 626 (by decide +kernel) rfl, fc_G_of 122 (by decide +kernel) rfl, by decide +kernel, by decide⟩, fun h => absurd h (by decide), fun _ => fc_G_of 625 (by decide +kernel) rfl⟩
theorem kJ2_indexOfChar_4cfef : fc_mp (mJ2_indexOfChar_4cfef, 4, 1) := ⟨⟨fc_G_of 632 (by decide +kernel) rfl, fc_G_of 122 (by decide +kernel) rfl, by decide +kernel, by decide⟩, fun h => absurd h (by decide), fun _ => fc_G_of 631 (by decide +kernel) rfl⟩
theorem kJ2_indexOfCharUnsafe_4cfef : fc_mp (mJ2_indexOfCharUnsafe_4cfef, 4, 1) := ⟨⟨fc_G_of 644 (by decide +kernel) rfl, fc_G_of 122 (by decide +kernel) rfl, by decide +kernel, by decide⟩, fun h => absurd h (by decide), fun _ => fc_G_of 643 (by decide +kernel) rfl⟩
theorem kJ2_indexOfSupplementary_4cfef : fc_mp (mJ2_indexOfSupplementary_4cfef, 4, 1) := ⟨⟨fc_G_of 647 (by decide +kernel) rfl, fc_G_of 122 (by decide +kernel) rfl, by decide +kernel, by decide⟩, fun h => absurd h (by decide), fun _ => fc_G_of 646 (by decide +kernel) rfl⟩
theorem kJ2_charAt_3b067 : fc_mp (mJ2_charAt_3b067, 2, 1) := ⟨⟨fc_G_of 578 (by decide +kernel) rfl, fc_G_of 122 (by decide +kernel) rfl, by decide +kernel, by decide⟩, fun h => absurd h (by decide), fun _ => fc_G_of 577 (by decide +kernel) rfl⟩
theorem kJ2_checkIndex_2214a : fc_mp (mJ2_checkIndex_2214a, 2, 1) := ⟨⟨fc_G_of 581 (by decide +kernel) rfl, fc_G_of 122 (by decide +kernel) rfl, by decide +kernel, by decide⟩, fun h => absurd h (by decide), fun _ => fc_G_of 580 (by decide +kernel) rfl⟩
theorem kJ2_checkBoundsBeginEnd_d044e : fc_mp (mJ2_checkBoundsBeginEnd_d044e, 3, 1) := ⟨⟨fc_G_of 635 (by decide +kernel) rfl, fc_G_of 122 (by decide +kernel) rfl, by decide +kernel, by decide⟩, fun h => absurd h (by decide), fun _ => fc_G_of 634 (by decide +kernel) rfl⟩
theorem kJ7_fill_53178 : fc_mp (mJ7_fill_53178, 2, 1) := ⟨⟨fc_G_of 528 (by decide +kernel) rfl, fc_G_of 118 (by decide +kernel) rfl, by decide +kernel, by decide⟩, fun h => absurd h (by decide), fun _ => fc_G_of 527 (by decide +kernel) rfl⟩
theorem kJ3_checkIndex_8e157 : fc_mp (mJ3_checkIndex_8e157, 3, 1) := ⟨⟨fc_G_of 575 (by decide +kernel) rfl, fc_G_of 121 (by decide +kernel) rfl, by decide +kernel, by decide⟩, fun h => absurd h (by decide), fun _ => fc_G_of 574 (by decide +kernel) rfl⟩
theorem kJ3_checkFromToIndex_8c36e : fc_mp (mJ3_checkFromToIndex_8c36e, 4, 1) := ⟨⟨fc_G_of 641 (by decide +kernel) rfl, fc_G_of 121 (by decide +kernel) rfl, by decide +kernel, by decide⟩, fun h => absurd h (by decide), fun _ => fc_G_of 640 (by decide +kernel) rfl⟩
def fc_mt0 : List (fc_M × Nat × Nat) := [(mX0_clear, 0, 0), (mX0_indexOf, 3, 1), (mX0_isTold, 1, 0), (mX0_hasPlace, 1, 0), (mX0_hasPerson, 1, 0), (mX0_hasThing, 1, 0), (mX0_isAwake, 2, 0), (mX0_sleepOf, 2, 0), (mX0_awakeBits, 1, 0), (mX1_read, 2, 0), (mX1_isNewName, 2, 1), (mX1_readPlace, 2, 0), (mX1_readPath, 2, 0), (mX1_readPerson, 2, 0), (mX1_readThing, 2, 0), (mX1_readSmoke, 2, 0)]
theorem fc_mo0 : ∀ t ∈ fc_mt0, fc_mp t := List.forall_mem_cons.mpr ⟨kX0_clear, List.forall_mem_cons.mpr ⟨kX0_indexOf, List.forall_mem_cons.mpr ⟨kX0_isTold, List.forall_mem_cons.mpr ⟨kX0_hasPlace, List.forall_mem_cons.mpr ⟨kX0_hasPerson, List.forall_mem_cons.mpr ⟨kX0_hasThing, List.forall_mem_cons.mpr ⟨kX0_isAwake, List.forall_mem_cons.mpr ⟨kX0_sleepOf, List.forall_mem_cons.mpr ⟨kX0_awakeBits, List.forall_mem_cons.mpr ⟨kX1_read, List.forall_mem_cons.mpr ⟨kX1_isNewName, List.forall_mem_cons.mpr ⟨kX1_readPlace, List.forall_mem_cons.mpr ⟨kX1_readPath, List.forall_mem_cons.mpr ⟨kX1_readPerson, List.forall_mem_cons.mpr ⟨kX1_readThing, List.forall_mem_cons.mpr ⟨kX1_readSmoke, fun _ h => absurd h List.not_mem_nil⟩⟩⟩⟩⟩⟩⟩⟩⟩⟩⟩⟩⟩⟩⟩⟩
def fc_mt1 : List (fc_M × Nat × Nat) := [(mX1_readBinds, 2, 0), (mX2_write, 1, 0), (mX2_valueAt, 4, 0), (mX2_operand, 5, 1), (mX2_joined, 3, 1), (mX3_read, 2, 0), (mX3_readPart, 2, 0), (mX3_readBehind, 2, 0), (mX3_closeNots, 1, 0), (mX3_await, 1, 0), (mX3_writeDown, 2, 0), (mX3_rankOf, 1, 1), (mX4_forget, 0, 0), (mX4_keep, 1, 0), (mX4_bringBack, 1, 0), (mX4_lay, 3, 0)]
theorem fc_mo1 : ∀ t ∈ fc_mt1, fc_mp t := List.forall_mem_cons.mpr ⟨kX1_readBinds, List.forall_mem_cons.mpr ⟨kX2_write, List.forall_mem_cons.mpr ⟨kX2_valueAt, List.forall_mem_cons.mpr ⟨kX2_operand, List.forall_mem_cons.mpr ⟨kX2_joined, List.forall_mem_cons.mpr ⟨kX3_read, List.forall_mem_cons.mpr ⟨kX3_readPart, List.forall_mem_cons.mpr ⟨kX3_readBehind, List.forall_mem_cons.mpr ⟨kX3_closeNots, List.forall_mem_cons.mpr ⟨kX3_await, List.forall_mem_cons.mpr ⟨kX3_writeDown, List.forall_mem_cons.mpr ⟨kX3_rankOf, List.forall_mem_cons.mpr ⟨kX4_forget, List.forall_mem_cons.mpr ⟨kX4_keep, List.forall_mem_cons.mpr ⟨kX4_bringBack, List.forall_mem_cons.mpr ⟨kX4_lay, fun _ h => absurd h List.not_mem_nil⟩⟩⟩⟩⟩⟩⟩⟩⟩⟩⟩⟩⟩⟩⟩⟩
def fc_mt2 : List (fc_M × Nat × Nat) := [(mX4_goBack, 3, 0), (mX5_read, 2, 0), (mX5_readLine, 2, 0), (mX5_readNames, 3, 0), (mX5_play, 3, 0), (mX6_add, 3, 0), (mX6_copy, 1, 0), (mX7_begin, 1, 0), (mX7_copy, 1, 0), (mX7_bitsAt, 2, 0), (mX7_strayThings, 1, 0), (mX7_newsOfAll, 1, 0), (mX7_isReady, 2, 0), (mX7_minutesOver, 3, 0), (mX7_canWalk, 3, 0), (mX7_goTo, 3, 0)]
theorem fc_mo2 : ∀ t ∈ fc_mt2, fc_mp t := List.forall_mem_cons.mpr ⟨kX4_goBack, List.forall_mem_cons.mpr ⟨kX5_read, List.forall_mem_cons.mpr ⟨kX5_readLine, List.forall_mem_cons.mpr ⟨kX5_readNames, List.forall_mem_cons.mpr ⟨kX5_play, List.forall_mem_cons.mpr ⟨kX6_add, List.forall_mem_cons.mpr ⟨kX6_copy, List.forall_mem_cons.mpr ⟨kX7_begin, List.forall_mem_cons.mpr ⟨kX7_copy, List.forall_mem_cons.mpr ⟨kX7_bitsAt, List.forall_mem_cons.mpr ⟨kX7_strayThings, List.forall_mem_cons.mpr ⟨kX7_newsOfAll, List.forall_mem_cons.mpr ⟨kX7_isReady, List.forall_mem_cons.mpr ⟨kX7_minutesOver, List.forall_mem_cons.mpr ⟨kX7_canWalk, List.forall_mem_cons.mpr ⟨kX7_goTo, fun _ h => absurd h List.not_mem_nil⟩⟩⟩⟩⟩⟩⟩⟩⟩⟩⟩⟩⟩⟩⟩⟩
def fc_mt3 : List (fc_M × Nat × Nat) := [(mX7_canGive, 3, 0), (mX7_handOver, 3, 0), (mX7_canVow, 3, 0), (mX7_pledge, 3, 0), (mX7_giftBinds, 4, 0), (mX7_isBinding, 5, 0), (mX7_pass, 1, 0), (mX7_shareNews, 2, 0), (mX7_riseSmoke, 1, 0), (mX8_put, 1, 0), (mX8_clear, 0, 0), (mX8_open, 0, 0), (mX8_next, 0, 0), (mX8_readWord, 0, 0), (mX8_readNumber, 0, 0), (mX8_cellIn, 1, 0)]
theorem fc_mo3 : ∀ t ∈ fc_mt3, fc_mp t := List.forall_mem_cons.mpr ⟨kX7_canGive, List.forall_mem_cons.mpr ⟨kX7_handOver, List.forall_mem_cons.mpr ⟨kX7_canVow, List.forall_mem_cons.mpr ⟨kX7_pledge, List.forall_mem_cons.mpr ⟨kX7_giftBinds, List.forall_mem_cons.mpr ⟨kX7_isBinding, List.forall_mem_cons.mpr ⟨kX7_pass, List.forall_mem_cons.mpr ⟨kX7_shareNews, List.forall_mem_cons.mpr ⟨kX7_riseSmoke, List.forall_mem_cons.mpr ⟨kX8_put, List.forall_mem_cons.mpr ⟨kX8_clear, List.forall_mem_cons.mpr ⟨kX8_open, List.forall_mem_cons.mpr ⟨kX8_next, List.forall_mem_cons.mpr ⟨kX8_readWord, List.forall_mem_cons.mpr ⟨kX8_readNumber, List.forall_mem_cons.mpr ⟨kX8_cellIn, fun _ h => absurd h List.not_mem_nil⟩⟩⟩⟩⟩⟩⟩⟩⟩⟩⟩⟩⟩⟩⟩⟩
def fc_mt4 : List (fc_M × Nat × Nat) := [(mX8_fail, 1, 0), (mX8_take, 1, 0), (mX8_isNumber, 2, 0), (mX8_known, 2, 0), (mX9_measure, 1, 0), (mX9_measureFrom, 2, 0), (mX9_neighbours, 2, 1), (mX9_spread, 3, 0), (mX9_isCut, 2, 0), (mX9_farthestFrom, 2, 0), (mX9_pathsOfTour, 2, 0), (mX9_stepOn, 1, 0), (mX10_feed, 3, 0), (mX10_land, 0, 0), (mX10_morning, 0, 0), (mX10_place, 2, 0)]
theorem fc_mo4 : ∀ t ∈ fc_mt4, fc_mp t := List.forall_mem_cons.mpr ⟨kX8_fail, List.forall_mem_cons.mpr ⟨kX8_take, List.forall_mem_cons.mpr ⟨kX8_isNumber, List.forall_mem_cons.mpr ⟨kX8_known, List.forall_mem_cons.mpr ⟨kX9_measure, List.forall_mem_cons.mpr ⟨kX9_measureFrom, List.forall_mem_cons.mpr ⟨kX9_neighbours, List.forall_mem_cons.mpr ⟨kX9_spread, List.forall_mem_cons.mpr ⟨kX9_isCut, List.forall_mem_cons.mpr ⟨kX9_farthestFrom, List.forall_mem_cons.mpr ⟨kX9_pathsOfTour, List.forall_mem_cons.mpr ⟨kX9_stepOn, List.forall_mem_cons.mpr ⟨kX10_feed, List.forall_mem_cons.mpr ⟨kX10_land, List.forall_mem_cons.mpr ⟨kX10_morning, List.forall_mem_cons.mpr ⟨kX10_place, fun _ h => absurd h List.not_mem_nil⟩⟩⟩⟩⟩⟩⟩⟩⟩⟩⟩⟩⟩⟩⟩⟩
def fc_mt5 : List (fc_M × Nat × Nat) := [(mX10_person, 2, 0), (mX10_thing, 2, 0), (mX10_walk, 2, 0), (mX10_give, 2, 0), (mX10_vow, 2, 0), (mX10_minute, 0, 0), (mX10_undo, 0, 0), (mX10_judged, 1, 0), (mX10_soon, 2, 0), (mX10_meet, 2, 0), (mX10_all, 1, 0), (mX10_tour, 1, 0), (mX10_intime, 2, 0), (mX10_back, 0, 0), (mX10_could, 1, 0), (mX10_would, 2, 0)]
theorem fc_mo5 : ∀ t ∈ fc_mt5, fc_mp t := List.forall_mem_cons.mpr ⟨kX10_person, List.forall_mem_cons.mpr ⟨kX10_thing, List.forall_mem_cons.mpr ⟨kX10_walk, List.forall_mem_cons.mpr ⟨kX10_give, List.forall_mem_cons.mpr ⟨kX10_vow, List.forall_mem_cons.mpr ⟨kX10_minute, List.forall_mem_cons.mpr ⟨kX10_undo, List.forall_mem_cons.mpr ⟨kX10_judged, List.forall_mem_cons.mpr ⟨kX10_soon, List.forall_mem_cons.mpr ⟨kX10_meet, List.forall_mem_cons.mpr ⟨kX10_all, List.forall_mem_cons.mpr ⟨kX10_tour, List.forall_mem_cons.mpr ⟨kX10_intime, List.forall_mem_cons.mpr ⟨kX10_back, List.forall_mem_cons.mpr ⟨kX10_could, List.forall_mem_cons.mpr ⟨kX10_would, fun _ h => absurd h List.not_mem_nil⟩⟩⟩⟩⟩⟩⟩⟩⟩⟩⟩⟩⟩⟩⟩⟩
def fc_mt6 : List (fc_M × Nat × Nat) := [(mX10_when, 2, 0), (mX10_vows, 2, 0), (mX10_sees, 1, 0), (mX10_heard, 1, 0), (mX10_news, 0, 0), (mX10_alone, 0, 0), (mX10_reach, 1, 0), (mX10_far, 2, 0), (mX10_cuts, 0, 0), (mX10_hub, 0, 0), (mX10_links, 1, 0), (mX10_see, 3, 0), (mX10_who, 0, 0), (mX10_ask, 0, 0), (mX10_wide, 0, 0), (mX10_has, 2, 0)]
theorem fc_mo6 : ∀ t ∈ fc_mt6, fc_mp t := List.forall_mem_cons.mpr ⟨kX10_when, List.forall_mem_cons.mpr ⟨kX10_vows, List.forall_mem_cons.mpr ⟨kX10_sees, List.forall_mem_cons.mpr ⟨kX10_heard, List.forall_mem_cons.mpr ⟨kX10_news, List.forall_mem_cons.mpr ⟨kX10_alone, List.forall_mem_cons.mpr ⟨kX10_reach, List.forall_mem_cons.mpr ⟨kX10_far, List.forall_mem_cons.mpr ⟨kX10_cuts, List.forall_mem_cons.mpr ⟨kX10_hub, List.forall_mem_cons.mpr ⟨kX10_links, List.forall_mem_cons.mpr ⟨kX10_see, List.forall_mem_cons.mpr ⟨kX10_who, List.forall_mem_cons.mpr ⟨kX10_ask, List.forall_mem_cons.mpr ⟨kX10_wide, List.forall_mem_cons.mpr ⟨kX10_has, fun _ h => absurd h List.not_mem_nil⟩⟩⟩⟩⟩⟩⟩⟩⟩⟩⟩⟩⟩⟩⟩⟩
def fc_mt7 : List (fc_M × Nat × Nat) := [(mX10_sleeps, 1, 0), (mX10_rich, 1, 0), (mX10_chance, 2, 0), (mX10_rests, 4, 0), (mX10_mornings, 3, 0), (mX10_mark, 2, 0), (mX10_count, 1, 0), (mX10_isFrom, 3, 1), (mX10_isIn, 2, 1), (mX10_orNone, 1, 1), (mX10_pairsIn, 1, 1), (mX10_thingsOf, 2, 0), (mX10_worthOf, 2, 0), (mX10_movedThings, 1, 0), (mX10_minutesTo, 2, 0), (mX10_minutesOfAllTo, 1, 0)]
theorem fc_mo7 : ∀ t ∈ fc_mt7, fc_mp t := List.forall_mem_cons.mpr ⟨kX10_sleeps, List.forall_mem_cons.mpr ⟨kX10_rich, List.forall_mem_cons.mpr ⟨kX10_chance, List.forall_mem_cons.mpr ⟨kX10_rests, List.forall_mem_cons.mpr ⟨kX10_mornings, List.forall_mem_cons.mpr ⟨kX10_mark, List.forall_mem_cons.mpr ⟨kX10_count, List.forall_mem_cons.mpr ⟨kX10_isFrom, List.forall_mem_cons.mpr ⟨kX10_isIn, List.forall_mem_cons.mpr ⟨kX10_orNone, List.forall_mem_cons.mpr ⟨kX10_pairsIn, List.forall_mem_cons.mpr ⟨kX10_thingsOf, List.forall_mem_cons.mpr ⟨kX10_worthOf, List.forall_mem_cons.mpr ⟨kX10_movedThings, List.forall_mem_cons.mpr ⟨kX10_minutesTo, List.forall_mem_cons.mpr ⟨kX10_minutesOfAllTo, fun _ h => absurd h List.not_mem_nil⟩⟩⟩⟩⟩⟩⟩⟩⟩⟩⟩⟩⟩⟩⟩⟩
def fc_mt8 : List (fc_M × Nat × Nat) := [(mX10_isGift, 2, 0), (mX10_fitsSeen, 1, 0), (mX10_leftAtWorst, 3, 0), (mX10_isRest, 4, 1), (mX10_gets, 5, 1), (mX10_drawBelow, 1, 0), (mX10_playDrawn, 0, 0), (mX11_thrown, 0, 0), (mX11_feed, 3, 0), (mX11_lay, 1, 0), (mX11_isLetter, 1, 1), (mX11_isDigit, 1, 1), (mX11_rank, 1, 1), (mX11_isSignOf, 1, 1), (mX11_cutAll, 0, 0), (mX11_wrong, 1, 0)]
theorem fc_mo8 : ∀ t ∈ fc_mt8, fc_mp t := List.forall_mem_cons.mpr ⟨kX10_isGift, List.forall_mem_cons.mpr ⟨kX10_fitsSeen, List.forall_mem_cons.mpr ⟨kX10_leftAtWorst, List.forall_mem_cons.mpr ⟨kX10_isRest, List.forall_mem_cons.mpr ⟨kX10_gets, List.forall_mem_cons.mpr ⟨kX10_drawBelow, List.forall_mem_cons.mpr ⟨kX10_playDrawn, List.forall_mem_cons.mpr ⟨kX11_thrown, List.forall_mem_cons.mpr ⟨kX11_feed, List.forall_mem_cons.mpr ⟨kX11_lay, List.forall_mem_cons.mpr ⟨kX11_isLetter, List.forall_mem_cons.mpr ⟨kX11_isDigit, List.forall_mem_cons.mpr ⟨kX11_rank, List.forall_mem_cons.mpr ⟨kX11_isSignOf, List.forall_mem_cons.mpr ⟨kX11_cutAll, List.forall_mem_cons.mpr ⟨kX11_wrong, fun _ h => absurd h List.not_mem_nil⟩⟩⟩⟩⟩⟩⟩⟩⟩⟩⟩⟩⟩⟩⟩⟩
def fc_mt9 : List (fc_M × Nat × Nat) := [(mX11_isSign, 1, 0), (mX11_isWord, 1, 0), (mX11_takeSign, 1, 0), (mX11_hasSign, 1, 0), (mX11_hasWord, 1, 0), (mX11_takeWord, 1, 0), (mX11_within, 3, 1), (mX11_standsAsAlways, 1, 0), (mX11_takeNumber, 2, 0), (mX11_takeAfter, 3, 0), (mX11_wordHere, 2, 0), (mX11_takeOne, 2, 0), (mX11_isName, 0, 0), (mX11_nameAt, 1, 0), (mX11_takeTold, 3, 0), (mX11_land, 0, 0)]
theorem fc_mo9 : ∀ t ∈ fc_mt9, fc_mp t := List.forall_mem_cons.mpr ⟨kX11_isSign, List.forall_mem_cons.mpr ⟨kX11_isWord, List.forall_mem_cons.mpr ⟨kX11_takeSign, List.forall_mem_cons.mpr ⟨kX11_hasSign, List.forall_mem_cons.mpr ⟨kX11_hasWord, List.forall_mem_cons.mpr ⟨kX11_takeWord, List.forall_mem_cons.mpr ⟨kX11_within, List.forall_mem_cons.mpr ⟨kX11_standsAsAlways, List.forall_mem_cons.mpr ⟨kX11_takeNumber, List.forall_mem_cons.mpr ⟨kX11_takeAfter, List.forall_mem_cons.mpr ⟨kX11_wordHere, List.forall_mem_cons.mpr ⟨kX11_takeOne, List.forall_mem_cons.mpr ⟨kX11_isName, List.forall_mem_cons.mpr ⟨kX11_nameAt, List.forall_mem_cons.mpr ⟨kX11_takeTold, List.forall_mem_cons.mpr ⟨kX11_land, fun _ h => absurd h List.not_mem_nil⟩⟩⟩⟩⟩⟩⟩⟩⟩⟩⟩⟩⟩⟩⟩⟩
def fc_mt10 : List (fc_M × Nat × Nat) := [(mX11_readLine, 0, 0), (mX11_readName, 3, 0), (mX11_readPath, 0, 0), (mX11_readOnce, 0, 0), (mX11_morning, 0, 0), (mX11_readMorning, 2, 0), (mX11_emit, 2, 0), (mX11_whole, 1, 0), (mX11_test, 1, 0), (mX11_sums, 1, 0), (mX11_products, 1, 0), (mX11_takePart, 1, 0), (mX11_worthAt, 1, 0), (mX11_both, 3, 1), (mX11_copies, 3, 0), (mX11_starts, 1, 0)]
theorem fc_mo10 : ∀ t ∈ fc_mt10, fc_mp t := List.forall_mem_cons.mpr ⟨kX11_readLine, List.forall_mem_cons.mpr ⟨kX11_readName, List.forall_mem_cons.mpr ⟨kX11_readPath, List.forall_mem_cons.mpr ⟨kX11_readOnce, List.forall_mem_cons.mpr ⟨kX11_morning, List.forall_mem_cons.mpr ⟨kX11_readMorning, List.forall_mem_cons.mpr ⟨kX11_emit, List.forall_mem_cons.mpr ⟨kX11_whole, List.forall_mem_cons.mpr ⟨kX11_test, List.forall_mem_cons.mpr ⟨kX11_sums, List.forall_mem_cons.mpr ⟨kX11_products, List.forall_mem_cons.mpr ⟨kX11_takePart, List.forall_mem_cons.mpr ⟨kX11_worthAt, List.forall_mem_cons.mpr ⟨kX11_both, List.forall_mem_cons.mpr ⟨kX11_copies, List.forall_mem_cons.mpr ⟨kX11_starts, fun _ h => absurd h List.not_mem_nil⟩⟩⟩⟩⟩⟩⟩⟩⟩⟩⟩⟩⟩⟩⟩⟩
def fc_mt11 : List (fc_M × Nat × Nat) := [(mX11_begins, 0, 0), (mX11_keeps, 0, 0), (mX11_places, 0, 0), (mX11_persons, 0, 0), (mX11_things, 0, 0), (mX11_smokeAt, 0, 0), (mX11_pathsFrom, 1, 0), (mX11_personOf, 2, 0), (mX11_thingOf, 2, 0), (mX11_isPlace, 1, 0), (mX11_isPerson, 1, 0), (mX11_isThing, 1, 0), (mX11_bits, 1, 1), (mX11_awakeAt, 1, 0), (mX11_isAwake, 2, 0), (mX11_isReady, 2, 0)]
theorem fc_mo11 : ∀ t ∈ fc_mt11, fc_mp t := List.forall_mem_cons.mpr ⟨kX11_begins, List.forall_mem_cons.mpr ⟨kX11_keeps, List.forall_mem_cons.mpr ⟨kX11_places, List.forall_mem_cons.mpr ⟨kX11_persons, List.forall_mem_cons.mpr ⟨kX11_things, List.forall_mem_cons.mpr ⟨kX11_smokeAt, List.forall_mem_cons.mpr ⟨kX11_pathsFrom, List.forall_mem_cons.mpr ⟨kX11_personOf, List.forall_mem_cons.mpr ⟨kX11_thingOf, List.forall_mem_cons.mpr ⟨kX11_isPlace, List.forall_mem_cons.mpr ⟨kX11_isPerson, List.forall_mem_cons.mpr ⟨kX11_isThing, List.forall_mem_cons.mpr ⟨kX11_bits, List.forall_mem_cons.mpr ⟨kX11_awakeAt, List.forall_mem_cons.mpr ⟨kX11_isAwake, List.forall_mem_cons.mpr ⟨kX11_isReady, fun _ h => absurd h List.not_mem_nil⟩⟩⟩⟩⟩⟩⟩⟩⟩⟩⟩⟩⟩⟩⟩⟩
def fc_mt12 : List (fc_M × Nat × Nat) := [(mX11_whoIn, 2, 0), (mX11_benches, 0, 0), (mX11_doesBind, 5, 0), (mX11_mayWalk, 3, 0), (mX11_walks, 3, 0), (mX11_mayGive, 3, 0), (mX11_gives, 3, 0), (mX11_mayVow, 3, 0), (mX11_vowsBy, 3, 0), (mX11_smokes, 1, 0), (mX11_passes, 1, 0), (mX11_thingsWith, 2, 0), (mX11_wrongThings, 1, 0), (mX11_place, 2, 0), (mX11_person, 2, 0), (mX11_thing, 2, 0)]
theorem fc_mo12 : ∀ t ∈ fc_mt12, fc_mp t := List.forall_mem_cons.mpr ⟨kX11_whoIn, List.forall_mem_cons.mpr ⟨kX11_benches, List.forall_mem_cons.mpr ⟨kX11_doesBind, List.forall_mem_cons.mpr ⟨kX11_mayWalk, List.forall_mem_cons.mpr ⟨kX11_walks, List.forall_mem_cons.mpr ⟨kX11_mayGive, List.forall_mem_cons.mpr ⟨kX11_gives, List.forall_mem_cons.mpr ⟨kX11_mayVow, List.forall_mem_cons.mpr ⟨kX11_vowsBy, List.forall_mem_cons.mpr ⟨kX11_smokes, List.forall_mem_cons.mpr ⟨kX11_passes, List.forall_mem_cons.mpr ⟨kX11_thingsWith, List.forall_mem_cons.mpr ⟨kX11_wrongThings, List.forall_mem_cons.mpr ⟨kX11_place, List.forall_mem_cons.mpr ⟨kX11_person, List.forall_mem_cons.mpr ⟨kX11_thing, fun _ h => absurd h List.not_mem_nil⟩⟩⟩⟩⟩⟩⟩⟩⟩⟩⟩⟩⟩⟩⟩⟩
def fc_mt13 : List (fc_M × Nat × Nat) := [(mX11_walk, 2, 0), (mX11_give, 2, 0), (mX11_vow, 2, 0), (mX11_minute, 0, 0), (mX11_undo, 0, 0), (mX11_judged, 1, 0), (mX11_onFrom, 2, 0), (mX11_reachBy, 2, 0), (mX11_farOf, 2, 0), (mX11_reach, 1, 0), (mX11_far, 2, 0), (mX11_cuts, 0, 0), (mX11_hub, 0, 0), (mX11_links, 1, 0), (mX11_wide, 0, 0), (mX11_readyIn, 1, 0)]
theorem fc_mo13 : ∀ t ∈ fc_mt13, fc_mp t := List.forall_mem_cons.mpr ⟨kX11_walk, List.forall_mem_cons.mpr ⟨kX11_give, List.forall_mem_cons.mpr ⟨kX11_vow, List.forall_mem_cons.mpr ⟨kX11_minute, List.forall_mem_cons.mpr ⟨kX11_undo, List.forall_mem_cons.mpr ⟨kX11_judged, List.forall_mem_cons.mpr ⟨kX11_onFrom, List.forall_mem_cons.mpr ⟨kX11_reachBy, List.forall_mem_cons.mpr ⟨kX11_farOf, List.forall_mem_cons.mpr ⟨kX11_reach, List.forall_mem_cons.mpr ⟨kX11_far, List.forall_mem_cons.mpr ⟨kX11_cuts, List.forall_mem_cons.mpr ⟨kX11_hub, List.forall_mem_cons.mpr ⟨kX11_links, List.forall_mem_cons.mpr ⟨kX11_wide, List.forall_mem_cons.mpr ⟨kX11_readyIn, fun _ h => absurd h List.not_mem_nil⟩⟩⟩⟩⟩⟩⟩⟩⟩⟩⟩⟩⟩⟩⟩⟩
def fc_mt14 : List (fc_M × Nat × Nat) := [(mX11_paceOf, 1, 0), (mX11_soonOf, 2, 0), (mX11_told, 1, 1), (mX11_soon, 2, 0), (mX11_meet, 2, 0), (mX11_all, 1, 0), (mX11_tour, 1, 0), (mX11_intime, 2, 0), (mX11_back, 0, 0), (mX11_could, 1, 0), (mX11_wouldBind, 3, 0), (mX11_isGift, 2, 0), (mX11_would, 2, 0), (mX11_when, 2, 0), (mX11_vows, 2, 0), (mX11_sees, 1, 0)]
theorem fc_mo14 : ∀ t ∈ fc_mt14, fc_mp t := List.forall_mem_cons.mpr ⟨kX11_paceOf, List.forall_mem_cons.mpr ⟨kX11_soonOf, List.forall_mem_cons.mpr ⟨kX11_told, List.forall_mem_cons.mpr ⟨kX11_soon, List.forall_mem_cons.mpr ⟨kX11_meet, List.forall_mem_cons.mpr ⟨kX11_all, List.forall_mem_cons.mpr ⟨kX11_tour, List.forall_mem_cons.mpr ⟨kX11_intime, List.forall_mem_cons.mpr ⟨kX11_back, List.forall_mem_cons.mpr ⟨kX11_could, List.forall_mem_cons.mpr ⟨kX11_wouldBind, List.forall_mem_cons.mpr ⟨kX11_isGift, List.forall_mem_cons.mpr ⟨kX11_would, List.forall_mem_cons.mpr ⟨kX11_when, List.forall_mem_cons.mpr ⟨kX11_vows, List.forall_mem_cons.mpr ⟨kX11_sees, fun _ h => absurd h List.not_mem_nil⟩⟩⟩⟩⟩⟩⟩⟩⟩⟩⟩⟩⟩⟩⟩⟩
def fc_mt15 : List (fc_M × Nat × Nat) := [(mX11_heard, 1, 0), (mX11_heardOfAll, 1, 0), (mX11_triesNow, 0, 0), (mX11_news, 0, 0), (mX11_alone, 0, 0), (mX11_see, 3, 0), (mX11_whoNow, 0, 0), (mX11_who, 0, 0), (mX11_ask, 0, 0), (mX11_worthOf, 2, 0), (mX11_has, 2, 0), (mX11_sleeps, 1, 0), (mX11_rich, 1, 0), (mX11_chance, 2, 0), (mX11_getsBy, 5, 1), (mX11_rests, 4, 0)]
theorem fc_mo15 : ∀ t ∈ fc_mt15, fc_mp t := List.forall_mem_cons.mpr ⟨kX11_heard, List.forall_mem_cons.mpr ⟨kX11_heardOfAll, List.forall_mem_cons.mpr ⟨kX11_triesNow, List.forall_mem_cons.mpr ⟨kX11_news, List.forall_mem_cons.mpr ⟨kX11_alone, List.forall_mem_cons.mpr ⟨kX11_see, List.forall_mem_cons.mpr ⟨kX11_whoNow, List.forall_mem_cons.mpr ⟨kX11_who, List.forall_mem_cons.mpr ⟨kX11_ask, List.forall_mem_cons.mpr ⟨kX11_worthOf, List.forall_mem_cons.mpr ⟨kX11_has, List.forall_mem_cons.mpr ⟨kX11_sleeps, List.forall_mem_cons.mpr ⟨kX11_rich, List.forall_mem_cons.mpr ⟨kX11_chance, List.forall_mem_cons.mpr ⟨kX11_getsBy, List.forall_mem_cons.mpr ⟨kX11_rests, fun _ h => absurd h List.not_mem_nil⟩⟩⟩⟩⟩⟩⟩⟩⟩⟩⟩⟩⟩⟩⟩⟩
def fc_mt16 : List (fc_M × Nat × Nat) := [(mX11_draw, 1, 0), (mX11_drawsDeed, 0, 0), (mX11_mornings, 3, 0), (mX11_mark, 2, 0), (mX11_pairsOf, 1, 0), (mX11_count, 1, 0), (mJ11_isValidCodePoint_9a6ad, 1, 1), (mJ11_highSurrogate_5068e, 1, 1), (mJ11_lowSurrogate_5068e, 1, 1), (mJ6_bitCount_0f7a4, 1, 1), (mJ9_max_7cf53, 2, 1), (mJ9_min_7cf53, 2, 1), (mJ0_length_8abf5, 0, 0), (mJ0_charAt_5068e, 1, 0), (mJ0_indexOf_0f7a4, 1, 0), (mJ0_indexOf_7cf53, 2, 0)]
theorem fc_mo16 : ∀ t ∈ fc_mt16, fc_mp t := List.forall_mem_cons.mpr ⟨kX11_draw, List.forall_mem_cons.mpr ⟨kX11_drawsDeed, List.forall_mem_cons.mpr ⟨kX11_mornings, List.forall_mem_cons.mpr ⟨kX11_mark, List.forall_mem_cons.mpr ⟨kX11_pairsOf, List.forall_mem_cons.mpr ⟨kX11_count, List.forall_mem_cons.mpr ⟨kJ11_isValidCodePoint_9a6ad, List.forall_mem_cons.mpr ⟨kJ11_highSurrogate_5068e, List.forall_mem_cons.mpr ⟨kJ11_lowSurrogate_5068e, List.forall_mem_cons.mpr ⟨kJ6_bitCount_0f7a4, List.forall_mem_cons.mpr ⟨kJ9_max_7cf53, List.forall_mem_cons.mpr ⟨kJ9_min_7cf53, List.forall_mem_cons.mpr ⟨kJ0_length_8abf5, List.forall_mem_cons.mpr ⟨kJ0_charAt_5068e, List.forall_mem_cons.mpr ⟨kJ0_indexOf_0f7a4, List.forall_mem_cons.mpr ⟨kJ0_indexOf_7cf53, fun _ h => absurd h List.not_mem_nil⟩⟩⟩⟩⟩⟩⟩⟩⟩⟩⟩⟩⟩⟩⟩⟩
def fc_mt17 : List (fc_M × Nat × Nat) := [(mJ0_isLatin1_aae02, 0, 0), (mJ0_checkIndex_df160, 2, 1), (mJ0_checkBoundsBeginEnd_23922, 3, 1), (mJ1_charAt_3b067, 2, 1), (mJ1_canEncode_9a6ad, 1, 1), (mJ1_indexOf_4cfef, 4, 1), (mJ1_indexOfChar_4cfef, 4, 1), (mJ2_getChar_3b067, 2, 1), (mJ2_length_9d52b, 1, 1), (mJ2_indexOf_4cfef, 4, 1), (mJ2_indexOfChar_4cfef, 4, 1), (mJ2_indexOfCharUnsafe_4cfef, 4, 1), (mJ2_indexOfSupplementary_4cfef, 4, 1), (mJ2_charAt_3b067, 2, 1), (mJ2_checkIndex_2214a, 2, 1), (mJ2_checkBoundsBeginEnd_d044e, 3, 1)]
theorem fc_mo17 : ∀ t ∈ fc_mt17, fc_mp t := List.forall_mem_cons.mpr ⟨kJ0_isLatin1_aae02, List.forall_mem_cons.mpr ⟨kJ0_checkIndex_df160, List.forall_mem_cons.mpr ⟨kJ0_checkBoundsBeginEnd_23922, List.forall_mem_cons.mpr ⟨kJ1_charAt_3b067, List.forall_mem_cons.mpr ⟨kJ1_canEncode_9a6ad, List.forall_mem_cons.mpr ⟨kJ1_indexOf_4cfef, List.forall_mem_cons.mpr ⟨kJ1_indexOfChar_4cfef, List.forall_mem_cons.mpr ⟨kJ2_getChar_3b067, List.forall_mem_cons.mpr ⟨kJ2_length_9d52b, List.forall_mem_cons.mpr ⟨kJ2_indexOf_4cfef, List.forall_mem_cons.mpr ⟨kJ2_indexOfChar_4cfef, List.forall_mem_cons.mpr ⟨kJ2_indexOfCharUnsafe_4cfef, List.forall_mem_cons.mpr ⟨kJ2_indexOfSupplementary_4cfef, List.forall_mem_cons.mpr ⟨kJ2_charAt_3b067, List.forall_mem_cons.mpr ⟨kJ2_checkIndex_2214a, List.forall_mem_cons.mpr ⟨kJ2_checkBoundsBeginEnd_d044e, fun _ h => absurd h List.not_mem_nil⟩⟩⟩⟩⟩⟩⟩⟩⟩⟩⟩⟩⟩⟩⟩⟩
def fc_mt18 : List (fc_M × Nat × Nat) := [(mJ7_fill_53178, 2, 1), (mJ3_checkIndex_8e157, 3, 1), (mJ3_checkFromToIndex_8c36e, 4, 1)]
theorem fc_mo18 : ∀ t ∈ fc_mt18, fc_mp t := List.forall_mem_cons.mpr ⟨kJ7_fill_53178, List.forall_mem_cons.mpr ⟨kJ3_checkIndex_8e157, List.forall_mem_cons.mpr ⟨kJ3_checkFromToIndex_8c36e, fun _ h => absurd h List.not_mem_nil⟩⟩⟩
def fc_mtab : List (fc_M × Nat × Nat) := fc_mt0 ++ (fc_mt1 ++ (fc_mt2 ++ (fc_mt3 ++ (fc_mt4 ++ (fc_mt5 ++ (fc_mt6 ++ (fc_mt7 ++ (fc_mt8 ++ (fc_mt9 ++ (fc_mt10 ++ (fc_mt11 ++ (fc_mt12 ++ (fc_mt13 ++ (fc_mt14 ++ (fc_mt15 ++ (fc_mt16 ++ (fc_mt17 ++ (fc_mt18))))))))))))))))))
theorem fc_mtab_ok : ∀ t ∈ fc_mtab, fc_mp t := by
  intro t h
  simp only [fc_mtab, List.mem_append] at h
  rcases h with h | h | h | h | h | h | h | h | h | h | h | h | h | h | h | h | h | h | h
  · exact fc_mo0 t h
  · exact fc_mo1 t h
  · exact fc_mo2 t h
  · exact fc_mo3 t h
  · exact fc_mo4 t h
  · exact fc_mo5 t h
  · exact fc_mo6 t h
  · exact fc_mo7 t h
  · exact fc_mo8 t h
  · exact fc_mo9 t h
  · exact fc_mo10 t h
  · exact fc_mo11 t h
  · exact fc_mo12 t h
  · exact fc_mo13 t h
  · exact fc_mo14 t h
  · exact fc_mo15 t h
  · exact fc_mo16 t h
  · exact fc_mo17 t h
  · exact fc_mo18 t h
end
section
/-! ===== instructions with what they link to: pc, instruction, length, two numbers, the place of its word in the tables, a value ===== -/
abbrev fc_I : Type := Nat × Instr × Nat × Nat × Nat × Nat × Value
/-- the kinds of a class's fields: 0 int, 1 long, 2 reference, 3 boolean -/
def fc_ft : Nat → List Nat
  | 0 => [2, 2, 2, 2, 2, 2, 2, 2, 2, 2, 0, 0, 0, 0, 0]
  | 1 => [2, 3, 3]
  | 2 => [2, 2, 0]
  | 3 => [2, 0, 0, 3]
  | 4 => [2, 2, 2, 2, 0, 0]
  | 5 => [2, 2, 2, 0]
  | 6 => [2, 2, 2, 0]
  | 7 => [0, 0, 2, 2, 2, 2, 2, 2, 2]
  | 8 => [2, 0, 0, 0, 0, 0, 1, 0]
  | 9 => [2, 2, 2]
  | 10 => [2, 2, 2, 2, 2, 2, 2, 2, 2, 2, 2, 1]
  | 11 => [0, 2, 0, 0, 2, 2, 2, 0, 0, 2, 2, 2, 2, 0, 2, 2, 2, 2, 0, 0, 0, 2, 2, 2, 2, 0, 2, 2, 2, 1]
  | _ => []
/-- links of private static methods that nest mates call: (class, entry, method) -/
def fc_N : List (String × Nat × MethodName) := [("FirstChimney$Tape", 15, yX10_isFrom), ("FirstChimney$LandReader", 100, yX10_isIn), ("FirstChimney$LandReader", 110, yX10_isFrom), ("FirstChimney$Ways", 39, yX10_isIn), ("FirstChimney$Script", 44, yX10_isFrom), ("FirstChimney$State", 96, yX10_isIn)]
/-- the constant texts: class, entry, text -/
def fc_tx : List (String × Nat × String) := [("FirstChimney$Tape", 58, "place   path    person  in      wakes   thing   worth   of      smoke   binds   minute  walk    give    vow     plain   bench   slow    mute    not     and     or      "), ("FirstChimney$Tape", 44, "()<=+-*;"), ("FirstChimney$LawReader", 49, "clock   price   crowd   judge   "), ("FirstChimney", 309, "no such kindling"), ("FirstChimney", 318, "no such rest")]
def fc_tg (pc : Nat) (off : Int) (a : Nat) : Bool := decide ((pc : Int) + off = (a : Int))
def fc_at (i : Nat) (w : Cond) : Bool := decide (lw_tbl[i]? = some w) && goodWord w
/-- a field's kind, by its type -/
def fc_fk : Option FieldType → Option Nat
  | some .int => some 0
  | some .long => some 1
  | some .boolean => some 3
  | some (.object _) => some 2
  | some (.array _) => some 2
  | _ => none
def fc_okf (y : fc_M) (i a b ps : Nat) : Bool := match vwCl[a]? with
  | some r => decide (b < r.2.2) && (decide (a < 20) && (decide ((fc_ft a)[b]? = fc_fk (parseFieldDescriptor (r.2.1 b).2.2.1)) && fc_at ps (.fieldLink y.1.cls i (r.2.1 b).1 (r.2.1 b).2.1 (r.2.1 b).2.2.1)))
  | none => false
def fc_fin (a b : Nat) : Bool := match vwCl[a]? with
  | some r => (r.2.1 b).2.2.2
  | none => true
def fc_okv (y : fc_M) (i a b ps : Nat) (v : Value) : Bool := match fc_mtab[a]? with
  | some t => fc_at ps (.methodLink y.1.cls i t.1.1) && (t.2.2 == 0 && (t.2.1 + 1 == b && (match v with
    | .ref ci => (match vwCl[ci]? with
      | some r => decide (r.1 = t.1.1.cls) && decide (ci < 20)
      | none => false)
    | .null => decide (t.1.1.cls = "java/lang/String")
    | _ => false)))
  | none => false
def fc_oks (y : fc_M) (i a b ps : Nat) (v : Value) : Bool := match v with
  | .retAddr 0 => (match fc_mtab[a]? with
    | some t => fc_at ps (.methodLink y.1.cls i t.1.1) && (t.2.2 == 1 && t.2.1 == b)
    | none => false)
  | .retAddr 1 => (match fc_mtab[a]? with
    | some t => decide ((y.1.cls, i, t.1.1) ∈ fc_N) && (t.2.2 == 1 && t.2.1 == b)
    | none => false)
  | .retAddr 10 => fc_at ps (.methodLink y.1.cls i Lib.Math.max.name)
  | .retAddr 11 => fc_at ps (.methodLink y.1.cls i Lib.Math.min.name)
  | .retAddr 12 => fc_at ps (.methodLink y.1.cls i arraycopyName)
  | _ => false
def fc_okc (y : fc_M) (i ps : Nat) (v : Value) : Bool := match v with
  | .int z => fc_at ps (.constant y.1.cls i z)
  | .float u => (match fc_tx[u.toNat]? with
    | some q => decide (q.1 = y.1.cls) && decide (q.2.1 = i)
    | none => false)
  | _ => false
def fc_okd (y : fc_M) (i ps : Nat) (v : Value) : Bool := match v with
  | .long z => fc_at ps (.constantLong y.1.cls i z)
  | _ => false
def fc_okl (y : fc_M) : fc_I → Bool
  | (pc, i, len, a, b, ps, v) => match i with
    | .iconst n => len == 1 && decide (v = .int (Int32.ofInt n))
    | .bipush n => len == 2 && decide (v = .int (Int8.ofInt n).toInt32)
    | .sipush n => len == 3 && decide (v = .int (Int16.ofInt n).toInt32)
    | .lconst n => len == 1 && decide (v = .long (Int64.ofNat (n : Nat)))
    | .ldc i => len == 2 && fc_okc y i ps v
    | .ldc_w i => len == 3 && fc_okc y i ps v
    | .ldc2_w i => len == 3 && fc_okd y i ps v
    | .getfield i => len == 3 && fc_okf y i a b ps
    | .putfield i => len == 3 && (fc_okf y i a b ps && !fc_fin a b)
    | .invokevirtual i => len == 3 && fc_okv y i a b ps v
    | .invokestatic i => len == 3 && fc_oks y i a b ps v
    | .if_icmp _ off => len == 3 && fc_tg pc off a
    | .ifCond _ off => len == 3 && fc_tg pc off a
    | .goto off => len == 3 && fc_tg pc off a
    | .iload _ => len == 2
    | .lload _ => len == 2
    | .aload _ => len == 2
    | .istore k => len == 2 && decide (k < y.2.2.1)
    | .lstore k => len == 2 && decide (k + 1 < y.2.2.1)
    | .astore k => len == 2 && decide (k < y.2.2.1)
    | .istore_n k => len == 1 && decide ((k : Nat) < y.2.2.1)
    | .lstore_n k => len == 1 && decide ((k : Nat) + 1 < y.2.2.1)
    | .astore_n k => len == 1 && decide ((k : Nat) < y.2.2.1)
    | .iinc k _ => len == 3 && decide (k < y.2.2.1)
    | .tableswitch d _ _ offs => decide (0 ≤ (pc : Int) + d) && offs.toList.all (fun o => decide (0 ≤ (pc : Int) + o))
    | .lookupswitch d ps => (ps.toList.zip (ps.toList.drop 1)).all (fun (a, next) => a.1 < next.1) && (decide (0 ≤ (pc : Int) + d) && ps.toList.all (fun o => decide (0 ≤ (pc : Int) + o.2)))
    | _ => len == 1
def fc_okb (y : fc_M) (x : fc_I) : Bool := decide (decode y.2.1 x.1 = .ok (x.2.1, x.2.2.1)) && fc_okl y x
def fc_chain : List fc_I → Bool
  | [] => true
  | [_] => true
  | x :: z :: L => decide (x.1 + x.2.2.1 = z.1) && fc_chain (z :: L)
/-- a method's code, with what it links to -/
def fc_code (y : fc_M) (L : List fc_I) : Bool := fc_chain L && L.all (fc_okb y)
end
section
/-! ===== the memory: every cell that the run has made, by its place; ints, longs and references apart ===== -/
abbrev fc_Mi : Type := Nat → Nat → Int32
abbrev fc_Ml : Type := Nat → Nat → Int64
abbrev fc_Mr : Type := Nat → Nat → Option Nat
/-- shapes: (class number, 0), or (20 + kind of array, length) -/
abbrev fc_Sh : Type := List (Nat × Nat)
/-- launch, class numbers and slots, array classes, first place, the constant texts' places and their bytes', the script's length and ints -/
abbrev fc_E : Type := Launch × va_G × (Nat → ClassId) × Nat × (Nat → Nat) × (Nat → Nat) × Nat × (Nat → Int32)
def fc_u {α : Type} (f : Nat → Nat → α) (a j : Nat) (x : α) : Nat → Nat → α := fun a' => if a' = a then (fun j' => if j' = j then x else f a' j') else f a'
/-- a row for a row -/
def fc_ur {α : Type} (f : Nat → Nat → α) (a : Nat) (g : Nat → α) : Nat → Nat → α := fun a' => if a' = a then g else f a'
theorem fc_u_row {α : Type} (f : Nat → Nat → α) (a j : Nat) (x : α) : fc_u f a j x a = fun j' => if j' = j then x else f a j' := by unfold fc_u; rw [if_pos rfl]
theorem fc_u_off {α : Type} (f : Nat → Nat → α) {a b : Nat} (j : Nat) (x : α) (h : b ≠ a) : fc_u f a j x b = f b := by unfold fc_u; rw [if_neg h]
theorem fc_ur_row {α : Type} (f : Nat → Nat → α) (a : Nat) (g : Nat → α) : fc_ur f a g a = g := by unfold fc_ur; rw [if_pos rfl]
theorem fc_ur_off {α : Type} (f : Nat → Nat → α) {a b : Nat} (g : Nat → α) (h : b ≠ a) : fc_ur f a g b = f b := by unfold fc_ur; rw [if_neg h]
def fc_fv (base : Nat) (mi : Nat → Int32) (ml : Nat → Int64) (mr : Nat → Option Nat) (j : Nat) : Nat → Value
  | 0 => .int (mi j)
  | 1 => .long (ml j)
  | 3 => .int (mi j)
  | _ => va_rf ((mr j).map (base + ·))
def fc_fs (base : Nat) (mi : Nat → Int32) (ml : Nat → Int64) (mr : Nat → Option Nat) : Nat → List Nat → List Value
  | _, [] => []
  | j, t :: ts => fc_fv base mi ml mr j t :: fc_fs base mi ml mr (j + 1) ts
theorem fc_fs_get {base : Nat} {mi : Nat → Int32} {ml : Nat → Int64} {mr : Nat → Option Nat} : ∀ (ts : List Nat) (j k : Nat), (fc_fs base mi ml mr j ts)[k]? = (ts[k]?).map (fun t => fc_fv base mi ml mr (j + k) t)
  | [], j, k => by simp [fc_fs]
  | t :: ts, j, 0 => by simp [fc_fs]
  | t :: ts, j, k + 1 => by
    rw [fc_fs, List.getElem?_cons_succ, List.getElem?_cons_succ, fc_fs_get ts (j + 1) k]
    rw [show j + 1 + k = j + (k + 1) by omega]
theorem fc_fs_len {base : Nat} {mi : Nat → Int32} {ml : Nat → Int64} {mr : Nat → Option Nat} : ∀ (ts : List Nat) (j : Nat), (fc_fs base mi ml mr j ts).length = ts.length
  | [], j => rfl
  | t :: ts, j => by simp [fc_fs, fc_fs_len ts (j + 1)]
def fc_rows (base : Nat) (mr : Nat → Option Nat) : Nat → Option Nat := fun j => (mr j).map (base + ·)
def fc_cell (base : Nat) (tA : Nat → ClassId) (mi : Nat → Int32) (ml : Nat → Int64) (mr : Nat → Option Nat) (c : Nat × Nat) : va_E :=
  match c.1 with
  | 20 => .inl (tA 0, c.2, .inl mi)
  | 21 => .inl (tA 1, c.2, .inr (.inl ml))
  | 22 => .inl (tA 2, c.2, .inl mi)
  | 23 => .inl (tA 3, c.2, .inl mi)
  | 24 => .inl (tA 4, c.2, .inr (.inr (.inr (.inr (fc_rows base mr)))))
  | 25 => .inl (tA 5, c.2, .inr (.inr (.inr (.inr (fc_rows base mr)))))
  | 26 => .inl (tA 6, c.2, .inr (.inr (.inr (.inr (fc_rows base mr)))))
  | k => .inr (k, fc_fs base mi ml mr 0 (fc_ft k))
def fc_ws (E : fc_E) (sh : fc_Sh) (mi : fc_Mi) (ml : fc_Ml) (mr : fc_Mr) : va_W := sh.mapIdx (fun k c => (E.2.2.2.1 + k, fc_cell E.2.2.2.1 E.2.2.1 (mi k) (ml k) (mr k) c))
theorem fc_ws_get {E : fc_E} {sh : fc_Sh} {mi : fc_Mi} {ml : fc_Ml} {mr : fc_Mr} {k : Nat} {c : Nat × Nat} (h : sh[k]? = some c) : (fc_ws E sh mi ml mr)[k]? = some (E.2.2.2.1 + k, fc_cell E.2.2.2.1 E.2.2.1 (mi k) (ml k) (mr k) c) := by
  rw [fc_ws, List.getElem?_mapIdx, h]; rfl
theorem fc_ws_set {E : fc_E} {sh : fc_Sh} {mi mi' : fc_Mi} {ml ml' : fc_Ml} {mr mr' : fc_Mr} {k : Nat} {c : Nat × Nat} {e : va_E} (h : sh[k]? = some c)
    (hi : ∀ a, a ≠ k → mi' a = mi a) (hl : ∀ a, a ≠ k → ml' a = ml a) (hr : ∀ a, a ≠ k → mr' a = mr a) (he : fc_cell E.2.2.2.1 E.2.2.1 (mi' k) (ml' k) (mr' k) c = e) :
    (fc_ws E sh mi ml mr).set k (E.2.2.2.1 + k, e) = fc_ws E sh mi' ml' mr' := by
  subst he
  apply List.ext_getElem?
  intro i
  by_cases hik : i = k
  · subst hik
    have hlt : i < (fc_ws E sh mi ml mr).length := by
      have := (List.getElem?_eq_some_iff.mp h).1
      simpa [fc_ws] using this
    rw [List.getElem?_set_self hlt, fc_ws_get h]
  · rw [List.getElem?_set_ne (Ne.symm hik)]
    simp only [fc_ws, List.getElem?_mapIdx]
    rw [hi i hik, hl i hik, hr i hik]
def fc_A (E : fc_E) : Nat → Prop := fun q => E.2.2.2.1 ≤ q
theorem fc_ws_D {E : fc_E} {sh : fc_Sh} {mi : fc_Mi} {ml : fc_Ml} {mr : fc_Mr} : va_D (fc_A E) (fc_ws E sh mi ml mr) := by
  have key : ∀ (i : Nat) (q : Nat × va_E), (fc_ws E sh mi ml mr)[i]? = some q → q.1 = E.2.2.2.1 + i := by
    intro i q h
    simp only [fc_ws, List.getElem?_mapIdx] at h
    cases hs : sh[i]? with
    | none => rw [hs] at h; cases h
    | some c => rw [hs] at h; cases h; rfl
  refine ⟨fun i j x y hi hj hxy => ?_, fun k q hk => ?_⟩
  · have h1 := key i x hi
    have h2 := key j y hj
    omega
  · show E.2.2.2.1 ≤ q.1
    rw [key k q hk]
    omega
def fc_tys (tA : Nat → ClassId) : List (ClassId × FieldType) := [(tA 0, .int), (tA 1, .long), (tA 2, .boolean), (tA 3, .char), (tA 4, .object "FirstChimney$State"), (tA 5, .object "FirstChimney$Seen"), (tA 6, .array .int)]
/-- my values, and the machine's: a place is counted from the first one; float i is the i-th constant text (float 5: the script), retAddr i its row of bytes -/
def fc_v (E : fc_E) : Value → Value
  | .ref q => .ref (E.2.2.2.1 + q)
  | .float u => .ref (E.2.2.2.2.1 u.toNat)
  | .retAddr i => .ref (E.2.2.2.2.2.1 i)
  | v => v
theorem fc_v_cat (E : fc_E) (v : Value) : (fc_v E v).category = v.category := by cases v <;> rfl
end
section
/-! ===== the judgement over that memory ===== -/
def fc_rm (d : Nat) : Room := { frames := d + 1, cells := 0, slots := 0, locals := 64 * (d + 1) }
def fc_nw (q : String × Nat × MethodName) : Cond := .methodLinkNest q.1 q.2.1 q.2.2 "FirstChimney"
def fc_tl : List Nat := [168, 8, 32, 16, 12]
def fc_tb : List (List Int32) := fc_tx.map (fun q => q.2.2.toList.map (fun c => nI c.toNat))
def fc_K (E : fc_E) (U : State) : Prop := va_K E.2.1 vwCl (fc_tys E.2.2.1) U ∧ (∀ q ∈ fc_N, va_Nw (fc_nw q) U) ∧ vk_S 5 fc_tl fc_tb E.2.2.2.2.1 E.2.2.2.2.2.1 (fc_A E) U U.heap ∧ (∀ (i : Nat) (q : String × Nat × String), fc_tx[i]? = some q → vk_R q.1 q.2.1 q.2.2 (E.2.2.2.2.1 i) U) ∧ va_X (E.2.2.2.2.1 5) E.2.2.2.2.2.2.1 E.2.2.2.2.2.2.2 U U.heap ∧ ¬ fc_A E (E.2.2.2.2.1 5)
theorem fc_K.moved {E : fc_E} {s U : State} (h : fc_K E s) (hW : s.WarmedH U.vm) (hq : ∀ a : Nat, a < s.heap.size → ¬ fc_A E a → U.heap[a]? = s.heap[a]?) : fc_K E U := by
  obtain ⟨h1, h2, h3, h4, h5, h6⟩ := h
  have hlt : E.2.2.2.2.1 5 < s.heap.size := by
    obtain ⟨scr, g1, -⟩ := id h5
    exact (Array.getElem?_eq_some_iff.mp g1).1
  exact ⟨va_K.moved hW.alike h1, fun q hm => va_Nw.warmM hW (h2 q hm), (h3.kept hq).moved hW.alike, fun i q hi => (h4 i q hi).warm hW, (h5.kept (hq _ hlt h6)).moved hW.alike, h6⟩
theorem fc_K.calling {E : fc_E} {U : State} (a : Array Value) (g : JFrame) (mk : MethodId) (h : fc_K E U) : fc_K E (U.calling g mk a) :=
  ⟨va_K.moved (u := U) (U := U.calling g mk a) (Vm.Alike.refl U.vm) h.1, fun q hm => va_Nw.same rfl rfl (h.2.1 q hm), vk_S.moved (u := U) (U := U.calling g mk a) (Vm.Alike.refl U.vm) h.2.2.1, fun i q hi => (h.2.2.2.1 i q hi).same rfl, va_X.moved (u := U) (U := U.calling g mk a) (Vm.Alike.refl U.vm) h.2.2.2.2.1, h.2.2.2.2.2⟩
def fc_w (y : fc_M) : List Cond := .code y.1 y.2.1 y.2.2.1 y.2.2.2 :: fc_G
abbrev fc_Q : Type := Option Value → fc_Mi → fc_Ml → fc_Mr → Prop
def fc_Qc (E : fc_E) (sh : fc_Sh) (Q : fc_Q) : Array Value → State → Outcome → State → Prop := fun _ st o t =>
  (∃ v mi ml mr, Q v mi ml mr ∧ o = .returned (v.map (fc_v E)) ∧ va_P E.2.1 vwCl (fc_ws E sh mi ml mr) t.heap) ∧ va_F (fc_A E) st t
/-- THE CONTRACT of a method that makes no cell: from this memory with these arguments it returns, and Q -/
def fc_R (E : fc_E) (y : fc_M) (d : Nat) (sh : fc_Sh) (As : List Value) (mi : fc_Mi) (ml : fc_Ml) (mr : fc_Mr) (Q : fc_Q) : Prop :=
  Met E.1 y.1 (fc_w y) (fc_rm d) (va_Pc (As.map (fc_v E)) (fun U => va_P E.2.1 vwCl (fc_ws E sh mi ml mr) U.heap ∧ fc_K E U)) (fc_Qc E sh Q) 0 0 (fc_A E)
def fc_C (E : fc_E) (y : fc_M) (p : Program) (s : State) (m : MethodId) (args : Array Value) (meth : Method) (c : Code) : Prop :=
  p.tables.exec = Jvm.exec ∧ c.code = y.2.1 ∧ meth.sig.returnType = y.2.2.2 ∧ meth.locks = false ∧ s.vm.findClass y.1.cls = some m.cls ∧ c.maxLocals = y.2.2.1 ∧ (∀ w ∈ fc_G, w.before args s = true) ∧ fc_K E s
/-- locals: what is known of them, by place -/
def fc_lv (E : fc_E) (ls : Array Slot) (nL : Nat) (lv : List (Option Value)) : Prop := ls.size = nL ∧ lv_wf ls ∧ ∀ (i : Nat) (v : Value), lv[i]? = some (some v) → ls[i]? = some (.val (fc_v E v))
/-- room for d calls more, each within 64 words; cells and slots made so far -/
def fc_Rm (d : Nat) (cs : Nat × Nat) (R : Room) : Prop := d + 1 ≤ R.frames ∧ 64 * (d + 1) ≤ R.locals ∧ cs.1 ≤ R.cells ∧ cs.2 ≤ R.slots
/-- at a return -/
def fc_rt (y : fc_M) (pc : Nat) : Option Value → Prop
  | some (.int x) => decode y.2.1 pc = .ok (.ireturn, 1) ∧ (y.2.2.2 = some .int ∨ (y.2.2.2 = some .boolean ∧ (x = 0 ∨ x = 1)) ∨ (y.2.2.2 = some .char ∧ narrow .char (.int x) = .int x))
  | none => decode y.2.1 pc = .ok (.return_, 1) ∧ y.2.2.2 = none
  | _ => False
def fc_ret (E : fc_E) (y : fc_M) (cs : Nat × Nat) (sh : fc_Sh) (p : Program) (e : Env) (s : State) (m : MethodId) (args : Array Value) (below : List Frame) (meth : Method) (c : Code) (R : Room) (Qf : State → Prop) (Q : fc_Q) : Prop :=
  ∀ (v : Option Value) (mi : fc_Mi) (ml : fc_Ml) (mr : fc_Mr) (H : Heap) (locs : List Loc) (ls : Array Slot) (pc : Nat), Q v mi ml mr → va_P E.2.1 vwCl (fc_ws E sh mi ml mr) H → va_S (fc_A E) s.heap H locs → fc_rt y pc v → W p E.1 e R s m args below meth c H locs cs.1 cs.2 Qf (F0 m pc ls (v.map (fc_v E)).toList)
def fc_T (E : fc_E) (y : fc_M) (d : Nat) (cs : Nat × Nat) (sh : fc_Sh) (pc : Nat) (lv : List (Option Value)) (st : List Value) (mi : fc_Mi) (ml : fc_Ml) (mr : fc_Mr) (Q : fc_Q) : Prop :=
  ∀ (p : Program) (e : Env) (s : State) (m : MethodId) (args : Array Value) (below : List Frame) (meth : Method) (c : Code) (R : Room) (Qf : State → Prop), fc_C E y p s m args meth c → fc_Rm d cs R → fc_ret E y cs sh p e s m args below meth c R Qf Q →
    ∀ (H : Heap) (locs : List Loc) (ls : Array Slot), va_P E.2.1 vwCl (fc_ws E sh mi ml mr) H → va_S (fc_A E) s.heap H locs → fc_lv E ls y.2.2.1 lv →
    W p E.1 e R s m args below meth c H locs cs.1 cs.2 Qf (F0 m pc ls (st.map (fc_v E)))
/-- what a method begins with -/
def fc_l0 : List Value → List (Option Value)
  | [] => []
  | v :: vs => if v.category = 2 then some v :: none :: fc_l0 vs else some v :: fc_l0 vs
theorem fc_l0_args (E : fc_E) : ∀ (vs : List Value) (n i : Nat) (v : Value), (fc_l0 vs)[i]? = some (some v) → (n + i, fc_v E v) ∈ lv_args n (vs.map (fc_v E))
  | [], n, i, v, h => by simp [fc_l0] at h
  | w :: vs, n, i, v, h => by
    simp only [List.map_cons, lv_args, fc_v_cat]
    simp only [fc_l0] at h
    by_cases hc : w.category = 2
    · rw [if_pos hc] at h
      rw [if_pos hc]
      match i, h with
      | 0, h => simp at h; subst h; exact List.mem_cons_self
      | 1, h => simp at h
      | i + 2, h =>
        refine List.mem_cons_of_mem _ ?_
        have := fc_l0_args E vs (n + 2) i v (by simpa using h)
        rwa [show n + 2 + i = n + (i + 2) by omega] at this
    · rw [if_neg hc] at h
      rw [if_neg hc]
      match i, h with
      | 0, h => simp at h; subst h; exact List.mem_cons_self
      | i + 1, h =>
        refine List.mem_cons_of_mem _ ?_
        have := fc_l0_args E vs (n + 1) i v (by simpa using h)
        rwa [show n + 1 + i = n + (i + 1) by omega] at this
theorem fc_lsl (E : fc_E) : ∀ vs : List Value, (lg_sl (vs.map (fc_v E))).length = (lg_sl vs).length
  | [] => rfl
  | v :: vs => by
    simp only [lg_sl, List.map_cons, List.flatMap_cons, List.length_append]
    have := fc_lsl E vs
    simp only [lg_sl] at this
    rw [this, fc_v_cat]
    congr 1
    split <;> rfl
/-- locals at the entry, all places told -/
def fc_l1 (n : Nat) (As : List Value) : List (Option Value) := fc_l0 As ++ List.replicate (n - (fc_l0 As).length) none
theorem fc_l1_get {n : Nat} {As : List Value} {i : Nat} {v : Value} (h : (fc_l1 n As)[i]? = some (some v)) : (fc_l0 As)[i]? = some (some v) := by
  unfold fc_l1 at h
  by_cases hi : i < (fc_l0 As).length
  · rwa [List.getElem?_append_left hi] at h
  · rw [List.getElem?_append_right (by omega), List.getElem?_replicate] at h
    split at h <;> cases h
/-- a contract out of a walk of the body -/
theorem fc_met {E : fc_E} {y : fc_M} {d : Nat} {sh : fc_Sh} {As : List Value} {mi : fc_Mi} {ml : fc_Ml} {mr : fc_Mr} {Q : fc_Q} (hy : plainName y.1.cls = true) (hn : (lg_sl As).length ≤ y.2.2.1)
    (h : fc_T E y d (0, 0) sh 0 (fc_l1 y.2.2.1 As) [] mi ml mr Q) : fc_R E y d sh As mi ml mr Q := by
  refine Met.ofW (cc := y.2.1) (maxL := y.2.2.1) (ret := y.2.2.2) hy rfl ?_
  intro p e s m args below meth c s₁ B hml hv
  obtain ⟨rfl, hP, hK⟩ := hv
  have hts := atoms_spec (ws := fc_w y) B.pre
  have hown : s.vm.findClass y.1.cls = some m.cls := findClass_of_methodNamed B.named
  have hlocks := B.notSynchronized
  have hl := lv_entry (As.map (fc_v E)) (n := y.2.2.1) (by rw [fc_lsl]; exact hn)
  rw [lg_entry_eq]
  refine h p e s m _ below meth c (fc_rm d) _ ⟨B.exec, B.bytes, B.returns, hlocks, hown, hml, fun w hw => hts w (List.mem_cons_of_mem _ hw), hK⟩ ⟨Nat.le_refl _, Nat.le_refl _, Nat.zero_le _, Nat.zero_le _⟩ ?_ s.heap [] _ hP va_S.rf
    ⟨hl.1, hl.2.1, fun i v hi => hl.2.2 (i, fc_v E v) (by simpa using fc_l0_args E As 0 i v (fc_l1_get hi))⟩
  intro v mi' ml' mr' H locs ls pc hq hP1 hS1 hrt
  have fin : ∀ t : State, t.heap = H → fc_Qc E sh Q (As.map (fc_v E)).toArray s (.returned (v.map (fc_v E))) t := fun t ht => ⟨⟨v, mi', ml', mr', hq, rfl, by rw [ht]; exact hP1⟩, hS1.F ht⟩
  match v, hrt with
  | none, hrt => exact W.vret B.exec B.bytes (B.returns.trans hrt.2) (fun t ht _ => fin t ht) hS1.2.2 hrt.1 hlocks
  | some (.int x), hrt =>
    rcases hrt.2 with h | ⟨h, hx⟩ | ⟨h, hx⟩
    · exact W.iret (v := x) B.exec B.bytes (B.returns.trans h) (fun t ht _ => fin t ht) hS1.2.2 hrt.1 hlocks
    · exact W.zret (v := x) (ty := .boolean) B.exec B.bytes (B.returns.trans h) (by rcases hx with rfl | rfl <;> rfl) (fun t ht _ => fin t ht) hS1.2.2 hrt.1 hlocks
    · exact W.zret (v := x) (ty := .char) B.exec B.bytes (B.returns.trans h) hx (fun t ht _ => fin t ht) hS1.2.2 hrt.1 hlocks
end
section
/-! ===== one instruction each ===== -/
def fc_as (E : fc_E) (lv : List (Option Value)) : List (Nat × Value) := (List.range lv.length).filterMap (fun j => (lv[j]?.join).map (fun v => (j, fc_v E v)))
theorem fc_as_mem {E : fc_E} {lv : List (Option Value)} {q : Nat × Value} : q ∈ fc_as E lv ↔ ∃ v, lv[q.1]? = some (some v) ∧ q.2 = fc_v E v := by
  unfold fc_as
  rw [List.mem_filterMap]
  constructor
  · rintro ⟨j, hj, h⟩
    rw [Option.map_eq_some_iff] at h
    obtain ⟨v, h1, rfl⟩ := h
    refine ⟨v, ?_, rfl⟩
    cases hl : lv[j]? with
    | none => rw [hl] at h1; simp at h1
    | some o => rw [hl] at h1; simp at h1; subst h1; rfl
  · rintro ⟨v, h1, h2⟩
    refine ⟨q.1, List.mem_range.mpr (List.getElem?_eq_some_iff.mp h1).1, ?_⟩
    rw [h1]
    show some (q.1, fc_v E v) = some q
    rw [← h2]
theorem fc_lv.has {E : fc_E} {ls : Array Slot} {nL : Nat} {lv : List (Option Value)} (h : fc_lv E ls nL lv) : lv_has ls nL (fc_as E lv) :=
  ⟨h.1, h.2.1, fun q hq => by
    obtain ⟨v, h1, h2⟩ := fc_as_mem.mp hq
    rw [h2]
    exact h.2.2 q.1 v h1⟩
/-- a long whose second half is written is gone -/
def fc_kl (lv : List (Option Value)) (i : Nat) : List (Option Value) := match i with
  | 0 => lv
  | j + 1 => match lv[j]? with
    | some (some w) => if w.category = 2 then lv.set j none else lv
    | _ => lv
theorem fc_kl_get {lv : List (Option Value)} {i j : Nat} {v : Value} (h : (fc_kl lv i)[j]? = some (some v)) : lv[j]? = some (some v) ∧ ¬ (j + 1 = i ∧ v.category = 2) := by
  unfold fc_kl at h
  cases i with
  | zero => exact ⟨h, fun q => by omega⟩
  | succ k =>
    dsimp only at h
    have ho : lv[k]? = none ∨ lv[k]? = some none → lv[j]? = some (some v) → ¬ (j + 1 = k + 1 ∧ v.category = 2) := by
      intro hk hj q
      have e : j = k := by omega
      rw [e] at hj
      rcases hk with hk | hk
      · rw [hk] at hj; cases hj
      · rw [hk] at hj; cases hj
    cases hk : lv[k]? with
    | none =>
      rw [hk] at h
      exact ⟨h, ho (Or.inl hk) h⟩
    | some o =>
      rw [hk] at h
      cases o with
      | none => exact ⟨h, ho (Or.inr hk) h⟩
      | some w =>
        dsimp only at h
        by_cases hc : w.category = 2
        · rw [if_pos hc] at h
          by_cases hjk : j = k
          · subst hjk
            rw [List.getElem?_set_self (List.getElem?_eq_some_iff.mp hk).1] at h
            cases h
          · rw [List.getElem?_set_ne (Ne.symm hjk)] at h
            exact ⟨h, fun q => by omega⟩
        · rw [if_neg hc] at h
          refine ⟨h, fun q => ?_⟩
          have : j = k := by omega
          subst this
          rw [hk] at h
          cases h
          exact hc q.2
def fc_s1 (lv : List (Option Value)) (i : Nat) (v : Value) : List (Option Value) := (fc_kl lv i).set i (some v)
def fc_s2 (lv : List (Option Value)) (i : Nat) (v : Value) : List (Option Value) := ((fc_kl lv i).set i (some v)).set (i + 1) none
theorem fc_lv.s1 {E : fc_E} {ls' : Array Slot} {nL i : Nat} {lv : List (Option Value)} {v : Value} (h : lv_has ls' nL ((i, fc_v E v) :: (fc_as E lv).filter (fun q => !(q.1 == i) && !(q.1 + 1 == i && q.2.category == 2)))) : fc_lv E ls' nL (fc_s1 lv i v) := by
  refine ⟨h.1, h.2.1, fun j w hj => ?_⟩
  unfold fc_s1 at hj
  by_cases hji : j = i
  · subst hji
    by_cases hlt : j < (fc_kl lv j).length
    · rw [List.getElem?_set_self hlt] at hj
      cases hj
      exact h.2.2 _ List.mem_cons_self
    · rw [List.getElem?_eq_none (by simpa using Nat.not_lt.mp hlt)] at hj
      cases hj
  · rw [List.getElem?_set_ne (Ne.symm hji)] at hj
    obtain ⟨h1, h2⟩ := fc_kl_get hj
    refine h.2.2 (j, fc_v E w) (List.mem_cons_of_mem _ (List.mem_filter.mpr ⟨fc_as_mem.mpr ⟨w, h1, rfl⟩, ?_⟩))
    simp only [fc_v_cat, Bool.and_eq_true, Bool.not_eq_true', beq_eq_false_iff_ne, Bool.and_eq_false_imp, beq_iff_eq]
    exact ⟨hji, fun q => by simpa using fun z => h2 ⟨q, z⟩⟩
theorem fc_lv.s2 {E : fc_E} {ls' : Array Slot} {nL i : Nat} {lv : List (Option Value)} {v : Value} (h : lv_has ls' nL ((i, fc_v E v) :: (fc_as E lv).filter (fun q => !(q.1 == i) && (!(q.1 == i + 1) && !(q.1 + 1 == i && q.2.category == 2))))) : fc_lv E ls' nL (fc_s2 lv i v) := by
  refine ⟨h.1, h.2.1, fun j w hj => ?_⟩
  unfold fc_s2 at hj
  by_cases hj1 : j = i + 1
  · subst hj1
    by_cases hlt : i + 1 < ((fc_kl lv i).set i (some v)).length
    · rw [List.getElem?_set_self hlt] at hj
      cases hj
    · rw [List.getElem?_eq_none (by simpa using Nat.not_lt.mp hlt)] at hj
      cases hj
  · rw [List.getElem?_set_ne (Ne.symm hj1)] at hj
    by_cases hji : j = i
    · subst hji
      by_cases hlt : j < (fc_kl lv j).length
      · rw [List.getElem?_set_self hlt] at hj
        cases hj
        exact h.2.2 _ List.mem_cons_self
      · rw [List.getElem?_eq_none (by simpa using Nat.not_lt.mp hlt)] at hj
        cases hj
    · rw [List.getElem?_set_ne (Ne.symm hji)] at hj
      obtain ⟨h1, h2⟩ := fc_kl_get hj
      refine h.2.2 (j, fc_v E w) (List.mem_cons_of_mem _ (List.mem_filter.mpr ⟨fc_as_mem.mpr ⟨w, h1, rfl⟩, ?_⟩))
      simp only [fc_v_cat, Bool.and_eq_true, Bool.not_eq_true', beq_eq_false_iff_ne, Bool.and_eq_false_imp, beq_iff_eq]
      exact ⟨hji, hj1, fun q => by simpa using fun z => h2 ⟨q, z⟩⟩
section R1
variable {E : fc_E} {y : fc_M} {d : Nat} {cs : Nat × Nat} {sh : fc_Sh} {pc : Nat} {lv : List (Option Value)} {st : List Value} {mi : fc_Mi} {ml : fc_Ml} {mr : fc_Mr} {Q : fc_Q}
theorem fc_r_iconst {n : Int} {v : Int32} (hd : decode y.2.1 pc = .ok (.iconst n, 1)) (hv : Int32.ofInt n = v) (k : fc_T E y d cs sh (pc + 1) lv (.int v :: st) mi ml mr Q) : fc_T E y d cs sh pc lv st mi ml mr Q := fun p e s m args below meth c R Qf hC hR hret H locs ls hP hS hl => lv_iconst hC.1 hC.2.1 hd hv (k p e s m args below meth c R Qf hC hR hret H locs ls hP hS hl)
theorem fc_r_bipush {n : Int} {v : Int32} (hd : decode y.2.1 pc = .ok (.bipush n, 2)) (hv : (Int8.ofInt n).toInt32 = v) (k : fc_T E y d cs sh (pc + 2) lv (.int v :: st) mi ml mr Q) : fc_T E y d cs sh pc lv st mi ml mr Q := fun p e s m args below meth c R Qf hC hR hret H locs ls hP hS hl => lv_bipush hC.1 hC.2.1 hd hv (k p e s m args below meth c R Qf hC hR hret H locs ls hP hS hl)
theorem fc_r_sipush {n : Int} {v : Int32} (hd : decode y.2.1 pc = .ok (.sipush n, 3)) (hv : (Int16.ofInt n).toInt32 = v) (k : fc_T E y d cs sh (pc + 3) lv (.int v :: st) mi ml mr Q) : fc_T E y d cs sh pc lv st mi ml mr Q := fun p e s m args below meth c R Qf hC hR hret H locs ls hP hS hl => lv_sipush hC.1 hC.2.1 hd hv (k p e s m args below meth c R Qf hC hR hret H locs ls hP hS hl)
theorem fc_r_lconst {n : Fin 2} {v : Int64} (hd : decode y.2.1 pc = .ok (.lconst n, 1)) (hv : Int64.ofNat (n : Nat) = v) (k : fc_T E y d cs sh (pc + 1) lv (.long v :: st) mi ml mr Q) : fc_T E y d cs sh pc lv st mi ml mr Q := fun p e s m args below meth c R Qf hC hR hret H locs ls hP hS hl => lv_lconst hC.1 hC.2.1 hd hv (k p e s m args below meth c R Qf hC hR hret H locs ls hP hS hl)
theorem fc_r_iload_n {k0 : Fin 4} {i : Nat} {x : Int32} (hd : decode y.2.1 pc = .ok (.iload_n k0, 1)) (hi : (k0 : Nat) = i) (hx : lv[i]? = some (some (.int x))) (k : fc_T E y d cs sh (pc + 1) lv (.int x :: st) mi ml mr Q) : fc_T E y d cs sh pc lv st mi ml mr Q := fun p e s m args below meth c R Qf hC hR hret H locs ls hP hS hl => lv_iload_n hC.1 hC.2.1 hd hi (hl.2.2 i _ hx) (k p e s m args below meth c R Qf hC hR hret H locs ls hP hS hl)
theorem fc_r_iload {i : Nat} {x : Int32} (hd : decode y.2.1 pc = .ok (.iload i, 2)) (hx : lv[i]? = some (some (.int x))) (k : fc_T E y d cs sh (pc + 2) lv (.int x :: st) mi ml mr Q) : fc_T E y d cs sh pc lv st mi ml mr Q := fun p e s m args below meth c R Qf hC hR hret H locs ls hP hS hl => lv_iload hC.1 hC.2.1 hd (hl.2.2 i _ hx) (k p e s m args below meth c R Qf hC hR hret H locs ls hP hS hl)
theorem fc_r_lload_n {k0 : Fin 4} {i : Nat} {x : Int64} (hd : decode y.2.1 pc = .ok (.lload_n k0, 1)) (hi : (k0 : Nat) = i) (hx : lv[i]? = some (some (.long x))) (k : fc_T E y d cs sh (pc + 1) lv (.long x :: st) mi ml mr Q) : fc_T E y d cs sh pc lv st mi ml mr Q := fun p e s m args below meth c R Qf hC hR hret H locs ls hP hS hl => lv_lload_n hC.1 hC.2.1 hd hi (hl.2.2 i _ hx) (k p e s m args below meth c R Qf hC hR hret H locs ls hP hS hl)
theorem fc_r_lload {i : Nat} {x : Int64} (hd : decode y.2.1 pc = .ok (.lload i, 2)) (hx : lv[i]? = some (some (.long x))) (k : fc_T E y d cs sh (pc + 2) lv (.long x :: st) mi ml mr Q) : fc_T E y d cs sh pc lv st mi ml mr Q := fun p e s m args below meth c R Qf hC hR hret H locs ls hP hS hl => lv_lload hC.1 hC.2.1 hd (hl.2.2 i _ hx) (k p e s m args below meth c R Qf hC hR hret H locs ls hP hS hl)
theorem fc_r_aload_n {k0 : Fin 4} {i : Nat} {x : Nat} (hd : decode y.2.1 pc = .ok (.aload_n k0, 1)) (hi : (k0 : Nat) = i) (hx : lv[i]? = some (some (.ref x))) (k : fc_T E y d cs sh (pc + 1) lv (.ref x :: st) mi ml mr Q) : fc_T E y d cs sh pc lv st mi ml mr Q := fun p e s m args below meth c R Qf hC hR hret H locs ls hP hS hl => lv_aload_n hC.1 hC.2.1 hd hi (hl.2.2 i _ hx) (k p e s m args below meth c R Qf hC hR hret H locs ls hP hS hl)
theorem fc_r_aload {i : Nat} {x : Nat} (hd : decode y.2.1 pc = .ok (.aload i, 2)) (hx : lv[i]? = some (some (.ref x))) (k : fc_T E y d cs sh (pc + 2) lv (.ref x :: st) mi ml mr Q) : fc_T E y d cs sh pc lv st mi ml mr Q := fun p e s m args below meth c R Qf hC hR hret H locs ls hP hS hl => lv_aload hC.1 hC.2.1 hd (hl.2.2 i _ hx) (k p e s m args below meth c R Qf hC hR hret H locs ls hP hS hl)
theorem fc_r_sload_n {k0 : Fin 4} {i : Nat} {x : UInt32} (hd : decode y.2.1 pc = .ok (.aload_n k0, 1)) (hi : (k0 : Nat) = i) (hx : lv[i]? = some (some (.float x))) (k : fc_T E y d cs sh (pc + 1) lv (.float x :: st) mi ml mr Q) : fc_T E y d cs sh pc lv st mi ml mr Q := fun p e s m args below meth c R Qf hC hR hret H locs ls hP hS hl => lv_aload_n hC.1 hC.2.1 hd hi (hl.2.2 i _ hx) (k p e s m args below meth c R Qf hC hR hret H locs ls hP hS hl)
theorem fc_r_istore_n {k0 : Fin 4} {i : Nat} {x : Int32} (hd : decode y.2.1 pc = .ok (.istore_n k0, 1)) (hi : (k0 : Nat) = i) (hn : i < y.2.2.1) (k : fc_T E y d cs sh (pc + 1) (fc_s1 lv i (.int x)) st mi ml mr Q) : fc_T E y d cs sh pc lv (.int x :: st) mi ml mr Q := fun p e s m args below meth c R Qf hC hR hret H locs ls hP hS hl => lv_istore_n hC.1 hC.2.1 hd hi hl.has hn rfl (fun ls' hl' => k p e s m args below meth c R Qf hC hR hret H locs ls' hP hS (fc_lv.s1 (v := .int x) hl'))
theorem fc_r_istore {i : Nat} {x : Int32} (hd : decode y.2.1 pc = .ok (.istore i, 2)) (hn : i < y.2.2.1) (k : fc_T E y d cs sh (pc + 2) (fc_s1 lv i (.int x)) st mi ml mr Q) : fc_T E y d cs sh pc lv (.int x :: st) mi ml mr Q := fun p e s m args below meth c R Qf hC hR hret H locs ls hP hS hl => lv_istore hC.1 hC.2.1 hd hl.has hn rfl (fun ls' hl' => k p e s m args below meth c R Qf hC hR hret H locs ls' hP hS (fc_lv.s1 (v := .int x) hl'))
theorem fc_r_lstore_n {k0 : Fin 4} {i : Nat} {x : Int64} (hd : decode y.2.1 pc = .ok (.lstore_n k0, 1)) (hi : (k0 : Nat) = i) (hn : i + 1 < y.2.2.1) (k : fc_T E y d cs sh (pc + 1) (fc_s2 lv i (.long x)) st mi ml mr Q) : fc_T E y d cs sh pc lv (.long x :: st) mi ml mr Q := fun p e s m args below meth c R Qf hC hR hret H locs ls hP hS hl => lv_lstore_n hC.1 hC.2.1 hd hi hl.has hn rfl (fun ls' hl' => k p e s m args below meth c R Qf hC hR hret H locs ls' hP hS (fc_lv.s2 (v := .long x) hl'))
theorem fc_r_lstore {i : Nat} {x : Int64} (hd : decode y.2.1 pc = .ok (.lstore i, 2)) (hn : i + 1 < y.2.2.1) (k : fc_T E y d cs sh (pc + 2) (fc_s2 lv i (.long x)) st mi ml mr Q) : fc_T E y d cs sh pc lv (.long x :: st) mi ml mr Q := fun p e s m args below meth c R Qf hC hR hret H locs ls hP hS hl => lv_lstore hC.1 hC.2.1 hd hl.has hn rfl (fun ls' hl' => k p e s m args below meth c R Qf hC hR hret H locs ls' hP hS (fc_lv.s2 (v := .long x) hl'))
theorem fc_r_astore_n {k0 : Fin 4} {i : Nat} {x : Nat} (hd : decode y.2.1 pc = .ok (.astore_n k0, 1)) (hi : (k0 : Nat) = i) (hn : i < y.2.2.1) (k : fc_T E y d cs sh (pc + 1) (fc_s1 lv i (.ref x)) st mi ml mr Q) : fc_T E y d cs sh pc lv (.ref x :: st) mi ml mr Q := fun p e s m args below meth c R Qf hC hR hret H locs ls hP hS hl => lv_astore_n hC.1 hC.2.1 hd hi hl.has hn rfl (fun ls' hl' => k p e s m args below meth c R Qf hC hR hret H locs ls' hP hS (fc_lv.s1 (v := .ref x) hl'))
theorem fc_r_astore {i : Nat} {x : Nat} (hd : decode y.2.1 pc = .ok (.astore i, 2)) (hn : i < y.2.2.1) (k : fc_T E y d cs sh (pc + 2) (fc_s1 lv i (.ref x)) st mi ml mr Q) : fc_T E y d cs sh pc lv (.ref x :: st) mi ml mr Q := fun p e s m args below meth c R Qf hC hR hret H locs ls hP hS hl => lv_astore hC.1 hC.2.1 hd hl.has hn rfl (fun ls' hl' => k p e s m args below meth c R Qf hC hR hret H locs ls' hP hS (fc_lv.s1 (v := .ref x) hl'))
theorem fc_r_iinc {i : Nat} {n : Int} {x v : Int32} (hd : decode y.2.1 pc = .ok (.iinc i n, 3)) (hx : lv[i]? = some (some (.int x))) (hv : x + Int32.ofInt n = v) (hn : i < y.2.2.1) (k : fc_T E y d cs sh (pc + 3) (fc_s1 lv i (.int v)) st mi ml mr Q) : fc_T E y d cs sh pc lv st mi ml mr Q := by
  intro p e s m args below meth c R Qf hC hR hret H locs ls hP hS hl
  obtain ⟨kk, hkk⟩ := List.getElem?_of_mem (fc_as_mem (E := E) (q := (i, .int x)) |>.mpr ⟨.int x, hx, rfl⟩)
  exact lv_iinc hC.1 hC.2.1 hd hl.has hkk hv hn rfl (fun ls' hl' => k p e s m args below meth c R Qf hC hR hret H locs ls' hP hS (fc_lv.s1 (v := .int v) hl'))
theorem fc_r_iadd {x z : Int32} (hd : decode y.2.1 pc = .ok (.iadd, 1))  (k : fc_T E y d cs sh (pc + 1) lv (.int (x + z) :: st) mi ml mr Q) : fc_T E y d cs sh pc lv (.int z :: .int x :: st) mi ml mr Q := fun p e s m args below meth c R Qf hC hR hret H locs ls hP hS hl => lv_iadd hC.1 hC.2.1 hd  (k p e s m args below meth c R Qf hC hR hret H locs ls hP hS hl)
theorem fc_r_isub {x z : Int32} (hd : decode y.2.1 pc = .ok (.isub, 1))  (k : fc_T E y d cs sh (pc + 1) lv (.int (x - z) :: st) mi ml mr Q) : fc_T E y d cs sh pc lv (.int z :: .int x :: st) mi ml mr Q := fun p e s m args below meth c R Qf hC hR hret H locs ls hP hS hl => lv_isub hC.1 hC.2.1 hd  (k p e s m args below meth c R Qf hC hR hret H locs ls hP hS hl)
theorem fc_r_imul {x z : Int32} (hd : decode y.2.1 pc = .ok (.imul, 1))  (k : fc_T E y d cs sh (pc + 1) lv (.int (x * z) :: st) mi ml mr Q) : fc_T E y d cs sh pc lv (.int z :: .int x :: st) mi ml mr Q := fun p e s m args below meth c R Qf hC hR hret H locs ls hP hS hl => lv_imul hC.1 hC.2.1 hd  (k p e s m args below meth c R Qf hC hR hret H locs ls hP hS hl)
theorem fc_r_iand {x z : Int32} (hd : decode y.2.1 pc = .ok (.iand, 1))  (k : fc_T E y d cs sh (pc + 1) lv (.int (x &&& z) :: st) mi ml mr Q) : fc_T E y d cs sh pc lv (.int z :: .int x :: st) mi ml mr Q := fun p e s m args below meth c R Qf hC hR hret H locs ls hP hS hl => lv_iand hC.1 hC.2.1 hd  (k p e s m args below meth c R Qf hC hR hret H locs ls hP hS hl)
theorem fc_r_ior {x z : Int32} (hd : decode y.2.1 pc = .ok (.ior, 1))  (k : fc_T E y d cs sh (pc + 1) lv (.int (x ||| z) :: st) mi ml mr Q) : fc_T E y d cs sh pc lv (.int z :: .int x :: st) mi ml mr Q := fun p e s m args below meth c R Qf hC hR hret H locs ls hP hS hl => lv_ior hC.1 hC.2.1 hd  (k p e s m args below meth c R Qf hC hR hret H locs ls hP hS hl)
theorem fc_r_ixor {x z : Int32} (hd : decode y.2.1 pc = .ok (.ixor, 1))  (k : fc_T E y d cs sh (pc + 1) lv (.int (x ^^^ z) :: st) mi ml mr Q) : fc_T E y d cs sh pc lv (.int z :: .int x :: st) mi ml mr Q := fun p e s m args below meth c R Qf hC hR hret H locs ls hP hS hl => lv_ixor hC.1 hC.2.1 hd  (k p e s m args below meth c R Qf hC hR hret H locs ls hP hS hl)
theorem fc_r_ishl {x z : Int32} (hd : decode y.2.1 pc = .ok (.ishl, 1))  (k : fc_T E y d cs sh (pc + 1) lv (.int (x <<< (z &&& 31)) :: st) mi ml mr Q) : fc_T E y d cs sh pc lv (.int z :: .int x :: st) mi ml mr Q := fun p e s m args below meth c R Qf hC hR hret H locs ls hP hS hl => lv_ishl hC.1 hC.2.1 hd  (k p e s m args below meth c R Qf hC hR hret H locs ls hP hS hl)
theorem fc_r_ishr {x z : Int32} (hd : decode y.2.1 pc = .ok (.ishr, 1))  (k : fc_T E y d cs sh (pc + 1) lv (.int (x >>> (z &&& 31)) :: st) mi ml mr Q) : fc_T E y d cs sh pc lv (.int z :: .int x :: st) mi ml mr Q := fun p e s m args below meth c R Qf hC hR hret H locs ls hP hS hl => lv_ishr hC.1 hC.2.1 hd  (k p e s m args below meth c R Qf hC hR hret H locs ls hP hS hl)
theorem fc_r_idiv {x z : Int32} (hd : decode y.2.1 pc = .ok (.idiv, 1)) (hz : ¬ z = 0) (k : fc_T E y d cs sh (pc + 1) lv (.int (x / z) :: st) mi ml mr Q) : fc_T E y d cs sh pc lv (.int z :: .int x :: st) mi ml mr Q := fun p e s m args below meth c R Qf hC hR hret H locs ls hP hS hl => lv_idiv hC.1 hC.2.1 hd hz (k p e s m args below meth c R Qf hC hR hret H locs ls hP hS hl)
theorem fc_r_irem {x z : Int32} (hd : decode y.2.1 pc = .ok (.irem, 1)) (hz : ¬ z = 0) (k : fc_T E y d cs sh (pc + 1) lv (.int (x - x / z * z) :: st) mi ml mr Q) : fc_T E y d cs sh pc lv (.int z :: .int x :: st) mi ml mr Q := fun p e s m args below meth c R Qf hC hR hret H locs ls hP hS hl => lv_irem hC.1 hC.2.1 hd hz (k p e s m args below meth c R Qf hC hR hret H locs ls hP hS hl)
theorem fc_r_ladd {x z : Int64} (hd : decode y.2.1 pc = .ok (.ladd, 1))  (k : fc_T E y d cs sh (pc + 1) lv (.long (x + z) :: st) mi ml mr Q) : fc_T E y d cs sh pc lv (.long z :: .long x :: st) mi ml mr Q := fun p e s m args below meth c R Qf hC hR hret H locs ls hP hS hl => lv_ladd hC.1 hC.2.1 hd  (k p e s m args below meth c R Qf hC hR hret H locs ls hP hS hl)
theorem fc_r_lsub {x z : Int64} (hd : decode y.2.1 pc = .ok (.lsub, 1))  (k : fc_T E y d cs sh (pc + 1) lv (.long (x - z) :: st) mi ml mr Q) : fc_T E y d cs sh pc lv (.long z :: .long x :: st) mi ml mr Q := fun p e s m args below meth c R Qf hC hR hret H locs ls hP hS hl => lv_lsub hC.1 hC.2.1 hd  (k p e s m args below meth c R Qf hC hR hret H locs ls hP hS hl)
theorem fc_r_lmul {x z : Int64} (hd : decode y.2.1 pc = .ok (.lmul, 1))  (k : fc_T E y d cs sh (pc + 1) lv (.long (x * z) :: st) mi ml mr Q) : fc_T E y d cs sh pc lv (.long z :: .long x :: st) mi ml mr Q := fun p e s m args below meth c R Qf hC hR hret H locs ls hP hS hl => lv_lmul hC.1 hC.2.1 hd  (k p e s m args below meth c R Qf hC hR hret H locs ls hP hS hl)
theorem fc_r_land {x z : Int64} (hd : decode y.2.1 pc = .ok (.land, 1))  (k : fc_T E y d cs sh (pc + 1) lv (.long (x &&& z) :: st) mi ml mr Q) : fc_T E y d cs sh pc lv (.long z :: .long x :: st) mi ml mr Q := fun p e s m args below meth c R Qf hC hR hret H locs ls hP hS hl => lv_land hC.1 hC.2.1 hd  (k p e s m args below meth c R Qf hC hR hret H locs ls hP hS hl)
theorem fc_r_lor {x z : Int64} (hd : decode y.2.1 pc = .ok (.lor, 1))  (k : fc_T E y d cs sh (pc + 1) lv (.long (x ||| z) :: st) mi ml mr Q) : fc_T E y d cs sh pc lv (.long z :: .long x :: st) mi ml mr Q := fun p e s m args below meth c R Qf hC hR hret H locs ls hP hS hl => lv_lor hC.1 hC.2.1 hd  (k p e s m args below meth c R Qf hC hR hret H locs ls hP hS hl)
theorem fc_r_ldiv {x z : Int64} (hd : decode y.2.1 pc = .ok (.ldiv, 1)) (hz : ¬ z = 0) (k : fc_T E y d cs sh (pc + 1) lv (.long (x / z) :: st) mi ml mr Q) : fc_T E y d cs sh pc lv (.long z :: .long x :: st) mi ml mr Q := fun p e s m args below meth c R Qf hC hR hret H locs ls hP hS hl => lv_ldiv hC.1 hC.2.1 hd hz (k p e s m args below meth c R Qf hC hR hret H locs ls hP hS hl)
theorem fc_r_lrem {x z : Int64} (hd : decode y.2.1 pc = .ok (.lrem, 1)) (hz : ¬ z = 0) (k : fc_T E y d cs sh (pc + 1) lv (.long (x - x / z * z) :: st) mi ml mr Q) : fc_T E y d cs sh pc lv (.long z :: .long x :: st) mi ml mr Q := fun p e s m args below meth c R Qf hC hR hret H locs ls hP hS hl => lv_lrem hC.1 hC.2.1 hd hz (k p e s m args below meth c R Qf hC hR hret H locs ls hP hS hl)
theorem fc_r_ineg {x : Int32} (hd : decode y.2.1 pc = .ok (.ineg, 1))  (k : fc_T E y d cs sh (pc + 1) lv (.int (-x) :: st) mi ml mr Q) : fc_T E y d cs sh pc lv (.int x :: st) mi ml mr Q := fun p e s m args below meth c R Qf hC hR hret H locs ls hP hS hl => lv_ineg hC.1 hC.2.1 hd  (k p e s m args below meth c R Qf hC hR hret H locs ls hP hS hl)
theorem fc_r_i2l {x : Int32} (hd : decode y.2.1 pc = .ok (.i2l, 1))  (k : fc_T E y d cs sh (pc + 1) lv (.long x.toInt64 :: st) mi ml mr Q) : fc_T E y d cs sh pc lv (.int x :: st) mi ml mr Q := fun p e s m args below meth c R Qf hC hR hret H locs ls hP hS hl => lv_i2l hC.1 hC.2.1 hd rfl (k p e s m args below meth c R Qf hC hR hret H locs ls hP hS hl)
theorem fc_r_l2i {x : Int64} (hd : decode y.2.1 pc = .ok (.l2i, 1))  (k : fc_T E y d cs sh (pc + 1) lv (.int x.toInt32 :: st) mi ml mr Q) : fc_T E y d cs sh pc lv (.long x :: st) mi ml mr Q := fun p e s m args below meth c R Qf hC hR hret H locs ls hP hS hl => lv_l2i hC.1 hC.2.1 hd rfl (k p e s m args below meth c R Qf hC hR hret H locs ls hP hS hl)
theorem fc_r_i2c {x : Int32} (hd : decode y.2.1 pc = .ok (.i2c, 1))  (k : fc_T E y d cs sh (pc + 1) lv (.int (x.toUInt32 % 65536).toInt32 :: st) mi ml mr Q) : fc_T E y d cs sh pc lv (.int x :: st) mi ml mr Q := fun p e s m args below meth c R Qf hC hR hret H locs ls hP hS hl => lv_i2c hC.1 hC.2.1 hd rfl (k p e s m args below meth c R Qf hC hR hret H locs ls hP hS hl)
theorem fc_r_iushr {x z : Int32} (hd : decode y.2.1 pc = .ok (.iushr, 1))  (k : fc_T E y d cs sh (pc + 1) lv (.int (x.toUInt32 >>> (z.toUInt32 &&& Int32.toUInt32 31)).toInt32 :: st) mi ml mr Q) : fc_T E y d cs sh pc lv (.int z :: .int x :: st) mi ml mr Q := fun p e s m args below meth c R Qf hC hR hret H locs ls hP hS hl => lv_iushr hC.1 hC.2.1 hd rfl (k p e s m args below meth c R Qf hC hR hret H locs ls hP hS hl)
theorem fc_r_lushr {x : Int64} {z : Int32} (hd : decode y.2.1 pc = .ok (.lushr, 1))  (k : fc_T E y d cs sh (pc + 1) lv (.long (x.toUInt64 >>> (z.toInt64.toUInt64 &&& Int64.toUInt64 63)).toInt64 :: st) mi ml mr Q) : fc_T E y d cs sh pc lv (.int z :: .long x :: st) mi ml mr Q := fun p e s m args below meth c R Qf hC hR hret H locs ls hP hS hl => lv_lushr hC.1 hC.2.1 hd rfl (k p e s m args below meth c R Qf hC hR hret H locs ls hP hS hl)
theorem fc_r_lshl {x : Int64} {z : Int32} (hd : decode y.2.1 pc = .ok (.lshl, 1))  (k : fc_T E y d cs sh (pc + 1) lv (.long (x <<< (z.toInt64 &&& 63)) :: st) mi ml mr Q) : fc_T E y d cs sh pc lv (.int z :: .long x :: st) mi ml mr Q := fun p e s m args below meth c R Qf hC hR hret H locs ls hP hS hl => lv_lshl hC.1 hC.2.1 hd rfl (k p e s m args below meth c R Qf hC hR hret H locs ls hP hS hl)
theorem fc_r_lshr {x : Int64} {z : Int32} (hd : decode y.2.1 pc = .ok (.lshr, 1))  (k : fc_T E y d cs sh (pc + 1) lv (.long (x >>> (z.toInt64 &&& 63)) :: st) mi ml mr Q) : fc_T E y d cs sh pc lv (.int z :: .long x :: st) mi ml mr Q := fun p e s m args below meth c R Qf hC hR hret H locs ls hP hS hl => lv_lshr hC.1 hC.2.1 hd rfl (k p e s m args below meth c R Qf hC hR hret H locs ls hP hS hl)
theorem fc_r_lcmp {x z : Int64} (hd : decode y.2.1 pc = .ok (.lcmp, 1))  (k : fc_T E y d cs sh (pc + 1) lv (.int (lg_cmp x z) :: st) mi ml mr Q) : fc_T E y d cs sh pc lv (.long z :: .long x :: st) mi ml mr Q := fun p e s m args below meth c R Qf hC hR hret H locs ls hP hS hl => W.lcmp hC.1 hC.2.1 hd  (k p e s m args below meth c R Qf hC hR hret H locs ls hP hS hl)
theorem fc_r_dup {x : Value} (hd : decode y.2.1 pc = .ok (.dup, 1)) (hx : x.category = 1) (k : fc_T E y d cs sh (pc + 1) lv (x :: x :: st) mi ml mr Q) : fc_T E y d cs sh pc lv (x :: st) mi ml mr Q := fun p e s m args below meth c R Qf hC hR hret H locs ls hP hS hl => lv_dup hC.1 hC.2.1 hd ((fc_v_cat E x).trans hx) (k p e s m args below meth c R Qf hC hR hret H locs ls hP hS hl)
theorem fc_r_pop {x : Value} (hd : decode y.2.1 pc = .ok (.pop, 1)) (hx : x.category = 1) (k : fc_T E y d cs sh (pc + 1) lv st mi ml mr Q) : fc_T E y d cs sh pc lv (x :: st) mi ml mr Q := fun p e s m args below meth c R Qf hC hR hret H locs ls hP hS hl => lv_pop hC.1 hC.2.1 hd ((fc_v_cat E x).trans hx) (k p e s m args below meth c R Qf hC hR hret H locs ls hP hS hl)
theorem fc_r_dup2 {x z : Value} (hd : decode y.2.1 pc = .ok (.dup2, 1)) (hx : x.category = 1) (hz : z.category = 1) (k : fc_T E y d cs sh (pc + 1) lv (x :: z :: x :: z :: st) mi ml mr Q) : fc_T E y d cs sh pc lv (x :: z :: st) mi ml mr Q := fun p e s m args below meth c R Qf hC hR hret H locs ls hP hS hl => lv_dup2_11 hC.1 hC.2.1 hd ((fc_v_cat E x).trans hx) ((fc_v_cat E z).trans hz) (k p e s m args below meth c R Qf hC hR hret H locs ls hP hS hl)
theorem fc_r_icmp_eq {x z : Int32} {off : Int} {tgt : Nat} (hd : decode y.2.1 pc = .ok (.if_icmp .eq off, 3)) (ht : (pc : Int) + off = (tgt : Int)) (kt : x = z → fc_T E y d cs sh tgt lv st mi ml mr Q) (kf : ¬ x = z → fc_T E y d cs sh (pc + 3) lv st mi ml mr Q) : fc_T E y d cs sh pc lv (.int z :: .int x :: st) mi ml mr Q := fun p e s m args below meth c R Qf hC hR hret H locs ls hP hS hl => lv_icmp_eq hC.1 hC.2.1 hd ht (fun q => kt q p e s m args below meth c R Qf hC hR hret H locs ls hP hS hl) (fun q => kf q p e s m args below meth c R Qf hC hR hret H locs ls hP hS hl)
theorem fc_r_if_eq {x : Int32} {off : Int} {tgt : Nat} (hd : decode y.2.1 pc = .ok (.ifCond .eq off, 3)) (ht : (pc : Int) + off = (tgt : Int)) (kt : x = 0 → fc_T E y d cs sh tgt lv st mi ml mr Q) (kf : ¬ x = 0 → fc_T E y d cs sh (pc + 3) lv st mi ml mr Q) : fc_T E y d cs sh pc lv (.int x :: st) mi ml mr Q := fun p e s m args below meth c R Qf hC hR hret H locs ls hP hS hl => lv_if_eq hC.1 hC.2.1 hd ht (fun q => kt q p e s m args below meth c R Qf hC hR hret H locs ls hP hS hl) (fun q => kf q p e s m args below meth c R Qf hC hR hret H locs ls hP hS hl)
theorem fc_r_icmp_ne {x z : Int32} {off : Int} {tgt : Nat} (hd : decode y.2.1 pc = .ok (.if_icmp .ne off, 3)) (ht : (pc : Int) + off = (tgt : Int)) (kt : ¬ x = z → fc_T E y d cs sh tgt lv st mi ml mr Q) (kf : x = z → fc_T E y d cs sh (pc + 3) lv st mi ml mr Q) : fc_T E y d cs sh pc lv (.int z :: .int x :: st) mi ml mr Q := fun p e s m args below meth c R Qf hC hR hret H locs ls hP hS hl => lv_icmp_ne hC.1 hC.2.1 hd ht (fun q => kt q p e s m args below meth c R Qf hC hR hret H locs ls hP hS hl) (fun q => kf q p e s m args below meth c R Qf hC hR hret H locs ls hP hS hl)
theorem fc_r_if_ne {x : Int32} {off : Int} {tgt : Nat} (hd : decode y.2.1 pc = .ok (.ifCond .ne off, 3)) (ht : (pc : Int) + off = (tgt : Int)) (kt : ¬ x = 0 → fc_T E y d cs sh tgt lv st mi ml mr Q) (kf : x = 0 → fc_T E y d cs sh (pc + 3) lv st mi ml mr Q) : fc_T E y d cs sh pc lv (.int x :: st) mi ml mr Q := fun p e s m args below meth c R Qf hC hR hret H locs ls hP hS hl => lv_if_ne hC.1 hC.2.1 hd ht (fun q => kt q p e s m args below meth c R Qf hC hR hret H locs ls hP hS hl) (fun q => kf q p e s m args below meth c R Qf hC hR hret H locs ls hP hS hl)
theorem fc_r_icmp_lt {x z : Int32} {off : Int} {tgt : Nat} (hd : decode y.2.1 pc = .ok (.if_icmp .lt off, 3)) (ht : (pc : Int) + off = (tgt : Int)) (kt : x < z → fc_T E y d cs sh tgt lv st mi ml mr Q) (kf : ¬ x < z → fc_T E y d cs sh (pc + 3) lv st mi ml mr Q) : fc_T E y d cs sh pc lv (.int z :: .int x :: st) mi ml mr Q := fun p e s m args below meth c R Qf hC hR hret H locs ls hP hS hl => lv_icmp_lt hC.1 hC.2.1 hd ht (fun q => kt q p e s m args below meth c R Qf hC hR hret H locs ls hP hS hl) (fun q => kf q p e s m args below meth c R Qf hC hR hret H locs ls hP hS hl)
theorem fc_r_if_lt {x : Int32} {off : Int} {tgt : Nat} (hd : decode y.2.1 pc = .ok (.ifCond .lt off, 3)) (ht : (pc : Int) + off = (tgt : Int)) (kt : x < 0 → fc_T E y d cs sh tgt lv st mi ml mr Q) (kf : ¬ x < 0 → fc_T E y d cs sh (pc + 3) lv st mi ml mr Q) : fc_T E y d cs sh pc lv (.int x :: st) mi ml mr Q := fun p e s m args below meth c R Qf hC hR hret H locs ls hP hS hl => lv_if_lt hC.1 hC.2.1 hd ht (fun q => kt q p e s m args below meth c R Qf hC hR hret H locs ls hP hS hl) (fun q => kf q p e s m args below meth c R Qf hC hR hret H locs ls hP hS hl)
theorem fc_r_icmp_ge {x z : Int32} {off : Int} {tgt : Nat} (hd : decode y.2.1 pc = .ok (.if_icmp .ge off, 3)) (ht : (pc : Int) + off = (tgt : Int)) (kt : z ≤ x → fc_T E y d cs sh tgt lv st mi ml mr Q) (kf : ¬ z ≤ x → fc_T E y d cs sh (pc + 3) lv st mi ml mr Q) : fc_T E y d cs sh pc lv (.int z :: .int x :: st) mi ml mr Q := fun p e s m args below meth c R Qf hC hR hret H locs ls hP hS hl => lv_icmp_ge hC.1 hC.2.1 hd ht (fun q => kt q p e s m args below meth c R Qf hC hR hret H locs ls hP hS hl) (fun q => kf q p e s m args below meth c R Qf hC hR hret H locs ls hP hS hl)
theorem fc_r_if_ge {x : Int32} {off : Int} {tgt : Nat} (hd : decode y.2.1 pc = .ok (.ifCond .ge off, 3)) (ht : (pc : Int) + off = (tgt : Int)) (kt : 0 ≤ x → fc_T E y d cs sh tgt lv st mi ml mr Q) (kf : ¬ 0 ≤ x → fc_T E y d cs sh (pc + 3) lv st mi ml mr Q) : fc_T E y d cs sh pc lv (.int x :: st) mi ml mr Q := fun p e s m args below meth c R Qf hC hR hret H locs ls hP hS hl => lv_if_ge hC.1 hC.2.1 hd ht (fun q => kt q p e s m args below meth c R Qf hC hR hret H locs ls hP hS hl) (fun q => kf q p e s m args below meth c R Qf hC hR hret H locs ls hP hS hl)
theorem fc_r_icmp_gt {x z : Int32} {off : Int} {tgt : Nat} (hd : decode y.2.1 pc = .ok (.if_icmp .gt off, 3)) (ht : (pc : Int) + off = (tgt : Int)) (kt : z < x → fc_T E y d cs sh tgt lv st mi ml mr Q) (kf : ¬ z < x → fc_T E y d cs sh (pc + 3) lv st mi ml mr Q) : fc_T E y d cs sh pc lv (.int z :: .int x :: st) mi ml mr Q := fun p e s m args below meth c R Qf hC hR hret H locs ls hP hS hl => lv_icmp_gt hC.1 hC.2.1 hd ht (fun q => kt q p e s m args below meth c R Qf hC hR hret H locs ls hP hS hl) (fun q => kf q p e s m args below meth c R Qf hC hR hret H locs ls hP hS hl)
theorem fc_r_if_gt {x : Int32} {off : Int} {tgt : Nat} (hd : decode y.2.1 pc = .ok (.ifCond .gt off, 3)) (ht : (pc : Int) + off = (tgt : Int)) (kt : 0 < x → fc_T E y d cs sh tgt lv st mi ml mr Q) (kf : ¬ 0 < x → fc_T E y d cs sh (pc + 3) lv st mi ml mr Q) : fc_T E y d cs sh pc lv (.int x :: st) mi ml mr Q := fun p e s m args below meth c R Qf hC hR hret H locs ls hP hS hl => lv_if_gt hC.1 hC.2.1 hd ht (fun q => kt q p e s m args below meth c R Qf hC hR hret H locs ls hP hS hl) (fun q => kf q p e s m args below meth c R Qf hC hR hret H locs ls hP hS hl)
theorem fc_r_icmp_le {x z : Int32} {off : Int} {tgt : Nat} (hd : decode y.2.1 pc = .ok (.if_icmp .le off, 3)) (ht : (pc : Int) + off = (tgt : Int)) (kt : x ≤ z → fc_T E y d cs sh tgt lv st mi ml mr Q) (kf : ¬ x ≤ z → fc_T E y d cs sh (pc + 3) lv st mi ml mr Q) : fc_T E y d cs sh pc lv (.int z :: .int x :: st) mi ml mr Q := fun p e s m args below meth c R Qf hC hR hret H locs ls hP hS hl => lv_icmp_le hC.1 hC.2.1 hd ht (fun q => kt q p e s m args below meth c R Qf hC hR hret H locs ls hP hS hl) (fun q => kf q p e s m args below meth c R Qf hC hR hret H locs ls hP hS hl)
theorem fc_r_if_le {x : Int32} {off : Int} {tgt : Nat} (hd : decode y.2.1 pc = .ok (.ifCond .le off, 3)) (ht : (pc : Int) + off = (tgt : Int)) (kt : x ≤ 0 → fc_T E y d cs sh tgt lv st mi ml mr Q) (kf : ¬ x ≤ 0 → fc_T E y d cs sh (pc + 3) lv st mi ml mr Q) : fc_T E y d cs sh pc lv (.int x :: st) mi ml mr Q := fun p e s m args below meth c R Qf hC hR hret H locs ls hP hS hl => lv_if_le hC.1 hC.2.1 hd ht (fun q => kt q p e s m args below meth c R Qf hC hR hret H locs ls hP hS hl) (fun q => kf q p e s m args below meth c R Qf hC hR hret H locs ls hP hS hl)
theorem fc_r_goto {off : Int} {tgt : Nat} (hd : decode y.2.1 pc = .ok (.goto off, 3)) (ht : (pc : Int) + off = (tgt : Int)) (k : fc_T E y d cs sh tgt lv st mi ml mr Q) : fc_T E y d cs sh pc lv st mi ml mr Q := fun p e s m args below meth c R Qf hC hR hret H locs ls hP hS hl => lv_goto hC.1 hC.2.1 hd ht (k p e s m args below meth c R Qf hC hR hret H locs ls hP hS hl)
end R1
end
section
/-! ===== fields, arrays, ends ===== -/
theorem fc_in0 : (wsX00).all (fun w => decide (w ∈ lw_tbl) && goodWord w) = true := by decide +kernel
theorem fc_in1 : (wsX10).all (fun w => decide (w ∈ lw_tbl) && goodWord w) = true := by decide +kernel
theorem fc_in2 : (wsX20).all (fun w => decide (w ∈ lw_tbl) && goodWord w) = true := by decide +kernel
theorem fc_in3 : (wsX30).all (fun w => decide (w ∈ lw_tbl) && goodWord w) = true := by decide +kernel
theorem fc_in4 : (wsX40).all (fun w => decide (w ∈ lw_tbl) && goodWord w) = true := by decide +kernel
theorem fc_in5 : (wsX50).all (fun w => decide (w ∈ lw_tbl) && goodWord w) = true := by decide +kernel
theorem fc_in6 : (wsX60).all (fun w => decide (w ∈ lw_tbl) && goodWord w) = true := by decide +kernel
theorem fc_in7 : (wsX70).all (fun w => decide (w ∈ lw_tbl) && goodWord w) = true := by decide +kernel
theorem fc_in8 : (wsX80).all (fun w => decide (w ∈ lw_tbl) && goodWord w) = true := by decide +kernel
theorem fc_in9 : (wsX90).all (fun w => decide (w ∈ lw_tbl) && goodWord w) = true := by decide +kernel
theorem fc_in10 : (wsX100).all (fun w => decide (w ∈ lw_tbl) && goodWord w) = true := by decide +kernel
theorem fc_in11 : (wsX110).all (fun w => decide (w ∈ lw_tbl) && goodWord w) = true := by decide +kernel
theorem fc_inG {ws : List Cond} (h : ws.all (fun w => decide (w ∈ lw_tbl) && goodWord w) = true) : ∀ w ∈ ws, w ∈ fc_G := by
  intro w hw
  have h1 := List.all_eq_true.mp h w hw
  simp only [Bool.and_eq_true, decide_eq_true_eq] at h1
  exact List.mem_filter.mpr h1
theorem fc_cls {ci : Nat} {q : vw_C} (h : vwCl[ci]? = some q) : (∀ w ∈ u_ws q.1 q.2.1 q.2.2, w ∈ fc_G) ∧ ∃ ty0 : Nat → FieldType, (∀ k, k < q.2.2 → parseFieldDescriptor (q.2.1 k).2.2.1 = some (ty0 k)) ∧ ∀ a, a < q.2.2 → ∀ b, b < q.2.2 → a ≠ b → (q.2.1 a).2.1 ≠ (q.2.1 b).2.1 := by
  match ci, h with
  | 0, h => cases h; exact ⟨fc_inG fc_in0, tyX0, tyX0_ok, nmX0⟩
  | 1, h => cases h; exact ⟨fc_inG fc_in1, tyX1, tyX1_ok, nmX1⟩
  | 2, h => cases h; exact ⟨fc_inG fc_in2, tyX2, tyX2_ok, nmX2⟩
  | 3, h => cases h; exact ⟨fc_inG fc_in3, tyX3, tyX3_ok, nmX3⟩
  | 4, h => cases h; exact ⟨fc_inG fc_in4, tyX4, tyX4_ok, nmX4⟩
  | 5, h => cases h; exact ⟨fc_inG fc_in5, tyX5, tyX5_ok, nmX5⟩
  | 6, h => cases h; exact ⟨fc_inG fc_in6, tyX6, tyX6_ok, nmX6⟩
  | 7, h => cases h; exact ⟨fc_inG fc_in7, tyX7, tyX7_ok, nmX7⟩
  | 8, h => cases h; exact ⟨fc_inG fc_in8, tyX8, tyX8_ok, nmX8⟩
  | 9, h => cases h; exact ⟨fc_inG fc_in9, tyX9, tyX9_ok, nmX9⟩
  | 10, h => cases h; exact ⟨fc_inG fc_in10, tyX10, tyX10_ok, nmX10⟩
  | 11, h => cases h; exact ⟨fc_inG fc_in11, tyX11, tyX11_ok, nmX11⟩
  | k + 12, h => simp [vwCl] at h
theorem fc_cell_obj {base : Nat} {tA : Nat → ClassId} {mi : Nat → Int32} {ml : Nat → Int64} {mr : Nat → Option Nat} {ci : Nat} (h : ci < 20) : fc_cell base tA mi ml mr (ci, 0) = .inr (ci, fc_fs base mi ml mr 0 (fc_ft ci)) := by
  unfold fc_cell
  split <;> first | rfl | (rename_i q; dsimp only at q; omega)
section R2
variable {E : fc_E} {y : fc_M} {d : Nat} {cs : Nat × Nat} {sh : fc_Sh} {pc : Nat} {lv : List (Option Value)} {st : List Value} {mi : fc_Mi} {ml : fc_Ml} {mr : fc_Mr} {Q : fc_Q}
theorem fc_r_get {ci idx q j t : Nat} {r : vw_C} {v : Value} (hd : decode y.2.1 pc = .ok (.getfield idx, 3)) (hc : vwCl[ci]? = some r) (hci : ci < 20) (hj : j < r.2.2) (hlink : Cond.fieldLink y.1.cls idx (r.2.1 j).1 (r.2.1 j).2.1 (r.2.1 j).2.2.1 ∈ fc_G) (ht : (fc_ft ci)[j]? = some t) (hsh : sh[q]? = some (ci, 0))
    (hv : fc_fv E.2.2.2.1 (mi q) (ml q) (mr q) j t = fc_v E v) (k : fc_T E y d cs sh (pc + 3) lv (v :: st) mi ml mr Q) : fc_T E y d cs sh pc lv (.ref q :: st) mi ml mr Q := by
  intro p e s m args below meth c R Qf hC hR hret H locs ls hP hS hl
  obtain ⟨hx, hb, hr, hlk, hown, hml, hts, hK⟩ := id hC
  have hw := fc_ws_get (E := E) (mi := mi) (ml := ml) (mr := mr) hsh
  rw [fc_cell_obj hci] at hw
  refine va_get (ci := ci) (C := r.1) (T := r.2.1) (N := r.2.2) hx hb hts (fc_cls hc).1 hown hK.1 hP q hw hc j hj (hts _ hlink) (fun _ h => h) (v := fc_v E v) ?_ hd (k p e s m args below meth c R Qf hC hR hret H locs ls hP hS hl)
  rw [fc_fs_get, ht, Option.map_some, Nat.zero_add, hv]
theorem fc_r_putW {ci idx q j : Nat} {r : vw_C} {v : Value} {ty : FieldType} {mi' : fc_Mi} {ml' : fc_Ml} {mr' : fc_Mr} (hd : decode y.2.1 pc = .ok (.putfield idx, 3)) (hc : vwCl[ci]? = some r) (hci : ci < 20) (hj : j < r.2.2) (hlink : Cond.fieldLink y.1.cls idx (r.2.1 j).1 (r.2.1 j).2.1 (r.2.1 j).2.2.1 ∈ fc_G) (hjt : j < (fc_ft ci).length) (hsh : sh[q]? = some (ci, 0))
    (hfin : (r.2.1 j).2.2.2 = false) (hty : parseFieldDescriptor (r.2.1 j).2.2.1 = some ty) (hn : narrow ty (fc_v E v) = fc_v E v) (hfit : fits ty (fc_v E v) = true)
    (hi : ∀ a, a ≠ q → mi' a = mi a) (hl0 : ∀ a, a ≠ q → ml' a = ml a) (hr0 : ∀ a, a ≠ q → mr' a = mr a) (he : (fc_fs E.2.2.2.1 (mi q) (ml q) (mr q) 0 (fc_ft ci)).set j (fc_v E v) = fc_fs E.2.2.2.1 (mi' q) (ml' q) (mr' q) 0 (fc_ft ci))
    (k : fc_T E y d cs sh (pc + 3) lv st mi' ml' mr' Q) : fc_T E y d cs sh pc lv (v :: .ref q :: st) mi ml mr Q := by
  intro p e s m args below meth c R Qf hC hR hret H locs ls hP hS hl
  obtain ⟨hx, hb, hr, hlk, hown, hml, hts, hK⟩ := id hC
  have hw := fc_ws_get (E := E) (mi := mi) (ml := ml) (mr := mr) hsh
  rw [fc_cell_obj hci] at hw
  obtain ⟨ty0, hty0, hnm⟩ := (fc_cls hc).2
  refine va_put (ci := ci) (C := r.1) (T := r.2.1) (N := r.2.2) (ty := ty) (v := fc_v E v) hx hb hts (fc_cls hc).1 ty0 hty0 hnm hown hK.1 hP fc_ws_D hS q hw hc j hj (hts _ hlink) (fun _ h => h) hfin hty hn hfit (by rw [fc_fs_len]; exact hjt) hd (fun H1 locs1 hP1 _ hS1 => ?_)
  refine k p e s m args below meth c R Qf hC hR hret H1 locs1 ls ?_ hS1 hl
  rw [← fc_ws_set (E := E) (mi := mi) (ml := ml) (mr := mr) hsh hi hl0 hr0 (e := .inr (ci, (fc_fs E.2.2.2.1 (mi q) (ml q) (mr q) 0 (fc_ft ci)).set j (fc_v E v))) (by rw [fc_cell_obj hci, he])]
  exact hP1
theorem fc_fs_set {base : Nat} {mi mi' : Nat → Int32} {ml ml' : Nat → Int64} {mr mr' : Nat → Option Nat} {ts : List Nat} {j t : Nat} {v : Value} (ht : ts[j]? = some t) (hv : fc_fv base mi' ml' mr' j t = v)
    (ho : ∀ a, a ≠ j → mi' a = mi a ∧ ml' a = ml a ∧ mr' a = mr a) : (fc_fs base mi ml mr 0 ts).set j v = fc_fs base mi' ml' mr' 0 ts := by
  apply List.ext_getElem?
  intro a
  have hlt := (List.getElem?_eq_some_iff.mp ht).1
  by_cases h : a = j
  · subst h
    rw [List.getElem?_set_self (by rw [fc_fs_len]; exact hlt), fc_fs_get, ht, Option.map_some, Nat.zero_add, hv]
  · rw [List.getElem?_set_ne (Ne.symm h), fc_fs_get, fc_fs_get]
    obtain ⟨h1, h2, h3⟩ := ho a h
    cases ts[a]? with
    | none => rfl
    | some z =>
      simp only [Option.map_some, Nat.zero_add, Option.some.injEq]
      unfold fc_fv
      rw [h1, h2, h3]
theorem fc_r_puti {ci idx q j : Nat} {r : vw_C} {x : Int32} (hd : decode y.2.1 pc = .ok (.putfield idx, 3)) (hc : vwCl[ci]? = some r) (hci : ci < 20) (hj : j < r.2.2) (hlink : Cond.fieldLink y.1.cls idx (r.2.1 j).1 (r.2.1 j).2.1 (r.2.1 j).2.2.1 ∈ fc_G) (ht : (fc_ft ci)[j]? = some 0) (hsh : sh[q]? = some (ci, 0))
    (hfin : (r.2.1 j).2.2.2 = false) (hty : parseFieldDescriptor (r.2.1 j).2.2.1 = some .int) (k : fc_T E y d cs sh (pc + 3) lv st (fc_u mi q j x) ml mr Q) : fc_T E y d cs sh pc lv (.int x :: .ref q :: st) mi ml mr Q := by
  refine fc_r_putW (v := .int x) hd hc hci hj hlink (List.getElem?_eq_some_iff.mp ht).1 hsh hfin hty rfl rfl (fun a h => fc_u_off _ _ _ h) (fun _ _ => rfl) (fun _ _ => rfl) (fc_fs_set ht ?_ (fun a h => ⟨?_, rfl, rfl⟩)) k
  · show Value.int (fc_u mi q j x q j) = .int x
    rw [fc_u_row]; simp
  · rw [fc_u_row]; simp [h]
theorem fc_r_putz {ci idx q j : Nat} {r : vw_C} {x : Int32} (hd : decode y.2.1 pc = .ok (.putfield idx, 3)) (hc : vwCl[ci]? = some r) (hci : ci < 20) (hj : j < r.2.2) (hlink : Cond.fieldLink y.1.cls idx (r.2.1 j).1 (r.2.1 j).2.1 (r.2.1 j).2.2.1 ∈ fc_G) (ht : (fc_ft ci)[j]? = some 3) (hsh : sh[q]? = some (ci, 0))
    (hfin : (r.2.1 j).2.2.2 = false) (hty : parseFieldDescriptor (r.2.1 j).2.2.1 = some .boolean) (hx : x = 0 ∨ x = 1) (k : fc_T E y d cs sh (pc + 3) lv st (fc_u mi q j x) ml mr Q) : fc_T E y d cs sh pc lv (.int x :: .ref q :: st) mi ml mr Q := by
  refine fc_r_putW (v := .int x) hd hc hci hj hlink (List.getElem?_eq_some_iff.mp ht).1 hsh hfin hty (by rcases hx with rfl | rfl <;> rfl) (by rcases hx with rfl | rfl <;> rfl) (fun a h => fc_u_off _ _ _ h) (fun _ _ => rfl) (fun _ _ => rfl) (fc_fs_set ht ?_ (fun a h => ⟨?_, rfl, rfl⟩)) k
  · show Value.int (fc_u mi q j x q j) = .int x
    rw [fc_u_row]; simp
  · rw [fc_u_row]; simp [h]
theorem fc_r_putl {ci idx q j : Nat} {r : vw_C} {x : Int64} (hd : decode y.2.1 pc = .ok (.putfield idx, 3)) (hc : vwCl[ci]? = some r) (hci : ci < 20) (hj : j < r.2.2) (hlink : Cond.fieldLink y.1.cls idx (r.2.1 j).1 (r.2.1 j).2.1 (r.2.1 j).2.2.1 ∈ fc_G) (ht : (fc_ft ci)[j]? = some 1) (hsh : sh[q]? = some (ci, 0))
    (hfin : (r.2.1 j).2.2.2 = false) (hty : parseFieldDescriptor (r.2.1 j).2.2.1 = some .long) (k : fc_T E y d cs sh (pc + 3) lv st mi (fc_u ml q j x) mr Q) : fc_T E y d cs sh pc lv (.long x :: .ref q :: st) mi ml mr Q := by
  refine fc_r_putW (v := .long x) hd hc hci hj hlink (List.getElem?_eq_some_iff.mp ht).1 hsh hfin hty rfl rfl (fun _ _ => rfl) (fun a h => fc_u_off _ _ _ h) (fun _ _ => rfl) (fc_fs_set ht ?_ (fun a h => ⟨rfl, ?_, rfl⟩)) k
  · show Value.long (fc_u ml q j x q j) = .long x
    rw [fc_u_row]; simp
  · rw [fc_u_row]; simp [h]
theorem fc_r_putr {ci idx q j x : Nat} {r : vw_C} {ty : FieldType} (hd : decode y.2.1 pc = .ok (.putfield idx, 3)) (hc : vwCl[ci]? = some r) (hci : ci < 20) (hj : j < r.2.2) (hlink : Cond.fieldLink y.1.cls idx (r.2.1 j).1 (r.2.1 j).2.1 (r.2.1 j).2.2.1 ∈ fc_G) (ht : (fc_ft ci)[j]? = some 2) (hsh : sh[q]? = some (ci, 0))
    (hfin : (r.2.1 j).2.2.2 = false) (hty : parseFieldDescriptor (r.2.1 j).2.2.1 = some ty) (hr : ty.isReference = true) (k : fc_T E y d cs sh (pc + 3) lv st mi ml (fc_u mr q j (some x)) Q) : fc_T E y d cs sh pc lv (.ref x :: .ref q :: st) mi ml mr Q := by
  refine fc_r_putW (v := .ref x) hd hc hci hj hlink (List.getElem?_eq_some_iff.mp ht).1 hsh hfin hty (by cases ty <;> first | rfl | cases hr) (by cases ty <;> first | rfl | cases hr) (fun _ _ => rfl) (fun _ _ => rfl) (fun a h => fc_u_off _ _ _ h) (fc_fs_set ht ?_ (fun a h => ⟨rfl, rfl, ?_⟩)) k
  · show va_rf ((fc_u mr q j (some x) q j).map (E.2.2.2.1 + ·)) = .ref (E.2.2.2.1 + x)
    rw [fc_u_row]; simp [va_rf]
  · rw [fc_u_row]; simp [h]
theorem fc_r_iald {q n : Nat} {i : Int32} (hd : decode y.2.1 pc = .ok (.iaload, 1)) (hsh : sh[q]? = some (20, n)) (hi : vp_in i n) (k : fc_T E y d cs sh (pc + 1) lv (.int (mi q i.toNatClampNeg) :: st) mi ml mr Q) : fc_T E y d cs sh pc lv (.int i :: .ref q :: st) mi ml mr Q :=
  fun p e s m args below meth c R Qf hC hR hret H locs ls hP hS hl => va_iald hC.1 hC.2.1 hC.2.2.2.2.2.2.2.1 hP q 0 (fc_ws_get hsh) rfl hi hd (k p e s m args below meth c R Qf hC hR hret H locs ls hP hS hl)
theorem fc_r_cald {q n : Nat} {i : Int32} (hd : decode y.2.1 pc = .ok (.caload, 1)) (hsh : sh[q]? = some (23, n)) (hi : vp_in i n) (k : fc_T E y d cs sh (pc + 1) lv (.int (mi q i.toNatClampNeg) :: st) mi ml mr Q) : fc_T E y d cs sh pc lv (.int i :: .ref q :: st) mi ml mr Q :=
  fun p e s m args below meth c R Qf hC hR hret H locs ls hP hS hl => va_cald hC.1 hC.2.1 hC.2.2.2.2.2.2.2.1 hP q 3 (fc_ws_get hsh) rfl hi hd (k p e s m args below meth c R Qf hC hR hret H locs ls hP hS hl)
theorem fc_r_zald {q n : Nat} {i : Int32} (hd : decode y.2.1 pc = .ok (.baload, 1)) (hsh : sh[q]? = some (22, n)) (hi : vp_in i n) (k : fc_T E y d cs sh (pc + 1) lv (.int (mi q i.toNatClampNeg) :: st) mi ml mr Q) : fc_T E y d cs sh pc lv (.int i :: .ref q :: st) mi ml mr Q :=
  fun p e s m args below meth c R Qf hC hR hret H locs ls hP hS hl => va_zald hC.1 hC.2.1 hC.2.2.2.2.2.2.2.1 hP q 2 (fc_ws_get hsh) rfl hi hd (k p e s m args below meth c R Qf hC hR hret H locs ls hP hS hl)
theorem fc_r_lald {q n : Nat} {i : Int32} (hd : decode y.2.1 pc = .ok (.laload, 1)) (hsh : sh[q]? = some (21, n)) (hi : vp_in i n) (k : fc_T E y d cs sh (pc + 1) lv (.long (ml q i.toNatClampNeg) :: st) mi ml mr Q) : fc_T E y d cs sh pc lv (.int i :: .ref q :: st) mi ml mr Q :=
  fun p e s m args below meth c R Qf hC hR hret H locs ls hP hS hl => va_lald hC.1 hC.2.1 hC.2.2.2.2.2.2.2.1 hP q 1 (fc_ws_get hsh) rfl hi hd (k p e s m args below meth c R Qf hC hR hret H locs ls hP hS hl)
theorem fc_r_aald24 {q n x : Nat} {i : Int32} (hd : decode y.2.1 pc = .ok (.aaload, 1)) (hsh : sh[q]? = some (24, n)) (hi : vp_in i n) (hx : mr q i.toNatClampNeg = some x) (k : fc_T E y d cs sh (pc + 1) lv (.ref x :: st) mi ml mr Q) : fc_T E y d cs sh pc lv (.int i :: .ref q :: st) mi ml mr Q := by
  intro p e s m args below meth c R Qf hC hR hret H locs ls hP hS hl
  have hlt : i.toNatClampNeg < n := Nat.not_le.mp fun q => hi (Or.inr q)
  have hw := hP q _ (fc_ws_get hsh)
  refine W.aald (v := .ref (E.2.2.2.1 + x)) (ty := .object "FirstChimney$State") hC.1 hC.2.1 hw ((hC.2.2.2.2.2.2.2.1.2 4 _ rfl).1 n (fun j => va_rf (fc_rows E.2.2.2.1 (mr q) j))) rfl (fun q => by cases q) (by show ¬ (i < 0 ∨ (arrV _ _ _).slots.size ≤ _); rw [arrV_size]; exact hi) (by show (arrV _ _ _).slots[_]? = _; rw [arrV_read _ _ hlt]; simp [fc_rows, hx, va_rf]) rfl rfl hd (k p e s m args below meth c R Qf hC hR hret H locs ls hP hS hl)
theorem fc_r_aald25 {q n x : Nat} {i : Int32} (hd : decode y.2.1 pc = .ok (.aaload, 1)) (hsh : sh[q]? = some (25, n)) (hi : vp_in i n) (hx : mr q i.toNatClampNeg = some x) (k : fc_T E y d cs sh (pc + 1) lv (.ref x :: st) mi ml mr Q) : fc_T E y d cs sh pc lv (.int i :: .ref q :: st) mi ml mr Q := by
  intro p e s m args below meth c R Qf hC hR hret H locs ls hP hS hl
  have hlt : i.toNatClampNeg < n := Nat.not_le.mp fun q => hi (Or.inr q)
  have hw := hP q _ (fc_ws_get hsh)
  refine W.aald (v := .ref (E.2.2.2.1 + x)) (ty := .object "FirstChimney$Seen") hC.1 hC.2.1 hw ((hC.2.2.2.2.2.2.2.1.2 5 _ rfl).1 n (fun j => va_rf (fc_rows E.2.2.2.1 (mr q) j))) rfl (fun q => by cases q) (by show ¬ (i < 0 ∨ (arrV _ _ _).slots.size ≤ _); rw [arrV_size]; exact hi) (by show (arrV _ _ _).slots[_]? = _; rw [arrV_read _ _ hlt]; simp [fc_rows, hx, va_rf]) rfl rfl hd (k p e s m args below meth c R Qf hC hR hret H locs ls hP hS hl)
theorem fc_r_aald26 {q n x : Nat} {i : Int32} (hd : decode y.2.1 pc = .ok (.aaload, 1)) (hsh : sh[q]? = some (26, n)) (hi : vp_in i n) (hx : mr q i.toNatClampNeg = some x) (k : fc_T E y d cs sh (pc + 1) lv (.ref x :: st) mi ml mr Q) : fc_T E y d cs sh pc lv (.int i :: .ref q :: st) mi ml mr Q := by
  intro p e s m args below meth c R Qf hC hR hret H locs ls hP hS hl
  have hlt : i.toNatClampNeg < n := Nat.not_le.mp fun q => hi (Or.inr q)
  have hw := hP q _ (fc_ws_get hsh)
  refine W.aald (v := .ref (E.2.2.2.1 + x)) (ty := .array .int) hC.1 hC.2.1 hw ((hC.2.2.2.2.2.2.2.1.2 6 _ rfl).1 n (fun j => va_rf (fc_rows E.2.2.2.1 (mr q) j))) rfl (fun q => by cases q) (by show ¬ (i < 0 ∨ (arrV _ _ _).slots.size ≤ _); rw [arrV_size]; exact hi) (by show (arrV _ _ _).slots[_]? = _; rw [arrV_read _ _ hlt]; simp [fc_rows, hx, va_rf]) rfl rfl hd (k p e s m args below meth c R Qf hC hR hret H locs ls hP hS hl)
theorem fc_r_iast {q n : Nat} {i x : Int32} (hd : decode y.2.1 pc = .ok (.iastore, 1)) (hsh : sh[q]? = some (20, n)) (hi : vp_in i n) (k : fc_T E y d cs sh (pc + 1) lv st (fc_u mi q i.toNatClampNeg x) ml mr Q) : fc_T E y d cs sh pc lv (.int x :: .int i :: .ref q :: st) mi ml mr Q := by
  intro p e s m args below meth c R Qf hC hR hret H locs ls hP hS hl
  refine va_iast hC.1 hC.2.1 hC.2.2.2.2.2.2.2.1 hP fc_ws_D hS q 0 (fc_ws_get hsh) rfl hi hd (fun H1 locs1 hP1 _ hS1 => k p e s m args below meth c R Qf hC hR hret H1 locs1 ls ?_ hS1 hl)
  rw [← fc_ws_set (E := E) (mi := mi) (ml := ml) (mr := mr) (mi' := fc_u mi q i.toNatClampNeg x) hsh (fun a h => fc_u_off _ _ _ h) (fun _ _ => rfl) (fun _ _ => rfl) rfl]
  show va_P _ _ ((fc_ws E sh mi ml mr).set q (_, .inl (_, _, .inl (fc_u mi q i.toNatClampNeg x q)))) H1
  rw [fc_u_row]
  exact hP1
theorem fc_r_cast {q n : Nat} {i x : Int32} (hd : decode y.2.1 pc = .ok (.castore, 1)) (hsh : sh[q]? = some (23, n)) (hi : vp_in i n) (k : fc_T E y d cs sh (pc + 1) lv st (fc_u mi q i.toNatClampNeg (vp_nar .char x)) ml mr Q) : fc_T E y d cs sh pc lv (.int x :: .int i :: .ref q :: st) mi ml mr Q := by
  intro p e s m args below meth c R Qf hC hR hret H locs ls hP hS hl
  refine va_cast hC.1 hC.2.1 hC.2.2.2.2.2.2.2.1 hP fc_ws_D hS q 3 (fc_ws_get hsh) rfl hi hd (fun H1 locs1 hP1 _ hS1 => k p e s m args below meth c R Qf hC hR hret H1 locs1 ls ?_ hS1 hl)
  rw [← fc_ws_set (E := E) (mi := mi) (ml := ml) (mr := mr) (mi' := fc_u mi q i.toNatClampNeg (vp_nar .char x)) hsh (fun a h => fc_u_off _ _ _ h) (fun _ _ => rfl) (fun _ _ => rfl) rfl]
  show va_P _ _ ((fc_ws E sh mi ml mr).set q (_, .inl (_, _, .inl (fc_u mi q i.toNatClampNeg (vp_nar .char x) q)))) H1
  rw [fc_u_row]
  exact hP1
theorem fc_r_zast {q n : Nat} {i x : Int32} (hd : decode y.2.1 pc = .ok (.bastore, 1)) (hsh : sh[q]? = some (22, n)) (hi : vp_in i n) (k : fc_T E y d cs sh (pc + 1) lv st (fc_u mi q i.toNatClampNeg (vp_nar .boolean x)) ml mr Q) : fc_T E y d cs sh pc lv (.int x :: .int i :: .ref q :: st) mi ml mr Q := by
  intro p e s m args below meth c R Qf hC hR hret H locs ls hP hS hl
  refine va_zast hC.1 hC.2.1 hC.2.2.2.2.2.2.2.1 hP fc_ws_D hS q 2 (fc_ws_get hsh) rfl hi hd (fun H1 locs1 hP1 _ hS1 => k p e s m args below meth c R Qf hC hR hret H1 locs1 ls ?_ hS1 hl)
  rw [← fc_ws_set (E := E) (mi := mi) (ml := ml) (mr := mr) (mi' := fc_u mi q i.toNatClampNeg (vp_nar .boolean x)) hsh (fun a h => fc_u_off _ _ _ h) (fun _ _ => rfl) (fun _ _ => rfl) rfl]
  show va_P _ _ ((fc_ws E sh mi ml mr).set q (_, .inl (_, _, .inl (fc_u mi q i.toNatClampNeg (vp_nar .boolean x) q)))) H1
  rw [fc_u_row]
  exact hP1
theorem fc_r_last {q n : Nat} {i : Int32} {x : Int64} (hd : decode y.2.1 pc = .ok (.lastore, 1)) (hsh : sh[q]? = some (21, n)) (hi : vp_in i n) (k : fc_T E y d cs sh (pc + 1) lv st mi (fc_u ml q i.toNatClampNeg x) mr Q) : fc_T E y d cs sh pc lv (.long x :: .int i :: .ref q :: st) mi ml mr Q := by
  intro p e s m args below meth c R Qf hC hR hret H locs ls hP hS hl
  refine va_last hC.1 hC.2.1 hC.2.2.2.2.2.2.2.1 hP fc_ws_D hS q 1 (fc_ws_get hsh) rfl hi hd (fun H1 locs1 hP1 _ hS1 => k p e s m args below meth c R Qf hC hR hret H1 locs1 ls ?_ hS1 hl)
  rw [← fc_ws_set (E := E) (mi := mi) (ml := ml) (mr := mr) (ml' := fc_u ml q i.toNatClampNeg x) hsh (fun _ _ => rfl) (fun a h => fc_u_off _ _ _ h) (fun _ _ => rfl) rfl]
  show va_P _ _ ((fc_ws E sh mi ml mr).set q (_, .inl (_, _, .inr (.inl (fc_u ml q i.toNatClampNeg x q))))) H1
  rw [fc_u_row]
  exact hP1
theorem fc_r_alenL {q n : Nat} (hd : decode y.2.1 pc = .ok (.arraylength, 1)) (hsh : sh[q]? = some (21, n)) (k : fc_T E y d cs sh (pc + 1) lv (.int (Int32.ofNat n) :: st) mi ml mr Q) : fc_T E y d cs sh pc lv (.ref q :: st) mi ml mr Q :=
  fun p e s m args below meth c R Qf hC hR hret H locs ls hP hS hl => va_alen hC.1 hC.2.1 hC.2.2.2.2.2.2.2.1 hP q 1 (fc_ws_get hsh) rfl rfl hd (k p e s m args below meth c R Qf hC hR hret H locs ls hP hS hl)
theorem fc_r_alenI {q n : Nat} (hd : decode y.2.1 pc = .ok (.arraylength, 1)) (hsh : sh[q]? = some (20, n)) (k : fc_T E y d cs sh (pc + 1) lv (.int (Int32.ofNat n) :: st) mi ml mr Q) : fc_T E y d cs sh pc lv (.ref q :: st) mi ml mr Q :=
  fun p e s m args below meth c R Qf hC hR hret H locs ls hP hS hl => va_alen hC.1 hC.2.1 hC.2.2.2.2.2.2.2.1 hP q 0 (fc_ws_get hsh) rfl rfl hd (k p e s m args below meth c R Qf hC hR hret H locs ls hP hS hl)
theorem fc_r_ret {v : Option Value} (hrt : fc_rt y pc v) (hq : Q v mi ml mr) : fc_T E y d cs sh pc lv v.toList mi ml mr Q := by
  intro p e s m args below meth c R Qf hC hR hret H locs ls hP hS hl
  have h := hret v mi ml mr H locs ls pc hq hP hS hrt
  cases v <;> exact h
theorem fc_r_ldcw {idx : Nat} {x : Int32} (hd : decode y.2.1 pc = .ok (.ldc_w idx, 3)) (hc : Cond.constant y.1.cls idx x ∈ fc_G) (k : fc_T E y d cs sh (pc + 3) lv (.int x :: st) mi ml mr Q) : fc_T E y d cs sh pc lv st mi ml mr Q :=
  fun p e s m args below meth c R Qf hC hR hret H locs ls hP hS hl => lv_ldcw hC.1 hC.2.1 hC.2.2.2.2.1 (hC.2.2.2.2.2.2.1 _ hc) hd (k p e s m args below meth c R Qf hC hR hret H locs ls hP hS hl)
theorem fc_r_sald {i : Int32} (hd : decode y.2.1 pc = .ok (.iaload, 1)) (hi : vp_in i E.2.2.2.2.2.2.1) (k : fc_T E y d cs sh (pc + 1) lv (.int (E.2.2.2.2.2.2.2 i.toNatClampNeg) :: st) mi ml mr Q) : fc_T E y d cs sh pc lv (.int i :: .float 5 :: st) mi ml mr Q := by
  intro p e s m args below meth c R Qf hC hR hret H locs ls hP hS hl
  obtain ⟨h1, h2, h3, h4, h5, h6⟩ := hC.2.2.2.2.2.2.2
  have hlt : E.2.2.2.2.1 5 < s.heap.size := by
    obtain ⟨scr, g1, -⟩ := id h5
    exact (Array.getElem?_eq_some_iff.mp g1).1
  exact va_sld hC.1 hC.2.1 h5 hlt h6 hS hi hd (k p e s m args below meth c R Qf hC hR hret H locs ls hP hS hl)
theorem fc_r_slen (hd : decode y.2.1 pc = .ok (.arraylength, 1)) (k : fc_T E y d cs sh (pc + 1) lv (.int (Int32.ofNat E.2.2.2.2.2.2.1) :: st) mi ml mr Q) : fc_T E y d cs sh pc lv (.float 5 :: st) mi ml mr Q := by
  intro p e s m args below meth c R Qf hC hR hret H locs ls hP hS hl
  obtain ⟨h1, h2, h3, h4, h5, h6⟩ := hC.2.2.2.2.2.2.2
  have hlt : E.2.2.2.2.1 5 < s.heap.size := by
    obtain ⟨scr, g1, -⟩ := id h5
    exact (Array.getElem?_eq_some_iff.mp g1).1
  exact va_slen hC.1 hC.2.1 h5 hlt h6 hS hd (k p e s m args below meth c R Qf hC hR hret H locs ls hP hS hl)
theorem fc_r_ldc {idx : Nat} {x : Int32} (hd : decode y.2.1 pc = .ok (.ldc idx, 2)) (hc : Cond.constant y.1.cls idx x ∈ fc_G) (k : fc_T E y d cs sh (pc + 2) lv (.int x :: st) mi ml mr Q) : fc_T E y d cs sh pc lv st mi ml mr Q :=
  fun p e s m args below meth c R Qf hC hR hret H locs ls hP hS hl => lv_ldc hC.1 hC.2.1 hC.2.2.2.2.1 (hC.2.2.2.2.2.2.1 _ hc) hd (k p e s m args below meth c R Qf hC hR hret H locs ls hP hS hl)
theorem fc_r_ldc2 {idx : Nat} {x : Int64} (hd : decode y.2.1 pc = .ok (.ldc2_w idx, 3)) (hc : Cond.constantLong y.1.cls idx x ∈ fc_G) (k : fc_T E y d cs sh (pc + 3) lv (.long x :: st) mi ml mr Q) : fc_T E y d cs sh pc lv st mi ml mr Q :=
  fun p e s m args below meth c R Qf hC hR hret H locs ls hP hS hl => lv_ldc2 hC.1 hC.2.1 hC.2.2.2.2.1 (hC.2.2.2.2.2.2.1 _ hc) hd (k p e s m args below meth c R Qf hC hR hret H locs ls hP hS hl)
end R2
end
section
/-! ===== calls ===== -/
theorem fc_sum (E : fc_E) (st : List Value) : ((st.map (fc_v E)).map fun v => v.category).sum = (st.map fun v => v.category).sum := by
  rw [List.map_map]
  congr 1
  apply List.map_congr_left
  intro v _
  exact fc_v_cat E v
theorem fc_rmL (d : Nat) : (fc_rm d).locals = 64 * (d + 1) := rfl
theorem fc_rmF (d : Nat) : (fc_rm d).frames = d + 1 := rfl
theorem fc_w_good {z : fc_M} (h : Cond.code z.1 z.2.1 z.2.2.1 z.2.2.2 ∈ fc_G) : GoodIn fc_G (fc_w z) := by
  intro w hw
  have hw : w ∈ fc_G := by
    rcases List.mem_cons.mp hw with rfl | hw
    · exact h
    · exact hw
  exact ⟨hw, good_of_word (List.mem_filter.mp hw).2⟩
section R3
variable {E : fc_E} {y : fc_M} {d : Nat} {cs : Nat × Nat} {sh : fc_Sh} {pc : Nat} {lv : List (Option Value)} {st : List Value} {mi : fc_Mi} {ml : fc_Ml} {mr : fc_Mr} {Q Q' : fc_Q}
theorem fc_callK {p : Program} {e : Env} {R : Room} {s : State} {m : MethodId} {args : Array Value} {below : List Frame} {meth : Method} {c : Code} {H : Heap} {locs : List Loc} {ls : Array Slot} {st0 rest : List Value} {a : Array Value} {Qf : State → Prop}
    (hr : va_Run p E.1 e R s m args below meth c H locs cs.1 cs.2 0 0 (F0 m pc ls st0) rest (fc_Qc E sh Q' a) (fc_A E)) (hS : va_S (fc_A E) s.heap H locs)
    (kk : ∀ (v : Option Value) (mi : fc_Mi) (ml : fc_Ml) (mr : fc_Mr) (H1 : Heap) (locs1 : List Loc), Q' v mi ml mr → va_P E.2.1 vwCl (fc_ws E sh mi ml mr) H1 → va_S (fc_A E) s.heap H1 locs1 → W p E.1 e R s m args below meth c H1 locs1 cs.1 cs.2 Qf (F0 m (pc + 3) ls ((v.map (fc_v E)).toList ++ rest))) :
    W p E.1 e R s m args below meth c H locs cs.1 cs.2 Qf (F0 m pc ls st0) := by
  intro T hT X
  obtain ⟨v, st₀, t, T', L, h0, X', hL, e1, e2, ⟨⟨w, mi, ml, mr, hq, hv, hp⟩, hz, hk⟩, stp⟩ := hr T hT X
  cases hv
  rw [h0] at hz hk
  obtain ⟨t2, a1, b1⟩ := kk w mi ml mr T'.heap (locs ++ L) hq (by rw [e1]; exact hp)
    ⟨Nat.le_trans hS.1 (by rw [e1]; exact hz), fun q h1 h2 => by rw [e1, hk q (Nat.lt_of_lt_of_le h1 hS.1) h2]; exact hS.2.1 q h1 h2, fun q hq => by
      rcases List.mem_append.mp hq with h | h
      · exact hS.2.2 q h
      · exact hL q h⟩ T' rfl X'
  exact ⟨t2, stp t2 a1, b1⟩
theorem fc_blind {As : List Value} : FrameBlind (va_Pc (As.map (fc_v E)) (fun U => va_P E.2.1 vwCl (fc_ws E sh mi ml mr) U.heap ∧ fc_K E U)) := by
  intro a U g mk q
  obtain ⟨q0, qP, qK⟩ := q
  exact ⟨q0, qP, qK.calling a g mk⟩
theorem fc_pre {As : List Value} {s : State} {H : Heap} {locs : List Loc} (hK : fc_K E s) (hP : va_P E.2.1 vwCl (fc_ws E sh mi ml mr) H) (hS : va_S (fc_A E) s.heap H locs) : ∀ U : State, U.heap = H → s.WarmedH U.vm → va_Pc (As.map (fc_v E)) (fun U => va_P E.2.1 vwCl (fc_ws E sh mi ml mr) U.heap ∧ fc_K E U) (As.map (fc_v E)).toArray U :=
  fun U hU hW => ⟨rfl, by rw [hU]; exact hP, hK.moved hW (fun a h1 h2 => by rw [hU]; exact hS.2.1 a h1 h2)⟩
theorem fc_toL (v : Option Value) : (v.map (fc_v E)).toList = v.toList.map (fc_v E) := by cases v <;> rfl
theorem fc_r_callV {z : fc_M} {idx ci q n : Nat} {r : vw_C} {As : List Value} (hd : decode y.2.1 pc = .ok (.invokevirtual idx, 3)) (hM : fc_R E z d sh (.ref q :: As) mi ml mr Q') (hz : fc_mw z n) (hn : As.length = n) (hinst : Cond.instanceMethod z.1 ∈ fc_G) (hsel : Cond.selects z.1.cls z.1 z.1 ∈ fc_G) (hlink : Cond.methodLink y.1.cls idx z.1 ∈ fc_G)
    (hc : vwCl[ci]? = some r) (hrc : r.1 = z.1.cls) (hci : ci < 20) (hsh : sh[q]? = some (ci, 0)) (hroom : (st.map fun v => v.category).sum ≤ 8) (k : ∀ v mi' ml' mr', Q' v mi' ml' mr' → fc_T E y (d + 1) cs sh (pc + 3) lv (v.toList ++ st) mi' ml' mr' Q) : fc_T E y (d + 1) cs sh pc lv (As.reverse ++ .ref q :: st) mi ml mr Q := by
  intro p e s m args below meth c R Qf hC hR hret H locs ls hP hS hl
  obtain ⟨hx, hb, hr, hlk, hown, hml, hts, hK⟩ := id hC
  obtain ⟨hz1, hz2, hz3, hz4⟩ := hz
  have hw := fc_ws_get (E := E) (mi := mi) (ml := ml) (mr := mr) hsh
  rw [fc_cell_obj hci] at hw
  have hrun := va_runV (p := p) (e := e) (below := below) (meth := meth) (locs := locs) (cells := cs.1) (slots := cs.2) (R := R) (H := H) (g := F0 m pc ls ((As.reverse ++ .ref q :: st).map (fc_v E))) (rest := st.map (fc_v E)) (As := As.map (fc_v E)) (b := E.2.2.2.1 + q) (C := z.1.cls) (S := ⟨hx, hb, hml, hown, hts⟩) hM
    ⟨callB_of n hts (fc_w_good hz1) rfl rfl rfl (hts _ hz2) (hts _ hlink) hz3 ⟨by rw [fc_rmF]; exact hR.1, by rw [fc_rmL]; have := hR.2.1; omega⟩, hts _ hinst, hts _ hsel⟩
    ⟨fc_blind, by rw [← hrc]; exact va_recv hK.1 hP hc hw, fc_pre (As := .ref q :: As) hK hP hS⟩ rfl (by rw [List.length_map]; exact hn) hl.1 (by show List.map _ _ = _; rw [List.map_append, List.map_reverse]; rfl) (lv_room (by rw [fc_sum]; exact hroom)) hd ⟨hR.2.2.1, hR.2.2.2⟩
  refine fc_callK hrun hS (fun v mi' ml' mr' H1 locs1 hq hP1 hS1 => ?_)
  rw [fc_toL, ← List.map_append]
  exact k v mi' ml' mr' hq p e s m args below meth c R Qf hC hR hret H1 locs1 ls hP1 hS1 hl
theorem fc_r_callS {z : fc_M} {idx n : Nat} {As : List Value} (hd : decode y.2.1 pc = .ok (.invokestatic idx, 3)) (hM : fc_R E z d sh As mi ml mr Q') (hz : fc_mw z n) (hn : As.length = n) (hstat : Cond.static z.1 ∈ fc_G) (hlink : Cond.methodLink y.1.cls idx z.1 ∈ fc_G)
    (hroom : (st.map fun v => v.category).sum ≤ 8) (k : ∀ v mi' ml' mr', Q' v mi' ml' mr' → fc_T E y (d + 1) cs sh (pc + 3) lv (v.toList ++ st) mi' ml' mr' Q) : fc_T E y (d + 1) cs sh pc lv (As.reverse ++ st) mi ml mr Q := by
  intro p e s m args below meth c R Qf hC hR hret H locs ls hP hS hl
  obtain ⟨hx, hb, hr, hlk, hown, hml, hts, hK⟩ := id hC
  obtain ⟨hz1, hz2, hz3, hz4⟩ := hz
  have hrun := va_runS (p := p) (e := e) (below := below) (meth := meth) (locs := locs) (cells := cs.1) (slots := cs.2) (R := R) (H := H) (g := F0 m pc ls ((As.reverse ++ st).map (fc_v E))) (rest := st.map (fc_v E)) (As := As.map (fc_v E)) (S := ⟨hx, hb, hml, hown, hts⟩) hM
    ⟨callB_of n hts (fc_w_good hz1) rfl rfl rfl (hts _ hz2) (hts _ hlink) hz3 ⟨by rw [fc_rmF]; exact hR.1, by rw [fc_rmL]; have := hR.2.1; omega⟩, hts _ hstat⟩
    ⟨fc_blind, fc_pre (As := As) hK hP hS⟩ rfl (by rw [List.length_map]; exact hn) hl.1 (by show List.map _ _ = _; rw [List.map_append, List.map_reverse]) (lv_room (by rw [fc_sum]; exact hroom)) hd ⟨hR.2.2.1, hR.2.2.2⟩
  refine fc_callK hrun hS (fun v mi' ml' mr' H1 locs1 hq hP1 hS1 => ?_)
  rw [fc_toL, ← List.map_append]
  exact k v mi' ml' mr' hq p e s m args below meth c R Qf hC hR hret H1 locs1 ls hP1 hS1 hl
theorem fc_r_callN {z : fc_M} {idx n : Nat} {As : List Value} (hd : decode y.2.1 pc = .ok (.invokestatic idx, 3)) (hM : fc_R E z d sh As mi ml mr Q') (hz : fc_mw z n) (hn : As.length = n) (hstat : Cond.static z.1 ∈ fc_G) (hlink : (y.1.cls, idx, z.1) ∈ fc_N)
    (hroom : (st.map fun v => v.category).sum ≤ 8) (k : ∀ v mi' ml' mr', Q' v mi' ml' mr' → fc_T E y (d + 1) cs sh (pc + 3) lv (v.toList ++ st) mi' ml' mr' Q) : fc_T E y (d + 1) cs sh pc lv (As.reverse ++ st) mi ml mr Q := by
  intro p e s m args below meth c R Qf hC hR hret H locs ls hP hS hl
  obtain ⟨hx, hb, hr, hlk, hown, hml, hts, hK⟩ := id hC
  obtain ⟨hz1, hz2, hz3, hz4⟩ := hz
  have hrun := va_runSN (p := p) (e := e) (below := below) (meth := meth) (locs := locs) (cells := cs.1) (slots := cs.2) (R := R) (H := H) (g := F0 m pc ls ((As.reverse ++ st).map (fc_v E))) (rest := st.map (fc_v E)) (As := As.map (fc_v E)) (host := "FirstChimney") (S := ⟨hx, hb, hml, hown, hts⟩) hM
    ⟨va_cnB n hts (fc_w_good hz1) rfl rfl rfl (hK.2.1 _ hlink) (hts _ hz2) hz3 ⟨by rw [fc_rmF]; exact hR.1, by rw [fc_rmL]; have := hR.2.1; omega⟩, hts _ hstat, trivial⟩
    ⟨fc_blind, fc_pre (As := As) hK hP hS⟩ rfl (by rw [List.length_map]; exact hn) hl.1 (by show List.map _ _ = _; rw [List.map_append, List.map_reverse]) (lv_room (by rw [fc_sum]; exact hroom)) hd ⟨hR.2.2.1, hR.2.2.2⟩
  refine fc_callK hrun hS (fun v mi' ml' mr' H1 locs1 hq hP1 hS1 => ?_)
  rw [fc_toL, ← List.map_append]
  exact k v mi' ml' mr' hq p e s m args below meth c R Qf hC hR hret H1 locs1 ls hP1 hS1 hl
/-- a virtual call on a constant text -/
theorem fc_r_callT {z : fc_M} {idx n : Nat} {u : UInt32} {As : List Value} (hd : decode y.2.1 pc = .ok (.invokevirtual idx, 3)) (hM : fc_R E z d sh (.float u :: As) mi ml mr Q') (hz : fc_mw z n) (hn : As.length = n) (hinst : Cond.instanceMethod z.1 ∈ fc_G) (hsel : Cond.selects z.1.cls z.1 z.1 ∈ fc_G) (hlink : Cond.methodLink y.1.cls idx z.1 ∈ fc_G)
    (hrc : z.1.cls = "java/lang/String") (hu : u.toNat < 5) (hroom : (st.map fun v => v.category).sum ≤ 8) (k : ∀ v mi' ml' mr', Q' v mi' ml' mr' → fc_T E y (d + 1) cs sh (pc + 3) lv (v.toList ++ st) mi' ml' mr' Q) : fc_T E y (d + 1) cs sh pc lv (As.reverse ++ .float u :: st) mi ml mr Q := by
  intro p e s m args below meth c R Qf hC hR hret H locs ls hP hS hl
  obtain ⟨hx, hb, hr, hlk, hown, hml, hts, hK⟩ := id hC
  obtain ⟨hz1, hz2, hz3, hz4⟩ := hz
  have hrun := va_runV (p := p) (e := e) (below := below) (meth := meth) (locs := locs) (cells := cs.1) (slots := cs.2) (R := R) (H := H) (g := F0 m pc ls ((As.reverse ++ .float u :: st).map (fc_v E))) (rest := st.map (fc_v E)) (As := As.map (fc_v E)) (b := E.2.2.2.2.1 u.toNat) (C := z.1.cls) (S := ⟨hx, hb, hml, hown, hts⟩) hM
    ⟨callB_of n hts (fc_w_good hz1) rfl rfl rfl (hts _ hz2) (hts _ hlink) hz3 ⟨by rw [fc_rmF]; exact hR.1, by rw [fc_rmL]; have := hR.2.1; omega⟩, hts _ hinst, hts _ hsel⟩
    ⟨fc_blind, by rw [hrc]; exact vk_recv hK.2.2.1 hu hS, fc_pre (As := .float u :: As) hK hP hS⟩ rfl (by rw [List.length_map]; exact hn) hl.1 (by show List.map _ _ = _; rw [List.map_append, List.map_reverse]; rfl) (lv_room (by rw [fc_sum]; exact hroom)) hd ⟨hR.2.2.1, hR.2.2.2⟩
  refine fc_callK hrun hS (fun v mi' ml' mr' H1 locs1 hq hP1 hS1 => ?_)
  rw [fc_toL, ← List.map_append]
  exact k v mi' ml' mr' hq p e s m args below meth c R Qf hC hR hret H1 locs1 ls hP1 hS1 hl
theorem fc_r_max {idx : Nat} {x z : Int32} (hd : decode y.2.1 pc = .ok (.invokestatic idx, 3)) (hlink : Cond.methodLink y.1.cls idx Lib.Math.max.name ∈ fc_G) (hstat : Cond.static Lib.Math.max.name ∈ fc_G) (hini : Cond.initialized "java/lang/Math" ∈ fc_G) (hcode : Cond.code Lib.Math.max.name Lib.Math.max.code 2 (some .int) ∈ fc_G) (hroom : (st.map fun v => v.category).sum ≤ 8)
    (k : fc_T E y d cs sh (pc + 3) lv (.int (if x < z then z else x) :: st) mi ml mr Q) : fc_T E y d cs sh pc lv (.int z :: .int x :: st) mi ml mr Q := by
  intro p e s m args below meth c R Qf hC hR hret H locs ls hP hS hl
  obtain ⟨hx, hb, hr, hlk, hown, hml, hts, hK⟩ := id hC
  exact va_mmax hx hb (hml.trans hl.1.symm) hown (hts _ hlink) (hts _ hstat) (hts _ hini) (hts _ hcode) (by have := hR.1; omega) (by rw [fc_sum]; have := hR.2.1; omega) hR.2.2.1 hR.2.2.2 hd (k p e s m args below meth c R Qf hC hR hret H locs ls hP hS hl)
theorem fc_r_min {idx : Nat} {x z : Int32} (hd : decode y.2.1 pc = .ok (.invokestatic idx, 3)) (hlink : Cond.methodLink y.1.cls idx Lib.Math.min.name ∈ fc_G) (hstat : Cond.static Lib.Math.min.name ∈ fc_G) (hini : Cond.initialized "java/lang/Math" ∈ fc_G) (hcode : Cond.code Lib.Math.min.name Lib.Math.min.code 2 (some .int) ∈ fc_G) (hroom : (st.map fun v => v.category).sum ≤ 8)
    (k : fc_T E y d cs sh (pc + 3) lv (.int (if z < x then z else x) :: st) mi ml mr Q) : fc_T E y d cs sh pc lv (.int z :: .int x :: st) mi ml mr Q := by
  intro p e s m args below meth c R Qf hC hR hret H locs ls hP hS hl
  obtain ⟨hx, hb, hr, hlk, hown, hml, hts, hK⟩ := id hC
  exact va_mmin hx hb (hml.trans hl.1.symm) hown (hts _ hlink) (hts _ hstat) (hts _ hini) (hts _ hcode) (by have := hR.1; omega) (by rw [fc_sum]; have := hR.2.1; omega) hR.2.2.1 hR.2.2.2 hd (k p e s m args below meth c R Qf hC hR hret H locs ls hP hS hl)
theorem fc_r_copy {idx q0 q1 n0 n1 : Nat} {sp dp n : Int32} (hd : decode y.2.1 pc = .ok (.invokestatic idx, 3)) (hlink : Cond.methodLink y.1.cls idx arraycopyName ∈ fc_G) (hnat : Cond.native arraycopyName ∈ fc_G) (hstat : Cond.static arraycopyName ∈ fc_G) (hini : Cond.initialized "java/lang/System" ∈ fc_G)
    (h0 : sh[q0]? = some (20, n0)) (h1 : sh[q1]? = some (20, n1)) (h2 : ¬ sp < 0) (h3 : ¬ dp < 0) (h4 : ¬ n < 0) (h5 : sp.toNatClampNeg + n.toNatClampNeg ≤ n0) (h6 : dp.toNatClampNeg + n.toNatClampNeg ≤ n1) (hroom : (st.map fun v => v.category).sum ≤ 8)
    (k : fc_T E y d cs sh (pc + 3) lv st (fc_ur mi q1 (va_cpy (mi q0) (mi q1) sp.toNatClampNeg dp.toNatClampNeg n.toNatClampNeg)) ml mr Q) : fc_T E y d cs sh pc lv (.int n :: .int dp :: .ref q1 :: .int sp :: .ref q0 :: st) mi ml mr Q := by
  intro p e s m args below meth c R Qf hC hR hret H locs ls hP hS hl
  obtain ⟨hx, hb, hr, hlk, hown, hml, hts, hK⟩ := id hC
  have hnw : nativeFrameWords "java/lang/System" "arraycopy" 5 ≤ 40 := Nat.le_of_ble_eq_true rfl
  have hf1 : 1 ≤ R.frames := by have := hR.1; omega
  have hf2 : ((st.map (fc_v E)).map fun v => v.category).sum + (nativeFrameWords "java/lang/System" "arraycopy" 5 + 11) ≤ R.locals := by
    rw [fc_sum]
    have := hR.2.1
    omega
  refine va_copyi hx hb (hml.trans hl.1.symm) hown (hts _ hlink) (hts _ hnat) (hts _ hstat) (hts _ hini) hK.1 hP fc_ws_D hS q0 q1 0 0 (fc_ws_get h0) (fc_ws_get h1) rfl rfl rfl h2 h3 h4 h5 h6 (fun _ _ => rfl) hf1 hf2 hd (fun H1 locs1 hP1 _ hS1 => k p e s m args below meth c R Qf hC hR hret H1 locs1 ls ?_ hS1 hl)
  rw [← fc_ws_set (E := E) (mi := mi) (ml := ml) (mr := mr) (mi' := fc_ur mi q1 (va_cpy (mi q0) (mi q1) sp.toNatClampNeg dp.toNatClampNeg n.toNatClampNeg)) h1 (fun a h => fc_ur_off _ _ h) (fun _ _ => rfl) (fun _ _ => rfl) rfl]
  show va_P _ _ ((fc_ws E sh mi ml mr).set q1 (_, .inl (_, _, .inl (fc_ur mi q1 _ q1)))) H1
  rw [fc_ur_row]
  exact hP1
theorem fc_r_ldcS {idx : Nat} {u : UInt32} {tx : String} (hd : decode y.2.1 pc = .ok (.ldc idx, 2)) (hc : fc_tx[u.toNat]? = some (y.1.cls, idx, tx)) (k : fc_T E y d cs sh (pc + 2) lv (.float u :: st) mi ml mr Q) : fc_T E y d cs sh pc lv st mi ml mr Q :=
  fun p e s m args below meth c R Qf hC hR hret H locs ls hP hS hl => va_ldcS hC.1 hC.2.1 hC.2.2.2.2.1 (hC.2.2.2.2.2.2.2.2.2.2.1 _ _ hc) hd (k p e s m args below meth c R Qf hC hR hret H locs ls hP hS hl)
theorem fc_r_tableIn {dflt lo hi off : Int} {offs : Array Int} {len tgt : Nat} {x : Int32} (hd : decode y.2.1 pc = .ok (.tableswitch dflt lo hi offs, len)) (h1 : ¬ x.toInt < lo) (h2 : ¬ hi < x.toInt) (ho : offs[(x.toInt - lo).toNat]? = some off) (ht : (pc : Int) + off = (tgt : Int)) (k : fc_T E y d cs sh tgt lv st mi ml mr Q) : fc_T E y d cs sh pc lv (.int x :: st) mi ml mr Q :=
  fun p e s m args below meth c R Qf hC hR hret H locs ls hP hS hl => lv_tableIn hC.1 hC.2.1 hd h1 h2 ho ht (k p e s m args below meth c R Qf hC hR hret H locs ls hP hS hl)
theorem fc_r_tableOut {dflt lo hi : Int} {offs : Array Int} {len tgt : Nat} {x : Int32} (hd : decode y.2.1 pc = .ok (.tableswitch dflt lo hi offs, len)) (h : x.toInt < lo ∨ hi < x.toInt) (ht : (pc : Int) + dflt = (tgt : Int)) (k : fc_T E y d cs sh tgt lv st mi ml mr Q) : fc_T E y d cs sh pc lv (.int x :: st) mi ml mr Q :=
  fun p e s m args below meth c R Qf hC hR hret H locs ls hP hS hl => lv_tableOut hC.1 hC.2.1 hd h ht (k p e s m args below meth c R Qf hC hR hret H locs ls hP hS hl)
theorem fc_r_lookup {dflt off : Int} {ps : Array (Int × Int)} {len tgt : Nat} {x : Int32} (hd : decode y.2.1 pc = .ok (.lookupswitch dflt ps, len)) (hp : (ps.toList.zip (ps.toList.drop 1)).all (fun (a, next) => a.1 < next.1) = true) (ho : Op.lookupswitch.offset ps.toList dflt x.toInt = off) (ht : (pc : Int) + off = (tgt : Int)) (k : fc_T E y d cs sh tgt lv st mi ml mr Q) : fc_T E y d cs sh pc lv (.int x :: st) mi ml mr Q :=
  fun p e s m args below meth c R Qf hC hR hret H locs ls hP hS hl => lv_lookup hC.1 hC.2.1 hd hp ho ht (k p e s m args below meth c R Qf hC hR hret H locs ls hP hS hl)
/-- less is known of the locals -/
theorem fc_weak {lv' : List (Option Value)} (h : ∀ (i : Nat) (v : Value), lv'[i]? = some (some v) → lv[i]? = some (some v)) (k : fc_T E y d cs sh pc lv' st mi ml mr Q) : fc_T E y d cs sh pc lv st mi ml mr Q :=
  fun p e s m args below meth c R Qf hC hR hret H locs ls hP hS hl => k p e s m args below meth c R Qf hC hR hret H locs ls hP hS ⟨hl.1, hl.2.1, fun i v hi => hl.2.2 i v (h i v hi)⟩
end R3
end
section
/-! ===== the walk of a method's code, as one proposition ===== -/
abbrev fc_Go : Type := List (Option Value) → List Value → fc_Mi → fc_Ml → fc_Mr → Prop
def fc_is (r : Option Value) (mi : fc_Mi) (ml : fc_Ml) (mr : fc_Mr) : fc_Q := fun v a b c => v = r ∧ a = mi ∧ b = ml ∧ c = mr
def fc_br (c : Jvm.ClassFile.Cond) (x z : Int32) (A B : Prop) : Prop := match c with
  | .eq => (x = z → A) ∧ (¬ x = z → B)
  | .ne => (x = z → B) ∧ (¬ x = z → A)
  | .lt => (x < z → A) ∧ (¬ x < z → B)
  | .ge => (z ≤ x → A) ∧ (¬ z ≤ x → B)
  | .gt => (z < x → A) ∧ (¬ z < x → B)
  | .le => (x ≤ z → A) ∧ (¬ x ≤ z → B)
/-- the targets of a switch -/
def fc_ts (pc : Nat) (x : Int32) (j : Nat → Prop) : Int → List Int → Prop
  | _, [] => True
  | k, o :: os => (x = Int32.ofInt k → j ((pc : Int) + o).toNat) ∧ fc_ts pc x j (k + 1) os
def fc_lsw (pc : Nat) (x : Int32) (j : Nat → Prop) (d : Int) : List (Int × Int) → Prop
  | [] => j ((pc : Int) + d).toNat
  | q :: qs => (x.toInt = q.1 → j ((pc : Int) + q.2).toNat) ∧ (¬ x.toInt = q.1 → fc_lsw pc x j d qs)
def fc_call (E : fc_E) (t : fc_M) (d : Nat) (sh : fc_Sh) (b : Nat) (go : fc_Go) : fc_Go := fun lv st mi ml mr =>
  match Nat.ble ((st.drop b).map fun v => v.category).sum 8 && Nat.ble b st.length with
  | true => ∃ Q' : fc_Q, fc_R E t d sh (st.take b).reverse mi ml mr Q' ∧ ∀ v' mi' ml' mr', Q' v' mi' ml' mr' → go lv (v'.toList ++ st.drop b) mi' ml' mr'
  | false => False
def fc_sS (E : fc_E) (d : Nat) (sh : fc_Sh) (a b : Nat) (go : fc_Go) : fc_Go := fun lv st mi ml mr => match fc_mtab[a]?, d with
  | some t, d0 + 1 => fc_call E t.1 d0 sh b go lv st mi ml mr
  | _, _ => False
def fc_sX (go : fc_Go) : fc_Go := fun lv st mi ml mr => match st with
  | .int z :: .int x :: st => (match Nat.ble (st.map fun v => v.category).sum 8 with
    | true => go lv (.int (if x < z then z else x) :: st) mi ml mr
    | false => False)
  | _ => False
def fc_sN (go : fc_Go) : fc_Go := fun lv st mi ml mr => match st with
  | .int z :: .int x :: st => (match Nat.ble (st.map fun v => v.category).sum 8 with
    | true => go lv (.int (if z < x then z else x) :: st) mi ml mr
    | false => False)
  | _ => False
def fc_sC (sh : fc_Sh) (go : fc_Go) : fc_Go := fun lv st mi ml mr => match st with
  | .int n :: .int dp :: .ref q1 :: .int sp :: .ref q0 :: st => (match Nat.ble (st.map fun v => v.category).sum 8 with
    | true => ∃ n0 n1, sh[q0]? = some (20, n0) ∧ sh[q1]? = some (20, n1) ∧ (¬ sp < 0 ∧ ¬ dp < 0 ∧ ¬ n < 0 ∧ sp.toNatClampNeg + n.toNatClampNeg ≤ n0 ∧ dp.toNatClampNeg + n.toNatClampNeg ≤ n1) ∧ go lv st (fc_ur mi q1 (va_cpy (mi q0) (mi q1) sp.toNatClampNeg dp.toNatClampNeg n.toNatClampNeg)) ml mr
    | false => False)
  | _ => False
def fc_step (E : fc_E) (y : fc_M) (d : Nat) (sh : fc_Sh) (go : fc_Go) (jmp : Nat → fc_Go) (Q : fc_Q) : fc_I → fc_Go
  | (pc, i, _, a, b, _, v), lv, st, mi, ml, mr => match i with
    | .iconst _ => go lv (v :: st) mi ml mr
    | .bipush _ => go lv (v :: st) mi ml mr
    | .sipush _ => go lv (v :: st) mi ml mr
    | .lconst _ => go lv (v :: st) mi ml mr
    | .ldc _ => go lv (v :: st) mi ml mr
    | .ldc_w _ => (match v with
      | .int z => go lv (.int z :: st) mi ml mr
      | _ => False)
    | .ldc2_w _ => go lv (v :: st) mi ml mr
    | .iload k => (match lv[k]? with
      | some (some (.int x)) => go lv (.int x :: st) mi ml mr
      | _ => False)
    | .iload_n k => (match lv[(k : Nat)]? with
      | some (some (.int x)) => go lv (.int x :: st) mi ml mr
      | _ => False)
    | .lload k => (match lv[k]? with
      | some (some (.long x)) => go lv (.long x :: st) mi ml mr
      | _ => False)
    | .lload_n k => (match lv[(k : Nat)]? with
      | some (some (.long x)) => go lv (.long x :: st) mi ml mr
      | _ => False)
    | .aload k => (match lv[k]? with
      | some (some (.ref x)) => go lv (.ref x :: st) mi ml mr
      | _ => False)
    | .aload_n k => (match lv[(k : Nat)]? with
      | some (some (.ref x)) => go lv (.ref x :: st) mi ml mr
      | some (some (.float x)) => go lv (.float x :: st) mi ml mr
      | _ => False)
    | .istore k => (match st with
      | .int x :: st => go (fc_s1 lv k (.int x)) st mi ml mr
      | _ => False)
    | .istore_n k => (match st with
      | .int x :: st => go (fc_s1 lv (k : Nat) (.int x)) st mi ml mr
      | _ => False)
    | .lstore k => (match st with
      | .long x :: st => go (fc_s2 lv k (.long x)) st mi ml mr
      | _ => False)
    | .lstore_n k => (match st with
      | .long x :: st => go (fc_s2 lv (k : Nat) (.long x)) st mi ml mr
      | _ => False)
    | .astore k => (match st with
      | .ref x :: st => go (fc_s1 lv k (.ref x)) st mi ml mr
      | _ => False)
    | .astore_n k => (match st with
      | .ref x :: st => go (fc_s1 lv (k : Nat) (.ref x)) st mi ml mr
      | _ => False)
    | .iinc k n => (match lv[k]? with
      | some (some (.int x)) => go (fc_s1 lv k (.int (x + Int32.ofInt n))) st mi ml mr
      | _ => False)
    | .iadd => (match st with
      | .int z :: .int x :: st => go lv (.int (x + z) :: st) mi ml mr
      | _ => False)
    | .isub => (match st with
      | .int z :: .int x :: st => go lv (.int (x - z) :: st) mi ml mr
      | _ => False)
    | .imul => (match st with
      | .int z :: .int x :: st => go lv (.int (x * z) :: st) mi ml mr
      | _ => False)
    | .iand => (match st with
      | .int z :: .int x :: st => go lv (.int (x &&& z) :: st) mi ml mr
      | _ => False)
    | .ior => (match st with
      | .int z :: .int x :: st => go lv (.int (x ||| z) :: st) mi ml mr
      | _ => False)
    | .ixor => (match st with
      | .int z :: .int x :: st => go lv (.int (x ^^^ z) :: st) mi ml mr
      | _ => False)
    | .ishl => (match st with
      | .int z :: .int x :: st => go lv (.int (x <<< (z &&& 31)) :: st) mi ml mr
      | _ => False)
    | .ishr => (match st with
      | .int z :: .int x :: st => go lv (.int (x >>> (z &&& 31)) :: st) mi ml mr
      | _ => False)
    | .iushr => (match st with
      | .int z :: .int x :: st => go lv (.int ((x.toUInt32 >>> (z.toUInt32 &&& Int32.toUInt32 31)).toInt32) :: st) mi ml mr
      | _ => False)
    | .idiv => (match st with
      | .int z :: .int x :: st => ¬ z = 0 ∧ go lv (.int (x / z) :: st) mi ml mr
      | _ => False)
    | .irem => (match st with
      | .int z :: .int x :: st => ¬ z = 0 ∧ go lv (.int (x - x / z * z) :: st) mi ml mr
      | _ => False)
    | .ladd => (match st with
      | .long z :: .long x :: st => go lv (.long (x + z) :: st) mi ml mr
      | _ => False)
    | .lsub => (match st with
      | .long z :: .long x :: st => go lv (.long (x - z) :: st) mi ml mr
      | _ => False)
    | .lmul => (match st with
      | .long z :: .long x :: st => go lv (.long (x * z) :: st) mi ml mr
      | _ => False)
    | .land => (match st with
      | .long z :: .long x :: st => go lv (.long (x &&& z) :: st) mi ml mr
      | _ => False)
    | .lor => (match st with
      | .long z :: .long x :: st => go lv (.long (x ||| z) :: st) mi ml mr
      | _ => False)
    | .ldiv => (match st with
      | .long z :: .long x :: st => ¬ z = 0 ∧ go lv (.long (x / z) :: st) mi ml mr
      | _ => False)
    | .lrem => (match st with
      | .long z :: .long x :: st => ¬ z = 0 ∧ go lv (.long (x - x / z * z) :: st) mi ml mr
      | _ => False)
    | .ineg => (match st with
      | .int x :: st => go lv (.int (-x) :: st) mi ml mr
      | _ => False)
    | .i2l => (match st with
      | .int x :: st => go lv (.long x.toInt64 :: st) mi ml mr
      | _ => False)
    | .l2i => (match st with
      | .long x :: st => go lv (.int x.toInt32 :: st) mi ml mr
      | _ => False)
    | .i2c => (match st with
      | .int x :: st => go lv (.int (x.toUInt32 % 65536).toInt32 :: st) mi ml mr
      | _ => False)
    | .lushr => (match st with
      | .int z :: .long x :: st => go lv (.long (x.toUInt64 >>> (z.toInt64.toUInt64 &&& Int64.toUInt64 63)).toInt64 :: st) mi ml mr
      | _ => False)
    | .lshl => (match st with
      | .int z :: .long x :: st => go lv (.long (x <<< (z.toInt64 &&& 63)) :: st) mi ml mr
      | _ => False)
    | .lshr => (match st with
      | .int z :: .long x :: st => go lv (.long (x >>> (z.toInt64 &&& 63)) :: st) mi ml mr
      | _ => False)
    | .lcmp => (match st with
      | .long z :: .long x :: st => go lv (.int (lg_cmp x z) :: st) mi ml mr
      | _ => False)
    | .dup => (match st with
      | .int x :: st => go lv (.int x :: .int x :: st) mi ml mr
      | .ref x :: st => go lv (.ref x :: .ref x :: st) mi ml mr
      | _ => False)
    | .pop => (match st with
      | .int x :: st => go lv st mi ml mr
      | .ref x :: st => go lv st mi ml mr
      | _ => False)
    | .dup2 => (match st with
      | .int x :: .ref z :: st => go lv (.int x :: .ref z :: .int x :: .ref z :: st) mi ml mr
      | _ => False)
    | .if_icmp c _ => (match st with
      | .int z :: .int x :: st => fc_br c x z (jmp a lv st mi ml mr) (go lv st mi ml mr)
      | _ => False)
    | .ifCond c _ => (match st with
      | .int x :: st => fc_br c x 0 (jmp a lv st mi ml mr) (go lv st mi ml mr)
      | _ => False)
    | .goto _ => jmp a lv st mi ml mr
    | .getfield _ => (match st with
      | .ref q :: st => sh[q]? = some (a, 0) ∧ (match (fc_ft a)[b]? with
        | some 0 => go lv (.int (mi q b) :: st) mi ml mr
        | some 1 => go lv (.long (ml q b) :: st) mi ml mr
        | some 2 => ∃ r, mr q b = some r ∧ go lv (.ref r :: st) mi ml mr
        | some 3 => go lv (.int (mi q b) :: st) mi ml mr
        | _ => False)
      | _ => False)
    | .putfield _ => (match st with
      | .int x :: .ref q :: st => sh[q]? = some (a, 0) ∧ (match (fc_ft a)[b]? with
        | some 0 => go lv st (fc_u mi q b x) ml mr
        | some 3 => (x = 0 ∨ x = 1) ∧ go lv st (fc_u mi q b x) ml mr
        | _ => False)
      | .long x :: .ref q :: st => sh[q]? = some (a, 0) ∧ (match (fc_ft a)[b]? with
        | some 1 => go lv st mi (fc_u ml q b x) mr
        | _ => False)
      | .ref x :: .ref q :: st => sh[q]? = some (a, 0) ∧ (match (fc_ft a)[b]? with
        | some 2 => go lv st mi ml (fc_u mr q b (some x))
        | _ => False)
      | _ => False)
    | .iaload => (match st with
      | .int i :: .ref q :: st => ∃ n, sh[q]? = some (20, n) ∧ vp_in i n ∧ go lv (.int (mi q i.toNatClampNeg) :: st) mi ml mr
      | .int i :: .float u :: st => u = 5 ∧ vp_in i E.2.2.2.2.2.2.1 ∧ go lv (.int (E.2.2.2.2.2.2.2 i.toNatClampNeg) :: st) mi ml mr
      | _ => False)
    | .caload => (match st with
      | .int i :: .ref q :: st => ∃ n, sh[q]? = some (23, n) ∧ vp_in i n ∧ go lv (.int (mi q i.toNatClampNeg) :: st) mi ml mr
      | _ => False)
    | .baload => (match st with
      | .int i :: .ref q :: st => ∃ n, sh[q]? = some (22, n) ∧ vp_in i n ∧ go lv (.int (mi q i.toNatClampNeg) :: st) mi ml mr
      | _ => False)
    | .laload => (match st with
      | .int i :: .ref q :: st => ∃ n, sh[q]? = some (21, n) ∧ vp_in i n ∧ go lv (.long (ml q i.toNatClampNeg) :: st) mi ml mr
      | _ => False)
    | .aaload => (match st with
      | .int i :: .ref q :: st => ∃ t n r, sh[q]? = some (t, n) ∧ (t = 24 ∨ t = 25 ∨ t = 26) ∧ vp_in i n ∧ mr q i.toNatClampNeg = some r ∧ go lv (.ref r :: st) mi ml mr
      | _ => False)
    | .iastore => (match st with
      | .int x :: .int i :: .ref q :: st => ∃ n, sh[q]? = some (20, n) ∧ vp_in i n ∧ go lv st (fc_u mi q i.toNatClampNeg x) ml mr
      | _ => False)
    | .castore => (match st with
      | .int x :: .int i :: .ref q :: st => ∃ n, sh[q]? = some (23, n) ∧ vp_in i n ∧ go lv st (fc_u mi q i.toNatClampNeg (vp_nar .char x)) ml mr
      | _ => False)
    | .bastore => (match st with
      | .int x :: .int i :: .ref q :: st => ∃ n, sh[q]? = some (22, n) ∧ vp_in i n ∧ go lv st (fc_u mi q i.toNatClampNeg (vp_nar .boolean x)) ml mr
      | _ => False)
    | .lastore => (match st with
      | .long x :: .int i :: .ref q :: st => ∃ n, sh[q]? = some (21, n) ∧ vp_in i n ∧ go lv st mi (fc_u ml q i.toNatClampNeg x) mr
      | _ => False)
    | .arraylength => (match st with
      | .ref q :: st => ∃ t n, sh[q]? = some (t, n) ∧ (t = 20 ∨ t = 21) ∧ go lv (.int (Int32.ofNat n) :: st) mi ml mr
      | .float u :: st => u = 5 ∧ go lv (.int (Int32.ofNat E.2.2.2.2.2.2.1) :: st) mi ml mr
      | _ => False)
    | .ireturn => (match st with
      | [.int x] => (match y.2.2.2 with
        | some .int => Q (some (.int x)) mi ml mr
        | some .boolean => (x = 0 ∨ x = 1) ∧ Q (some (.int x)) mi ml mr
        | some .char => narrow .char (.int x) = .int x ∧ Q (some (.int x)) mi ml mr
        | _ => False)
      | _ => False)
    | .return_ => (match st with
      | [] => (match y.2.2.2 with
        | none => Q none mi ml mr
        | _ => False)
      | _ => False)
    | .tableswitch df lo hi offs => (match st with
      | .int x :: st => (x.toInt < lo ∨ hi < x.toInt → jmp ((pc : Int) + df).toNat lv st mi ml mr) ∧ (lo ≤ x.toInt ∧ x.toInt ≤ hi → fc_ts pc x (fun t => jmp t lv st mi ml mr) lo offs.toList ∧ hi < lo + offs.toList.length)
      | _ => False)
    | .lookupswitch df qs => (match st with
      | .int x :: st => fc_lsw pc x (fun t => jmp t lv st mi ml mr) df qs.toList
      | _ => False)
    | .invokevirtual _ => (match fc_mtab[a]?, d with
      | some t, d0 + 1 => (match v, st[b - 1]? with
        | .ref ci, some (.ref q) => sh[q]? = some (ci, 0) ∧ fc_call E t.1 d0 sh b go lv st mi ml mr
        | .null, some (.float u) => u.toNat < 5 ∧ fc_call E t.1 d0 sh b go lv st mi ml mr
        | _, _ => False)
      | _, _ => False)
    | .invokestatic _ => (match v with
      | .retAddr 0 => fc_sS E d sh a b go lv st mi ml mr
      | .retAddr 1 => fc_sS E d sh a b go lv st mi ml mr
      | .retAddr 10 => fc_sX go lv st mi ml mr
      | .retAddr 11 => fc_sN go lv st mi ml mr
      | .retAddr 12 => fc_sC sh go lv st mi ml mr
      | _ => False)
    | _ => False
theorem fc_wmax1 : Cond.static Lib.Math.max.name ∈ fc_G := fc_G_of 616 (by decide +kernel) rfl
theorem fc_wmax2 : Cond.code Lib.Math.max.name Lib.Math.max.code 2 (some .int) ∈ fc_G := fc_G_of 617 (by decide +kernel) rfl
theorem fc_wmin1 : Cond.static Lib.Math.min.name ∈ fc_G := fc_G_of 619 (by decide +kernel) rfl
theorem fc_wmin2 : Cond.code Lib.Math.min.name Lib.Math.min.code 2 (some .int) ∈ fc_G := fc_G_of 620 (by decide +kernel) rfl
theorem fc_wmath : Cond.initialized "java/lang/Math" ∈ fc_G := fc_G_of 123 (by decide +kernel) rfl
theorem fc_wcop1 : Cond.native arraycopyName ∈ fc_G := fc_G_of 868 (by decide +kernel) rfl
theorem fc_wcop2 : Cond.static arraycopyName ∈ fc_G := fc_G_of 867 (by decide +kernel) rfl
theorem fc_wsys : Cond.initialized "java/lang/System" ∈ fc_G := fc_G_of 125 (by decide +kernel) rfl
/-- the receiver lies below the other arguments -/
theorem fc_argsV {st : List Value} {b : Nat} {r : Value} (hb : b ≤ st.length) (h1 : 1 ≤ b) (hq : st[b - 1]? = some r) : (st.take b).reverse = r :: (st.take (b - 1)).reverse ∧ (st.take (b - 1)).reverse.reverse ++ r :: st.drop b = st := by
  have hlt : b - 1 < st.length := by omega
  have hr : st[b - 1] = r := by rw [List.getElem?_eq_getElem hlt] at hq; exact Option.some.inj hq
  have ht : st.take b = st.take (b - 1) ++ [r] := by
    have := List.take_succ (l := st) (i := b - 1)
    rw [hq, show b - 1 + 1 = b by omega] at this
    exact this
  refine ⟨by rw [ht, List.reverse_append]; rfl, ?_⟩
  rw [List.reverse_reverse]
  have := List.take_append_drop b st
  rw [ht, List.append_assoc] at this
  exact this
set_option maxHeartbeats 4000000 in
theorem fc_step_ok {E : fc_E} {y : fc_M} {d : Nat} {cs : Nat × Nat} {sh : fc_Sh} {go : fc_Go} {jmp : Nat → fc_Go} {Q : fc_Q} {x : fc_I} {lv : List (Option Value)} {st : List Value} {mi : fc_Mi} {ml : fc_Ml} {mr : fc_Mr} (hx : fc_okb y x = true)
    (hgo : ∀ lv st mi ml mr, go lv st mi ml mr → fc_T E y d cs sh (x.1 + x.2.2.1) lv st mi ml mr Q) (hj : ∀ t lv st mi ml mr, jmp t lv st mi ml mr → fc_T E y d cs sh t lv st mi ml mr Q) (h : fc_step E y d sh go jmp Q x lv st mi ml mr) : fc_T E y d cs sh x.1 lv st mi ml mr Q := by
  obtain ⟨pc, i, len, a, b, ps, v⟩ := x
  simp only [fc_okb, Bool.and_eq_true, decide_eq_true_eq] at hx
  obtain ⟨hd, hl⟩ := hx
  dsimp only at hd hgo ⊢
  cases i with
  | iconst n =>
    simp only [fc_okl, Bool.and_eq_true, beq_iff_eq, decide_eq_true_eq] at hl
    obtain ⟨rfl, rfl⟩ := hl
    dsimp only [fc_step] at h
    exact fc_r_iconst hd rfl (hgo _ _ _ _ _ h)
  | bipush n =>
    simp only [fc_okl, Bool.and_eq_true, beq_iff_eq, decide_eq_true_eq] at hl
    obtain ⟨rfl, rfl⟩ := hl
    dsimp only [fc_step] at h
    exact fc_r_bipush hd rfl (hgo _ _ _ _ _ h)
  | sipush n =>
    simp only [fc_okl, Bool.and_eq_true, beq_iff_eq, decide_eq_true_eq] at hl
    obtain ⟨rfl, rfl⟩ := hl
    dsimp only [fc_step] at h
    exact fc_r_sipush hd rfl (hgo _ _ _ _ _ h)
  | lconst n =>
    simp only [fc_okl, Bool.and_eq_true, beq_iff_eq, decide_eq_true_eq] at hl
    obtain ⟨rfl, rfl⟩ := hl
    dsimp only [fc_step] at h
    exact fc_r_lconst hd rfl (hgo _ _ _ _ _ h)
  | ldc n =>
    simp only [fc_okl, Bool.and_eq_true, beq_iff_eq] at hl
    obtain ⟨rfl, hl⟩ := hl
    dsimp only [fc_step] at h
    unfold fc_okc at hl
    split at hl
    · simp only [fc_at, Bool.and_eq_true, decide_eq_true_eq] at hl
      exact fc_r_ldc hd (fc_G_of _ hl.1 hl.2) (hgo _ _ _ _ _ h)
    · split at hl
      · next q hq =>
        simp only [Bool.and_eq_true, decide_eq_true_eq] at hl
        obtain ⟨q1, q2, q3⟩ := q
        obtain ⟨rfl, rfl⟩ := hl
        exact fc_r_ldcS hd hq (hgo _ _ _ _ _ h)
      · cases hl
    · cases hl
  | ldc_w n =>
    simp only [fc_okl, Bool.and_eq_true, beq_iff_eq] at hl
    obtain ⟨rfl, hl⟩ := hl
    dsimp only [fc_step] at h
    split at h
    · simp only [fc_okc, fc_at, Bool.and_eq_true, decide_eq_true_eq] at hl
      exact fc_r_ldcw hd (fc_G_of _ hl.1 hl.2) (hgo _ _ _ _ _ h)
    · exact h.elim
  | ldc2_w n =>
    simp only [fc_okl, Bool.and_eq_true, beq_iff_eq] at hl
    obtain ⟨rfl, hl⟩ := hl
    dsimp only [fc_step] at h
    unfold fc_okd at hl
    split at hl
    · simp only [fc_at, Bool.and_eq_true, decide_eq_true_eq] at hl
      exact fc_r_ldc2 hd (fc_G_of _ hl.1 hl.2) (hgo _ _ _ _ _ h)
    · cases hl
  | iload k =>
    have hl : len = 2 := by simpa [fc_okl] using hl
    subst hl
    dsimp only [fc_step] at h
    split at h
    · next hx => exact fc_r_iload hd hx (hgo _ _ _ _ _ h)
    · exact h.elim
  | iload_n k =>
    have hl : len = 1 := by simpa [fc_okl] using hl
    subst hl
    dsimp only [fc_step] at h
    split at h
    · next hx => exact fc_r_iload_n hd rfl hx (hgo _ _ _ _ _ h)
    · exact h.elim
  | lload k =>
    have hl : len = 2 := by simpa [fc_okl] using hl
    subst hl
    dsimp only [fc_step] at h
    split at h
    · next hx => exact fc_r_lload hd hx (hgo _ _ _ _ _ h)
    · exact h.elim
  | lload_n k =>
    have hl : len = 1 := by simpa [fc_okl] using hl
    subst hl
    dsimp only [fc_step] at h
    split at h
    · next hx => exact fc_r_lload_n hd rfl hx (hgo _ _ _ _ _ h)
    · exact h.elim
  | aload k =>
    have hl : len = 2 := by simpa [fc_okl] using hl
    subst hl
    dsimp only [fc_step] at h
    split at h
    · next hx => exact fc_r_aload hd hx (hgo _ _ _ _ _ h)
    · exact h.elim
  | aload_n k =>
    have hl : len = 1 := by simpa [fc_okl] using hl
    subst hl
    dsimp only [fc_step] at h
    split at h
    · next hx => exact fc_r_aload_n hd rfl hx (hgo _ _ _ _ _ h)
    · next hx => exact fc_r_sload_n hd rfl hx (hgo _ _ _ _ _ h)
    · exact h.elim
  | istore k =>
    simp only [fc_okl, Bool.and_eq_true, beq_iff_eq, decide_eq_true_eq] at hl
    obtain ⟨rfl, hl⟩ := hl
    dsimp only [fc_step] at h
    split at h
    · exact fc_r_istore hd hl (hgo _ _ _ _ _ h)
    · exact h.elim
  | istore_n k =>
    simp only [fc_okl, Bool.and_eq_true, beq_iff_eq, decide_eq_true_eq] at hl
    obtain ⟨rfl, hl⟩ := hl
    dsimp only [fc_step] at h
    split at h
    · exact fc_r_istore_n hd rfl hl (hgo _ _ _ _ _ h)
    · exact h.elim
  | lstore k =>
    simp only [fc_okl, Bool.and_eq_true, beq_iff_eq, decide_eq_true_eq] at hl
    obtain ⟨rfl, hl⟩ := hl
    dsimp only [fc_step] at h
    split at h
    · exact fc_r_lstore hd hl (hgo _ _ _ _ _ h)
    · exact h.elim
  | lstore_n k =>
    simp only [fc_okl, Bool.and_eq_true, beq_iff_eq, decide_eq_true_eq] at hl
    obtain ⟨rfl, hl⟩ := hl
    dsimp only [fc_step] at h
    split at h
    · exact fc_r_lstore_n hd rfl hl (hgo _ _ _ _ _ h)
    · exact h.elim
  | astore k =>
    simp only [fc_okl, Bool.and_eq_true, beq_iff_eq, decide_eq_true_eq] at hl
    obtain ⟨rfl, hl⟩ := hl
    dsimp only [fc_step] at h
    split at h
    · exact fc_r_astore hd hl (hgo _ _ _ _ _ h)
    · exact h.elim
  | astore_n k =>
    simp only [fc_okl, Bool.and_eq_true, beq_iff_eq, decide_eq_true_eq] at hl
    obtain ⟨rfl, hl⟩ := hl
    dsimp only [fc_step] at h
    split at h
    · exact fc_r_astore_n hd rfl hl (hgo _ _ _ _ _ h)
    · exact h.elim
  | iinc k n =>
    simp only [fc_okl, Bool.and_eq_true, beq_iff_eq, decide_eq_true_eq] at hl
    obtain ⟨rfl, hl⟩ := hl
    dsimp only [fc_step] at h
    split at h
    · next hx => exact fc_r_iinc hd hx rfl hl (hgo _ _ _ _ _ h)
    · exact h.elim
  | iadd =>
    have hl : len = 1 := by simpa [fc_okl] using hl
    subst hl
    dsimp only [fc_step] at h
    split at h
    · exact fc_r_iadd hd (hgo _ _ _ _ _ h)
    · exact h.elim
  | isub =>
    have hl : len = 1 := by simpa [fc_okl] using hl
    subst hl
    dsimp only [fc_step] at h
    split at h
    · exact fc_r_isub hd (hgo _ _ _ _ _ h)
    · exact h.elim
  | imul =>
    have hl : len = 1 := by simpa [fc_okl] using hl
    subst hl
    dsimp only [fc_step] at h
    split at h
    · exact fc_r_imul hd (hgo _ _ _ _ _ h)
    · exact h.elim
  | iand =>
    have hl : len = 1 := by simpa [fc_okl] using hl
    subst hl
    dsimp only [fc_step] at h
    split at h
    · exact fc_r_iand hd (hgo _ _ _ _ _ h)
    · exact h.elim
  | ior =>
    have hl : len = 1 := by simpa [fc_okl] using hl
    subst hl
    dsimp only [fc_step] at h
    split at h
    · exact fc_r_ior hd (hgo _ _ _ _ _ h)
    · exact h.elim
  | ixor =>
    have hl : len = 1 := by simpa [fc_okl] using hl
    subst hl
    dsimp only [fc_step] at h
    split at h
    · exact fc_r_ixor hd (hgo _ _ _ _ _ h)
    · exact h.elim
  | ishl =>
    have hl : len = 1 := by simpa [fc_okl] using hl
    subst hl
    dsimp only [fc_step] at h
    split at h
    · exact fc_r_ishl hd (hgo _ _ _ _ _ h)
    · exact h.elim
  | ishr =>
    have hl : len = 1 := by simpa [fc_okl] using hl
    subst hl
    dsimp only [fc_step] at h
    split at h
    · exact fc_r_ishr hd (hgo _ _ _ _ _ h)
    · exact h.elim
  | iushr =>
    have hl : len = 1 := by simpa [fc_okl] using hl
    subst hl
    dsimp only [fc_step] at h
    split at h
    · exact fc_r_iushr hd (hgo _ _ _ _ _ h)
    · exact h.elim
  | idiv =>
    have hl : len = 1 := by simpa [fc_okl] using hl
    subst hl
    dsimp only [fc_step] at h
    split at h
    · exact fc_r_idiv hd h.1 (hgo _ _ _ _ _ h.2)
    · exact h.elim
  | irem =>
    have hl : len = 1 := by simpa [fc_okl] using hl
    subst hl
    dsimp only [fc_step] at h
    split at h
    · exact fc_r_irem hd h.1 (hgo _ _ _ _ _ h.2)
    · exact h.elim
  | ladd =>
    have hl : len = 1 := by simpa [fc_okl] using hl
    subst hl
    dsimp only [fc_step] at h
    split at h
    · exact fc_r_ladd hd (hgo _ _ _ _ _ h)
    · exact h.elim
  | lsub =>
    have hl : len = 1 := by simpa [fc_okl] using hl
    subst hl
    dsimp only [fc_step] at h
    split at h
    · exact fc_r_lsub hd (hgo _ _ _ _ _ h)
    · exact h.elim
  | lmul =>
    have hl : len = 1 := by simpa [fc_okl] using hl
    subst hl
    dsimp only [fc_step] at h
    split at h
    · exact fc_r_lmul hd (hgo _ _ _ _ _ h)
    · exact h.elim
  | land =>
    have hl : len = 1 := by simpa [fc_okl] using hl
    subst hl
    dsimp only [fc_step] at h
    split at h
    · exact fc_r_land hd (hgo _ _ _ _ _ h)
    · exact h.elim
  | lor =>
    have hl : len = 1 := by simpa [fc_okl] using hl
    subst hl
    dsimp only [fc_step] at h
    split at h
    · exact fc_r_lor hd (hgo _ _ _ _ _ h)
    · exact h.elim
  | ldiv =>
    have hl : len = 1 := by simpa [fc_okl] using hl
    subst hl
    dsimp only [fc_step] at h
    split at h
    · exact fc_r_ldiv hd h.1 (hgo _ _ _ _ _ h.2)
    · exact h.elim
  | lrem =>
    have hl : len = 1 := by simpa [fc_okl] using hl
    subst hl
    dsimp only [fc_step] at h
    split at h
    · exact fc_r_lrem hd h.1 (hgo _ _ _ _ _ h.2)
    · exact h.elim
  | ineg =>
    have hl : len = 1 := by simpa [fc_okl] using hl
    subst hl
    dsimp only [fc_step] at h
    split at h
    · exact fc_r_ineg hd (hgo _ _ _ _ _ h)
    · exact h.elim
  | i2l =>
    have hl : len = 1 := by simpa [fc_okl] using hl
    subst hl
    dsimp only [fc_step] at h
    split at h
    · exact fc_r_i2l hd (hgo _ _ _ _ _ h)
    · exact h.elim
  | l2i =>
    have hl : len = 1 := by simpa [fc_okl] using hl
    subst hl
    dsimp only [fc_step] at h
    split at h
    · exact fc_r_l2i hd (hgo _ _ _ _ _ h)
    · exact h.elim
  | i2c =>
    have hl : len = 1 := by simpa [fc_okl] using hl
    subst hl
    dsimp only [fc_step] at h
    split at h
    · exact fc_r_i2c hd (hgo _ _ _ _ _ h)
    · exact h.elim
  | lushr =>
    have hl : len = 1 := by simpa [fc_okl] using hl
    subst hl
    dsimp only [fc_step] at h
    split at h
    · exact fc_r_lushr hd (hgo _ _ _ _ _ h)
    · exact h.elim
  | lshl =>
    have hl : len = 1 := by simpa [fc_okl] using hl
    subst hl
    dsimp only [fc_step] at h
    split at h
    · exact fc_r_lshl hd (hgo _ _ _ _ _ h)
    · exact h.elim
  | lshr =>
    have hl : len = 1 := by simpa [fc_okl] using hl
    subst hl
    dsimp only [fc_step] at h
    split at h
    · exact fc_r_lshr hd (hgo _ _ _ _ _ h)
    · exact h.elim
  | lcmp =>
    have hl : len = 1 := by simpa [fc_okl] using hl
    subst hl
    dsimp only [fc_step] at h
    split at h
    · exact fc_r_lcmp hd (hgo _ _ _ _ _ h)
    · exact h.elim
  | dup =>
    have hl : len = 1 := by simpa [fc_okl] using hl
    subst hl
    dsimp only [fc_step] at h
    split at h
    · exact fc_r_dup hd rfl (hgo _ _ _ _ _ h)
    · exact fc_r_dup hd rfl (hgo _ _ _ _ _ h)
    · exact h.elim
  | pop =>
    have hl : len = 1 := by simpa [fc_okl] using hl
    subst hl
    dsimp only [fc_step] at h
    split at h
    · exact fc_r_pop hd rfl (hgo _ _ _ _ _ h)
    · exact fc_r_pop hd rfl (hgo _ _ _ _ _ h)
    · exact h.elim
  | dup2 =>
    have hl : len = 1 := by simpa [fc_okl] using hl
    subst hl
    dsimp only [fc_step] at h
    split at h
    · exact fc_r_dup2 hd rfl rfl (hgo _ _ _ _ _ h)
    · exact h.elim
  | if_icmp c off =>
    simp only [fc_okl, Bool.and_eq_true, beq_iff_eq, fc_tg, decide_eq_true_eq] at hl
    obtain ⟨rfl, hl⟩ := hl
    dsimp only [fc_step] at h
    split at h
    · cases c with
      | eq => exact fc_r_icmp_eq hd hl (fun q => hj _ _ _ _ _ _ (h.1 q)) (fun q => hgo _ _ _ _ _ (h.2 q))
      | ne => exact fc_r_icmp_ne hd hl (fun q => hj _ _ _ _ _ _ (h.2 q)) (fun q => hgo _ _ _ _ _ (h.1 q))
      | lt => exact fc_r_icmp_lt hd hl (fun q => hj _ _ _ _ _ _ (h.1 q)) (fun q => hgo _ _ _ _ _ (h.2 q))
      | ge => exact fc_r_icmp_ge hd hl (fun q => hj _ _ _ _ _ _ (h.1 q)) (fun q => hgo _ _ _ _ _ (h.2 q))
      | gt => exact fc_r_icmp_gt hd hl (fun q => hj _ _ _ _ _ _ (h.1 q)) (fun q => hgo _ _ _ _ _ (h.2 q))
      | le => exact fc_r_icmp_le hd hl (fun q => hj _ _ _ _ _ _ (h.1 q)) (fun q => hgo _ _ _ _ _ (h.2 q))
    · exact h.elim
  | ifCond c off =>
    simp only [fc_okl, Bool.and_eq_true, beq_iff_eq, fc_tg, decide_eq_true_eq] at hl
    obtain ⟨rfl, hl⟩ := hl
    dsimp only [fc_step] at h
    split at h
    · cases c with
      | eq => exact fc_r_if_eq hd hl (fun q => hj _ _ _ _ _ _ (h.1 q)) (fun q => hgo _ _ _ _ _ (h.2 q))
      | ne => exact fc_r_if_ne hd hl (fun q => hj _ _ _ _ _ _ (h.2 q)) (fun q => hgo _ _ _ _ _ (h.1 q))
      | lt => exact fc_r_if_lt hd hl (fun q => hj _ _ _ _ _ _ (h.1 q)) (fun q => hgo _ _ _ _ _ (h.2 q))
      | ge => exact fc_r_if_ge hd hl (fun q => hj _ _ _ _ _ _ (h.1 q)) (fun q => hgo _ _ _ _ _ (h.2 q))
      | gt => exact fc_r_if_gt hd hl (fun q => hj _ _ _ _ _ _ (h.1 q)) (fun q => hgo _ _ _ _ _ (h.2 q))
      | le => exact fc_r_if_le hd hl (fun q => hj _ _ _ _ _ _ (h.1 q)) (fun q => hgo _ _ _ _ _ (h.2 q))
    · exact h.elim
  | goto off =>
    simp only [fc_okl, Bool.and_eq_true, beq_iff_eq, fc_tg, decide_eq_true_eq] at hl
    obtain ⟨rfl, hl⟩ := hl
    dsimp only [fc_step] at h
    exact fc_r_goto hd hl (hj _ _ _ _ _ _ h)
  | getfield n =>
    simp only [fc_okl, Bool.and_eq_true, beq_iff_eq] at hl
    obtain ⟨rfl, hl⟩ := hl
    dsimp only [fc_step] at h
    unfold fc_okf at hl
    split at hl
    · next r hr =>
      simp only [Bool.and_eq_true, decide_eq_true_eq, fc_at] at hl
      obtain ⟨hb, ha, hk, hw, hg⟩ := hl
      have hG := fc_G_of _ hw hg
      split at h
      · obtain ⟨hs, h⟩ := h
        split at h
        · next ht => exact fc_r_get hd hr ha hb hG ht hs rfl (hgo _ _ _ _ _ h)
        · next ht => exact fc_r_get hd hr ha hb hG ht hs rfl (hgo _ _ _ _ _ h)
        · next ht =>
          obtain ⟨z, hz, h⟩ := h
          exact fc_r_get hd hr ha hb hG ht hs (v := .ref z) (by simp [fc_fv, hz, va_rf, fc_v]) (hgo _ _ _ _ _ h)
        · next ht => exact fc_r_get hd hr ha hb hG ht hs rfl (hgo _ _ _ _ _ h)
        · exact h.elim
      · exact h.elim
    · cases hl
  | putfield n =>
    simp only [fc_okl, Bool.and_eq_true, beq_iff_eq] at hl
    obtain ⟨rfl, hl, hf⟩ := hl
    dsimp only [fc_step] at h
    unfold fc_okf at hl
    unfold fc_fin at hf
    split at hl
    · next r hr =>
      rw [hr] at hf
      simp only [Bool.not_eq_true'] at hf
      simp only [Bool.and_eq_true, decide_eq_true_eq, fc_at] at hl
      obtain ⟨hb, ha, hk, hw, hg⟩ := hl
      have hG := fc_G_of _ hw hg
      have key : ∀ t, (fc_ft a)[b]? = some t → ∃ ty, parseFieldDescriptor (r.2.1 b).2.2.1 = some ty ∧ fc_fk (some ty) = some t := by
        intro t ht
        rw [ht] at hk
        cases hp : parseFieldDescriptor (r.2.1 b).2.2.1 with
        | none => rw [hp] at hk; cases hk
        | some ty => rw [hp] at hk; exact ⟨ty, rfl, hk.symm⟩
      split at h
      · obtain ⟨hs, h⟩ := h
        split at h
        · next ht =>
          obtain ⟨ty, h1, h2⟩ := key _ ht
          have : ty = .int := by cases ty <;> first | rfl | cases h2
          subst this
          exact fc_r_puti hd hr ha hb hG ht hs hf h1 (hgo _ _ _ _ _ h)
        · next ht =>
          obtain ⟨ty, h1, h2⟩ := key _ ht
          have : ty = .boolean := by cases ty <;> first | rfl | cases h2
          subst this
          exact fc_r_putz hd hr ha hb hG ht hs hf h1 h.1 (hgo _ _ _ _ _ h.2)
        · exact h.elim
      · obtain ⟨hs, h⟩ := h
        split at h
        · next ht =>
          obtain ⟨ty, h1, h2⟩ := key _ ht
          have : ty = .long := by cases ty <;> first | rfl | cases h2
          subst this
          exact fc_r_putl hd hr ha hb hG ht hs hf h1 (hgo _ _ _ _ _ h)
        · exact h.elim
      · obtain ⟨hs, h⟩ := h
        split at h
        · next ht =>
          obtain ⟨ty, h1, h2⟩ := key _ ht
          exact fc_r_putr hd hr ha hb hG ht hs hf h1 (by cases ty <;> first | rfl | cases h2) (hgo _ _ _ _ _ h)
        · exact h.elim
      · exact h.elim
    · cases hl
  | iaload =>
    have hl : len = 1 := by simpa [fc_okl] using hl
    subst hl
    dsimp only [fc_step] at h
    split at h
    · obtain ⟨n, h1, h2, h⟩ := h
      exact fc_r_iald hd h1 h2 (hgo _ _ _ _ _ h)
    · obtain ⟨rfl, h2, h⟩ := h
      exact fc_r_sald hd h2 (hgo _ _ _ _ _ h)
    · exact h.elim
  | caload =>
    have hl : len = 1 := by simpa [fc_okl] using hl
    subst hl
    dsimp only [fc_step] at h
    split at h
    · obtain ⟨n, h1, h2, h⟩ := h
      exact fc_r_cald hd h1 h2 (hgo _ _ _ _ _ h)
    · exact h.elim
  | baload =>
    have hl : len = 1 := by simpa [fc_okl] using hl
    subst hl
    dsimp only [fc_step] at h
    split at h
    · obtain ⟨n, h1, h2, h⟩ := h
      exact fc_r_zald hd h1 h2 (hgo _ _ _ _ _ h)
    · exact h.elim
  | laload =>
    have hl : len = 1 := by simpa [fc_okl] using hl
    subst hl
    dsimp only [fc_step] at h
    split at h
    · obtain ⟨n, h1, h2, h⟩ := h
      exact fc_r_lald hd h1 h2 (hgo _ _ _ _ _ h)
    · exact h.elim
  | aaload =>
    have hl : len = 1 := by simpa [fc_okl] using hl
    subst hl
    dsimp only [fc_step] at h
    split at h
    · obtain ⟨t, n, r, h1, ht, h2, h3, h⟩ := h
      rcases ht with rfl | rfl | rfl
      · exact fc_r_aald24 hd h1 h2 h3 (hgo _ _ _ _ _ h)
      · exact fc_r_aald25 hd h1 h2 h3 (hgo _ _ _ _ _ h)
      · exact fc_r_aald26 hd h1 h2 h3 (hgo _ _ _ _ _ h)
    · exact h.elim
  | iastore =>
    have hl : len = 1 := by simpa [fc_okl] using hl
    subst hl
    dsimp only [fc_step] at h
    split at h
    · obtain ⟨n, h1, h2, h⟩ := h
      exact fc_r_iast hd h1 h2 (hgo _ _ _ _ _ h)
    · exact h.elim
  | castore =>
    have hl : len = 1 := by simpa [fc_okl] using hl
    subst hl
    dsimp only [fc_step] at h
    split at h
    · obtain ⟨n, h1, h2, h⟩ := h
      exact fc_r_cast hd h1 h2 (hgo _ _ _ _ _ h)
    · exact h.elim
  | bastore =>
    have hl : len = 1 := by simpa [fc_okl] using hl
    subst hl
    dsimp only [fc_step] at h
    split at h
    · obtain ⟨n, h1, h2, h⟩ := h
      exact fc_r_zast hd h1 h2 (hgo _ _ _ _ _ h)
    · exact h.elim
  | lastore =>
    have hl : len = 1 := by simpa [fc_okl] using hl
    subst hl
    dsimp only [fc_step] at h
    split at h
    · obtain ⟨n, h1, h2, h⟩ := h
      exact fc_r_last hd h1 h2 (hgo _ _ _ _ _ h)
    · exact h.elim
  | arraylength =>
    have hl : len = 1 := by simpa [fc_okl] using hl
    subst hl
    dsimp only [fc_step] at h
    split at h
    · obtain ⟨t, n, h1, ht, h⟩ := h
      rcases ht with rfl | rfl
      · exact fc_r_alenI hd h1 (hgo _ _ _ _ _ h)
      · exact fc_r_alenL hd h1 (hgo _ _ _ _ _ h)
    · obtain ⟨rfl, h⟩ := h
      exact fc_r_slen hd (hgo _ _ _ _ _ h)
    · exact h.elim
  | ireturn =>
    have hl : len = 1 := by simpa [fc_okl] using hl
    subst hl
    dsimp only [fc_step] at h
    split at h
    · next x =>
      split at h
      · next hr => exact fc_r_ret (v := some (.int x)) ⟨hd, Or.inl hr⟩ h
      · next hr => exact fc_r_ret (v := some (.int x)) ⟨hd, Or.inr (Or.inl ⟨hr, h.1⟩)⟩ h.2
      · next hr => exact fc_r_ret (v := some (.int x)) ⟨hd, Or.inr (Or.inr ⟨hr, h.1⟩)⟩ h.2
      · exact h.elim
    · exact h.elim
  | return_ =>
    have hl : len = 1 := by simpa [fc_okl] using hl
    subst hl
    dsimp only [fc_step] at h
    split at h
    · split at h
      · next hr => exact fc_r_ret (v := none) ⟨hd, hr⟩ h
      · exact h.elim
    · exact h.elim
  | tableswitch df lo hi offs =>
    simp only [fc_okl, Bool.and_eq_true, decide_eq_true_eq, List.all_eq_true] at hl
    dsimp only [fc_step] at h
    split at h
    · next x st =>
      by_cases hout : x.toInt < lo ∨ hi < x.toInt
      · exact fc_r_tableOut hd hout (by rw [Int.toNat_of_nonneg hl.1]) (hj _ _ _ _ _ _ (h.1 hout))
      · have hin : lo ≤ x.toInt ∧ x.toInt ≤ hi := by omega
        obtain ⟨h1, h2⟩ := h.2 hin
        have hk : (x.toInt - lo).toNat < offs.toList.length := by omega
        have ho : offs.toList[(x.toInt - lo).toNat]? = some offs.toList[(x.toInt - lo).toNat] := List.getElem?_eq_getElem hk
        have hm := hl.2 _ (List.mem_of_getElem? ho)
        refine fc_r_tableIn hd (by omega) (by omega) (off := offs.toList[(x.toInt - lo).toNat]) (by rw [← Array.getElem?_toList]; exact ho) (by rw [Int.toNat_of_nonneg hm]) (hj _ _ _ _ _ _ ?_)
        have go : ∀ (os : List Int) (k : Int) (n : Nat) (o : Int), os[n]? = some o → x.toInt = k + n → fc_ts pc x (fun t => jmp t lv st mi ml mr) k os → jmp ((pc : Int) + o).toNat lv st mi ml mr := by
          intro os
          induction os with
          | nil => intro k n o h; simp at h
          | cons o' os ih =>
            intro k n o h hx hs
            cases n with
            | zero =>
              simp at h
              subst h
              exact hs.1 (by rw [show k = x.toInt by omega]; exact (Int32.ofInt_toInt x).symm)
            | succ n => exact ih (k + 1) n o (by simpa using h) (by omega) hs.2
        exact go _ lo _ _ ho (by omega) h1
    · exact h.elim
  | lookupswitch df qs =>
    simp only [fc_okl, Bool.and_eq_true, decide_eq_true_eq] at hl
    obtain ⟨hs, hdn, hl⟩ := hl
    rw [List.all_eq_true] at hl
    dsimp only [fc_step] at h
    split at h
    · next x st =>
      have go : ∀ (os : List (Int × Int)), (∀ o ∈ os, 0 ≤ (pc : Int) + o.2) → fc_lsw pc x (fun t => jmp t lv st mi ml mr) df os → ∃ off : Int, Op.lookupswitch.offset os df x.toInt = off ∧ 0 ≤ (pc : Int) + off ∧ jmp ((pc : Int) + off).toNat lv st mi ml mr := by
        intro os
        induction os with
        | nil => intro _ h; exact ⟨df, rfl, hdn, h⟩
        | cons o os ih =>
          intro hm h
          obtain ⟨k, off⟩ := o
          by_cases hk : x.toInt = k
          · exact ⟨off, by rw [Op.lookupswitch.offset_cons, if_pos hk.symm], hm (k, off) List.mem_cons_self, h.1 hk⟩
          · obtain ⟨off2, g1, g2, g3⟩ := ih (fun o ho => hm o (List.mem_cons_of_mem _ ho)) (h.2 hk)
            exact ⟨off2, by rw [Op.lookupswitch.offset_cons, if_neg (fun q => hk q.symm)]; exact g1, g2, g3⟩
      obtain ⟨off, g1, g2, g3⟩ := go _ (fun o ho => by simpa using hl o ho) h
      exact fc_r_lookup hd hs g1 (by rw [Int.toNat_of_nonneg g2]) (hj _ _ _ _ _ _ g3)
    · exact h.elim
  | invokevirtual n =>
    simp only [fc_okl, Bool.and_eq_true, beq_iff_eq] at hl
    obtain ⟨rfl, hl⟩ := hl
    dsimp only [fc_step] at h
    unfold fc_okv at hl
    split at hl
    · next t ht =>
      rw [ht] at h
      simp only [Bool.and_eq_true, beq_iff_eq, fc_at, decide_eq_true_eq] at hl
      obtain ⟨⟨hw, hg⟩, hk, hn, hv⟩ := hl
      have hG := fc_G_of _ hw hg
      obtain ⟨hm, hm0, -⟩ := fc_mtab_ok t (List.mem_of_getElem? ht)
      obtain ⟨hi, hse⟩ := hm0 hk
      split at h
      · next _ _ _ t' d0 heq =>
        cases heq
        split at h
        · next _ _ ci q hq =>
          obtain ⟨hs, h⟩ := h
          dsimp only at hv
          split at hv
          · next r hr =>
            simp only [Bool.and_eq_true, decide_eq_true_eq] at hv
            unfold fc_call at h
            split at h
            · next hb =>
              simp only [Bool.and_eq_true, Nat.ble_eq] at hb
              obtain ⟨Q', hR', hk'⟩ := h
              obtain ⟨e1, e2⟩ := fc_argsV hb.2 (by omega) hq
              rw [e1] at hR'
              have := fc_r_callV (lv := lv) (Q := Q) (cs := cs) hd hR' hm (by rw [List.length_reverse, List.length_take]; omega) hi hse hG hr hv.1 hv.2 hs hb.1 (fun v mi' ml' mr' hq => hgo _ _ _ _ _ (hk' v mi' ml' mr' hq))
              rwa [e2] at this
            · exact h.elim
          · cases hv
        · next _ _ u hq =>
          obtain ⟨hs, h⟩ := h
          simp only [decide_eq_true_eq] at hv
          unfold fc_call at h
          split at h
          · next hb =>
            simp only [Bool.and_eq_true, Nat.ble_eq] at hb
            obtain ⟨Q', hR', hk'⟩ := h
            obtain ⟨e1, e2⟩ := fc_argsV hb.2 (by omega) hq
            rw [e1] at hR'
            have := fc_r_callT (lv := lv) (Q := Q) (cs := cs) hd hR' hm (by rw [List.length_reverse, List.length_take]; omega) hi hse hG hv hs hb.1 (fun v mi' ml' mr' hq => hgo _ _ _ _ _ (hk' v mi' ml' mr' hq))
            rwa [e2] at this
          · exact h.elim
        · exact h.elim
      · exact h.elim
    · cases hl
  | invokestatic n =>
    simp only [fc_okl, Bool.and_eq_true, beq_iff_eq] at hl
    obtain ⟨rfl, hl⟩ := hl
    dsimp only [fc_step] at h
    unfold fc_oks at hl
    split at hl
    · split at hl
      · next t ht =>
        have h : fc_sS E d sh a b go lv st mi ml mr := h
        unfold fc_sS at h
        rw [ht] at h
        simp only [Bool.and_eq_true, beq_iff_eq, fc_at, decide_eq_true_eq] at hl
        obtain ⟨⟨hw, hg⟩, hk, hn⟩ := hl
        obtain ⟨hm, -, hm1⟩ := fc_mtab_ok t (List.mem_of_getElem? ht)
        cases d with
        | zero => exact h.elim
        | succ d0 =>
          have h : fc_call E t.1 d0 sh b go lv st mi ml mr := h
          unfold fc_call at h
          split at h
          · next hb =>
            simp only [Bool.and_eq_true, Nat.ble_eq] at hb
            obtain ⟨Q', hR', hk'⟩ := h
            have := fc_r_callS (lv := lv) (Q := Q) (cs := cs) hd hR' hm (by rw [List.length_reverse, List.length_take]; omega) (hm1 hk) (fc_G_of _ hw hg) hb.1 (fun v mi' ml' mr' hq => hgo _ _ _ _ _ (hk' v mi' ml' mr' hq))
            rwa [List.reverse_reverse, List.take_append_drop] at this
          · exact h.elim
      · cases hl
    · split at hl
      · next t ht =>
        have h : fc_sS E d sh a b go lv st mi ml mr := h
        unfold fc_sS at h
        rw [ht] at h
        simp only [Bool.and_eq_true, beq_iff_eq, decide_eq_true_eq] at hl
        obtain ⟨hw, hk, hn⟩ := hl
        obtain ⟨hm, -, hm1⟩ := fc_mtab_ok t (List.mem_of_getElem? ht)
        cases d with
        | zero => exact h.elim
        | succ d0 =>
          have h : fc_call E t.1 d0 sh b go lv st mi ml mr := h
          unfold fc_call at h
          split at h
          · next hb =>
            simp only [Bool.and_eq_true, Nat.ble_eq] at hb
            obtain ⟨Q', hR', hk'⟩ := h
            have := fc_r_callN (lv := lv) (Q := Q) (cs := cs) hd hR' hm (by rw [List.length_reverse, List.length_take]; omega) (hm1 hk) hw hb.1 (fun v mi' ml' mr' hq => hgo _ _ _ _ _ (hk' v mi' ml' mr' hq))
            rwa [List.reverse_reverse, List.take_append_drop] at this
          · exact h.elim
      · cases hl
    · simp only [fc_at, Bool.and_eq_true, decide_eq_true_eq] at hl
      have h : fc_sX go lv st mi ml mr := h
      unfold fc_sX at h
      split at h
      · split at h
        · next hb => exact fc_r_max hd (fc_G_of _ hl.1 hl.2) fc_wmax1 fc_wmath fc_wmax2 (by simpa using hb) (hgo _ _ _ _ _ h)
        · exact h.elim
      · exact h.elim
    · simp only [fc_at, Bool.and_eq_true, decide_eq_true_eq] at hl
      have h : fc_sN go lv st mi ml mr := h
      unfold fc_sN at h
      split at h
      · split at h
        · next hb => exact fc_r_min hd (fc_G_of _ hl.1 hl.2) fc_wmin1 fc_wmath fc_wmin2 (by simpa using hb) (hgo _ _ _ _ _ h)
        · exact h.elim
      · exact h.elim
    · simp only [fc_at, Bool.and_eq_true, decide_eq_true_eq] at hl
      have h : fc_sC sh go lv st mi ml mr := h
      unfold fc_sC at h
      split at h
      · split at h
        · next hb =>
          obtain ⟨n0, n1, h0, h1, ⟨h2, h3, h4, h5, h6⟩, h⟩ := h
          exact fc_r_copy hd (fc_G_of _ hl.1 hl.2) fc_wcop1 fc_wcop2 fc_wsys h0 h1 h2 h3 h4 h5 h6 (by simpa using hb) (hgo _ _ _ _ _ h)
        · exact h.elim
      · exact h.elim
    · cases hl
  | _ => exact h.elim
def fc_find : List fc_I → Nat → List fc_I
  | [], _ => []
  | x :: L, t => match Nat.beq x.1 t with
    | true => x :: L
    | false => fc_find L t
/-- on to the next instruction, or to a place where the walk stops -/
def fc_go (stop : Nat → Bool) (T : Nat → fc_Go) (wp : List fc_I → fc_Go) : List fc_I → fc_Go
  | [] => fun _ _ _ _ _ => False
  | x :: L => fun lv st mi ml mr => match stop x.1 with
    | true => T x.1 lv st mi ml mr
    | false => wp (x :: L) lv st mi ml mr
def fc_wp (E : fc_E) (y : fc_M) (d : Nat) (cs : Nat × Nat) (sh : fc_Sh) (C : List fc_I) (stop : Nat → Bool) (Q : fc_Q) : Nat → List fc_I → fc_Go
  | 0, _ => fun _ _ _ _ _ => False
  | _ + 1, [] => fun _ _ _ _ _ => False
  | n + 1, x :: L => fc_step E y d sh (fc_go stop (fun pc lv st mi ml mr => fc_T E y d cs sh pc lv st mi ml mr Q) (fc_wp E y d cs sh C stop Q n) L) (fun t => fc_go stop (fun pc lv st mi ml mr => fc_T E y d cs sh pc lv st mi ml mr Q) (fc_wp E y d cs sh C stop Q n) (fc_find C t)) Q x
def fc_okL (y : fc_M) (L : List fc_I) : Prop := fc_chain L = true ∧ ∀ x ∈ L, fc_okb y x = true
theorem fc_okL.tail {y : fc_M} {x : fc_I} {L : List fc_I} (h : fc_okL y (x :: L)) : fc_okL y L := by
  refine ⟨?_, fun z hz => h.2 z (List.mem_cons_of_mem _ hz)⟩
  cases L with
  | nil => rfl
  | cons z L =>
    have := h.1
    simp only [fc_chain, Bool.and_eq_true] at this
    exact this.2
theorem fc_okL.find {y : fc_M} : ∀ {L : List fc_I} (t : Nat), fc_okL y L → fc_okL y (fc_find L t)
  | [], t, h => h
  | x :: L, t, h => by
    unfold fc_find
    split
    · exact h
    · exact fc_okL.find t h.tail
theorem fc_find_pc : ∀ {L : List fc_I} {t : Nat} {x : fc_I} {L' : List fc_I}, fc_find L t = x :: L' → x.1 = t
  | [], t, x, L', h => by cases h
  | z :: L, t, x, L', h => by
    unfold fc_find at h
    split at h
    · next hb => cases h; exact Nat.eq_of_beq_eq_true hb
    · exact fc_find_pc h
theorem fc_wp_ok {E : fc_E} {y : fc_M} {d : Nat} {cs : Nat × Nat} {sh : fc_Sh} {C : List fc_I} {stop : Nat → Bool} {Q : fc_Q} (hC : fc_okL y C) : ∀ (n : Nat) (x : fc_I) (L : List fc_I) (lv : List (Option Value)) (st : List Value) (mi : fc_Mi) (ml : fc_Ml) (mr : fc_Mr), fc_okL y (x :: L) → fc_wp E y d cs sh C stop Q n (x :: L) lv st mi ml mr → fc_T E y d cs sh x.1 lv st mi ml mr Q := by
  intro n
  induction n with
  | zero => intro x L lv st mi ml mr _ h; exact h.elim
  | succ n ih =>
    intro x L lv st mi ml mr hL h
    have key : ∀ (L' : List fc_I) (t : Nat), fc_okL y L' → (∀ z L'', L' = z :: L'' → z.1 = t) → ∀ lv st mi ml mr, fc_go stop (fun pc lv st mi ml mr => fc_T E y d cs sh pc lv st mi ml mr Q) (fc_wp E y d cs sh C stop Q n) L' lv st mi ml mr → fc_T E y d cs sh t lv st mi ml mr Q := by
      intro L' t hL' ht lv st mi ml mr h
      cases L' with
      | nil => exact h.elim
      | cons z L'' =>
        have e := ht z L'' rfl
        subst e
        simp only [fc_go] at h
        split at h
        · exact h
        · exact ih z L'' lv st mi ml mr hL' h
    refine fc_step_ok (hL.2 x List.mem_cons_self) (key L _ hL.tail ?_) (fun t => key _ t (hC.find t) (fun z L'' hz => fc_find_pc hz)) h
    intro z L'' hz
    subst hz
    have := hL.1
    simp only [fc_chain, Bool.and_eq_true, decide_eq_true_eq] at this
    exact this.1.symm
/-- THE WALK: from a place of the code, through it, to its ends and to where it stops -/
theorem fc_run {E : fc_E} {y : fc_M} {d : Nat} {cs : Nat × Nat} {sh : fc_Sh} {C : List fc_I} {Q : fc_Q} {pc : Nat} {lv : List (Option Value)} {st : List Value} {mi : fc_Mi} {ml : fc_Ml} {mr : fc_Mr} (hC : fc_code y C = true) (stop : Nat → Bool) (n : Nat)
    (h : fc_wp E y d cs sh C stop Q n (fc_find C pc) lv st mi ml mr) : fc_T E y d cs sh pc lv st mi ml mr Q := by
  have hL : fc_okL y C := by
    simp only [fc_code, Bool.and_eq_true, List.all_eq_true] at hC
    exact hC
  cases hf : fc_find C pc with
  | nil =>
    rw [hf] at h
    cases n <;> exact h.elim
  | cons x L =>
    rw [hf] at h
    have e := fc_find_pc hf
    subst e
    exact fc_wp_ok hL n x L lv st mi ml mr (by rw [← hf]; exact hL.find _) h
end
