section
-- ===== PART A: goes FIRST, ahead of the names: the tables' words, and 'selects' of the private methods out of them =====
/-- a private method of a class that the tables say can be made, by its rows of tables_1 -/
def lw_okq (q : MethodName × Nat) : Prop := (q.1.cls ≠ "java/lang/invoke/MethodHandle" ∧ q.1.cls ≠ "java/lang/invoke/VarHandle") ∧ Cond.instantiable q.1.cls q.2 ∈ tables_1 ∧ Cond.privateMethod q.1 ∈ tables_1 ∧ Cond.instanceMethod q.1 ∈ tables_1
theorem lw_p0 : lw_okq (⟨"FirstChimney$Tape", "readWord", "()V"⟩, 8) := ⟨⟨by decide +kernel, by decide +kernel⟩, List.mem_of_getElem? (i := 35) (by decide +kernel), List.mem_of_getElem? (i := 433) (by decide +kernel), List.mem_of_getElem? (i := 434) (by decide +kernel)⟩
theorem lw_p1 : lw_okq (⟨"FirstChimney$Tape", "readNumber", "()V"⟩, 8) := ⟨⟨by decide +kernel, by decide +kernel⟩, List.mem_of_getElem? (i := 35) (by decide +kernel), List.mem_of_getElem? (i := 491) (by decide +kernel), List.mem_of_getElem? (i := 492) (by decide +kernel)⟩
theorem lw_p2 : lw_okq (⟨"FirstChimney$LandReader", "readPlace", "(LFirstChimney$Tape;LFirstChimney$Land;)Z"⟩, 3) := ⟨⟨by decide +kernel, by decide +kernel⟩, List.mem_of_getElem? (i := 76) (by decide +kernel), List.mem_of_getElem? (i := 555) (by decide +kernel), List.mem_of_getElem? (i := 556) (by decide +kernel)⟩
theorem lw_p3 : lw_okq (⟨"FirstChimney$LandReader", "readPath", "(LFirstChimney$Tape;LFirstChimney$Land;)Z"⟩, 3) := ⟨⟨by decide +kernel, by decide +kernel⟩, List.mem_of_getElem? (i := 76) (by decide +kernel), List.mem_of_getElem? (i := 574) (by decide +kernel), List.mem_of_getElem? (i := 575) (by decide +kernel)⟩
theorem lw_p4 : lw_okq (⟨"FirstChimney$LandReader", "readPerson", "(LFirstChimney$Tape;LFirstChimney$Land;)Z"⟩, 3) := ⟨⟨by decide +kernel, by decide +kernel⟩, List.mem_of_getElem? (i := 76) (by decide +kernel), List.mem_of_getElem? (i := 587) (by decide +kernel), List.mem_of_getElem? (i := 588) (by decide +kernel)⟩
theorem lw_p5 : lw_okq (⟨"FirstChimney$LandReader", "readThing", "(LFirstChimney$Tape;LFirstChimney$Land;)Z"⟩, 3) := ⟨⟨by decide +kernel, by decide +kernel⟩, List.mem_of_getElem? (i := 76) (by decide +kernel), List.mem_of_getElem? (i := 600) (by decide +kernel), List.mem_of_getElem? (i := 601) (by decide +kernel)⟩
theorem lw_p6 : lw_okq (⟨"FirstChimney$LandReader", "readSmoke", "(LFirstChimney$Tape;LFirstChimney$Land;)Z"⟩, 3) := ⟨⟨by decide +kernel, by decide +kernel⟩, List.mem_of_getElem? (i := 76) (by decide +kernel), List.mem_of_getElem? (i := 604) (by decide +kernel), List.mem_of_getElem? (i := 605) (by decide +kernel)⟩
theorem lw_p7 : lw_okq (⟨"FirstChimney$LandReader", "readBinds", "(LFirstChimney$Tape;LFirstChimney$Land;)Z"⟩, 3) := ⟨⟨by decide +kernel, by decide +kernel⟩, List.mem_of_getElem? (i := 76) (by decide +kernel), List.mem_of_getElem? (i := 608) (by decide +kernel), List.mem_of_getElem? (i := 609) (by decide +kernel)⟩
theorem lw_p8 : lw_okq (⟨"FirstChimney$LawReader", "writeDown", "(LFirstChimney$Law;I)V"⟩, 4) := ⟨⟨by decide +kernel, by decide +kernel⟩, List.mem_of_getElem? (i := 82) (by decide +kernel), List.mem_of_getElem? (i := 617) (by decide +kernel), List.mem_of_getElem? (i := 618) (by decide +kernel)⟩
theorem lw_p9 : lw_okq (⟨"FirstChimney$LawReader", "readPart", "(LFirstChimney$Tape;LFirstChimney$Law;)Z"⟩, 4) := ⟨⟨by decide +kernel, by decide +kernel⟩, List.mem_of_getElem? (i := 82) (by decide +kernel), List.mem_of_getElem? (i := 628) (by decide +kernel), List.mem_of_getElem? (i := 629) (by decide +kernel)⟩
theorem lw_p10 : lw_okq (⟨"FirstChimney$LawReader", "await", "(I)V"⟩, 4) := ⟨⟨by decide +kernel, by decide +kernel⟩, List.mem_of_getElem? (i := 82) (by decide +kernel), List.mem_of_getElem? (i := 635) (by decide +kernel), List.mem_of_getElem? (i := 636) (by decide +kernel)⟩
theorem lw_p11 : lw_okq (⟨"FirstChimney$LawReader", "closeNots", "(LFirstChimney$Law;)V"⟩, 4) := ⟨⟨by decide +kernel, by decide +kernel⟩, List.mem_of_getElem? (i := 82) (by decide +kernel), List.mem_of_getElem? (i := 639) (by decide +kernel), List.mem_of_getElem? (i := 640) (by decide +kernel)⟩
theorem lw_p12 : lw_okq (⟨"FirstChimney$LawReader", "readBehind", "(LFirstChimney$Tape;LFirstChimney$Law;)Z"⟩, 4) := ⟨⟨by decide +kernel, by decide +kernel⟩, List.mem_of_getElem? (i := 82) (by decide +kernel), List.mem_of_getElem? (i := 643) (by decide +kernel), List.mem_of_getElem? (i := 644) (by decide +kernel)⟩
theorem lw_p13 : lw_okq (⟨"FirstChimney$Ways", "measureFrom", "(LFirstChimney$Land;I)V"⟩, 3) := ⟨⟨by decide +kernel, by decide +kernel⟩, List.mem_of_getElem? (i := 112) (by decide +kernel), List.mem_of_getElem? (i := 656) (by decide +kernel), List.mem_of_getElem? (i := 657) (by decide +kernel)⟩
theorem lw_p14 : lw_okq (⟨"FirstChimney$Script", "readLine", "(LFirstChimney$Tape;LFirstChimney$Land;)Z"⟩, 4) := ⟨⟨by decide +kernel, by decide +kernel⟩, List.mem_of_getElem? (i := 342) (by decide +kernel), List.mem_of_getElem? (i := 683) (by decide +kernel), List.mem_of_getElem? (i := 684) (by decide +kernel)⟩
theorem lw_p15 : lw_okq (⟨"FirstChimney$Script", "readNames", "(LFirstChimney$Tape;LFirstChimney$Land;I)Z"⟩, 4) := ⟨⟨by decide +kernel, by decide +kernel⟩, List.mem_of_getElem? (i := 342) (by decide +kernel), List.mem_of_getElem? (i := 690) (by decide +kernel), List.mem_of_getElem? (i := 691) (by decide +kernel)⟩
def lw_privs_1 : List (MethodName × Nat) := [(⟨"FirstChimney$Tape", "readWord", "()V"⟩, 8), (⟨"FirstChimney$Tape", "readNumber", "()V"⟩, 8), (⟨"FirstChimney$LandReader", "readPlace", "(LFirstChimney$Tape;LFirstChimney$Land;)Z"⟩, 3), (⟨"FirstChimney$LandReader", "readPath", "(LFirstChimney$Tape;LFirstChimney$Land;)Z"⟩, 3), (⟨"FirstChimney$LandReader", "readPerson", "(LFirstChimney$Tape;LFirstChimney$Land;)Z"⟩, 3), (⟨"FirstChimney$LandReader", "readThing", "(LFirstChimney$Tape;LFirstChimney$Land;)Z"⟩, 3), (⟨"FirstChimney$LandReader", "readSmoke", "(LFirstChimney$Tape;LFirstChimney$Land;)Z"⟩, 3), (⟨"FirstChimney$LandReader", "readBinds", "(LFirstChimney$Tape;LFirstChimney$Land;)Z"⟩, 3), (⟨"FirstChimney$LawReader", "writeDown", "(LFirstChimney$Law;I)V"⟩, 4), (⟨"FirstChimney$LawReader", "readPart", "(LFirstChimney$Tape;LFirstChimney$Law;)Z"⟩, 4), (⟨"FirstChimney$LawReader", "await", "(I)V"⟩, 4), (⟨"FirstChimney$LawReader", "closeNots", "(LFirstChimney$Law;)V"⟩, 4), (⟨"FirstChimney$LawReader", "readBehind", "(LFirstChimney$Tape;LFirstChimney$Law;)Z"⟩, 4), (⟨"FirstChimney$Ways", "measureFrom", "(LFirstChimney$Land;I)V"⟩, 3), (⟨"FirstChimney$Script", "readLine", "(LFirstChimney$Tape;LFirstChimney$Land;)Z"⟩, 4), (⟨"FirstChimney$Script", "readNames", "(LFirstChimney$Tape;LFirstChimney$Land;I)Z"⟩, 4)]
theorem lw_r1 : ∀ q ∈ lw_privs_1, lw_okq q := List.forall_mem_cons.mpr ⟨lw_p0, List.forall_mem_cons.mpr ⟨lw_p1, List.forall_mem_cons.mpr ⟨lw_p2, List.forall_mem_cons.mpr ⟨lw_p3, List.forall_mem_cons.mpr ⟨lw_p4, List.forall_mem_cons.mpr ⟨lw_p5, List.forall_mem_cons.mpr ⟨lw_p6, List.forall_mem_cons.mpr ⟨lw_p7, List.forall_mem_cons.mpr ⟨lw_p8, List.forall_mem_cons.mpr ⟨lw_p9, List.forall_mem_cons.mpr ⟨lw_p10, List.forall_mem_cons.mpr ⟨lw_p11, List.forall_mem_cons.mpr ⟨lw_p12, List.forall_mem_cons.mpr ⟨lw_p13, List.forall_mem_cons.mpr ⟨lw_p14, List.forall_mem_cons.mpr ⟨lw_p15, fun _ h => absurd h List.not_mem_nil⟩⟩⟩⟩⟩⟩⟩⟩⟩⟩⟩⟩⟩⟩⟩⟩
theorem lw_p16 : lw_okq (⟨"FirstChimney", "thingsOf", "([II)I"⟩, 12) := ⟨⟨by decide +kernel, by decide +kernel⟩, List.mem_of_getElem? (i := 27) (by decide +kernel), List.mem_of_getElem? (i := 730) (by decide +kernel), List.mem_of_getElem? (i := 731) (by decide +kernel)⟩
theorem lw_p17 : lw_okq (⟨"FirstChimney$State", "isBinding", "(LFirstChimney$Land;IIII)Z"⟩, 9) := ⟨⟨by decide +kernel, by decide +kernel⟩, List.mem_of_getElem? (i := 131) (by decide +kernel), List.mem_of_getElem? (i := 787) (by decide +kernel), List.mem_of_getElem? (i := 788) (by decide +kernel)⟩
theorem lw_p18 : lw_okq (⟨"FirstChimney$State", "shareNews", "(LFirstChimney$Land;I)V"⟩, 9) := ⟨⟨by decide +kernel, by decide +kernel⟩, List.mem_of_getElem? (i := 131) (by decide +kernel), List.mem_of_getElem? (i := 829) (by decide +kernel), List.mem_of_getElem? (i := 830) (by decide +kernel)⟩
theorem lw_p19 : lw_okq (⟨"FirstChimney$State", "riseSmoke", "(LFirstChimney$Land;)V"⟩, 9) := ⟨⟨by decide +kernel, by decide +kernel⟩, List.mem_of_getElem? (i := 131) (by decide +kernel), List.mem_of_getElem? (i := 834) (by decide +kernel), List.mem_of_getElem? (i := 835) (by decide +kernel)⟩
theorem lw_p20 : lw_okq (⟨"FirstChimney", "movedThings", "(LFirstChimney$State;)I"⟩, 12) := ⟨⟨by decide +kernel, by decide +kernel⟩, List.mem_of_getElem? (i := 27) (by decide +kernel), List.mem_of_getElem? (i := 862) (by decide +kernel), List.mem_of_getElem? (i := 863) (by decide +kernel)⟩
theorem lw_p21 : lw_okq (⟨"FirstChimney", "minutesTo", "(II)I"⟩, 12) := ⟨⟨by decide +kernel, by decide +kernel⟩, List.mem_of_getElem? (i := 27) (by decide +kernel), List.mem_of_getElem? (i := 870) (by decide +kernel), List.mem_of_getElem? (i := 871) (by decide +kernel)⟩
theorem lw_p22 : lw_okq (⟨"FirstChimney", "minutesOfAllTo", "(I)I"⟩, 12) := ⟨⟨by decide +kernel, by decide +kernel⟩, List.mem_of_getElem? (i := 27) (by decide +kernel), List.mem_of_getElem? (i := 896) (by decide +kernel), List.mem_of_getElem? (i := 897) (by decide +kernel)⟩
theorem lw_p23 : lw_okq (⟨"FirstChimney$Ways", "stepOn", "(LFirstChimney$Land;)V"⟩, 3) := ⟨⟨by decide +kernel, by decide +kernel⟩, List.mem_of_getElem? (i := 112) (by decide +kernel), List.mem_of_getElem? (i := 912) (by decide +kernel), List.mem_of_getElem? (i := 913) (by decide +kernel)⟩
theorem lw_p24 : lw_okq (⟨"FirstChimney", "isGift", "(II)Z"⟩, 12) := ⟨⟨by decide +kernel, by decide +kernel⟩, List.mem_of_getElem? (i := 27) (by decide +kernel), List.mem_of_getElem? (i := 936) (by decide +kernel), List.mem_of_getElem? (i := 937) (by decide +kernel)⟩
theorem lw_p25 : lw_okq (⟨"FirstChimney", "fitsSeen", "(I)Z"⟩, 12) := ⟨⟨by decide +kernel, by decide +kernel⟩, List.mem_of_getElem? (i := 27) (by decide +kernel), List.mem_of_getElem? (i := 1015) (by decide +kernel), List.mem_of_getElem? (i := 1016) (by decide +kernel)⟩
theorem lw_p26 : lw_okq (⟨"FirstChimney", "leftAtWorst", "(III)I"⟩, 12) := ⟨⟨by decide +kernel, by decide +kernel⟩, List.mem_of_getElem? (i := 27) (by decide +kernel), List.mem_of_getElem? (i := 1024) (by decide +kernel), List.mem_of_getElem? (i := 1025) (by decide +kernel)⟩
theorem lw_p27 : lw_okq (⟨"FirstChimney", "worthOf", "(IZ)I"⟩, 12) := ⟨⟨by decide +kernel, by decide +kernel⟩, List.mem_of_getElem? (i := 27) (by decide +kernel), List.mem_of_getElem? (i := 1036) (by decide +kernel), List.mem_of_getElem? (i := 1037) (by decide +kernel)⟩
theorem lw_p28 : lw_okq (⟨"FirstChimney", "playDrawn", "()Z"⟩, 12) := ⟨⟨by decide +kernel, by decide +kernel⟩, List.mem_of_getElem? (i := 27) (by decide +kernel), List.mem_of_getElem? (i := 1057) (by decide +kernel), List.mem_of_getElem? (i := 1058) (by decide +kernel)⟩
theorem lw_p29 : lw_okq (⟨"FirstChimney", "drawBelow", "(I)I"⟩, 12) := ⟨⟨by decide +kernel, by decide +kernel⟩, List.mem_of_getElem? (i := 27) (by decide +kernel), List.mem_of_getElem? (i := 1061) (by decide +kernel), List.mem_of_getElem? (i := 1062) (by decide +kernel)⟩
theorem lw_p30 : lw_okq (⟨"java/lang/Throwable", "fillInStackTrace", "(I)Ljava/lang/Throwable;"⟩, 6) := ⟨⟨by decide +kernel, by decide +kernel⟩, List.mem_of_getElem? (i := 1136) (by decide +kernel), List.mem_of_getElem? (i := 1134) (by decide +kernel), List.mem_of_getElem? (i := 1135) (by decide +kernel)⟩
theorem lw_p31 : lw_okq (⟨"FirstChimneyModel", "lay", "(J)V"⟩, 30) := ⟨⟨by decide +kernel, by decide +kernel⟩, List.mem_of_getElem? (i := 1182) (by decide +kernel), List.mem_of_getElem? (i := 1180) (by decide +kernel), List.mem_of_getElem? (i := 1181) (by decide +kernel)⟩
def lw_privs_2 : List (MethodName × Nat) := [(⟨"FirstChimney", "thingsOf", "([II)I"⟩, 12), (⟨"FirstChimney$State", "isBinding", "(LFirstChimney$Land;IIII)Z"⟩, 9), (⟨"FirstChimney$State", "shareNews", "(LFirstChimney$Land;I)V"⟩, 9), (⟨"FirstChimney$State", "riseSmoke", "(LFirstChimney$Land;)V"⟩, 9), (⟨"FirstChimney", "movedThings", "(LFirstChimney$State;)I"⟩, 12), (⟨"FirstChimney", "minutesTo", "(II)I"⟩, 12), (⟨"FirstChimney", "minutesOfAllTo", "(I)I"⟩, 12), (⟨"FirstChimney$Ways", "stepOn", "(LFirstChimney$Land;)V"⟩, 3), (⟨"FirstChimney", "isGift", "(II)Z"⟩, 12), (⟨"FirstChimney", "fitsSeen", "(I)Z"⟩, 12), (⟨"FirstChimney", "leftAtWorst", "(III)I"⟩, 12), (⟨"FirstChimney", "worthOf", "(IZ)I"⟩, 12), (⟨"FirstChimney", "playDrawn", "()Z"⟩, 12), (⟨"FirstChimney", "drawBelow", "(I)I"⟩, 12), (⟨"java/lang/Throwable", "fillInStackTrace", "(I)Ljava/lang/Throwable;"⟩, 6), (⟨"FirstChimneyModel", "lay", "(J)V"⟩, 30)]
theorem lw_r2 : ∀ q ∈ lw_privs_2, lw_okq q := List.forall_mem_cons.mpr ⟨lw_p16, List.forall_mem_cons.mpr ⟨lw_p17, List.forall_mem_cons.mpr ⟨lw_p18, List.forall_mem_cons.mpr ⟨lw_p19, List.forall_mem_cons.mpr ⟨lw_p20, List.forall_mem_cons.mpr ⟨lw_p21, List.forall_mem_cons.mpr ⟨lw_p22, List.forall_mem_cons.mpr ⟨lw_p23, List.forall_mem_cons.mpr ⟨lw_p24, List.forall_mem_cons.mpr ⟨lw_p25, List.forall_mem_cons.mpr ⟨lw_p26, List.forall_mem_cons.mpr ⟨lw_p27, List.forall_mem_cons.mpr ⟨lw_p28, List.forall_mem_cons.mpr ⟨lw_p29, List.forall_mem_cons.mpr ⟨lw_p30, List.forall_mem_cons.mpr ⟨lw_p31, fun _ h => absurd h List.not_mem_nil⟩⟩⟩⟩⟩⟩⟩⟩⟩⟩⟩⟩⟩⟩⟩⟩
theorem lw_p32 : lw_okq (⟨"FirstChimneyModel", "standsAsAlways", "(I)V"⟩, 30) := ⟨⟨by decide +kernel, by decide +kernel⟩, List.mem_of_getElem? (i := 1182) (by decide +kernel), List.mem_of_getElem? (i := 1215) (by decide +kernel), List.mem_of_getElem? (i := 1216) (by decide +kernel)⟩
theorem lw_p33 : lw_okq (⟨"FirstChimneyModel", "begins", "()V"⟩, 30) := ⟨⟨by decide +kernel, by decide +kernel⟩, List.mem_of_getElem? (i := 1182) (by decide +kernel), List.mem_of_getElem? (i := 1219) (by decide +kernel), List.mem_of_getElem? (i := 1220) (by decide +kernel)⟩
theorem lw_p34 : lw_okq (⟨"FirstChimneyModel", "starts", "(I)V"⟩, 30) := ⟨⟨by decide +kernel, by decide +kernel⟩, List.mem_of_getElem? (i := 1182) (by decide +kernel), List.mem_of_getElem? (i := 1223) (by decide +kernel), List.mem_of_getElem? (i := 1224) (by decide +kernel)⟩
theorem lw_p35 : lw_okq (⟨"FirstChimneyModel", "persons", "()I"⟩, 30) := ⟨⟨by decide +kernel, by decide +kernel⟩, List.mem_of_getElem? (i := 1182) (by decide +kernel), List.mem_of_getElem? (i := 1227) (by decide +kernel), List.mem_of_getElem? (i := 1228) (by decide +kernel)⟩
theorem lw_p36 : lw_okq (⟨"FirstChimneyModel", "personOf", "(II)I"⟩, 30) := ⟨⟨by decide +kernel, by decide +kernel⟩, List.mem_of_getElem? (i := 1182) (by decide +kernel), List.mem_of_getElem? (i := 1231) (by decide +kernel), List.mem_of_getElem? (i := 1232) (by decide +kernel)⟩
theorem lw_p37 : lw_okq (⟨"FirstChimneyModel", "things", "()I"⟩, 30) := ⟨⟨by decide +kernel, by decide +kernel⟩, List.mem_of_getElem? (i := 1182) (by decide +kernel), List.mem_of_getElem? (i := 1235) (by decide +kernel), List.mem_of_getElem? (i := 1236) (by decide +kernel)⟩
theorem lw_p38 : lw_okq (⟨"FirstChimneyModel", "thingOf", "(II)I"⟩, 30) := ⟨⟨by decide +kernel, by decide +kernel⟩, List.mem_of_getElem? (i := 1182) (by decide +kernel), List.mem_of_getElem? (i := 1239) (by decide +kernel), List.mem_of_getElem? (i := 1240) (by decide +kernel)⟩
theorem lw_p39 : lw_okq (⟨"FirstChimneyModel", "cutAll", "()V"⟩, 30) := ⟨⟨by decide +kernel, by decide +kernel⟩, List.mem_of_getElem? (i := 1182) (by decide +kernel), List.mem_of_getElem? (i := 1338) (by decide +kernel), List.mem_of_getElem? (i := 1339) (by decide +kernel)⟩
theorem lw_p40 : lw_okq (⟨"FirstChimneyModel", "readLine", "()V"⟩, 30) := ⟨⟨by decide +kernel, by decide +kernel⟩, List.mem_of_getElem? (i := 1182) (by decide +kernel), List.mem_of_getElem? (i := 1357) (by decide +kernel), List.mem_of_getElem? (i := 1358) (by decide +kernel)⟩
theorem lw_p41 : lw_okq (⟨"FirstChimneyModel", "isWord", "(I)Z"⟩, 30) := ⟨⟨by decide +kernel, by decide +kernel⟩, List.mem_of_getElem? (i := 1182) (by decide +kernel), List.mem_of_getElem? (i := 1361) (by decide +kernel), List.mem_of_getElem? (i := 1362) (by decide +kernel)⟩
theorem lw_p42 : lw_okq (⟨"FirstChimneyModel", "readName", "(III)V"⟩, 30) := ⟨⟨by decide +kernel, by decide +kernel⟩, List.mem_of_getElem? (i := 1182) (by decide +kernel), List.mem_of_getElem? (i := 1365) (by decide +kernel), List.mem_of_getElem? (i := 1366) (by decide +kernel)⟩
theorem lw_p43 : lw_okq (⟨"FirstChimneyModel", "wrong", "(I)V"⟩, 30) := ⟨⟨by decide +kernel, by decide +kernel⟩, List.mem_of_getElem? (i := 1182) (by decide +kernel), List.mem_of_getElem? (i := 1369) (by decide +kernel), List.mem_of_getElem? (i := 1370) (by decide +kernel)⟩
theorem lw_p44 : lw_okq (⟨"FirstChimneyModel", "isName", "()Z"⟩, 30) := ⟨⟨by decide +kernel, by decide +kernel⟩, List.mem_of_getElem? (i := 1182) (by decide +kernel), List.mem_of_getElem? (i := 1373) (by decide +kernel), List.mem_of_getElem? (i := 1374) (by decide +kernel)⟩
theorem lw_p45 : lw_okq (⟨"FirstChimneyModel", "wordHere", "(II)I"⟩, 30) := ⟨⟨by decide +kernel, by decide +kernel⟩, List.mem_of_getElem? (i := 1182) (by decide +kernel), List.mem_of_getElem? (i := 1377) (by decide +kernel), List.mem_of_getElem? (i := 1378) (by decide +kernel)⟩
theorem lw_p46 : lw_okq (⟨"FirstChimneyModel", "nameAt", "(Z)I"⟩, 30) := ⟨⟨by decide +kernel, by decide +kernel⟩, List.mem_of_getElem? (i := 1182) (by decide +kernel), List.mem_of_getElem? (i := 1381) (by decide +kernel), List.mem_of_getElem? (i := 1382) (by decide +kernel)⟩
theorem lw_p47 : lw_okq (⟨"FirstChimneyModel", "readPath", "()V"⟩, 30) := ⟨⟨by decide +kernel, by decide +kernel⟩, List.mem_of_getElem? (i := 1182) (by decide +kernel), List.mem_of_getElem? (i := 1385) (by decide +kernel), List.mem_of_getElem? (i := 1386) (by decide +kernel)⟩
def lw_privs_3 : List (MethodName × Nat) := [(⟨"FirstChimneyModel", "standsAsAlways", "(I)V"⟩, 30), (⟨"FirstChimneyModel", "begins", "()V"⟩, 30), (⟨"FirstChimneyModel", "starts", "(I)V"⟩, 30), (⟨"FirstChimneyModel", "persons", "()I"⟩, 30), (⟨"FirstChimneyModel", "personOf", "(II)I"⟩, 30), (⟨"FirstChimneyModel", "things", "()I"⟩, 30), (⟨"FirstChimneyModel", "thingOf", "(II)I"⟩, 30), (⟨"FirstChimneyModel", "cutAll", "()V"⟩, 30), (⟨"FirstChimneyModel", "readLine", "()V"⟩, 30), (⟨"FirstChimneyModel", "isWord", "(I)Z"⟩, 30), (⟨"FirstChimneyModel", "readName", "(III)V"⟩, 30), (⟨"FirstChimneyModel", "wrong", "(I)V"⟩, 30), (⟨"FirstChimneyModel", "isName", "()Z"⟩, 30), (⟨"FirstChimneyModel", "wordHere", "(II)I"⟩, 30), (⟨"FirstChimneyModel", "nameAt", "(Z)I"⟩, 30), (⟨"FirstChimneyModel", "readPath", "()V"⟩, 30)]
theorem lw_r3 : ∀ q ∈ lw_privs_3, lw_okq q := List.forall_mem_cons.mpr ⟨lw_p32, List.forall_mem_cons.mpr ⟨lw_p33, List.forall_mem_cons.mpr ⟨lw_p34, List.forall_mem_cons.mpr ⟨lw_p35, List.forall_mem_cons.mpr ⟨lw_p36, List.forall_mem_cons.mpr ⟨lw_p37, List.forall_mem_cons.mpr ⟨lw_p38, List.forall_mem_cons.mpr ⟨lw_p39, List.forall_mem_cons.mpr ⟨lw_p40, List.forall_mem_cons.mpr ⟨lw_p41, List.forall_mem_cons.mpr ⟨lw_p42, List.forall_mem_cons.mpr ⟨lw_p43, List.forall_mem_cons.mpr ⟨lw_p44, List.forall_mem_cons.mpr ⟨lw_p45, List.forall_mem_cons.mpr ⟨lw_p46, List.forall_mem_cons.mpr ⟨lw_p47, fun _ h => absurd h List.not_mem_nil⟩⟩⟩⟩⟩⟩⟩⟩⟩⟩⟩⟩⟩⟩⟩⟩
theorem lw_p48 : lw_okq (⟨"FirstChimneyModel", "takeTold", "(ZII)I"⟩, 30) := ⟨⟨by decide +kernel, by decide +kernel⟩, List.mem_of_getElem? (i := 1182) (by decide +kernel), List.mem_of_getElem? (i := 1389) (by decide +kernel), List.mem_of_getElem? (i := 1390) (by decide +kernel)⟩
theorem lw_p49 : lw_okq (⟨"FirstChimneyModel", "takeOne", "(II)I"⟩, 30) := ⟨⟨by decide +kernel, by decide +kernel⟩, List.mem_of_getElem? (i := 1182) (by decide +kernel), List.mem_of_getElem? (i := 1396) (by decide +kernel), List.mem_of_getElem? (i := 1397) (by decide +kernel)⟩
theorem lw_p50 : lw_okq (⟨"FirstChimneyModel", "takeWord", "(I)V"⟩, 30) := ⟨⟨by decide +kernel, by decide +kernel⟩, List.mem_of_getElem? (i := 1182) (by decide +kernel), List.mem_of_getElem? (i := 1400) (by decide +kernel), List.mem_of_getElem? (i := 1401) (by decide +kernel)⟩
theorem lw_p51 : lw_okq (⟨"FirstChimneyModel", "hasWord", "(I)Z"⟩, 30) := ⟨⟨by decide +kernel, by decide +kernel⟩, List.mem_of_getElem? (i := 1182) (by decide +kernel), List.mem_of_getElem? (i := 1404) (by decide +kernel), List.mem_of_getElem? (i := 1405) (by decide +kernel)⟩
theorem lw_p52 : lw_okq (⟨"FirstChimneyModel", "takeAfter", "(III)I"⟩, 30) := ⟨⟨by decide +kernel, by decide +kernel⟩, List.mem_of_getElem? (i := 1182) (by decide +kernel), List.mem_of_getElem? (i := 1408) (by decide +kernel), List.mem_of_getElem? (i := 1409) (by decide +kernel)⟩
theorem lw_p53 : lw_okq (⟨"FirstChimneyModel", "takeNumber", "(II)I"⟩, 30) := ⟨⟨by decide +kernel, by decide +kernel⟩, List.mem_of_getElem? (i := 1182) (by decide +kernel), List.mem_of_getElem? (i := 1412) (by decide +kernel), List.mem_of_getElem? (i := 1413) (by decide +kernel)⟩
theorem lw_p54 : lw_okq (⟨"FirstChimneyModel", "readOnce", "()V"⟩, 30) := ⟨⟨by decide +kernel, by decide +kernel⟩, List.mem_of_getElem? (i := 1182) (by decide +kernel), List.mem_of_getElem? (i := 1416) (by decide +kernel), List.mem_of_getElem? (i := 1417) (by decide +kernel)⟩
theorem lw_p55 : lw_okq (⟨"FirstChimneyModel", "whole", "(I)V"⟩, 30) := ⟨⟨by decide +kernel, by decide +kernel⟩, List.mem_of_getElem? (i := 1182) (by decide +kernel), List.mem_of_getElem? (i := 1420) (by decide +kernel), List.mem_of_getElem? (i := 1421) (by decide +kernel)⟩
theorem lw_p56 : lw_okq (⟨"FirstChimneyModel", "test", "(I)V"⟩, 30) := ⟨⟨by decide +kernel, by decide +kernel⟩, List.mem_of_getElem? (i := 1182) (by decide +kernel), List.mem_of_getElem? (i := 1424) (by decide +kernel), List.mem_of_getElem? (i := 1425) (by decide +kernel)⟩
theorem lw_p57 : lw_okq (⟨"FirstChimneyModel", "sums", "(I)V"⟩, 30) := ⟨⟨by decide +kernel, by decide +kernel⟩, List.mem_of_getElem? (i := 1182) (by decide +kernel), List.mem_of_getElem? (i := 1428) (by decide +kernel), List.mem_of_getElem? (i := 1429) (by decide +kernel)⟩
theorem lw_p58 : lw_okq (⟨"FirstChimneyModel", "products", "(I)V"⟩, 30) := ⟨⟨by decide +kernel, by decide +kernel⟩, List.mem_of_getElem? (i := 1182) (by decide +kernel), List.mem_of_getElem? (i := 1432) (by decide +kernel), List.mem_of_getElem? (i := 1433) (by decide +kernel)⟩
theorem lw_p59 : lw_okq (⟨"FirstChimneyModel", "takePart", "(I)V"⟩, 30) := ⟨⟨by decide +kernel, by decide +kernel⟩, List.mem_of_getElem? (i := 1182) (by decide +kernel), List.mem_of_getElem? (i := 1436) (by decide +kernel), List.mem_of_getElem? (i := 1437) (by decide +kernel)⟩
theorem lw_p60 : lw_okq (⟨"FirstChimneyModel", "isSign", "(I)Z"⟩, 30) := ⟨⟨by decide +kernel, by decide +kernel⟩, List.mem_of_getElem? (i := 1182) (by decide +kernel), List.mem_of_getElem? (i := 1440) (by decide +kernel), List.mem_of_getElem? (i := 1441) (by decide +kernel)⟩
theorem lw_p61 : lw_okq (⟨"FirstChimneyModel", "emit", "(II)V"⟩, 30) := ⟨⟨by decide +kernel, by decide +kernel⟩, List.mem_of_getElem? (i := 1182) (by decide +kernel), List.mem_of_getElem? (i := 1444) (by decide +kernel), List.mem_of_getElem? (i := 1445) (by decide +kernel)⟩
theorem lw_p62 : lw_okq (⟨"FirstChimneyModel", "hasSign", "(I)Z"⟩, 30) := ⟨⟨by decide +kernel, by decide +kernel⟩, List.mem_of_getElem? (i := 1182) (by decide +kernel), List.mem_of_getElem? (i := 1448) (by decide +kernel), List.mem_of_getElem? (i := 1449) (by decide +kernel)⟩
theorem lw_p63 : lw_okq (⟨"FirstChimneyModel", "takeSign", "(I)V"⟩, 30) := ⟨⟨by decide +kernel, by decide +kernel⟩, List.mem_of_getElem? (i := 1182) (by decide +kernel), List.mem_of_getElem? (i := 1452) (by decide +kernel), List.mem_of_getElem? (i := 1453) (by decide +kernel)⟩
def lw_privs_4 : List (MethodName × Nat) := [(⟨"FirstChimneyModel", "takeTold", "(ZII)I"⟩, 30), (⟨"FirstChimneyModel", "takeOne", "(II)I"⟩, 30), (⟨"FirstChimneyModel", "takeWord", "(I)V"⟩, 30), (⟨"FirstChimneyModel", "hasWord", "(I)Z"⟩, 30), (⟨"FirstChimneyModel", "takeAfter", "(III)I"⟩, 30), (⟨"FirstChimneyModel", "takeNumber", "(II)I"⟩, 30), (⟨"FirstChimneyModel", "readOnce", "()V"⟩, 30), (⟨"FirstChimneyModel", "whole", "(I)V"⟩, 30), (⟨"FirstChimneyModel", "test", "(I)V"⟩, 30), (⟨"FirstChimneyModel", "sums", "(I)V"⟩, 30), (⟨"FirstChimneyModel", "products", "(I)V"⟩, 30), (⟨"FirstChimneyModel", "takePart", "(I)V"⟩, 30), (⟨"FirstChimneyModel", "isSign", "(I)Z"⟩, 30), (⟨"FirstChimneyModel", "emit", "(II)V"⟩, 30), (⟨"FirstChimneyModel", "hasSign", "(I)Z"⟩, 30), (⟨"FirstChimneyModel", "takeSign", "(I)V"⟩, 30)]
theorem lw_r4 : ∀ q ∈ lw_privs_4, lw_okq q := List.forall_mem_cons.mpr ⟨lw_p48, List.forall_mem_cons.mpr ⟨lw_p49, List.forall_mem_cons.mpr ⟨lw_p50, List.forall_mem_cons.mpr ⟨lw_p51, List.forall_mem_cons.mpr ⟨lw_p52, List.forall_mem_cons.mpr ⟨lw_p53, List.forall_mem_cons.mpr ⟨lw_p54, List.forall_mem_cons.mpr ⟨lw_p55, List.forall_mem_cons.mpr ⟨lw_p56, List.forall_mem_cons.mpr ⟨lw_p57, List.forall_mem_cons.mpr ⟨lw_p58, List.forall_mem_cons.mpr ⟨lw_p59, List.forall_mem_cons.mpr ⟨lw_p60, List.forall_mem_cons.mpr ⟨lw_p61, List.forall_mem_cons.mpr ⟨lw_p62, List.forall_mem_cons.mpr ⟨lw_p63, fun _ h => absurd h List.not_mem_nil⟩⟩⟩⟩⟩⟩⟩⟩⟩⟩⟩⟩⟩⟩⟩⟩
theorem lw_p64 : lw_okq (⟨"FirstChimneyModel", "readMorning", "(II)V"⟩, 30) := ⟨⟨by decide +kernel, by decide +kernel⟩, List.mem_of_getElem? (i := 1182) (by decide +kernel), List.mem_of_getElem? (i := 1460) (by decide +kernel), List.mem_of_getElem? (i := 1461) (by decide +kernel)⟩
theorem lw_p65 : lw_okq (⟨"FirstChimneyModel", "isPlace", "(I)Z"⟩, 30) := ⟨⟨by decide +kernel, by decide +kernel⟩, List.mem_of_getElem? (i := 1182) (by decide +kernel), List.mem_of_getElem? (i := 1468) (by decide +kernel), List.mem_of_getElem? (i := 1469) (by decide +kernel)⟩
theorem lw_p66 : lw_okq (⟨"FirstChimneyModel", "places", "()I"⟩, 30) := ⟨⟨by decide +kernel, by decide +kernel⟩, List.mem_of_getElem? (i := 1182) (by decide +kernel), List.mem_of_getElem? (i := 1472) (by decide +kernel), List.mem_of_getElem? (i := 1473) (by decide +kernel)⟩
theorem lw_p67 : lw_okq (⟨"FirstChimneyModel", "pathsFrom", "(I)I"⟩, 30) := ⟨⟨by decide +kernel, by decide +kernel⟩, List.mem_of_getElem? (i := 1182) (by decide +kernel), List.mem_of_getElem? (i := 1476) (by decide +kernel), List.mem_of_getElem? (i := 1477) (by decide +kernel)⟩
theorem lw_p68 : lw_okq (⟨"FirstChimneyModel", "whoIn", "(II)I"⟩, 30) := ⟨⟨by decide +kernel, by decide +kernel⟩, List.mem_of_getElem? (i := 1182) (by decide +kernel), List.mem_of_getElem? (i := 1480) (by decide +kernel), List.mem_of_getElem? (i := 1481) (by decide +kernel)⟩
theorem lw_p69 : lw_okq (⟨"FirstChimneyModel", "awakeAt", "(I)I"⟩, 30) := ⟨⟨by decide +kernel, by decide +kernel⟩, List.mem_of_getElem? (i := 1182) (by decide +kernel), List.mem_of_getElem? (i := 1484) (by decide +kernel), List.mem_of_getElem? (i := 1485) (by decide +kernel)⟩
theorem lw_p70 : lw_okq (⟨"FirstChimneyModel", "isPerson", "(I)Z"⟩, 30) := ⟨⟨by decide +kernel, by decide +kernel⟩, List.mem_of_getElem? (i := 1182) (by decide +kernel), List.mem_of_getElem? (i := 1492) (by decide +kernel), List.mem_of_getElem? (i := 1493) (by decide +kernel)⟩
theorem lw_p71 : lw_okq (⟨"FirstChimneyModel", "isAwake", "(II)Z"⟩, 30) := ⟨⟨by decide +kernel, by decide +kernel⟩, List.mem_of_getElem? (i := 1182) (by decide +kernel), List.mem_of_getElem? (i := 1496) (by decide +kernel), List.mem_of_getElem? (i := 1497) (by decide +kernel)⟩
theorem lw_p72 : lw_okq (⟨"FirstChimneyModel", "isReady", "(II)Z"⟩, 30) := ⟨⟨by decide +kernel, by decide +kernel⟩, List.mem_of_getElem? (i := 1182) (by decide +kernel), List.mem_of_getElem? (i := 1500) (by decide +kernel), List.mem_of_getElem? (i := 1501) (by decide +kernel)⟩
theorem lw_p73 : lw_okq (⟨"FirstChimneyModel", "thingsWith", "(II)I"⟩, 30) := ⟨⟨by decide +kernel, by decide +kernel⟩, List.mem_of_getElem? (i := 1182) (by decide +kernel), List.mem_of_getElem? (i := 1504) (by decide +kernel), List.mem_of_getElem? (i := 1505) (by decide +kernel)⟩
theorem lw_p74 : lw_okq (⟨"FirstChimneyModel", "isThing", "(I)Z"⟩, 30) := ⟨⟨by decide +kernel, by decide +kernel⟩, List.mem_of_getElem? (i := 1182) (by decide +kernel), List.mem_of_getElem? (i := 1512) (by decide +kernel), List.mem_of_getElem? (i := 1513) (by decide +kernel)⟩
theorem lw_p75 : lw_okq (⟨"FirstChimneyModel", "mayWalk", "(III)Z"⟩, 30) := ⟨⟨by decide +kernel, by decide +kernel⟩, List.mem_of_getElem? (i := 1182) (by decide +kernel), List.mem_of_getElem? (i := 1520) (by decide +kernel), List.mem_of_getElem? (i := 1521) (by decide +kernel)⟩
theorem lw_p76 : lw_okq (⟨"FirstChimneyModel", "keeps", "()V"⟩, 30) := ⟨⟨by decide +kernel, by decide +kernel⟩, List.mem_of_getElem? (i := 1182) (by decide +kernel), List.mem_of_getElem? (i := 1524) (by decide +kernel), List.mem_of_getElem? (i := 1525) (by decide +kernel)⟩
theorem lw_p77 : lw_okq (⟨"FirstChimneyModel", "copies", "(III)V"⟩, 30) := ⟨⟨by decide +kernel, by decide +kernel⟩, List.mem_of_getElem? (i := 1182) (by decide +kernel), List.mem_of_getElem? (i := 1528) (by decide +kernel), List.mem_of_getElem? (i := 1529) (by decide +kernel)⟩
theorem lw_p78 : lw_okq (⟨"FirstChimneyModel", "walks", "(III)V"⟩, 30) := ⟨⟨by decide +kernel, by decide +kernel⟩, List.mem_of_getElem? (i := 1182) (by decide +kernel), List.mem_of_getElem? (i := 1532) (by decide +kernel), List.mem_of_getElem? (i := 1533) (by decide +kernel)⟩
theorem lw_p79 : lw_okq (⟨"FirstChimneyModel", "mayGive", "(III)Z"⟩, 30) := ⟨⟨by decide +kernel, by decide +kernel⟩, List.mem_of_getElem? (i := 1182) (by decide +kernel), List.mem_of_getElem? (i := 1540) (by decide +kernel), List.mem_of_getElem? (i := 1541) (by decide +kernel)⟩
def lw_privs_5 : List (MethodName × Nat) := [(⟨"FirstChimneyModel", "readMorning", "(II)V"⟩, 30), (⟨"FirstChimneyModel", "isPlace", "(I)Z"⟩, 30), (⟨"FirstChimneyModel", "places", "()I"⟩, 30), (⟨"FirstChimneyModel", "pathsFrom", "(I)I"⟩, 30), (⟨"FirstChimneyModel", "whoIn", "(II)I"⟩, 30), (⟨"FirstChimneyModel", "awakeAt", "(I)I"⟩, 30), (⟨"FirstChimneyModel", "isPerson", "(I)Z"⟩, 30), (⟨"FirstChimneyModel", "isAwake", "(II)Z"⟩, 30), (⟨"FirstChimneyModel", "isReady", "(II)Z"⟩, 30), (⟨"FirstChimneyModel", "thingsWith", "(II)I"⟩, 30), (⟨"FirstChimneyModel", "isThing", "(I)Z"⟩, 30), (⟨"FirstChimneyModel", "mayWalk", "(III)Z"⟩, 30), (⟨"FirstChimneyModel", "keeps", "()V"⟩, 30), (⟨"FirstChimneyModel", "copies", "(III)V"⟩, 30), (⟨"FirstChimneyModel", "walks", "(III)V"⟩, 30), (⟨"FirstChimneyModel", "mayGive", "(III)Z"⟩, 30)]
theorem lw_r5 : ∀ q ∈ lw_privs_5, lw_okq q := List.forall_mem_cons.mpr ⟨lw_p64, List.forall_mem_cons.mpr ⟨lw_p65, List.forall_mem_cons.mpr ⟨lw_p66, List.forall_mem_cons.mpr ⟨lw_p67, List.forall_mem_cons.mpr ⟨lw_p68, List.forall_mem_cons.mpr ⟨lw_p69, List.forall_mem_cons.mpr ⟨lw_p70, List.forall_mem_cons.mpr ⟨lw_p71, List.forall_mem_cons.mpr ⟨lw_p72, List.forall_mem_cons.mpr ⟨lw_p73, List.forall_mem_cons.mpr ⟨lw_p74, List.forall_mem_cons.mpr ⟨lw_p75, List.forall_mem_cons.mpr ⟨lw_p76, List.forall_mem_cons.mpr ⟨lw_p77, List.forall_mem_cons.mpr ⟨lw_p78, List.forall_mem_cons.mpr ⟨lw_p79, fun _ h => absurd h List.not_mem_nil⟩⟩⟩⟩⟩⟩⟩⟩⟩⟩⟩⟩⟩⟩⟩⟩
theorem lw_p80 : lw_okq (⟨"FirstChimneyModel", "gives", "(III)Z"⟩, 30) := ⟨⟨by decide +kernel, by decide +kernel⟩, List.mem_of_getElem? (i := 1182) (by decide +kernel), List.mem_of_getElem? (i := 1544) (by decide +kernel), List.mem_of_getElem? (i := 1545) (by decide +kernel)⟩
theorem lw_p81 : lw_okq (⟨"FirstChimneyModel", "doesBind", "(IIIII)Z"⟩, 30) := ⟨⟨by decide +kernel, by decide +kernel⟩, List.mem_of_getElem? (i := 1182) (by decide +kernel), List.mem_of_getElem? (i := 1548) (by decide +kernel), List.mem_of_getElem? (i := 1549) (by decide +kernel)⟩
theorem lw_p82 : lw_okq (⟨"FirstChimneyModel", "benches", "()I"⟩, 30) := ⟨⟨by decide +kernel, by decide +kernel⟩, List.mem_of_getElem? (i := 1182) (by decide +kernel), List.mem_of_getElem? (i := 1555) (by decide +kernel), List.mem_of_getElem? (i := 1556) (by decide +kernel)⟩
theorem lw_p83 : lw_okq (⟨"FirstChimneyModel", "worthAt", "(I)I"⟩, 30) := ⟨⟨by decide +kernel, by decide +kernel⟩, List.mem_of_getElem? (i := 1182) (by decide +kernel), List.mem_of_getElem? (i := 1559) (by decide +kernel), List.mem_of_getElem? (i := 1560) (by decide +kernel)⟩
theorem lw_p84 : lw_okq (⟨"FirstChimneyModel", "mayVow", "(III)Z"⟩, 30) := ⟨⟨by decide +kernel, by decide +kernel⟩, List.mem_of_getElem? (i := 1182) (by decide +kernel), List.mem_of_getElem? (i := 1570) (by decide +kernel), List.mem_of_getElem? (i := 1571) (by decide +kernel)⟩
theorem lw_p85 : lw_okq (⟨"FirstChimneyModel", "vowsBy", "(III)Z"⟩, 30) := ⟨⟨by decide +kernel, by decide +kernel⟩, List.mem_of_getElem? (i := 1182) (by decide +kernel), List.mem_of_getElem? (i := 1574) (by decide +kernel), List.mem_of_getElem? (i := 1575) (by decide +kernel)⟩
theorem lw_p86 : lw_okq (⟨"FirstChimneyModel", "passes", "(I)Z"⟩, 30) := ⟨⟨by decide +kernel, by decide +kernel⟩, List.mem_of_getElem? (i := 1182) (by decide +kernel), List.mem_of_getElem? (i := 1582) (by decide +kernel), List.mem_of_getElem? (i := 1583) (by decide +kernel)⟩
theorem lw_p87 : lw_okq (⟨"FirstChimneyModel", "smokeAt", "()I"⟩, 30) := ⟨⟨by decide +kernel, by decide +kernel⟩, List.mem_of_getElem? (i := 1182) (by decide +kernel), List.mem_of_getElem? (i := 1586) (by decide +kernel), List.mem_of_getElem? (i := 1587) (by decide +kernel)⟩
theorem lw_p88 : lw_okq (⟨"FirstChimneyModel", "smokes", "(I)V"⟩, 30) := ⟨⟨by decide +kernel, by decide +kernel⟩, List.mem_of_getElem? (i := 1182) (by decide +kernel), List.mem_of_getElem? (i := 1590) (by decide +kernel), List.mem_of_getElem? (i := 1591) (by decide +kernel)⟩
theorem lw_p89 : lw_okq (⟨"FirstChimneyModel", "reachBy", "(II)I"⟩, 30) := ⟨⟨by decide +kernel, by decide +kernel⟩, List.mem_of_getElem? (i := 1182) (by decide +kernel), List.mem_of_getElem? (i := 1606) (by decide +kernel), List.mem_of_getElem? (i := 1607) (by decide +kernel)⟩
theorem lw_p90 : lw_okq (⟨"FirstChimneyModel", "onFrom", "(II)I"⟩, 30) := ⟨⟨by decide +kernel, by decide +kernel⟩, List.mem_of_getElem? (i := 1182) (by decide +kernel), List.mem_of_getElem? (i := 1610) (by decide +kernel), List.mem_of_getElem? (i := 1611) (by decide +kernel)⟩
theorem lw_p91 : lw_okq (⟨"FirstChimneyModel", "farOf", "(II)I"⟩, 30) := ⟨⟨by decide +kernel, by decide +kernel⟩, List.mem_of_getElem? (i := 1182) (by decide +kernel), List.mem_of_getElem? (i := 1618) (by decide +kernel), List.mem_of_getElem? (i := 1619) (by decide +kernel)⟩
theorem lw_p92 : lw_okq (⟨"FirstChimneyModel", "soonOf", "(II)I"⟩, 30) := ⟨⟨by decide +kernel, by decide +kernel⟩, List.mem_of_getElem? (i := 1182) (by decide +kernel), List.mem_of_getElem? (i := 1642) (by decide +kernel), List.mem_of_getElem? (i := 1643) (by decide +kernel)⟩
theorem lw_p93 : lw_okq (⟨"FirstChimneyModel", "readyIn", "(I)I"⟩, 30) := ⟨⟨by decide +kernel, by decide +kernel⟩, List.mem_of_getElem? (i := 1182) (by decide +kernel), List.mem_of_getElem? (i := 1646) (by decide +kernel), List.mem_of_getElem? (i := 1647) (by decide +kernel)⟩
theorem lw_p94 : lw_okq (⟨"FirstChimneyModel", "paceOf", "(I)I"⟩, 30) := ⟨⟨by decide +kernel, by decide +kernel⟩, List.mem_of_getElem? (i := 1182) (by decide +kernel), List.mem_of_getElem? (i := 1650) (by decide +kernel), List.mem_of_getElem? (i := 1651) (by decide +kernel)⟩
theorem lw_p95 : lw_okq (⟨"FirstChimneyModel", "wrongThings", "(I)I"⟩, 30) := ⟨⟨by decide +kernel, by decide +kernel⟩, List.mem_of_getElem? (i := 1182) (by decide +kernel), List.mem_of_getElem? (i := 1677) (by decide +kernel), List.mem_of_getElem? (i := 1678) (by decide +kernel)⟩
def lw_privs_6 : List (MethodName × Nat) := [(⟨"FirstChimneyModel", "gives", "(III)Z"⟩, 30), (⟨"FirstChimneyModel", "doesBind", "(IIIII)Z"⟩, 30), (⟨"FirstChimneyModel", "benches", "()I"⟩, 30), (⟨"FirstChimneyModel", "worthAt", "(I)I"⟩, 30), (⟨"FirstChimneyModel", "mayVow", "(III)Z"⟩, 30), (⟨"FirstChimneyModel", "vowsBy", "(III)Z"⟩, 30), (⟨"FirstChimneyModel", "passes", "(I)Z"⟩, 30), (⟨"FirstChimneyModel", "smokeAt", "()I"⟩, 30), (⟨"FirstChimneyModel", "smokes", "(I)V"⟩, 30), (⟨"FirstChimneyModel", "reachBy", "(II)I"⟩, 30), (⟨"FirstChimneyModel", "onFrom", "(II)I"⟩, 30), (⟨"FirstChimneyModel", "farOf", "(II)I"⟩, 30), (⟨"FirstChimneyModel", "soonOf", "(II)I"⟩, 30), (⟨"FirstChimneyModel", "readyIn", "(I)I"⟩, 30), (⟨"FirstChimneyModel", "paceOf", "(I)I"⟩, 30), (⟨"FirstChimneyModel", "wrongThings", "(I)I"⟩, 30)]
theorem lw_r6 : ∀ q ∈ lw_privs_6, lw_okq q := List.forall_mem_cons.mpr ⟨lw_p80, List.forall_mem_cons.mpr ⟨lw_p81, List.forall_mem_cons.mpr ⟨lw_p82, List.forall_mem_cons.mpr ⟨lw_p83, List.forall_mem_cons.mpr ⟨lw_p84, List.forall_mem_cons.mpr ⟨lw_p85, List.forall_mem_cons.mpr ⟨lw_p86, List.forall_mem_cons.mpr ⟨lw_p87, List.forall_mem_cons.mpr ⟨lw_p88, List.forall_mem_cons.mpr ⟨lw_p89, List.forall_mem_cons.mpr ⟨lw_p90, List.forall_mem_cons.mpr ⟨lw_p91, List.forall_mem_cons.mpr ⟨lw_p92, List.forall_mem_cons.mpr ⟨lw_p93, List.forall_mem_cons.mpr ⟨lw_p94, List.forall_mem_cons.mpr ⟨lw_p95, fun _ h => absurd h List.not_mem_nil⟩⟩⟩⟩⟩⟩⟩⟩⟩⟩⟩⟩⟩⟩⟩⟩
theorem lw_p96 : lw_okq (⟨"FirstChimneyModel", "isGift", "(II)Z"⟩, 30) := ⟨⟨by decide +kernel, by decide +kernel⟩, List.mem_of_getElem? (i := 1182) (by decide +kernel), List.mem_of_getElem? (i := 1689) (by decide +kernel), List.mem_of_getElem? (i := 1690) (by decide +kernel)⟩
theorem lw_p97 : lw_okq (⟨"FirstChimneyModel", "wouldBind", "(III)Z"⟩, 30) := ⟨⟨by decide +kernel, by decide +kernel⟩, List.mem_of_getElem? (i := 1182) (by decide +kernel), List.mem_of_getElem? (i := 1693) (by decide +kernel), List.mem_of_getElem? (i := 1694) (by decide +kernel)⟩
theorem lw_p98 : lw_okq (⟨"FirstChimneyModel", "triesNow", "()V"⟩, 30) := ⟨⟨by decide +kernel, by decide +kernel⟩, List.mem_of_getElem? (i := 1182) (by decide +kernel), List.mem_of_getElem? (i := 1717) (by decide +kernel), List.mem_of_getElem? (i := 1718) (by decide +kernel)⟩
theorem lw_p99 : lw_okq (⟨"FirstChimneyModel", "heardOfAll", "(I)I"⟩, 30) := ⟨⟨by decide +kernel, by decide +kernel⟩, List.mem_of_getElem? (i := 1182) (by decide +kernel), List.mem_of_getElem? (i := 1721) (by decide +kernel), List.mem_of_getElem? (i := 1722) (by decide +kernel)⟩
theorem lw_p100 : lw_okq (⟨"FirstChimneyModel", "whoNow", "()I"⟩, 30) := ⟨⟨by decide +kernel, by decide +kernel⟩, List.mem_of_getElem? (i := 1182) (by decide +kernel), List.mem_of_getElem? (i := 1737) (by decide +kernel), List.mem_of_getElem? (i := 1738) (by decide +kernel)⟩
theorem lw_p101 : lw_okq (⟨"FirstChimneyModel", "worthOf", "(IZ)I"⟩, 30) := ⟨⟨by decide +kernel, by decide +kernel⟩, List.mem_of_getElem? (i := 1182) (by decide +kernel), List.mem_of_getElem? (i := 1749) (by decide +kernel), List.mem_of_getElem? (i := 1750) (by decide +kernel)⟩
theorem lw_p102 : lw_okq (⟨"FirstChimneyModel", "drawsDeed", "()Z"⟩, 30) := ⟨⟨by decide +kernel, by decide +kernel⟩, List.mem_of_getElem? (i := 1182) (by decide +kernel), List.mem_of_getElem? (i := 1777) (by decide +kernel), List.mem_of_getElem? (i := 1778) (by decide +kernel)⟩
theorem lw_p103 : lw_okq (⟨"FirstChimneyModel", "draw", "(I)I"⟩, 30) := ⟨⟨by decide +kernel, by decide +kernel⟩, List.mem_of_getElem? (i := 1182) (by decide +kernel), List.mem_of_getElem? (i := 1781) (by decide +kernel), List.mem_of_getElem? (i := 1782) (by decide +kernel)⟩
theorem lw_p104 : lw_okq (⟨"FirstChimneyModel", "pairsOf", "(I)I"⟩, 30) := ⟨⟨by decide +kernel, by decide +kernel⟩, List.mem_of_getElem? (i := 1182) (by decide +kernel), List.mem_of_getElem? (i := 1797) (by decide +kernel), List.mem_of_getElem? (i := 1798) (by decide +kernel)⟩
def lw_privs_7 : List (MethodName × Nat) := [(⟨"FirstChimneyModel", "isGift", "(II)Z"⟩, 30), (⟨"FirstChimneyModel", "wouldBind", "(III)Z"⟩, 30), (⟨"FirstChimneyModel", "triesNow", "()V"⟩, 30), (⟨"FirstChimneyModel", "heardOfAll", "(I)I"⟩, 30), (⟨"FirstChimneyModel", "whoNow", "()I"⟩, 30), (⟨"FirstChimneyModel", "worthOf", "(IZ)I"⟩, 30), (⟨"FirstChimneyModel", "drawsDeed", "()Z"⟩, 30), (⟨"FirstChimneyModel", "draw", "(I)I"⟩, 30), (⟨"FirstChimneyModel", "pairsOf", "(I)I"⟩, 30)]
theorem lw_r7 : ∀ q ∈ lw_privs_7, lw_okq q := List.forall_mem_cons.mpr ⟨lw_p96, List.forall_mem_cons.mpr ⟨lw_p97, List.forall_mem_cons.mpr ⟨lw_p98, List.forall_mem_cons.mpr ⟨lw_p99, List.forall_mem_cons.mpr ⟨lw_p100, List.forall_mem_cons.mpr ⟨lw_p101, List.forall_mem_cons.mpr ⟨lw_p102, List.forall_mem_cons.mpr ⟨lw_p103, List.forall_mem_cons.mpr ⟨lw_p104, fun _ h => absurd h List.not_mem_nil⟩⟩⟩⟩⟩⟩⟩⟩⟩
def lw_privs : List (MethodName × Nat) := lw_privs_1 ++ (lw_privs_2 ++ (lw_privs_3 ++ (lw_privs_4 ++ (lw_privs_5 ++ (lw_privs_6 ++ (lw_privs_7))))))
def lw_tbl : List Cond := k2_sels lw_privs ++ tables_1
theorem lw_privs_ok : ∀ q ∈ lw_privs, lw_okq q := by
  show ∀ q ∈ lw_privs_1 ++ (lw_privs_2 ++ (lw_privs_3 ++ (lw_privs_4 ++ (lw_privs_5 ++ (lw_privs_6 ++ (lw_privs_7)))))), lw_okq q
  exact List.forall_mem_append.mpr ⟨lw_r1, List.forall_mem_append.mpr ⟨lw_r2, List.forall_mem_append.mpr ⟨lw_r3, List.forall_mem_append.mpr ⟨lw_r4, List.forall_mem_append.mpr ⟨lw_r5, List.forall_mem_append.mpr ⟨lw_r6, lw_r7⟩⟩⟩⟩⟩⟩
-- ===== end of PART A; then your names; then what follows =====
end
section
def RX0 : String := "FirstChimney$Land"
def TX0 : u_T := fun k => match k with
  | 0 => ("FirstChimney$Land", "placeNames", "[J", true)
  | 1 => ("FirstChimney$Land", "personNames", "[J", true)
  | 2 => ("FirstChimney$Land", "thingNames", "[J", true)
  | 3 => ("FirstChimney$Land", "paths", "[I", true)
  | 4 => ("FirstChimney$Land", "kinds", "[I", true)
  | 5 => ("FirstChimney$Land", "houses", "[I", true)
  | 6 => ("FirstChimney$Land", "wakes", "[I", true)
  | 7 => ("FirstChimney$Land", "worths", "[I", true)
  | 8 => ("FirstChimney$Land", "givers", "[I", true)
  | 9 => ("FirstChimney$Land", "law", "LFirstChimney$Law;", true)
  | 10 => ("FirstChimney$Land", "places", "I", false)
  | 11 => ("FirstChimney$Land", "pathsTold", "I", false)
  | 12 => ("FirstChimney$Land", "persons", "I", false)
  | 13 => ("FirstChimney$Land", "things", "I", false)
  | _ => ("FirstChimney$Land", "smoke", "I", false)
def tyX0 : Nat → FieldType := fun k => match k with
  | 0 => .array .long
  | 1 => .array .long
  | 2 => .array .long
  | 3 => .array .int
  | 4 => .array .int
  | 5 => .array .int
  | 6 => .array .int
  | 7 => .array .int
  | 8 => .array .int
  | 9 => .object "FirstChimney$Law"
  | 10 => .int
  | 11 => .int
  | 12 => .int
  | 13 => .int
  | _ => .int
abbrev wsX00 : List Cond := u_ws RX0 TX0 15
theorem nmX0 : ∀ a, a < 15 → ∀ b, b < 15 → a ≠ b → (TX0 a).2.1 ≠ (TX0 b).2.1 := by decide +kernel
theorem tyX0_ok : ∀ k, k < 15 → parseFieldDescriptor (TX0 k).2.2.1 = some (tyX0 k) := by decide +kernel
abbrev cX0_init : ByteArray := prog_2_method_1_code
def yX0_init : MethodName := ⟨RX0, "<init>", "()V"⟩
abbrev cX0_clear : ByteArray := prog_2_method_2_code
def yX0_clear : MethodName := ⟨RX0, "clear", "()V"⟩
abbrev cX0_indexOf : ByteArray := prog_2_method_3_code
def yX0_indexOf : MethodName := ⟨RX0, "indexOf", "([JIJ)I"⟩
abbrev cX0_isTold : ByteArray := prog_2_method_4_code
def yX0_isTold : MethodName := ⟨RX0, "isTold", "(J)Z"⟩
abbrev cX0_hasPlace : ByteArray := prog_2_method_5_code
def yX0_hasPlace : MethodName := ⟨RX0, "hasPlace", "(I)Z"⟩
abbrev cX0_hasPerson : ByteArray := prog_2_method_6_code
def yX0_hasPerson : MethodName := ⟨RX0, "hasPerson", "(I)Z"⟩
abbrev cX0_hasThing : ByteArray := prog_2_method_7_code
def yX0_hasThing : MethodName := ⟨RX0, "hasThing", "(I)Z"⟩
abbrev cX0_isAwake : ByteArray := prog_2_method_8_code
def yX0_isAwake : MethodName := ⟨RX0, "isAwake", "(II)Z"⟩
abbrev cX0_sleepOf : ByteArray := prog_2_method_9_code
def yX0_sleepOf : MethodName := ⟨RX0, "sleepOf", "(II)I"⟩
abbrev cX0_awakeBits : ByteArray := prog_2_method_10_code
def yX0_awakeBits : MethodName := ⟨RX0, "awakeBits", "(I)I"⟩
def RX1 : String := "FirstChimney$LandReader"
def TX1 : u_T := fun k => match k with
  | 0 => ("FirstChimney$LandReader", "lawReader", "LFirstChimney$LawReader;", true)
  | 1 => ("FirstChimney$LandReader", "smokeTold", "Z", false)
  | _ => ("FirstChimney$LandReader", "bindsTold", "Z", false)
def tyX1 : Nat → FieldType := fun k => match k with
  | 0 => .object "FirstChimney$LawReader"
  | 1 => .boolean
  | _ => .boolean
abbrev wsX10 : List Cond := u_ws RX1 TX1 3
theorem nmX1 : ∀ a, a < 3 → ∀ b, b < 3 → a ≠ b → (TX1 a).2.1 ≠ (TX1 b).2.1 := by decide +kernel
theorem tyX1_ok : ∀ k, k < 3 → parseFieldDescriptor (TX1 k).2.2.1 = some (tyX1 k) := by decide +kernel
abbrev cX1_init : ByteArray := prog_3_method_1_code
def yX1_init : MethodName := ⟨RX1, "<init>", "()V"⟩
abbrev cX1_read : ByteArray := prog_3_method_2_code
def yX1_read : MethodName := ⟨RX1, "read", "(LFirstChimney$Tape;LFirstChimney$Land;)I"⟩
abbrev cX1_isNewName : ByteArray := prog_3_method_3_code
def yX1_isNewName : MethodName := ⟨RX1, "isNewName", "(LFirstChimney$Tape;LFirstChimney$Land;)Z"⟩
abbrev cX1_readPlace : ByteArray := prog_3_method_4_code
def yX1_readPlace : MethodName := ⟨RX1, "readPlace", "(LFirstChimney$Tape;LFirstChimney$Land;)Z"⟩
abbrev cX1_readPath : ByteArray := prog_3_method_5_code
def yX1_readPath : MethodName := ⟨RX1, "readPath", "(LFirstChimney$Tape;LFirstChimney$Land;)Z"⟩
abbrev cX1_readPerson : ByteArray := prog_3_method_6_code
def yX1_readPerson : MethodName := ⟨RX1, "readPerson", "(LFirstChimney$Tape;LFirstChimney$Land;)Z"⟩
abbrev cX1_readThing : ByteArray := prog_3_method_7_code
def yX1_readThing : MethodName := ⟨RX1, "readThing", "(LFirstChimney$Tape;LFirstChimney$Land;)Z"⟩
abbrev cX1_readSmoke : ByteArray := prog_3_method_8_code
def yX1_readSmoke : MethodName := ⟨RX1, "readSmoke", "(LFirstChimney$Tape;LFirstChimney$Land;)Z"⟩
abbrev cX1_readBinds : ByteArray := prog_3_method_9_code
def yX1_readBinds : MethodName := ⟨RX1, "readBinds", "(LFirstChimney$Tape;LFirstChimney$Land;)Z"⟩
def RX2 : String := "FirstChimney$Law"
def TX2 : u_T := fun k => match k with
  | 0 => ("FirstChimney$Law", "code", "[I", true)
  | 1 => ("FirstChimney$Law", "values", "[I", true)
  | _ => ("FirstChimney$Law", "length", "I", false)
def tyX2 : Nat → FieldType := fun k => match k with
  | 0 => .array .int
  | 1 => .array .int
  | _ => .int
abbrev wsX20 : List Cond := u_ws RX2 TX2 3
theorem nmX2 : ∀ a, a < 3 → ∀ b, b < 3 → a ≠ b → (TX2 a).2.1 ≠ (TX2 b).2.1 := by decide +kernel
theorem tyX2_ok : ∀ k, k < 3 → parseFieldDescriptor (TX2 k).2.2.1 = some (tyX2 k) := by decide +kernel
abbrev cX2_init : ByteArray := prog_4_method_1_code
def yX2_init : MethodName := ⟨RX2, "<init>", "()V"⟩
abbrev cX2_write : ByteArray := prog_4_method_2_code
def yX2_write : MethodName := ⟨RX2, "write", "(I)V"⟩
abbrev cX2_valueAt : ByteArray := prog_4_method_3_code
def yX2_valueAt : MethodName := ⟨RX2, "valueAt", "(IIII)I"⟩
abbrev cX2_operand : ByteArray := prog_4_method_4_code
def yX2_operand : MethodName := ⟨RX2, "operand", "(IIIII)I"⟩
abbrev cX2_joined : ByteArray := prog_4_method_5_code
def yX2_joined : MethodName := ⟨RX2, "joined", "(III)I"⟩
def RX3 : String := "FirstChimney$LawReader"
def TX3 : u_T := fun k => match k with
  | 0 => ("FirstChimney$LawReader", "waiting", "[I", true)
  | 1 => ("FirstChimney$LawReader", "top", "I", false)
  | 2 => ("FirstChimney$LawReader", "depth", "I", false)
  | _ => ("FirstChimney$LawReader", "partDue", "Z", false)
def tyX3 : Nat → FieldType := fun k => match k with
  | 0 => .array .int
  | 1 => .int
  | 2 => .int
  | _ => .boolean
abbrev wsX30 : List Cond := u_ws RX3 TX3 4
theorem nmX3 : ∀ a, a < 4 → ∀ b, b < 4 → a ≠ b → (TX3 a).2.1 ≠ (TX3 b).2.1 := by decide +kernel
theorem tyX3_ok : ∀ k, k < 4 → parseFieldDescriptor (TX3 k).2.2.1 = some (tyX3 k) := by decide +kernel
abbrev cX3_init : ByteArray := prog_5_method_1_code
def yX3_init : MethodName := ⟨RX3, "<init>", "()V"⟩
abbrev cX3_read : ByteArray := prog_5_method_2_code
def yX3_read : MethodName := ⟨RX3, "read", "(LFirstChimney$Tape;LFirstChimney$Law;)Z"⟩
abbrev cX3_readPart : ByteArray := prog_5_method_3_code
def yX3_readPart : MethodName := ⟨RX3, "readPart", "(LFirstChimney$Tape;LFirstChimney$Law;)Z"⟩
abbrev cX3_readBehind : ByteArray := prog_5_method_4_code
def yX3_readBehind : MethodName := ⟨RX3, "readBehind", "(LFirstChimney$Tape;LFirstChimney$Law;)Z"⟩
abbrev cX3_closeNots : ByteArray := prog_5_method_5_code
def yX3_closeNots : MethodName := ⟨RX3, "closeNots", "(LFirstChimney$Law;)V"⟩
abbrev cX3_await : ByteArray := prog_5_method_6_code
def yX3_await : MethodName := ⟨RX3, "await", "(I)V"⟩
abbrev cX3_writeDown : ByteArray := prog_5_method_7_code
def yX3_writeDown : MethodName := ⟨RX3, "writeDown", "(LFirstChimney$Law;I)V"⟩
abbrev cX3_rankOf : ByteArray := prog_5_method_8_code
def yX3_rankOf : MethodName := ⟨RX3, "rankOf", "(I)I"⟩
def RX4 : String := "FirstChimney$Past"
def TX4 : u_T := fun k => match k with
  | 0 => ("FirstChimney$Past", "ring", "[LFirstChimney$State;", true)
  | 1 => ("FirstChimney$Past", "marked", "[LFirstChimney$State;", true)
  | 2 => ("FirstChimney$Past", "markedSeen", "[LFirstChimney$Seen;", true)
  | 3 => ("FirstChimney$Past", "laid", "[Z", true)
  | 4 => ("FirstChimney$Past", "nextSlot", "I", false)
  | _ => ("FirstChimney$Past", "kept", "I", false)
def tyX4 : Nat → FieldType := fun k => match k with
  | 0 => .array (.object "FirstChimney$State")
  | 1 => .array (.object "FirstChimney$State")
  | 2 => .array (.object "FirstChimney$Seen")
  | 3 => .array .boolean
  | 4 => .int
  | _ => .int
abbrev wsX40 : List Cond := u_ws RX4 TX4 6
theorem nmX4 : ∀ a, a < 6 → ∀ b, b < 6 → a ≠ b → (TX4 a).2.1 ≠ (TX4 b).2.1 := by decide +kernel
theorem tyX4_ok : ∀ k, k < 6 → parseFieldDescriptor (TX4 k).2.2.1 = some (tyX4 k) := by decide +kernel
abbrev cX4_init : ByteArray := prog_6_method_1_code
def yX4_init : MethodName := ⟨RX4, "<init>", "()V"⟩
abbrev cX4_forget : ByteArray := prog_6_method_2_code
def yX4_forget : MethodName := ⟨RX4, "forget", "()V"⟩
abbrev cX4_keep : ByteArray := prog_6_method_3_code
def yX4_keep : MethodName := ⟨RX4, "keep", "(LFirstChimney$State;)V"⟩
abbrev cX4_bringBack : ByteArray := prog_6_method_4_code
def yX4_bringBack : MethodName := ⟨RX4, "bringBack", "(LFirstChimney$State;)Z"⟩
abbrev cX4_lay : ByteArray := prog_6_method_5_code
def yX4_lay : MethodName := ⟨RX4, "lay", "(ILFirstChimney$State;LFirstChimney$Seen;)V"⟩
abbrev cX4_goBack : ByteArray := prog_6_method_6_code
def yX4_goBack : MethodName := ⟨RX4, "goBack", "(ILFirstChimney$State;LFirstChimney$Seen;)Z"⟩
def RX5 : String := "FirstChimney$Script"
def TX5 : u_T := fun k => match k with
  | 0 => ("FirstChimney$Script", "deeds", "[I", true)
  | 1 => ("FirstChimney$Script", "ones", "[I", true)
  | 2 => ("FirstChimney$Script", "others", "[I", true)
  | _ => ("FirstChimney$Script", "lines", "I", false)
def tyX5 : Nat → FieldType := fun k => match k with
  | 0 => .array .int
  | 1 => .array .int
  | 2 => .array .int
  | _ => .int
abbrev wsX50 : List Cond := u_ws RX5 TX5 4
theorem nmX5 : ∀ a, a < 4 → ∀ b, b < 4 → a ≠ b → (TX5 a).2.1 ≠ (TX5 b).2.1 := by decide +kernel
theorem tyX5_ok : ∀ k, k < 4 → parseFieldDescriptor (TX5 k).2.2.1 = some (tyX5 k) := by decide +kernel
abbrev cX5_init : ByteArray := prog_7_method_1_code
def yX5_init : MethodName := ⟨RX5, "<init>", "()V"⟩
abbrev cX5_read : ByteArray := prog_7_method_2_code
def yX5_read : MethodName := ⟨RX5, "read", "(LFirstChimney$Tape;LFirstChimney$Land;)I"⟩
abbrev cX5_readLine : ByteArray := prog_7_method_3_code
def yX5_readLine : MethodName := ⟨RX5, "readLine", "(LFirstChimney$Tape;LFirstChimney$Land;)Z"⟩
abbrev cX5_readNames : ByteArray := prog_7_method_4_code
def yX5_readNames : MethodName := ⟨RX5, "readNames", "(LFirstChimney$Tape;LFirstChimney$Land;I)Z"⟩
abbrev cX5_play : ByteArray := prog_7_method_5_code
def yX5_play : MethodName := ⟨RX5, "play", "(ILFirstChimney$Land;LFirstChimney$State;)I"⟩
def RX6 : String := "FirstChimney$Seen"
def TX6 : u_T := fun k => match k with
  | 0 => ("FirstChimney$Seen", "places", "[I", true)
  | 1 => ("FirstChimney$Seen", "minutes", "[I", true)
  | 2 => ("FirstChimney$Seen", "can", "[Z", true)
  | _ => ("FirstChimney$Seen", "number", "I", false)
def tyX6 : Nat → FieldType := fun k => match k with
  | 0 => .array .int
  | 1 => .array .int
  | 2 => .array .boolean
  | _ => .int
abbrev wsX60 : List Cond := u_ws RX6 TX6 4
theorem nmX6 : ∀ a, a < 4 → ∀ b, b < 4 → a ≠ b → (TX6 a).2.1 ≠ (TX6 b).2.1 := by decide +kernel
theorem tyX6_ok : ∀ k, k < 4 → parseFieldDescriptor (TX6 k).2.2.1 = some (tyX6 k) := by decide +kernel
abbrev cX6_init : ByteArray := prog_8_method_1_code
def yX6_init : MethodName := ⟨RX6, "<init>", "()V"⟩
abbrev cX6_add : ByteArray := prog_8_method_2_code
def yX6_add : MethodName := ⟨RX6, "add", "(IIZ)Z"⟩
abbrev cX6_copy : ByteArray := prog_8_method_3_code
def yX6_copy : MethodName := ⟨RX6, "copy", "(LFirstChimney$Seen;)V"⟩
def RX7 : String := "FirstChimney$State"
def TX7 : u_T := fun k => match k with
  | 0 => ("FirstChimney$State", "morning", "I", false)
  | 1 => ("FirstChimney$State", "minute", "I", false)
  | 2 => ("FirstChimney$State", "where", "[I", true)
  | 3 => ("FirstChimney$State", "acted", "[I", true)
  | 4 => ("FirstChimney$State", "news", "[I", true)
  | 5 => ("FirstChimney$State", "vowed", "[I", true)
  | 6 => ("FirstChimney$State", "rightVows", "[I", true)
  | 7 => ("FirstChimney$State", "holders", "[I", true)
  | _ => ("FirstChimney$State", "owners", "[I", true)
def tyX7 : Nat → FieldType := fun k => match k with
  | 0 => .int
  | 1 => .int
  | 2 => .array .int
  | 3 => .array .int
  | 4 => .array .int
  | 5 => .array .int
  | 6 => .array .int
  | 7 => .array .int
  | _ => .array .int
abbrev wsX70 : List Cond := u_ws RX7 TX7 9
theorem nmX7 : ∀ a, a < 9 → ∀ b, b < 9 → a ≠ b → (TX7 a).2.1 ≠ (TX7 b).2.1 := by decide +kernel
theorem tyX7_ok : ∀ k, k < 9 → parseFieldDescriptor (TX7 k).2.2.1 = some (tyX7 k) := by decide +kernel
abbrev cX7_init : ByteArray := prog_9_method_1_code
def yX7_init : MethodName := ⟨RX7, "<init>", "()V"⟩
abbrev cX7_begin : ByteArray := prog_9_method_2_code
def yX7_begin : MethodName := ⟨RX7, "begin", "(LFirstChimney$Land;)V"⟩
abbrev cX7_copy : ByteArray := prog_9_method_3_code
def yX7_copy : MethodName := ⟨RX7, "copy", "(LFirstChimney$State;)V"⟩
abbrev cX7_bitsAt : ByteArray := prog_9_method_4_code
def yX7_bitsAt : MethodName := ⟨RX7, "bitsAt", "(LFirstChimney$Land;I)I"⟩
abbrev cX7_strayThings : ByteArray := prog_9_method_5_code
def yX7_strayThings : MethodName := ⟨RX7, "strayThings", "(LFirstChimney$Land;)I"⟩
abbrev cX7_newsOfAll : ByteArray := prog_9_method_6_code
def yX7_newsOfAll : MethodName := ⟨RX7, "newsOfAll", "(LFirstChimney$Land;)I"⟩
abbrev cX7_isReady : ByteArray := prog_9_method_7_code
def yX7_isReady : MethodName := ⟨RX7, "isReady", "(LFirstChimney$Land;I)Z"⟩
abbrev cX7_minutesOver : ByteArray := prog_9_method_8_code
def yX7_minutesOver : MethodName := ⟨RX7, "minutesOver", "(LFirstChimney$Land;II)I"⟩
abbrev cX7_canWalk : ByteArray := prog_9_method_9_code
def yX7_canWalk : MethodName := ⟨RX7, "canWalk", "(LFirstChimney$Land;II)Z"⟩
abbrev cX7_goTo : ByteArray := prog_9_method_10_code
def yX7_goTo : MethodName := ⟨RX7, "goTo", "(LFirstChimney$Land;II)V"⟩
abbrev cX7_canGive : ByteArray := prog_9_method_11_code
def yX7_canGive : MethodName := ⟨RX7, "canGive", "(LFirstChimney$Land;II)Z"⟩
abbrev cX7_handOver : ByteArray := prog_9_method_12_code
def yX7_handOver : MethodName := ⟨RX7, "handOver", "(LFirstChimney$Land;II)Z"⟩
abbrev cX7_canVow : ByteArray := prog_9_method_13_code
def yX7_canVow : MethodName := ⟨RX7, "canVow", "(LFirstChimney$Land;II)Z"⟩
abbrev cX7_pledge : ByteArray := prog_9_method_14_code
def yX7_pledge : MethodName := ⟨RX7, "pledge", "(LFirstChimney$Land;II)Z"⟩
abbrev cX7_giftBinds : ByteArray := prog_9_method_15_code
def yX7_giftBinds : MethodName := ⟨RX7, "giftBinds", "(LFirstChimney$Land;III)Z"⟩
abbrev cX7_isBinding : ByteArray := prog_9_method_16_code
def yX7_isBinding : MethodName := ⟨RX7, "isBinding", "(LFirstChimney$Land;IIII)Z"⟩
abbrev cX7_pass : ByteArray := prog_9_method_17_code
def yX7_pass : MethodName := ⟨RX7, "pass", "(LFirstChimney$Land;)Z"⟩
abbrev cX7_shareNews : ByteArray := prog_9_method_18_code
def yX7_shareNews : MethodName := ⟨RX7, "shareNews", "(LFirstChimney$Land;I)V"⟩
abbrev cX7_riseSmoke : ByteArray := prog_9_method_19_code
def yX7_riseSmoke : MethodName := ⟨RX7, "riseSmoke", "(LFirstChimney$Land;)V"⟩
def RX8 : String := "FirstChimney$Tape"
def TX8 : u_T := fun k => match k with
  | 0 => ("FirstChimney$Tape", "signs", "[C", true)
  | 1 => ("FirstChimney$Tape", "length", "I", false)
  | 2 => ("FirstChimney$Tape", "start", "I", false)
  | 3 => ("FirstChimney$Tape", "end", "I", false)
  | 4 => ("FirstChimney$Tape", "kind", "I", false)
  | 5 => ("FirstChimney$Tape", "number", "I", false)
  | 6 => ("FirstChimney$Tape", "word", "J", false)
  | _ => ("FirstChimney$Tape", "fault", "I", false)
def tyX8 : Nat → FieldType := fun k => match k with
  | 0 => .array .char
  | 1 => .int
  | 2 => .int
  | 3 => .int
  | 4 => .int
  | 5 => .int
  | 6 => .long
  | _ => .int
abbrev wsX80 : List Cond := u_ws RX8 TX8 8
theorem nmX8 : ∀ a, a < 8 → ∀ b, b < 8 → a ≠ b → (TX8 a).2.1 ≠ (TX8 b).2.1 := by decide +kernel
theorem tyX8_ok : ∀ k, k < 8 → parseFieldDescriptor (TX8 k).2.2.1 = some (tyX8 k) := by decide +kernel
abbrev cX8_init : ByteArray := prog_10_method_1_code
def yX8_init : MethodName := ⟨RX8, "<init>", "()V"⟩
abbrev cX8_put : ByteArray := prog_10_method_2_code
def yX8_put : MethodName := ⟨RX8, "put", "(J)V"⟩
abbrev cX8_clear : ByteArray := prog_10_method_3_code
def yX8_clear : MethodName := ⟨RX8, "clear", "()V"⟩
abbrev cX8_open : ByteArray := prog_10_method_4_code
def yX8_open : MethodName := ⟨RX8, "open", "()V"⟩
abbrev cX8_next : ByteArray := prog_10_method_5_code
def yX8_next : MethodName := ⟨RX8, "next", "()V"⟩
abbrev cX8_readWord : ByteArray := prog_10_method_6_code
def yX8_readWord : MethodName := ⟨RX8, "readWord", "()V"⟩
abbrev cX8_readNumber : ByteArray := prog_10_method_7_code
def yX8_readNumber : MethodName := ⟨RX8, "readNumber", "()V"⟩
abbrev cX8_cellIn : ByteArray := prog_10_method_8_code
def yX8_cellIn : MethodName := ⟨RX8, "cellIn", "(Ljava/lang/String;)I"⟩
abbrev cX8_fail : ByteArray := prog_10_method_9_code
def yX8_fail : MethodName := ⟨RX8, "fail", "(I)Z"⟩
abbrev cX8_take : ByteArray := prog_10_method_10_code
def yX8_take : MethodName := ⟨RX8, "take", "(I)Z"⟩
abbrev cX8_isNumber : ByteArray := prog_10_method_11_code
def yX8_isNumber : MethodName := ⟨RX8, "isNumber", "(II)Z"⟩
abbrev cX8_known : ByteArray := prog_10_method_12_code
def yX8_known : MethodName := ⟨RX8, "known", "([JI)I"⟩
def RX9 : String := "FirstChimney$Ways"
def TX9 : u_T := fun k => match k with
  | 0 => ("FirstChimney$Ways", "paths", "[[I", true)
  | 1 => ("FirstChimney$Ways", "ends", "[I", false)
  | _ => ("FirstChimney$Ways", "nextEnds", "[I", false)
def tyX9 : Nat → FieldType := fun k => match k with
  | 0 => .array (.array .int)
  | 1 => .array .int
  | _ => .array .int
abbrev wsX90 : List Cond := u_ws RX9 TX9 3
theorem nmX9 : ∀ a, a < 3 → ∀ b, b < 3 → a ≠ b → (TX9 a).2.1 ≠ (TX9 b).2.1 := by decide +kernel
theorem tyX9_ok : ∀ k, k < 3 → parseFieldDescriptor (TX9 k).2.2.1 = some (tyX9 k) := by decide +kernel
abbrev cX9_init : ByteArray := prog_11_method_1_code
def yX9_init : MethodName := ⟨RX9, "<init>", "()V"⟩
abbrev cX9_measure : ByteArray := prog_11_method_2_code
def yX9_measure : MethodName := ⟨RX9, "measure", "(LFirstChimney$Land;)V"⟩
abbrev cX9_measureFrom : ByteArray := prog_11_method_3_code
def yX9_measureFrom : MethodName := ⟨RX9, "measureFrom", "(LFirstChimney$Land;I)V"⟩
abbrev cX9_neighbours : ByteArray := prog_11_method_4_code
def yX9_neighbours : MethodName := ⟨RX9, "neighbours", "(LFirstChimney$Land;I)I"⟩
abbrev cX9_spread : ByteArray := prog_11_method_5_code
def yX9_spread : MethodName := ⟨RX9, "spread", "(LFirstChimney$Land;II)I"⟩
abbrev cX9_isCut : ByteArray := prog_11_method_6_code
def yX9_isCut : MethodName := ⟨RX9, "isCut", "(LFirstChimney$Land;I)Z"⟩
abbrev cX9_farthestFrom : ByteArray := prog_11_method_7_code
def yX9_farthestFrom : MethodName := ⟨RX9, "farthestFrom", "(LFirstChimney$Land;I)I"⟩
abbrev cX9_pathsOfTour : ByteArray := prog_11_method_8_code
def yX9_pathsOfTour : MethodName := ⟨RX9, "pathsOfTour", "(LFirstChimney$Land;I)I"⟩
abbrev cX9_stepOn : ByteArray := prog_11_method_9_code
def yX9_stepOn : MethodName := ⟨RX9, "stepOn", "(LFirstChimney$Land;)V"⟩
def RX10 : String := "FirstChimney"
def TX10 : u_T := fun k => match k with
  | 0 => ("FirstChimney", "tape", "LFirstChimney$Tape;", true)
  | 1 => ("FirstChimney", "landReader", "LFirstChimney$LandReader;", true)
  | 2 => ("FirstChimney", "ways", "LFirstChimney$Ways;", true)
  | 3 => ("FirstChimney", "now", "LFirstChimney$State;", true)
  | 4 => ("FirstChimney", "trial", "LFirstChimney$State;", true)
  | 5 => ("FirstChimney", "past", "LFirstChimney$Past;", true)
  | 6 => ("FirstChimney", "seen", "LFirstChimney$Seen;", true)
  | 7 => ("FirstChimney", "land", "LFirstChimney$Land;", false)
  | 8 => ("FirstChimney", "spareLand", "LFirstChimney$Land;", false)
  | 9 => ("FirstChimney", "script", "LFirstChimney$Script;", false)
  | 10 => ("FirstChimney", "spareScript", "LFirstChimney$Script;", false)
  | _ => ("FirstChimney", "drawn", "J", false)
def tyX10 : Nat → FieldType := fun k => match k with
  | 0 => .object "FirstChimney$Tape"
  | 1 => .object "FirstChimney$LandReader"
  | 2 => .object "FirstChimney$Ways"
  | 3 => .object "FirstChimney$State"
  | 4 => .object "FirstChimney$State"
  | 5 => .object "FirstChimney$Past"
  | 6 => .object "FirstChimney$Seen"
  | 7 => .object "FirstChimney$Land"
  | 8 => .object "FirstChimney$Land"
  | 9 => .object "FirstChimney$Script"
  | 10 => .object "FirstChimney$Script"
  | _ => .long
abbrev wsX100 : List Cond := u_ws RX10 TX10 12
theorem nmX10 : ∀ a, a < 12 → ∀ b, b < 12 → a ≠ b → (TX10 a).2.1 ≠ (TX10 b).2.1 := by decide +kernel
theorem tyX10_ok : ∀ k, k < 12 → parseFieldDescriptor (TX10 k).2.2.1 = some (tyX10 k) := by decide +kernel
abbrev cX10_init : ByteArray := prog_1_method_1_code
def yX10_init : MethodName := ⟨RX10, "<init>", "()V"⟩
abbrev cX10_feed : ByteArray := prog_1_method_2_code
def yX10_feed : MethodName := ⟨RX10, "feed", "(JJJ)I"⟩
abbrev cX10_land : ByteArray := prog_1_method_3_code
def yX10_land : MethodName := ⟨RX10, "land", "()I"⟩
abbrev cX10_morning : ByteArray := prog_1_method_4_code
def yX10_morning : MethodName := ⟨RX10, "morning", "()I"⟩
abbrev cX10_place : ByteArray := prog_1_method_5_code
def yX10_place : MethodName := ⟨RX10, "place", "(II)I"⟩
abbrev cX10_person : ByteArray := prog_1_method_6_code
def yX10_person : MethodName := ⟨RX10, "person", "(II)I"⟩
abbrev cX10_thing : ByteArray := prog_1_method_7_code
def yX10_thing : MethodName := ⟨RX10, "thing", "(II)I"⟩
abbrev cX10_walk : ByteArray := prog_1_method_8_code
def yX10_walk : MethodName := ⟨RX10, "walk", "(II)Z"⟩
abbrev cX10_give : ByteArray := prog_1_method_9_code
def yX10_give : MethodName := ⟨RX10, "give", "(II)I"⟩
abbrev cX10_vow : ByteArray := prog_1_method_10_code
def yX10_vow : MethodName := ⟨RX10, "vow", "(II)I"⟩
abbrev cX10_minute : ByteArray := prog_1_method_11_code
def yX10_minute : MethodName := ⟨RX10, "minute", "()Z"⟩
abbrev cX10_undo : ByteArray := prog_1_method_12_code
def yX10_undo : MethodName := ⟨RX10, "undo", "()Z"⟩
abbrev cX10_judged : ByteArray := prog_1_method_13_code
def yX10_judged : MethodName := ⟨RX10, "judged", "(I)I"⟩
abbrev cX10_soon : ByteArray := prog_1_method_14_code
def yX10_soon : MethodName := ⟨RX10, "soon", "(II)I"⟩
abbrev cX10_meet : ByteArray := prog_1_method_15_code
def yX10_meet : MethodName := ⟨RX10, "meet", "(II)I"⟩
abbrev cX10_all : ByteArray := prog_1_method_16_code
def yX10_all : MethodName := ⟨RX10, "all", "(I)I"⟩
abbrev cX10_tour : ByteArray := prog_1_method_17_code
def yX10_tour : MethodName := ⟨RX10, "tour", "(I)I"⟩
abbrev cX10_intime : ByteArray := prog_1_method_18_code
def yX10_intime : MethodName := ⟨RX10, "intime", "(II)Z"⟩
abbrev cX10_back : ByteArray := prog_1_method_19_code
def yX10_back : MethodName := ⟨RX10, "back", "()I"⟩
abbrev cX10_could : ByteArray := prog_1_method_20_code
def yX10_could : MethodName := ⟨RX10, "could", "(I)I"⟩
abbrev cX10_would : ByteArray := prog_1_method_21_code
def yX10_would : MethodName := ⟨RX10, "would", "(II)Z"⟩
abbrev cX10_when : ByteArray := prog_1_method_22_code
def yX10_when : MethodName := ⟨RX10, "when", "(II)I"⟩
abbrev cX10_vows : ByteArray := prog_1_method_23_code
def yX10_vows : MethodName := ⟨RX10, "vows", "(IZ)I"⟩
abbrev cX10_sees : ByteArray := prog_1_method_24_code
def yX10_sees : MethodName := ⟨RX10, "sees", "(I)I"⟩
abbrev cX10_heard : ByteArray := prog_1_method_25_code
def yX10_heard : MethodName := ⟨RX10, "heard", "(I)I"⟩
abbrev cX10_news : ByteArray := prog_1_method_26_code
def yX10_news : MethodName := ⟨RX10, "news", "()I"⟩
abbrev cX10_alone : ByteArray := prog_1_method_27_code
def yX10_alone : MethodName := ⟨RX10, "alone", "()I"⟩
abbrev cX10_reach : ByteArray := prog_1_method_28_code
def yX10_reach : MethodName := ⟨RX10, "reach", "(I)I"⟩
abbrev cX10_far : ByteArray := prog_1_method_29_code
def yX10_far : MethodName := ⟨RX10, "far", "(II)I"⟩
abbrev cX10_cuts : ByteArray := prog_1_method_30_code
def yX10_cuts : MethodName := ⟨RX10, "cuts", "()I"⟩
abbrev cX10_hub : ByteArray := prog_1_method_31_code
def yX10_hub : MethodName := ⟨RX10, "hub", "()I"⟩
abbrev cX10_links : ByteArray := prog_1_method_32_code
def yX10_links : MethodName := ⟨RX10, "links", "(I)I"⟩
abbrev cX10_see : ByteArray := prog_1_method_33_code
def yX10_see : MethodName := ⟨RX10, "see", "(IIZ)Z"⟩
abbrev cX10_who : ByteArray := prog_1_method_34_code
def yX10_who : MethodName := ⟨RX10, "who", "()I"⟩
abbrev cX10_ask : ByteArray := prog_1_method_35_code
def yX10_ask : MethodName := ⟨RX10, "ask", "()I"⟩
abbrev cX10_wide : ByteArray := prog_1_method_36_code
def yX10_wide : MethodName := ⟨RX10, "wide", "()I"⟩
abbrev cX10_has : ByteArray := prog_1_method_37_code
def yX10_has : MethodName := ⟨RX10, "has", "(IZ)I"⟩
abbrev cX10_sleeps : ByteArray := prog_1_method_38_code
def yX10_sleeps : MethodName := ⟨RX10, "sleeps", "(I)I"⟩
abbrev cX10_rich : ByteArray := prog_1_method_39_code
def yX10_rich : MethodName := ⟨RX10, "rich", "(Z)I"⟩
abbrev cX10_chance : ByteArray := prog_1_method_40_code
def yX10_chance : MethodName := ⟨RX10, "chance", "(II)I"⟩
abbrev cX10_rests : ByteArray := prog_1_method_41_code
def yX10_rests : MethodName := ⟨RX10, "rests", "(IIII)I"⟩
abbrev cX10_mornings : ByteArray := prog_1_method_42_code
def yX10_mornings : MethodName := ⟨RX10, "mornings", "(III)I"⟩
abbrev cX10_mark : ByteArray := prog_1_method_43_code
def yX10_mark : MethodName := ⟨RX10, "mark", "(IZ)Z"⟩
abbrev cX10_count : ByteArray := prog_1_method_44_code
def yX10_count : MethodName := ⟨RX10, "count", "(I)I"⟩
abbrev cX10_isFrom : ByteArray := prog_1_method_45_code
def yX10_isFrom : MethodName := ⟨RX10, "isFrom", "(III)Z"⟩
abbrev cX10_isIn : ByteArray := prog_1_method_46_code
def yX10_isIn : MethodName := ⟨RX10, "isIn", "(II)Z"⟩
abbrev cX10_orNone : ByteArray := prog_1_method_47_code
def yX10_orNone : MethodName := ⟨RX10, "orNone", "(I)I"⟩
abbrev cX10_pairsIn : ByteArray := prog_1_method_48_code
def yX10_pairsIn : MethodName := ⟨RX10, "pairsIn", "([I)I"⟩
abbrev cX10_thingsOf : ByteArray := prog_1_method_49_code
def yX10_thingsOf : MethodName := ⟨RX10, "thingsOf", "([II)I"⟩
abbrev cX10_worthOf : ByteArray := prog_1_method_50_code
def yX10_worthOf : MethodName := ⟨RX10, "worthOf", "(IZ)I"⟩
abbrev cX10_movedThings : ByteArray := prog_1_method_51_code
def yX10_movedThings : MethodName := ⟨RX10, "movedThings", "(LFirstChimney$State;)I"⟩
abbrev cX10_minutesTo : ByteArray := prog_1_method_52_code
def yX10_minutesTo : MethodName := ⟨RX10, "minutesTo", "(II)I"⟩
abbrev cX10_minutesOfAllTo : ByteArray := prog_1_method_53_code
def yX10_minutesOfAllTo : MethodName := ⟨RX10, "minutesOfAllTo", "(I)I"⟩
abbrev cX10_isGift : ByteArray := prog_1_method_54_code
def yX10_isGift : MethodName := ⟨RX10, "isGift", "(II)Z"⟩
abbrev cX10_fitsSeen : ByteArray := prog_1_method_55_code
def yX10_fitsSeen : MethodName := ⟨RX10, "fitsSeen", "(I)Z"⟩
abbrev cX10_leftAtWorst : ByteArray := prog_1_method_56_code
def yX10_leftAtWorst : MethodName := ⟨RX10, "leftAtWorst", "(III)I"⟩
abbrev cX10_isRest : ByteArray := prog_1_method_57_code
def yX10_isRest : MethodName := ⟨RX10, "isRest", "(IIII)Z"⟩
abbrev cX10_gets : ByteArray := prog_1_method_58_code
def yX10_gets : MethodName := ⟨RX10, "gets", "(IIIII)I"⟩
abbrev cX10_drawBelow : ByteArray := prog_1_method_59_code
def yX10_drawBelow : MethodName := ⟨RX10, "drawBelow", "(I)I"⟩
abbrev cX10_playDrawn : ByteArray := prog_1_method_60_code
def yX10_playDrawn : MethodName := ⟨RX10, "playDrawn", "()Z"⟩
def RX11 : String := "FirstChimneyModel"
def TX11 : u_T := fun k => match k with
  | 0 => ("FirstChimneyModel", "thrown", "I", false)
  | 1 => ("FirstChimneyModel", "tape", "[I", true)
  | 2 => ("FirstChimneyModel", "taped", "I", false)
  | 3 => ("FirstChimneyModel", "size", "I", false)
  | 4 => ("FirstChimneyModel", "sort", "[I", true)
  | 5 => ("FirstChimneyModel", "place", "[I", true)
  | 6 => ("FirstChimneyModel", "value", "[J", true)
  | 7 => ("FirstChimneyModel", "at", "I", false)
  | 8 => ("FirstChimneyModel", "fault", "I", false)
  | 9 => ("FirstChimneyModel", "words", "[J", true)
  | 10 => ("FirstChimneyModel", "lands", "[I", true)
  | 11 => ("FirstChimneyModel", "op", "[I", true)
  | 12 => ("FirstChimneyModel", "arg", "[I", true)
  | 13 => ("FirstChimneyModel", "codes", "I", false)
  | 14 => ("FirstChimneyModel", "names", "[J", true)
  | 15 => ("FirstChimneyModel", "readNames", "[J", true)
  | 16 => ("FirstChimneyModel", "nameOf", "[I", true)
  | 17 => ("FirstChimneyModel", "readNameOf", "[I", true)
  | 18 => ("FirstChimneyModel", "namesMany", "I", false)
  | 19 => ("FirstChimneyModel", "readMany", "I", false)
  | 20 => ("FirstChimneyModel", "once", "I", false)
  | 21 => ("FirstChimneyModel", "lines", "[I", true)
  | 22 => ("FirstChimneyModel", "facts", "[I", true)
  | 23 => ("FirstChimneyModel", "pile", "[I", true)
  | 24 => ("FirstChimneyModel", "state", "[I", true)
  | 25 => ("FirstChimneyModel", "undos", "I", false)
  | 26 => ("FirstChimneyModel", "isMarked", "[Z", true)
  | 27 => ("FirstChimneyModel", "told", "[I", true)
  | 28 => ("FirstChimneyModel", "can", "[Z", true)
  | _ => ("FirstChimneyModel", "g", "J", false)
def tyX11 : Nat → FieldType := fun k => match k with
  | 0 => .int
  | 1 => .array .int
  | 2 => .int
  | 3 => .int
  | 4 => .array .int
  | 5 => .array .int
  | 6 => .array .long
  | 7 => .int
  | 8 => .int
  | 9 => .array .long
  | 10 => .array .int
  | 11 => .array .int
  | 12 => .array .int
  | 13 => .int
  | 14 => .array .long
  | 15 => .array .long
  | 16 => .array .int
  | 17 => .array .int
  | 18 => .int
  | 19 => .int
  | 20 => .int
  | 21 => .array .int
  | 22 => .array .int
  | 23 => .array .int
  | 24 => .array .int
  | 25 => .int
  | 26 => .array .boolean
  | 27 => .array .int
  | 28 => .array .boolean
  | _ => .long
abbrev wsX110 : List Cond := u_ws RX11 TX11 30
theorem nmX11 : ∀ a, a < 30 → ∀ b, b < 30 → a ≠ b → (TX11 a).2.1 ≠ (TX11 b).2.1 := by decide +kernel
theorem tyX11_ok : ∀ k, k < 30 → parseFieldDescriptor (TX11 k).2.2.1 = some (tyX11 k) := by decide +kernel
abbrev cX11_thrown : ByteArray := prog_13_method_1_code
def yX11_thrown : MethodName := ⟨RX11, "thrown", "()I"⟩
abbrev cX11_feed : ByteArray := prog_13_method_2_code
def yX11_feed : MethodName := ⟨RX11, "feed", "(JJJ)I"⟩
abbrev cX11_lay : ByteArray := prog_13_method_3_code
def yX11_lay : MethodName := ⟨RX11, "lay", "(J)V"⟩
abbrev cX11_init : ByteArray := prog_13_method_4_code
def yX11_init : MethodName := ⟨RX11, "<init>", "()V"⟩
abbrev cX11_isLetter : ByteArray := prog_13_method_5_code
def yX11_isLetter : MethodName := ⟨RX11, "isLetter", "(I)Z"⟩
abbrev cX11_isDigit : ByteArray := prog_13_method_6_code
def yX11_isDigit : MethodName := ⟨RX11, "isDigit", "(I)Z"⟩
abbrev cX11_rank : ByteArray := prog_13_method_7_code
def yX11_rank : MethodName := ⟨RX11, "rank", "(I)I"⟩
abbrev cX11_isSignOf : ByteArray := prog_13_method_8_code
def yX11_isSignOf : MethodName := ⟨RX11, "isSignOf", "(I)Z"⟩
abbrev cX11_cutAll : ByteArray := prog_13_method_9_code
def yX11_cutAll : MethodName := ⟨RX11, "cutAll", "()V"⟩
abbrev cX11_wrong : ByteArray := prog_13_method_10_code
def yX11_wrong : MethodName := ⟨RX11, "wrong", "(I)V"⟩
abbrev cX11_isSign : ByteArray := prog_13_method_11_code
def yX11_isSign : MethodName := ⟨RX11, "isSign", "(I)Z"⟩
abbrev cX11_isWord : ByteArray := prog_13_method_12_code
def yX11_isWord : MethodName := ⟨RX11, "isWord", "(I)Z"⟩
abbrev cX11_takeSign : ByteArray := prog_13_method_13_code
def yX11_takeSign : MethodName := ⟨RX11, "takeSign", "(I)V"⟩
abbrev cX11_hasSign : ByteArray := prog_13_method_14_code
def yX11_hasSign : MethodName := ⟨RX11, "hasSign", "(I)Z"⟩
abbrev cX11_hasWord : ByteArray := prog_13_method_15_code
def yX11_hasWord : MethodName := ⟨RX11, "hasWord", "(I)Z"⟩
abbrev cX11_takeWord : ByteArray := prog_13_method_16_code
def yX11_takeWord : MethodName := ⟨RX11, "takeWord", "(I)V"⟩
abbrev cX11_within : ByteArray := prog_13_method_17_code
def yX11_within : MethodName := ⟨RX11, "within", "(III)Z"⟩
abbrev cX11_standsAsAlways : ByteArray := prog_13_method_18_code
def yX11_standsAsAlways : MethodName := ⟨RX11, "standsAsAlways", "(I)V"⟩
abbrev cX11_takeNumber : ByteArray := prog_13_method_19_code
def yX11_takeNumber : MethodName := ⟨RX11, "takeNumber", "(II)I"⟩
abbrev cX11_takeAfter : ByteArray := prog_13_method_20_code
def yX11_takeAfter : MethodName := ⟨RX11, "takeAfter", "(III)I"⟩
abbrev cX11_wordHere : ByteArray := prog_13_method_21_code
def yX11_wordHere : MethodName := ⟨RX11, "wordHere", "(II)I"⟩
abbrev cX11_takeOne : ByteArray := prog_13_method_22_code
def yX11_takeOne : MethodName := ⟨RX11, "takeOne", "(II)I"⟩
abbrev cX11_isName : ByteArray := prog_13_method_23_code
def yX11_isName : MethodName := ⟨RX11, "isName", "()Z"⟩
abbrev cX11_nameAt : ByteArray := prog_13_method_24_code
def yX11_nameAt : MethodName := ⟨RX11, "nameAt", "(Z)I"⟩
abbrev cX11_takeTold : ByteArray := prog_13_method_25_code
def yX11_takeTold : MethodName := ⟨RX11, "takeTold", "(ZII)I"⟩
abbrev cX11_land : ByteArray := prog_13_method_26_code
def yX11_land : MethodName := ⟨RX11, "land", "()I"⟩
abbrev cX11_readLine : ByteArray := prog_13_method_27_code
def yX11_readLine : MethodName := ⟨RX11, "readLine", "()V"⟩
abbrev cX11_readName : ByteArray := prog_13_method_28_code
def yX11_readName : MethodName := ⟨RX11, "readName", "(III)V"⟩
abbrev cX11_readPath : ByteArray := prog_13_method_29_code
def yX11_readPath : MethodName := ⟨RX11, "readPath", "()V"⟩
abbrev cX11_readOnce : ByteArray := prog_13_method_30_code
def yX11_readOnce : MethodName := ⟨RX11, "readOnce", "()V"⟩
abbrev cX11_morning : ByteArray := prog_13_method_31_code
def yX11_morning : MethodName := ⟨RX11, "morning", "()I"⟩
abbrev cX11_readMorning : ByteArray := prog_13_method_32_code
def yX11_readMorning : MethodName := ⟨RX11, "readMorning", "(II)V"⟩
abbrev cX11_emit : ByteArray := prog_13_method_33_code
def yX11_emit : MethodName := ⟨RX11, "emit", "(II)V"⟩
abbrev cX11_whole : ByteArray := prog_13_method_34_code
def yX11_whole : MethodName := ⟨RX11, "whole", "(I)V"⟩
abbrev cX11_test : ByteArray := prog_13_method_35_code
def yX11_test : MethodName := ⟨RX11, "test", "(I)V"⟩
abbrev cX11_sums : ByteArray := prog_13_method_36_code
def yX11_sums : MethodName := ⟨RX11, "sums", "(I)V"⟩
abbrev cX11_products : ByteArray := prog_13_method_37_code
def yX11_products : MethodName := ⟨RX11, "products", "(I)V"⟩
abbrev cX11_takePart : ByteArray := prog_13_method_38_code
def yX11_takePart : MethodName := ⟨RX11, "takePart", "(I)V"⟩
abbrev cX11_worthAt : ByteArray := prog_13_method_39_code
def yX11_worthAt : MethodName := ⟨RX11, "worthAt", "(I)I"⟩
abbrev cX11_both : ByteArray := prog_13_method_40_code
def yX11_both : MethodName := ⟨RX11, "both", "(III)I"⟩
abbrev cX11_copies : ByteArray := prog_13_method_41_code
def yX11_copies : MethodName := ⟨RX11, "copies", "(III)V"⟩
abbrev cX11_starts : ByteArray := prog_13_method_42_code
def yX11_starts : MethodName := ⟨RX11, "starts", "(I)V"⟩
abbrev cX11_begins : ByteArray := prog_13_method_43_code
def yX11_begins : MethodName := ⟨RX11, "begins", "()V"⟩
abbrev cX11_keeps : ByteArray := prog_13_method_44_code
def yX11_keeps : MethodName := ⟨RX11, "keeps", "()V"⟩
abbrev cX11_places : ByteArray := prog_13_method_45_code
def yX11_places : MethodName := ⟨RX11, "places", "()I"⟩
abbrev cX11_persons : ByteArray := prog_13_method_46_code
def yX11_persons : MethodName := ⟨RX11, "persons", "()I"⟩
abbrev cX11_things : ByteArray := prog_13_method_47_code
def yX11_things : MethodName := ⟨RX11, "things", "()I"⟩
abbrev cX11_smokeAt : ByteArray := prog_13_method_48_code
def yX11_smokeAt : MethodName := ⟨RX11, "smokeAt", "()I"⟩
abbrev cX11_pathsFrom : ByteArray := prog_13_method_49_code
def yX11_pathsFrom : MethodName := ⟨RX11, "pathsFrom", "(I)I"⟩
abbrev cX11_personOf : ByteArray := prog_13_method_50_code
def yX11_personOf : MethodName := ⟨RX11, "personOf", "(II)I"⟩
abbrev cX11_thingOf : ByteArray := prog_13_method_51_code
def yX11_thingOf : MethodName := ⟨RX11, "thingOf", "(II)I"⟩
abbrev cX11_isPlace : ByteArray := prog_13_method_52_code
def yX11_isPlace : MethodName := ⟨RX11, "isPlace", "(I)Z"⟩
abbrev cX11_isPerson : ByteArray := prog_13_method_53_code
def yX11_isPerson : MethodName := ⟨RX11, "isPerson", "(I)Z"⟩
abbrev cX11_isThing : ByteArray := prog_13_method_54_code
def yX11_isThing : MethodName := ⟨RX11, "isThing", "(I)Z"⟩
abbrev cX11_bits : ByteArray := prog_13_method_55_code
def yX11_bits : MethodName := ⟨RX11, "bits", "(I)I"⟩
abbrev cX11_awakeAt : ByteArray := prog_13_method_56_code
def yX11_awakeAt : MethodName := ⟨RX11, "awakeAt", "(I)I"⟩
abbrev cX11_isAwake : ByteArray := prog_13_method_57_code
def yX11_isAwake : MethodName := ⟨RX11, "isAwake", "(II)Z"⟩
abbrev cX11_isReady : ByteArray := prog_13_method_58_code
def yX11_isReady : MethodName := ⟨RX11, "isReady", "(II)Z"⟩
abbrev cX11_whoIn : ByteArray := prog_13_method_59_code
def yX11_whoIn : MethodName := ⟨RX11, "whoIn", "(II)I"⟩
abbrev cX11_benches : ByteArray := prog_13_method_60_code
def yX11_benches : MethodName := ⟨RX11, "benches", "()I"⟩
abbrev cX11_doesBind : ByteArray := prog_13_method_61_code
def yX11_doesBind : MethodName := ⟨RX11, "doesBind", "(IIIII)Z"⟩
abbrev cX11_mayWalk : ByteArray := prog_13_method_62_code
def yX11_mayWalk : MethodName := ⟨RX11, "mayWalk", "(III)Z"⟩
abbrev cX11_walks : ByteArray := prog_13_method_63_code
def yX11_walks : MethodName := ⟨RX11, "walks", "(III)V"⟩
abbrev cX11_mayGive : ByteArray := prog_13_method_64_code
def yX11_mayGive : MethodName := ⟨RX11, "mayGive", "(III)Z"⟩
abbrev cX11_gives : ByteArray := prog_13_method_65_code
def yX11_gives : MethodName := ⟨RX11, "gives", "(III)Z"⟩
abbrev cX11_mayVow : ByteArray := prog_13_method_66_code
def yX11_mayVow : MethodName := ⟨RX11, "mayVow", "(III)Z"⟩
abbrev cX11_vowsBy : ByteArray := prog_13_method_67_code
def yX11_vowsBy : MethodName := ⟨RX11, "vowsBy", "(III)Z"⟩
abbrev cX11_smokes : ByteArray := prog_13_method_68_code
def yX11_smokes : MethodName := ⟨RX11, "smokes", "(I)V"⟩
abbrev cX11_passes : ByteArray := prog_13_method_69_code
def yX11_passes : MethodName := ⟨RX11, "passes", "(I)Z"⟩
abbrev cX11_thingsWith : ByteArray := prog_13_method_70_code
def yX11_thingsWith : MethodName := ⟨RX11, "thingsWith", "(II)I"⟩
abbrev cX11_wrongThings : ByteArray := prog_13_method_71_code
def yX11_wrongThings : MethodName := ⟨RX11, "wrongThings", "(I)I"⟩
abbrev cX11_place : ByteArray := prog_13_method_72_code
def yX11_place : MethodName := ⟨RX11, "place", "(II)I"⟩
abbrev cX11_person : ByteArray := prog_13_method_73_code
def yX11_person : MethodName := ⟨RX11, "person", "(II)I"⟩
abbrev cX11_thing : ByteArray := prog_13_method_74_code
def yX11_thing : MethodName := ⟨RX11, "thing", "(II)I"⟩
abbrev cX11_walk : ByteArray := prog_13_method_75_code
def yX11_walk : MethodName := ⟨RX11, "walk", "(II)Z"⟩
abbrev cX11_give : ByteArray := prog_13_method_76_code
def yX11_give : MethodName := ⟨RX11, "give", "(II)I"⟩
abbrev cX11_vow : ByteArray := prog_13_method_77_code
def yX11_vow : MethodName := ⟨RX11, "vow", "(II)I"⟩
abbrev cX11_minute : ByteArray := prog_13_method_78_code
def yX11_minute : MethodName := ⟨RX11, "minute", "()Z"⟩
abbrev cX11_undo : ByteArray := prog_13_method_79_code
def yX11_undo : MethodName := ⟨RX11, "undo", "()Z"⟩
abbrev cX11_judged : ByteArray := prog_13_method_80_code
def yX11_judged : MethodName := ⟨RX11, "judged", "(I)I"⟩
abbrev cX11_onFrom : ByteArray := prog_13_method_81_code
def yX11_onFrom : MethodName := ⟨RX11, "onFrom", "(II)I"⟩
abbrev cX11_reachBy : ByteArray := prog_13_method_82_code
def yX11_reachBy : MethodName := ⟨RX11, "reachBy", "(II)I"⟩
abbrev cX11_farOf : ByteArray := prog_13_method_83_code
def yX11_farOf : MethodName := ⟨RX11, "farOf", "(II)I"⟩
abbrev cX11_reach : ByteArray := prog_13_method_84_code
def yX11_reach : MethodName := ⟨RX11, "reach", "(I)I"⟩
abbrev cX11_far : ByteArray := prog_13_method_85_code
def yX11_far : MethodName := ⟨RX11, "far", "(II)I"⟩
abbrev cX11_cuts : ByteArray := prog_13_method_86_code
def yX11_cuts : MethodName := ⟨RX11, "cuts", "()I"⟩
abbrev cX11_hub : ByteArray := prog_13_method_87_code
def yX11_hub : MethodName := ⟨RX11, "hub", "()I"⟩
abbrev cX11_links : ByteArray := prog_13_method_88_code
def yX11_links : MethodName := ⟨RX11, "links", "(I)I"⟩
abbrev cX11_wide : ByteArray := prog_13_method_89_code
def yX11_wide : MethodName := ⟨RX11, "wide", "()I"⟩
abbrev cX11_readyIn : ByteArray := prog_13_method_90_code
def yX11_readyIn : MethodName := ⟨RX11, "readyIn", "(I)I"⟩
abbrev cX11_paceOf : ByteArray := prog_13_method_91_code
def yX11_paceOf : MethodName := ⟨RX11, "paceOf", "(I)I"⟩
abbrev cX11_soonOf : ByteArray := prog_13_method_92_code
def yX11_soonOf : MethodName := ⟨RX11, "soonOf", "(II)I"⟩
abbrev cX11_told : ByteArray := prog_13_method_93_code
def yX11_told : MethodName := ⟨RX11, "told", "(I)I"⟩
abbrev cX11_soon : ByteArray := prog_13_method_94_code
def yX11_soon : MethodName := ⟨RX11, "soon", "(II)I"⟩
abbrev cX11_meet : ByteArray := prog_13_method_95_code
def yX11_meet : MethodName := ⟨RX11, "meet", "(II)I"⟩
abbrev cX11_all : ByteArray := prog_13_method_96_code
def yX11_all : MethodName := ⟨RX11, "all", "(I)I"⟩
abbrev cX11_tour : ByteArray := prog_13_method_97_code
def yX11_tour : MethodName := ⟨RX11, "tour", "(I)I"⟩
abbrev cX11_intime : ByteArray := prog_13_method_98_code
def yX11_intime : MethodName := ⟨RX11, "intime", "(II)Z"⟩
abbrev cX11_back : ByteArray := prog_13_method_99_code
def yX11_back : MethodName := ⟨RX11, "back", "()I"⟩
abbrev cX11_could : ByteArray := prog_13_method_100_code
def yX11_could : MethodName := ⟨RX11, "could", "(I)I"⟩
abbrev cX11_wouldBind : ByteArray := prog_13_method_101_code
def yX11_wouldBind : MethodName := ⟨RX11, "wouldBind", "(III)Z"⟩
abbrev cX11_isGift : ByteArray := prog_13_method_102_code
def yX11_isGift : MethodName := ⟨RX11, "isGift", "(II)Z"⟩
abbrev cX11_would : ByteArray := prog_13_method_103_code
def yX11_would : MethodName := ⟨RX11, "would", "(II)Z"⟩
abbrev cX11_when : ByteArray := prog_13_method_104_code
def yX11_when : MethodName := ⟨RX11, "when", "(II)I"⟩
abbrev cX11_vows : ByteArray := prog_13_method_105_code
def yX11_vows : MethodName := ⟨RX11, "vows", "(IZ)I"⟩
abbrev cX11_sees : ByteArray := prog_13_method_106_code
def yX11_sees : MethodName := ⟨RX11, "sees", "(I)I"⟩
abbrev cX11_heard : ByteArray := prog_13_method_107_code
def yX11_heard : MethodName := ⟨RX11, "heard", "(I)I"⟩
abbrev cX11_heardOfAll : ByteArray := prog_13_method_108_code
def yX11_heardOfAll : MethodName := ⟨RX11, "heardOfAll", "(I)I"⟩
abbrev cX11_triesNow : ByteArray := prog_13_method_109_code
def yX11_triesNow : MethodName := ⟨RX11, "triesNow", "()V"⟩
abbrev cX11_news : ByteArray := prog_13_method_110_code
def yX11_news : MethodName := ⟨RX11, "news", "()I"⟩
abbrev cX11_alone : ByteArray := prog_13_method_111_code
def yX11_alone : MethodName := ⟨RX11, "alone", "()I"⟩
abbrev cX11_see : ByteArray := prog_13_method_112_code
def yX11_see : MethodName := ⟨RX11, "see", "(IIZ)Z"⟩
abbrev cX11_whoNow : ByteArray := prog_13_method_113_code
def yX11_whoNow : MethodName := ⟨RX11, "whoNow", "()I"⟩
abbrev cX11_who : ByteArray := prog_13_method_114_code
def yX11_who : MethodName := ⟨RX11, "who", "()I"⟩
abbrev cX11_ask : ByteArray := prog_13_method_115_code
def yX11_ask : MethodName := ⟨RX11, "ask", "()I"⟩
abbrev cX11_worthOf : ByteArray := prog_13_method_116_code
def yX11_worthOf : MethodName := ⟨RX11, "worthOf", "(IZ)I"⟩
abbrev cX11_has : ByteArray := prog_13_method_117_code
def yX11_has : MethodName := ⟨RX11, "has", "(IZ)I"⟩
abbrev cX11_sleeps : ByteArray := prog_13_method_118_code
def yX11_sleeps : MethodName := ⟨RX11, "sleeps", "(I)I"⟩
abbrev cX11_rich : ByteArray := prog_13_method_119_code
def yX11_rich : MethodName := ⟨RX11, "rich", "(Z)I"⟩
abbrev cX11_chance : ByteArray := prog_13_method_120_code
def yX11_chance : MethodName := ⟨RX11, "chance", "(II)I"⟩
abbrev cX11_getsBy : ByteArray := prog_13_method_121_code
def yX11_getsBy : MethodName := ⟨RX11, "getsBy", "(IIIII)I"⟩
abbrev cX11_rests : ByteArray := prog_13_method_122_code
def yX11_rests : MethodName := ⟨RX11, "rests", "(IIII)I"⟩
abbrev cX11_draw : ByteArray := prog_13_method_123_code
def yX11_draw : MethodName := ⟨RX11, "draw", "(I)I"⟩
abbrev cX11_drawsDeed : ByteArray := prog_13_method_124_code
def yX11_drawsDeed : MethodName := ⟨RX11, "drawsDeed", "()Z"⟩
abbrev cX11_mornings : ByteArray := prog_13_method_125_code
def yX11_mornings : MethodName := ⟨RX11, "mornings", "(III)I"⟩
abbrev cX11_mark : ByteArray := prog_13_method_126_code
def yX11_mark : MethodName := ⟨RX11, "mark", "(IZ)Z"⟩
abbrev cX11_pairsOf : ByteArray := prog_13_method_127_code
def yX11_pairsOf : MethodName := ⟨RX11, "pairsOf", "(I)I"⟩
abbrev cX11_count : ByteArray := prog_13_method_128_code
def yX11_count : MethodName := ⟨RX11, "count", "(I)I"⟩
def TJx145de : u_T := fun k => match k with
  | _ => ("", "", "", false)
def tyJx145de : Nat → FieldType := fun k => match k with
  | _ => .int
theorem nmJx145de : ∀ a, a < 0 → ∀ b, b < 0 → a ≠ b → (TJx145de a).2.1 ≠ (TJx145de b).2.1 := by decide +kernel
def TJx9f9b0 : u_T := fun k => match k with
  | _ => ("", "", "", false)
def tyJx9f9b0 : Nat → FieldType := fun k => match k with
  | _ => .int
theorem nmJx9f9b0 : ∀ a, a < 0 → ∀ b, b < 0 → a ≠ b → (TJx9f9b0 a).2.1 ≠ (TJx9f9b0 b).2.1 := by decide +kernel
def RJ11 : String := "java/lang/Character"
def TJ11 : u_T := fun k => match k with
  | _ => ("", "", "", false)
def tyJ11 : Nat → FieldType := fun k => match k with
  | _ => .int
abbrev wsJ110 : List Cond := u_ws RJ11 TJ11 0
theorem nmJ11 : ∀ a, a < 0 → ∀ b, b < 0 → a ≠ b → (TJ11 a).2.1 ≠ (TJ11 b).2.1 := by decide +kernel
theorem tyJ11_ok : ∀ k, k < 0 → parseFieldDescriptor (TJ11 k).2.2.1 = some (tyJ11 k) := by decide +kernel
abbrev cJ11_isValidCodePoint_9a6ad : ByteArray := prog_16_method_11_code
def yJ11_isValidCodePoint_9a6ad : MethodName := ⟨RJ11, "isValidCodePoint", "(I)Z"⟩
abbrev cJ11_highSurrogate_5068e : ByteArray := prog_16_method_28_code
def yJ11_highSurrogate_5068e : MethodName := ⟨RJ11, "highSurrogate", "(I)C"⟩
abbrev cJ11_lowSurrogate_5068e : ByteArray := prog_16_method_29_code
def yJ11_lowSurrogate_5068e : MethodName := ⟨RJ11, "lowSurrogate", "(I)C"⟩
def RJ6 : String := "java/lang/Integer"
def TJ6 : u_T := fun k => match k with
  | _ => ("", "", "", false)
def tyJ6 : Nat → FieldType := fun k => match k with
  | _ => .int
abbrev wsJ60 : List Cond := u_ws RJ6 TJ6 0
theorem nmJ6 : ∀ a, a < 0 → ∀ b, b < 0 → a ≠ b → (TJ6 a).2.1 ≠ (TJ6 b).2.1 := by decide +kernel
theorem tyJ6_ok : ∀ k, k < 0 → parseFieldDescriptor (TJ6 k).2.2.1 = some (tyJ6 k) := by decide +kernel
abbrev cJ6_bitCount_0f7a4 : ByteArray := prog_19_method_49_code
def yJ6_bitCount_0f7a4 : MethodName := ⟨RJ6, "bitCount", "(I)I"⟩
def RJ9 : String := "java/lang/Math"
def TJ9 : u_T := fun k => match k with
  | _ => ("", "", "", false)
def tyJ9 : Nat → FieldType := fun k => match k with
  | _ => .int
abbrev wsJ90 : List Cond := u_ws RJ9 TJ9 0
theorem nmJ9 : ∀ a, a < 0 → ∀ b, b < 0 → a ≠ b → (TJ9 a).2.1 ≠ (TJ9 b).2.1 := by decide +kernel
theorem tyJ9_ok : ∀ k, k < 0 → parseFieldDescriptor (TJ9 k).2.2.1 = some (tyJ9 k) := by decide +kernel
abbrev cJ9_max_7cf53 : ByteArray := prog_20_method_65_code
def yJ9_max_7cf53 : MethodName := ⟨RJ9, "max", "(II)I"⟩
abbrev cJ9_min_7cf53 : ByteArray := prog_20_method_69_code
def yJ9_min_7cf53 : MethodName := ⟨RJ9, "min", "(II)I"⟩
def RJ0 : String := "java/lang/String"
def TJ0 : u_T := fun k => match k with
  | _ => ("", "", "", false)
def tyJ0 : Nat → FieldType := fun k => match k with
  | _ => .int
abbrev wsJ00 : List Cond := u_ws RJ0 TJ0 0
theorem nmJ0 : ∀ a, a < 0 → ∀ b, b < 0 → a ≠ b → (TJ0 a).2.1 ≠ (TJ0 b).2.1 := by decide +kernel
theorem tyJ0_ok : ∀ k, k < 0 → parseFieldDescriptor (TJ0 k).2.2.1 = some (tyJ0 k) := by decide +kernel
abbrev cJ0_length_8abf5 : ByteArray := prog_22_method_54_code
def yJ0_length_8abf5 : MethodName := ⟨RJ0, "length", "()I"⟩
abbrev cJ0_charAt_5068e : ByteArray := prog_22_method_56_code
def yJ0_charAt_5068e : MethodName := ⟨RJ0, "charAt", "(I)C"⟩
abbrev cJ0_indexOf_0f7a4 : ByteArray := prog_22_method_79_code
def yJ0_indexOf_0f7a4 : MethodName := ⟨RJ0, "indexOf", "(I)I"⟩
abbrev cJ0_indexOf_7cf53 : ByteArray := prog_22_method_80_code
def yJ0_indexOf_7cf53 : MethodName := ⟨RJ0, "indexOf", "(II)I"⟩
abbrev cJ0_coder_7d493 : ByteArray := prog_22_method_152_code
def yJ0_coder_7d493 : MethodName := ⟨RJ0, "coder", "()B"⟩
abbrev cJ0_isLatin1_aae02 : ByteArray := prog_22_method_154_code
def yJ0_isLatin1_aae02 : MethodName := ⟨RJ0, "isLatin1", "()Z"⟩
abbrev cJ0_checkIndex_df160 : ByteArray := prog_22_method_155_code
def yJ0_checkIndex_df160 : MethodName := ⟨RJ0, "checkIndex", "(II)V"⟩
abbrev cJ0_checkBoundsBeginEnd_23922 : ByteArray := prog_22_method_158_code
def yJ0_checkBoundsBeginEnd_23922 : MethodName := ⟨RJ0, "checkBoundsBeginEnd", "(III)V"⟩
def RJ1 : String := "java/lang/StringLatin1"
def TJ1 : u_T := fun k => match k with
  | _ => ("", "", "", false)
def tyJ1 : Nat → FieldType := fun k => match k with
  | _ => .int
abbrev wsJ10 : List Cond := u_ws RJ1 TJ1 0
theorem nmJ1 : ∀ a, a < 0 → ∀ b, b < 0 → a ≠ b → (TJ1 a).2.1 ≠ (TJ1 b).2.1 := by decide +kernel
theorem tyJ1_ok : ∀ k, k < 0 → parseFieldDescriptor (TJ1 k).2.2.1 = some (tyJ1 k) := by decide +kernel
abbrev cJ1_charAt_3b067 : ByteArray := prog_23_method_2_code
def yJ1_charAt_3b067 : MethodName := ⟨RJ1, "charAt", "([BI)C"⟩
abbrev cJ1_canEncode_9a6ad : ByteArray := prog_23_method_4_code
def yJ1_canEncode_9a6ad : MethodName := ⟨RJ1, "canEncode", "(I)Z"⟩
abbrev cJ1_indexOf_4cfef : ByteArray := prog_23_method_22_code
def yJ1_indexOf_4cfef : MethodName := ⟨RJ1, "indexOf", "([BIII)I"⟩
abbrev cJ1_indexOfChar_4cfef : ByteArray := prog_23_method_23_code
def yJ1_indexOfChar_4cfef : MethodName := ⟨RJ1, "indexOfChar", "([BIII)I"⟩
def RJ2 : String := "java/lang/StringUTF16"
def TJ2 : u_T := fun k => match k with
  | _ => ("", "", "", false)
def tyJ2 : Nat → FieldType := fun k => match k with
  | _ => .int
abbrev wsJ20 : List Cond := u_ws RJ2 TJ2 0
theorem nmJ2 : ∀ a, a < 0 → ∀ b, b < 0 → a ≠ b → (TJ2 a).2.1 ≠ (TJ2 b).2.1 := by decide +kernel
theorem tyJ2_ok : ∀ k, k < 0 → parseFieldDescriptor (TJ2 k).2.2.1 = some (tyJ2 k) := by decide +kernel
abbrev cJ2_getChar_3b067 : ByteArray := prog_24_method_5_code
def yJ2_getChar_3b067 : MethodName := ⟨RJ2, "getChar", "([BI)C"⟩
abbrev cJ2_length_9d52b : ByteArray := prog_24_method_6_code
def yJ2_length_9d52b : MethodName := ⟨RJ2, "length", "([B)I"⟩
abbrev cJ2_indexOf_4cfef : ByteArray := prog_24_method_40_code
def yJ2_indexOf_4cfef : MethodName := ⟨RJ2, "indexOf", "([BIII)I"⟩
abbrev cJ2_indexOfChar_4cfef : ByteArray := prog_24_method_47_code
def yJ2_indexOfChar_4cfef : MethodName := ⟨RJ2, "indexOfChar", "([BIII)I"⟩
abbrev cJ2_indexOfCharUnsafe_4cfef : ByteArray := prog_24_method_48_code
def yJ2_indexOfCharUnsafe_4cfef : MethodName := ⟨RJ2, "indexOfCharUnsafe", "([BIII)I"⟩
abbrev cJ2_indexOfSupplementary_4cfef : ByteArray := prog_24_method_49_code
def yJ2_indexOfSupplementary_4cfef : MethodName := ⟨RJ2, "indexOfSupplementary", "([BIII)I"⟩
abbrev cJ2_charAt_3b067 : ByteArray := prog_24_method_83_code
def yJ2_charAt_3b067 : MethodName := ⟨RJ2, "charAt", "([BI)C"⟩
abbrev cJ2_checkIndex_2214a : ByteArray := prog_24_method_91_code
def yJ2_checkIndex_2214a : MethodName := ⟨RJ2, "checkIndex", "(I[B)V"⟩
abbrev cJ2_checkBoundsBeginEnd_d044e : ByteArray := prog_24_method_93_code
def yJ2_checkBoundsBeginEnd_d044e : MethodName := ⟨RJ2, "checkBoundsBeginEnd", "(II[B)V"⟩
def RJ10 : String := "java/lang/System"
def TJ10 : u_T := fun k => match k with
  | _ => ("", "", "", false)
def tyJ10 : Nat → FieldType := fun k => match k with
  | _ => .int
abbrev wsJ100 : List Cond := u_ws RJ10 TJ10 0
theorem nmJ10 : ∀ a, a < 0 → ∀ b, b < 0 → a ≠ b → (TJ10 a).2.1 ≠ (TJ10 b).2.1 := by decide +kernel
theorem tyJ10_ok : ∀ k, k < 0 → parseFieldDescriptor (TJ10 k).2.2.1 = some (tyJ10 k) := by decide +kernel
def TJx3cf43 : u_T := fun k => match k with
  | _ => ("", "", "", false)
def tyJx3cf43 : Nat → FieldType := fun k => match k with
  | _ => .int
theorem nmJx3cf43 : ∀ a, a < 0 → ∀ b, b < 0 → a ≠ b → (TJx3cf43 a).2.1 ≠ (TJx3cf43 b).2.1 := by decide +kernel
def RJ7 : String := "java/util/Arrays"
def TJ7 : u_T := fun k => match k with
  | _ => ("", "", "", false)
def tyJ7 : Nat → FieldType := fun k => match k with
  | _ => .int
abbrev wsJ70 : List Cond := u_ws RJ7 TJ7 0
theorem nmJ7 : ∀ a, a < 0 → ∀ b, b < 0 → a ≠ b → (TJ7 a).2.1 ≠ (TJ7 b).2.1 := by decide +kernel
theorem tyJ7_ok : ∀ k, k < 0 → parseFieldDescriptor (TJ7 k).2.2.1 = some (tyJ7 k) := by decide +kernel
abbrev cJ7_fill_53178 : ByteArray := prog_29_method_103_code
def yJ7_fill_53178 : MethodName := ⟨RJ7, "fill", "([II)V"⟩
def RJ3 : String := "jdk/internal/util/Preconditions"
def TJ3 : u_T := fun k => match k with
  | _ => ("", "", "", false)
def tyJ3 : Nat → FieldType := fun k => match k with
  | _ => .int
abbrev wsJ30 : List Cond := u_ws RJ3 TJ3 0
theorem nmJ3 : ∀ a, a < 0 → ∀ b, b < 0 → a ≠ b → (TJ3 a).2.1 ≠ (TJ3 b).2.1 := by decide +kernel
theorem tyJ3_ok : ∀ k, k < 0 → parseFieldDescriptor (TJ3 k).2.2.1 = some (tyJ3 k) := by decide +kernel
abbrev cJ3_checkIndex_8e157 : ByteArray := prog_31_method_11_code
def yJ3_checkIndex_8e157 : MethodName := ⟨RJ3, "checkIndex", "(IILjava/util/function/BiFunction;)I"⟩
abbrev cJ3_checkFromToIndex_8c36e : ByteArray := prog_31_method_12_code
def yJ3_checkFromToIndex_8c36e : MethodName := ⟨RJ3, "checkFromToIndex", "(IIILjava/util/function/BiFunction;)I"⟩
def RL : String := "FirstChimneyLaw"
abbrev cL_rests : ByteArray := method_3_code
def yL_rests : MethodName := ⟨RL, "rests", "(LFirstChimney;IIII[J)I"⟩
abbrev cL_law : ByteArray := code
def yL_law : MethodName := ⟨RL, "law", "([I)Z"⟩
abbrev vwCl : List vw_C := [(RX0, TX0, 15), (RX1, TX1, 3), (RX2, TX2, 3), (RX3, TX3, 4), (RX4, TX4, 6), (RX5, TX5, 4), (RX6, TX6, 4), (RX7, TX7, 9), (RX8, TX8, 8), (RX9, TX9, 3), (RX10, TX10, 12), (RX11, TX11, 30)]
end
section
/-! ===== the memory: every cell that the run has made, by its place; ints, longs and references apart ===== -/
abbrev fc_Mi : Type := Nat → Nat → Int32
abbrev fc_Ml : Type := Nat → Nat → Int64
abbrev fc_Mr : Type := Nat → Nat → Option Nat
/-- shapes: (class number, 0), or (20 + kind of array, length) -/
abbrev fc_Sh : Type := List (Nat × Nat)
/-- launch, class numbers and slots, array classes, first place, the constant texts' places -/
abbrev fc_E : Type := Launch × va_G × (Nat → ClassId) × Nat × (Nat → Nat) × (Nat → Nat)
def fc_u {α : Type} (f : Nat → Nat → α) (a j : Nat) (x : α) : Nat → Nat → α := fun a' => if a' = a then (fun j' => if j' = j then x else f a' j') else f a'
/-- a row for a row -/
def fc_ur {α : Type} (f : Nat → Nat → α) (a : Nat) (g : Nat → α) : Nat → Nat → α := fun a' => if a' = a then g else f a'
theorem fc_u_row {α : Type} (f : Nat → Nat → α) (a j : Nat) (x : α) : fc_u f a j x a = fun j' => if j' = j then x else f a j' := by unfold fc_u; rw [if_pos rfl]
theorem fc_u_off {α : Type} (f : Nat → Nat → α) {a b : Nat} (j : Nat) (x : α) (h : b ≠ a) : fc_u f a j x b = f b := by unfold fc_u; rw [if_neg h]
theorem fc_ur_row {α : Type} (f : Nat → Nat → α) (a : Nat) (g : Nat → α) : fc_ur f a g a = g := by unfold fc_ur; rw [if_pos rfl]
theorem fc_ur_off {α : Type} (f : Nat → Nat → α) {a b : Nat} (g : Nat → α) (h : b ≠ a) : fc_ur f a g b = f b := by unfold fc_ur; rw [if_neg h]
def fc_fv (base : Nat) (mi : Nat → Int32) (ml : Nat → Int64) (mr : Nat → Option Nat) (j : Nat) : Nat → Value
  | 0 => .int (mi j)
  | 1 => .long (ml j)
  | 3 => .int (mi j)
  | _ => va_rf ((mr j).map (base + ·))
/-- the kinds of a class's fields: 0 int, 1 long, 2 reference, 3 boolean -/
def fc_ft : Nat → List Nat
  | 0 => [2, 2, 2, 2, 2, 2, 2, 2, 2, 2, 0, 0, 0, 0, 0]
  | 1 => [2, 3, 3]
  | 2 => [2, 2, 0]
  | 3 => [2, 0, 0, 3]
  | 4 => [2, 2, 2, 2, 0, 0]
  | 5 => [2, 2, 2, 0]
  | 6 => [2, 2, 2, 0]
  | 7 => [0, 0, 2, 2, 2, 2, 2, 2, 2]
  | 8 => [2, 0, 0, 0, 0, 0, 1, 0]
  | 9 => [2, 2, 2]
  | 10 => [2, 2, 2, 2, 2, 2, 2, 2, 2, 2, 2, 1]
  | 11 => [0, 2, 0, 0, 2, 2, 2, 0, 0, 2, 2, 2, 2, 0, 2, 2, 2, 2, 0, 0, 0, 2, 2, 2, 2, 0, 2, 2, 2, 1]
  | _ => []
def fc_fs (base : Nat) (mi : Nat → Int32) (ml : Nat → Int64) (mr : Nat → Option Nat) : Nat → List Nat → List Value
  | _, [] => []
  | j, t :: ts => fc_fv base mi ml mr j t :: fc_fs base mi ml mr (j + 1) ts
theorem fc_fs_get {base : Nat} {mi : Nat → Int32} {ml : Nat → Int64} {mr : Nat → Option Nat} : ∀ (ts : List Nat) (j k : Nat), (fc_fs base mi ml mr j ts)[k]? = (ts[k]?).map (fun t => fc_fv base mi ml mr (j + k) t)
  | [], j, k => by simp [fc_fs]
  | t :: ts, j, 0 => by simp [fc_fs]
  | t :: ts, j, k + 1 => by
    rw [fc_fs, List.getElem?_cons_succ, List.getElem?_cons_succ, fc_fs_get ts (j + 1) k]
    rw [show j + 1 + k = j + (k + 1) by omega]
theorem fc_fs_len {base : Nat} {mi : Nat → Int32} {ml : Nat → Int64} {mr : Nat → Option Nat} : ∀ (ts : List Nat) (j : Nat), (fc_fs base mi ml mr j ts).length = ts.length
  | [], j => rfl
  | t :: ts, j => by simp [fc_fs, fc_fs_len ts (j + 1)]
def fc_rows (base : Nat) (mr : Nat → Option Nat) : Nat → Option Nat := fun j => (mr j).map (base + ·)
def fc_cell (base : Nat) (tA : Nat → ClassId) (mi : Nat → Int32) (ml : Nat → Int64) (mr : Nat → Option Nat) (c : Nat × Nat) : va_E :=
  match c.1 with
  | 20 => .inl (tA 0, c.2, .inl mi)
  | 21 => .inl (tA 1, c.2, .inr (.inl ml))
  | 22 => .inl (tA 2, c.2, .inl mi)
  | 23 => .inl (tA 3, c.2, .inl mi)
  | 24 => .inl (tA 4, c.2, .inr (.inr (.inr (.inr (fc_rows base mr)))))
  | 25 => .inl (tA 5, c.2, .inr (.inr (.inr (.inr (fc_rows base mr)))))
  | 26 => .inl (tA 6, c.2, .inr (.inr (.inr (.inr (fc_rows base mr)))))
  | k => .inr (k, fc_fs base mi ml mr 0 (fc_ft k))
def fc_ws (E : fc_E) (sh : fc_Sh) (mi : fc_Mi) (ml : fc_Ml) (mr : fc_Mr) : va_W := sh.mapIdx (fun k c => (E.2.2.2.1 + k, fc_cell E.2.2.2.1 E.2.2.1 (mi k) (ml k) (mr k) c))
theorem fc_ws_get {E : fc_E} {sh : fc_Sh} {mi : fc_Mi} {ml : fc_Ml} {mr : fc_Mr} {k : Nat} {c : Nat × Nat} (h : sh[k]? = some c) : (fc_ws E sh mi ml mr)[k]? = some (E.2.2.2.1 + k, fc_cell E.2.2.2.1 E.2.2.1 (mi k) (ml k) (mr k) c) := by
  rw [fc_ws, List.getElem?_mapIdx, h]; rfl
theorem fc_ws_set {E : fc_E} {sh : fc_Sh} {mi mi' : fc_Mi} {ml ml' : fc_Ml} {mr mr' : fc_Mr} {k : Nat} {c : Nat × Nat} {e : va_E} (h : sh[k]? = some c)
    (hi : ∀ a, a ≠ k → mi' a = mi a) (hl : ∀ a, a ≠ k → ml' a = ml a) (hr : ∀ a, a ≠ k → mr' a = mr a) (he : fc_cell E.2.2.2.1 E.2.2.1 (mi' k) (ml' k) (mr' k) c = e) :
    (fc_ws E sh mi ml mr).set k (E.2.2.2.1 + k, e) = fc_ws E sh mi' ml' mr' := by
  subst he
  apply List.ext_getElem?
  intro i
  by_cases hik : i = k
  · subst hik
    have hlt : i < (fc_ws E sh mi ml mr).length := by
      have := (List.getElem?_eq_some_iff.mp h).1
      simpa [fc_ws] using this
    rw [List.getElem?_set_self hlt, fc_ws_get h]
  · rw [List.getElem?_set_ne (Ne.symm hik)]
    simp only [fc_ws, List.getElem?_mapIdx]
    rw [hi i hik, hl i hik, hr i hik]
def fc_A (E : fc_E) : Nat → Prop := fun q => E.2.2.2.1 ≤ q
theorem fc_ws_D {E : fc_E} {sh : fc_Sh} {mi : fc_Mi} {ml : fc_Ml} {mr : fc_Mr} : va_D (fc_A E) (fc_ws E sh mi ml mr) := by
  have key : ∀ (i : Nat) (q : Nat × va_E), (fc_ws E sh mi ml mr)[i]? = some q → q.1 = E.2.2.2.1 + i := by
    intro i q h
    simp only [fc_ws, List.getElem?_mapIdx] at h
    cases hs : sh[i]? with
    | none => rw [hs] at h; cases h
    | some c => rw [hs] at h; cases h; rfl
  refine ⟨fun i j x y hi hj hxy => ?_, fun k q hk => ?_⟩
  · have h1 := key i x hi
    have h2 := key j y hj
    omega
  · show E.2.2.2.1 ≤ q.1
    rw [key k q hk]
    omega
def fc_tys (tA : Nat → ClassId) : List (ClassId × FieldType) := [(tA 0, .int), (tA 1, .long), (tA 2, .boolean), (tA 3, .char), (tA 4, .object "FirstChimney$State"), (tA 5, .object "FirstChimney$Seen"), (tA 6, .array .int)]
/-- my values, and the machine's: a place is counted from the first one; float i is the i-th constant text, retAddr i its row of bytes -/
def fc_v (E : fc_E) : Value → Value
  | .ref q => .ref (E.2.2.2.1 + q)
  | .float u => .ref (E.2.2.2.2.1 u.toNat)
  | .retAddr i => .ref (E.2.2.2.2.2 i)
  | v => v
theorem fc_v_cat (E : fc_E) (v : Value) : (fc_v E v).category = v.category := by cases v <;> rfl
end
section
/-! ===== the judgement over that memory ===== -/
def fc_rm (d : Nat) : Room := { frames := d + 1, cells := 0, slots := 0, locals := 64 * (d + 1) }
/-- the tables' words that hold everywhere -/
def fc_G : List Cond := lw_tbl.filter goodWord
theorem fc_G_of {w : Cond} (i : Nat) (h : lw_tbl[i]? = some w) (hg : goodWord w = true) : w ∈ fc_G := List.mem_filter.mpr ⟨List.mem_of_getElem? h, hg⟩
/-- links of private static methods that nest mates call: (class, entry, method) -/
def fc_N : List (String × Nat × MethodName) := [("FirstChimney$Tape", 15, yX10_isFrom), ("FirstChimney$LandReader", 100, yX10_isIn), ("FirstChimney$LandReader", 110, yX10_isFrom), ("FirstChimney$Ways", 39, yX10_isIn), ("FirstChimney$Script", 44, yX10_isFrom), ("FirstChimney$State", 96, yX10_isIn)]
def fc_nw (q : String × Nat × MethodName) : Cond := .methodLinkNest q.1 q.2.1 q.2.2 "FirstChimney"
/-- the constant texts: class, entry, text -/
def fc_tx : List (String × Nat × String) := [("FirstChimney$Tape", 58, "place   path    person  in      wakes   thing   worth   of      smoke   binds   minute  walk    give    vow     plain   bench   slow    mute    not     and     or      "), ("FirstChimney$Tape", 44, "()<=+-*;"), ("FirstChimney$LawReader", 49, "clock   price   crowd   judge   "), ("FirstChimney", 309, "no such kindling"), ("FirstChimney", 318, "no such rest")]
def fc_tl : List Nat := [168, 8, 32, 16, 12]
def fc_tb : List (List Int32) := fc_tx.map (fun q => q.2.2.toList.map (fun c => nI c.toNat))
def fc_K (E : fc_E) (U : State) : Prop := va_K E.2.1 vwCl (fc_tys E.2.2.1) U ∧ (∀ q ∈ fc_N, va_Nw (fc_nw q) U) ∧ vk_S 5 fc_tl fc_tb E.2.2.2.2.1 E.2.2.2.2.2 (fc_A E) U U.heap ∧ ∀ (i : Nat) (q : String × Nat × String), fc_tx[i]? = some q → vk_R q.1 q.2.1 q.2.2 (E.2.2.2.2.1 i) U
theorem fc_K.moved {E : fc_E} {s U : State} (h : fc_K E s) (hW : s.WarmedH U.vm) (hq : ∀ a : Nat, a < s.heap.size → ¬ fc_A E a → U.heap[a]? = s.heap[a]?) : fc_K E U :=
  ⟨va_K.moved hW.alike h.1, fun q hm => va_Nw.warmM hW (h.2.1 q hm), (h.2.2.1.kept hq).moved hW.alike, fun i q hi => (h.2.2.2 i q hi).warm hW⟩
theorem fc_K.calling {E : fc_E} {U : State} (a : Array Value) (g : JFrame) (mk : MethodId) (h : fc_K E U) : fc_K E (U.calling g mk a) :=
  ⟨va_K.moved (u := U) (U := U.calling g mk a) (Vm.Alike.refl U.vm) h.1, fun q hm => va_Nw.same rfl rfl (h.2.1 q hm), vk_S.moved (u := U) (U := U.calling g mk a) (Vm.Alike.refl U.vm) h.2.2.1, fun i q hi => (h.2.2.2 i q hi).same rfl⟩
/-- a method: name, code, locals, kind of answer -/
abbrev fc_M : Type := MethodName × ByteArray × Nat × Option FieldType
def fc_w (y : fc_M) : List Cond := .code y.1 y.2.1 y.2.2.1 y.2.2.2 :: fc_G
abbrev fc_Q : Type := Option Value → fc_Mi → fc_Ml → fc_Mr → Prop
def fc_Qc (E : fc_E) (sh : fc_Sh) (Q : fc_Q) : Array Value → State → Outcome → State → Prop := fun _ st o t =>
  (∃ v mi ml mr, Q v mi ml mr ∧ o = .returned (v.map (fc_v E)) ∧ va_P E.2.1 vwCl (fc_ws E sh mi ml mr) t.heap) ∧ va_F (fc_A E) st t
/-- THE CONTRACT of a method that makes no cell: from this memory with these arguments it returns, and Q -/
def fc_R (E : fc_E) (y : fc_M) (d : Nat) (sh : fc_Sh) (As : List Value) (mi : fc_Mi) (ml : fc_Ml) (mr : fc_Mr) (Q : fc_Q) : Prop :=
  Met E.1 y.1 (fc_w y) (fc_rm d) (va_Pc (As.map (fc_v E)) (fun U => va_P E.2.1 vwCl (fc_ws E sh mi ml mr) U.heap ∧ fc_K E U)) (fc_Qc E sh Q) 0 0 (fc_A E)
def fc_C (E : fc_E) (y : fc_M) (p : Program) (s : State) (m : MethodId) (args : Array Value) (meth : Method) (c : Code) : Prop :=
  p.tables.exec = Jvm.exec ∧ c.code = y.2.1 ∧ meth.sig.returnType = y.2.2.2 ∧ meth.locks = false ∧ s.vm.findClass y.1.cls = some m.cls ∧ c.maxLocals = y.2.2.1 ∧ (∀ w ∈ fc_G, w.before args s = true) ∧ fc_K E s
/-- locals: what is known of them, by place -/
def fc_lv (E : fc_E) (ls : Array Slot) (nL : Nat) (lv : List (Option Value)) : Prop := ls.size = nL ∧ lv_wf ls ∧ ∀ (i : Nat) (v : Value), lv[i]? = some (some v) → ls[i]? = some (.val (fc_v E v))
def fc_T (E : fc_E) (y : fc_M) (d : Nat) (sh : fc_Sh) (pc : Nat) (lv : List (Option Value)) (st : List Value) (mi : fc_Mi) (ml : fc_Ml) (mr : fc_Mr) (Q : fc_Q) : Prop :=
  ∀ (p : Program) (e : Env) (s : State) (m : MethodId) (args : Array Value) (below : List Frame) (meth : Method) (c : Code) (H : Heap) (locs : List Loc) (ls : Array Slot),
    fc_C E y p s m args meth c → va_P E.2.1 vwCl (fc_ws E sh mi ml mr) H → va_S (fc_A E) s.heap H locs → fc_lv E ls y.2.2.1 lv →
    W p E.1 e (fc_rm d) s m args below meth c H locs 0 0 (MQ below (fc_Qc E sh Q) args s 0 0 (fc_A E)) (F0 m pc ls (st.map (fc_v E)))
/-- what a method begins with -/
def fc_l0 : List Value → List (Option Value)
  | [] => []
  | v :: vs => if v.category = 2 then some v :: none :: fc_l0 vs else some v :: fc_l0 vs
theorem fc_l0_args (E : fc_E) : ∀ (vs : List Value) (n i : Nat) (v : Value), (fc_l0 vs)[i]? = some (some v) → (n + i, fc_v E v) ∈ lv_args n (vs.map (fc_v E))
  | [], n, i, v, h => by simp [fc_l0] at h
  | w :: vs, n, i, v, h => by
    simp only [List.map_cons, lv_args, fc_v_cat]
    simp only [fc_l0] at h
    by_cases hc : w.category = 2
    · rw [if_pos hc] at h
      rw [if_pos hc]
      match i, h with
      | 0, h => simp at h; subst h; exact List.mem_cons_self
      | 1, h => simp at h
      | i + 2, h =>
        refine List.mem_cons_of_mem _ ?_
        have := fc_l0_args E vs (n + 2) i v (by simpa using h)
        rwa [show n + 2 + i = n + (i + 2) by omega] at this
    · rw [if_neg hc] at h
      rw [if_neg hc]
      match i, h with
      | 0, h => simp at h; subst h; exact List.mem_cons_self
      | i + 1, h =>
        refine List.mem_cons_of_mem _ ?_
        have := fc_l0_args E vs (n + 1) i v (by simpa using h)
        rwa [show n + 1 + i = n + (i + 1) by omega] at this
theorem fc_lsl (E : fc_E) : ∀ vs : List Value, (lg_sl (vs.map (fc_v E))).length = (lg_sl vs).length
  | [] => rfl
  | v :: vs => by
    simp only [lg_sl, List.map_cons, List.flatMap_cons, List.length_append]
    have := fc_lsl E vs
    simp only [lg_sl] at this
    rw [this, fc_v_cat]
    congr 1
    split <;> rfl
/-- a contract out of a walk of the body -/
theorem fc_met {E : fc_E} {y : fc_M} {d : Nat} {sh : fc_Sh} {As : List Value} {mi : fc_Mi} {ml : fc_Ml} {mr : fc_Mr} {Q : fc_Q} (hy : plainName y.1.cls = true) (hn : (lg_sl As).length ≤ y.2.2.1)
    (h : fc_T E y d sh 0 (fc_l0 As) [] mi ml mr Q) : fc_R E y d sh As mi ml mr Q := by
  refine Met.ofW (cc := y.2.1) (maxL := y.2.2.1) (ret := y.2.2.2) hy rfl ?_
  intro p e s m args below meth c s₁ B hml hv
  obtain ⟨rfl, hP, hK⟩ := hv
  have hts := atoms_spec (ws := fc_w y) B.pre
  have hown : s.vm.findClass y.1.cls = some m.cls := findClass_of_methodNamed B.named
  have hl := lv_entry (As.map (fc_v E)) (n := y.2.2.1) (by rw [fc_lsl]; exact hn)
  rw [lg_entry_eq]
  exact h p e s m _ below meth c s.heap [] _ ⟨B.exec, B.bytes, B.returns, B.notSynchronized, hown, hml, fun w hw => hts w (List.mem_cons_of_mem _ hw), hK⟩ hP va_S.rf
    ⟨hl.1, hl.2.1, fun i v hi => hl.2.2 (i, fc_v E v) (by simpa using fc_l0_args E As 0 i v hi)⟩
end
section
/-! ===== one instruction each ===== -/
def fc_as (E : fc_E) (lv : List (Option Value)) : List (Nat × Value) := (List.range lv.length).filterMap (fun j => (lv[j]?.join).map (fun v => (j, fc_v E v)))
theorem fc_as_mem {E : fc_E} {lv : List (Option Value)} {q : Nat × Value} : q ∈ fc_as E lv ↔ ∃ v, lv[q.1]? = some (some v) ∧ q.2 = fc_v E v := by
  unfold fc_as
  rw [List.mem_filterMap]
  constructor
  · rintro ⟨j, hj, h⟩
    rw [Option.map_eq_some_iff] at h
    obtain ⟨v, h1, rfl⟩ := h
    refine ⟨v, ?_, rfl⟩
    cases hl : lv[j]? with
    | none => rw [hl] at h1; simp at h1
    | some o => rw [hl] at h1; simp at h1; subst h1; rfl
  · rintro ⟨v, h1, h2⟩
    refine ⟨q.1, List.mem_range.mpr (List.getElem?_eq_some_iff.mp h1).1, ?_⟩
    rw [h1]
    show some (q.1, fc_v E v) = some q
    rw [← h2]
theorem fc_lv.has {E : fc_E} {ls : Array Slot} {nL : Nat} {lv : List (Option Value)} (h : fc_lv E ls nL lv) : lv_has ls nL (fc_as E lv) :=
  ⟨h.1, h.2.1, fun q hq => by
    obtain ⟨v, h1, h2⟩ := fc_as_mem.mp hq
    rw [h2]
    exact h.2.2 q.1 v h1⟩
/-- a long whose second half is written is gone -/
def fc_kl (lv : List (Option Value)) (i : Nat) : List (Option Value) := match i with
  | 0 => lv
  | j + 1 => match lv[j]? with
    | some (some w) => if w.category = 2 then lv.set j none else lv
    | _ => lv
theorem fc_kl_get {lv : List (Option Value)} {i j : Nat} {v : Value} (h : (fc_kl lv i)[j]? = some (some v)) : lv[j]? = some (some v) ∧ ¬ (j + 1 = i ∧ v.category = 2) := by
  unfold fc_kl at h
  cases i with
  | zero => exact ⟨h, fun q => by omega⟩
  | succ k =>
    dsimp only at h
    have ho : lv[k]? = none ∨ lv[k]? = some none → lv[j]? = some (some v) → ¬ (j + 1 = k + 1 ∧ v.category = 2) := by
      intro hk hj q
      have e : j = k := by omega
      rw [e] at hj
      rcases hk with hk | hk
      · rw [hk] at hj; cases hj
      · rw [hk] at hj; cases hj
    cases hk : lv[k]? with
    | none =>
      rw [hk] at h
      exact ⟨h, ho (Or.inl hk) h⟩
    | some o =>
      rw [hk] at h
      cases o with
      | none => exact ⟨h, ho (Or.inr hk) h⟩
      | some w =>
        dsimp only at h
        by_cases hc : w.category = 2
        · rw [if_pos hc] at h
          by_cases hjk : j = k
          · subst hjk
            rw [List.getElem?_set_self (List.getElem?_eq_some_iff.mp hk).1] at h
            cases h
          · rw [List.getElem?_set_ne (Ne.symm hjk)] at h
            exact ⟨h, fun q => by omega⟩
        · rw [if_neg hc] at h
          refine ⟨h, fun q => ?_⟩
          have : j = k := by omega
          subst this
          rw [hk] at h
          cases h
          exact hc q.2
def fc_s1 (lv : List (Option Value)) (i : Nat) (v : Value) : List (Option Value) := (fc_kl lv i).set i (some v)
def fc_s2 (lv : List (Option Value)) (i : Nat) (v : Value) : List (Option Value) := ((fc_kl lv i).set i (some v)).set (i + 1) none
theorem fc_lv.s1 {E : fc_E} {ls' : Array Slot} {nL i : Nat} {lv : List (Option Value)} {v : Value} (h : lv_has ls' nL ((i, fc_v E v) :: (fc_as E lv).filter (fun q => !(q.1 == i) && !(q.1 + 1 == i && q.2.category == 2)))) : fc_lv E ls' nL (fc_s1 lv i v) := by
  refine ⟨h.1, h.2.1, fun j w hj => ?_⟩
  unfold fc_s1 at hj
  by_cases hji : j = i
  · subst hji
    by_cases hlt : j < (fc_kl lv j).length
    · rw [List.getElem?_set_self hlt] at hj
      cases hj
      exact h.2.2 _ List.mem_cons_self
    · rw [List.getElem?_eq_none (by simpa using Nat.not_lt.mp hlt)] at hj
      cases hj
  · rw [List.getElem?_set_ne (Ne.symm hji)] at hj
    obtain ⟨h1, h2⟩ := fc_kl_get hj
    refine h.2.2 (j, fc_v E w) (List.mem_cons_of_mem _ (List.mem_filter.mpr ⟨fc_as_mem.mpr ⟨w, h1, rfl⟩, ?_⟩))
    simp only [fc_v_cat, Bool.and_eq_true, Bool.not_eq_true', beq_eq_false_iff_ne, Bool.and_eq_false_imp, beq_iff_eq]
    exact ⟨hji, fun q => by simpa using fun z => h2 ⟨q, z⟩⟩
theorem fc_lv.s2 {E : fc_E} {ls' : Array Slot} {nL i : Nat} {lv : List (Option Value)} {v : Value} (h : lv_has ls' nL ((i, fc_v E v) :: (fc_as E lv).filter (fun q => !(q.1 == i) && (!(q.1 == i + 1) && !(q.1 + 1 == i && q.2.category == 2))))) : fc_lv E ls' nL (fc_s2 lv i v) := by
  refine ⟨h.1, h.2.1, fun j w hj => ?_⟩
  unfold fc_s2 at hj
  by_cases hj1 : j = i + 1
  · subst hj1
    by_cases hlt : i + 1 < ((fc_kl lv i).set i (some v)).length
    · rw [List.getElem?_set_self hlt] at hj
      cases hj
    · rw [List.getElem?_eq_none (by simpa using Nat.not_lt.mp hlt)] at hj
      cases hj
  · rw [List.getElem?_set_ne (Ne.symm hj1)] at hj
    by_cases hji : j = i
    · subst hji
      by_cases hlt : j < (fc_kl lv j).length
      · rw [List.getElem?_set_self hlt] at hj
        cases hj
        exact h.2.2 _ List.mem_cons_self
      · rw [List.getElem?_eq_none (by simpa using Nat.not_lt.mp hlt)] at hj
        cases hj
    · rw [List.getElem?_set_ne (Ne.symm hji)] at hj
      obtain ⟨h1, h2⟩ := fc_kl_get hj
      refine h.2.2 (j, fc_v E w) (List.mem_cons_of_mem _ (List.mem_filter.mpr ⟨fc_as_mem.mpr ⟨w, h1, rfl⟩, ?_⟩))
      simp only [fc_v_cat, Bool.and_eq_true, Bool.not_eq_true', beq_eq_false_iff_ne, Bool.and_eq_false_imp, beq_iff_eq]
      exact ⟨hji, hj1, fun q => by simpa using fun z => h2 ⟨q, z⟩⟩
section R1
variable {E : fc_E} {y : fc_M} {d : Nat} {sh : fc_Sh} {pc : Nat} {lv : List (Option Value)} {st : List Value} {mi : fc_Mi} {ml : fc_Ml} {mr : fc_Mr} {Q : fc_Q}
theorem fc_r_iconst {n : Int} {v : Int32} (hd : decode y.2.1 pc = .ok (.iconst n, 1)) (hv : Int32.ofInt n = v) (k : fc_T E y d sh (pc + 1) lv (.int v :: st) mi ml mr Q) : fc_T E y d sh pc lv st mi ml mr Q := fun p e s m args below meth c H locs ls hC hP hS hl => lv_iconst hC.1 hC.2.1 hd hv (k p e s m args below meth c H locs ls hC hP hS hl)
theorem fc_r_bipush {n : Int} {v : Int32} (hd : decode y.2.1 pc = .ok (.bipush n, 2)) (hv : (Int8.ofInt n).toInt32 = v) (k : fc_T E y d sh (pc + 2) lv (.int v :: st) mi ml mr Q) : fc_T E y d sh pc lv st mi ml mr Q := fun p e s m args below meth c H locs ls hC hP hS hl => lv_bipush hC.1 hC.2.1 hd hv (k p e s m args below meth c H locs ls hC hP hS hl)
theorem fc_r_sipush {n : Int} {v : Int32} (hd : decode y.2.1 pc = .ok (.sipush n, 3)) (hv : (Int16.ofInt n).toInt32 = v) (k : fc_T E y d sh (pc + 3) lv (.int v :: st) mi ml mr Q) : fc_T E y d sh pc lv st mi ml mr Q := fun p e s m args below meth c H locs ls hC hP hS hl => lv_sipush hC.1 hC.2.1 hd hv (k p e s m args below meth c H locs ls hC hP hS hl)
theorem fc_r_lconst {n : Fin 2} {v : Int64} (hd : decode y.2.1 pc = .ok (.lconst n, 1)) (hv : Int64.ofNat (n : Nat) = v) (k : fc_T E y d sh (pc + 1) lv (.long v :: st) mi ml mr Q) : fc_T E y d sh pc lv st mi ml mr Q := fun p e s m args below meth c H locs ls hC hP hS hl => lv_lconst hC.1 hC.2.1 hd hv (k p e s m args below meth c H locs ls hC hP hS hl)
theorem fc_r_iload_n {k0 : Fin 4} {i : Nat} {x : Int32} (hd : decode y.2.1 pc = .ok (.iload_n k0, 1)) (hi : (k0 : Nat) = i) (hx : lv[i]? = some (some (.int x))) (k : fc_T E y d sh (pc + 1) lv (.int x :: st) mi ml mr Q) : fc_T E y d sh pc lv st mi ml mr Q := fun p e s m args below meth c H locs ls hC hP hS hl => lv_iload_n hC.1 hC.2.1 hd hi (hl.2.2 i _ hx) (k p e s m args below meth c H locs ls hC hP hS hl)
theorem fc_r_iload {i : Nat} {x : Int32} (hd : decode y.2.1 pc = .ok (.iload i, 2)) (hx : lv[i]? = some (some (.int x))) (k : fc_T E y d sh (pc + 2) lv (.int x :: st) mi ml mr Q) : fc_T E y d sh pc lv st mi ml mr Q := fun p e s m args below meth c H locs ls hC hP hS hl => lv_iload hC.1 hC.2.1 hd (hl.2.2 i _ hx) (k p e s m args below meth c H locs ls hC hP hS hl)
theorem fc_r_lload_n {k0 : Fin 4} {i : Nat} {x : Int64} (hd : decode y.2.1 pc = .ok (.lload_n k0, 1)) (hi : (k0 : Nat) = i) (hx : lv[i]? = some (some (.long x))) (k : fc_T E y d sh (pc + 1) lv (.long x :: st) mi ml mr Q) : fc_T E y d sh pc lv st mi ml mr Q := fun p e s m args below meth c H locs ls hC hP hS hl => lv_lload_n hC.1 hC.2.1 hd hi (hl.2.2 i _ hx) (k p e s m args below meth c H locs ls hC hP hS hl)
theorem fc_r_lload {i : Nat} {x : Int64} (hd : decode y.2.1 pc = .ok (.lload i, 2)) (hx : lv[i]? = some (some (.long x))) (k : fc_T E y d sh (pc + 2) lv (.long x :: st) mi ml mr Q) : fc_T E y d sh pc lv st mi ml mr Q := fun p e s m args below meth c H locs ls hC hP hS hl => lv_lload hC.1 hC.2.1 hd (hl.2.2 i _ hx) (k p e s m args below meth c H locs ls hC hP hS hl)
theorem fc_r_aload_n {k0 : Fin 4} {i : Nat} {x : Nat} (hd : decode y.2.1 pc = .ok (.aload_n k0, 1)) (hi : (k0 : Nat) = i) (hx : lv[i]? = some (some (.ref x))) (k : fc_T E y d sh (pc + 1) lv (.ref x :: st) mi ml mr Q) : fc_T E y d sh pc lv st mi ml mr Q := fun p e s m args below meth c H locs ls hC hP hS hl => lv_aload_n hC.1 hC.2.1 hd hi (hl.2.2 i _ hx) (k p e s m args below meth c H locs ls hC hP hS hl)
theorem fc_r_aload {i : Nat} {x : Nat} (hd : decode y.2.1 pc = .ok (.aload i, 2)) (hx : lv[i]? = some (some (.ref x))) (k : fc_T E y d sh (pc + 2) lv (.ref x :: st) mi ml mr Q) : fc_T E y d sh pc lv st mi ml mr Q := fun p e s m args below meth c H locs ls hC hP hS hl => lv_aload hC.1 hC.2.1 hd (hl.2.2 i _ hx) (k p e s m args below meth c H locs ls hC hP hS hl)
theorem fc_r_sload_n {k0 : Fin 4} {i : Nat} {x : UInt32} (hd : decode y.2.1 pc = .ok (.aload_n k0, 1)) (hi : (k0 : Nat) = i) (hx : lv[i]? = some (some (.float x))) (k : fc_T E y d sh (pc + 1) lv (.float x :: st) mi ml mr Q) : fc_T E y d sh pc lv st mi ml mr Q := fun p e s m args below meth c H locs ls hC hP hS hl => lv_aload_n hC.1 hC.2.1 hd hi (hl.2.2 i _ hx) (k p e s m args below meth c H locs ls hC hP hS hl)
theorem fc_r_istore_n {k0 : Fin 4} {i : Nat} {x : Int32} (hd : decode y.2.1 pc = .ok (.istore_n k0, 1)) (hi : (k0 : Nat) = i) (hn : i < y.2.2.1) (k : fc_T E y d sh (pc + 1) (fc_s1 lv i (.int x)) st mi ml mr Q) : fc_T E y d sh pc lv (.int x :: st) mi ml mr Q := fun p e s m args below meth c H locs ls hC hP hS hl => lv_istore_n hC.1 hC.2.1 hd hi hl.has hn rfl (fun ls' hl' => k p e s m args below meth c H locs ls' hC hP hS (fc_lv.s1 (v := .int x) hl'))
theorem fc_r_istore {i : Nat} {x : Int32} (hd : decode y.2.1 pc = .ok (.istore i, 2)) (hn : i < y.2.2.1) (k : fc_T E y d sh (pc + 2) (fc_s1 lv i (.int x)) st mi ml mr Q) : fc_T E y d sh pc lv (.int x :: st) mi ml mr Q := fun p e s m args below meth c H locs ls hC hP hS hl => lv_istore hC.1 hC.2.1 hd hl.has hn rfl (fun ls' hl' => k p e s m args below meth c H locs ls' hC hP hS (fc_lv.s1 (v := .int x) hl'))
theorem fc_r_lstore_n {k0 : Fin 4} {i : Nat} {x : Int64} (hd : decode y.2.1 pc = .ok (.lstore_n k0, 1)) (hi : (k0 : Nat) = i) (hn : i + 1 < y.2.2.1) (k : fc_T E y d sh (pc + 1) (fc_s2 lv i (.long x)) st mi ml mr Q) : fc_T E y d sh pc lv (.long x :: st) mi ml mr Q := fun p e s m args below meth c H locs ls hC hP hS hl => lv_lstore_n hC.1 hC.2.1 hd hi hl.has hn rfl (fun ls' hl' => k p e s m args below meth c H locs ls' hC hP hS (fc_lv.s2 (v := .long x) hl'))
theorem fc_r_lstore {i : Nat} {x : Int64} (hd : decode y.2.1 pc = .ok (.lstore i, 2)) (hn : i + 1 < y.2.2.1) (k : fc_T E y d sh (pc + 2) (fc_s2 lv i (.long x)) st mi ml mr Q) : fc_T E y d sh pc lv (.long x :: st) mi ml mr Q := fun p e s m args below meth c H locs ls hC hP hS hl => lv_lstore hC.1 hC.2.1 hd hl.has hn rfl (fun ls' hl' => k p e s m args below meth c H locs ls' hC hP hS (fc_lv.s2 (v := .long x) hl'))
theorem fc_r_astore_n {k0 : Fin 4} {i : Nat} {x : Nat} (hd : decode y.2.1 pc = .ok (.astore_n k0, 1)) (hi : (k0 : Nat) = i) (hn : i < y.2.2.1) (k : fc_T E y d sh (pc + 1) (fc_s1 lv i (.ref x)) st mi ml mr Q) : fc_T E y d sh pc lv (.ref x :: st) mi ml mr Q := fun p e s m args below meth c H locs ls hC hP hS hl => lv_astore_n hC.1 hC.2.1 hd hi hl.has hn rfl (fun ls' hl' => k p e s m args below meth c H locs ls' hC hP hS (fc_lv.s1 (v := .ref x) hl'))
theorem fc_r_astore {i : Nat} {x : Nat} (hd : decode y.2.1 pc = .ok (.astore i, 2)) (hn : i < y.2.2.1) (k : fc_T E y d sh (pc + 2) (fc_s1 lv i (.ref x)) st mi ml mr Q) : fc_T E y d sh pc lv (.ref x :: st) mi ml mr Q := fun p e s m args below meth c H locs ls hC hP hS hl => lv_astore hC.1 hC.2.1 hd hl.has hn rfl (fun ls' hl' => k p e s m args below meth c H locs ls' hC hP hS (fc_lv.s1 (v := .ref x) hl'))
theorem fc_r_iinc {i : Nat} {n : Int} {x v : Int32} (hd : decode y.2.1 pc = .ok (.iinc i n, 3)) (hx : lv[i]? = some (some (.int x))) (hv : x + Int32.ofInt n = v) (hn : i < y.2.2.1) (k : fc_T E y d sh (pc + 3) (fc_s1 lv i (.int v)) st mi ml mr Q) : fc_T E y d sh pc lv st mi ml mr Q := by
  intro p e s m args below meth c H locs ls hC hP hS hl
  obtain ⟨kk, hkk⟩ := List.getElem?_of_mem (fc_as_mem (E := E) (q := (i, .int x)) |>.mpr ⟨.int x, hx, rfl⟩)
  exact lv_iinc hC.1 hC.2.1 hd hl.has hkk hv hn rfl (fun ls' hl' => k p e s m args below meth c H locs ls' hC hP hS (fc_lv.s1 (v := .int v) hl'))
theorem fc_r_iadd {x z : Int32} (hd : decode y.2.1 pc = .ok (.iadd, 1))  (k : fc_T E y d sh (pc + 1) lv (.int (x + z) :: st) mi ml mr Q) : fc_T E y d sh pc lv (.int z :: .int x :: st) mi ml mr Q := fun p e s m args below meth c H locs ls hC hP hS hl => lv_iadd hC.1 hC.2.1 hd  (k p e s m args below meth c H locs ls hC hP hS hl)
theorem fc_r_isub {x z : Int32} (hd : decode y.2.1 pc = .ok (.isub, 1))  (k : fc_T E y d sh (pc + 1) lv (.int (x - z) :: st) mi ml mr Q) : fc_T E y d sh pc lv (.int z :: .int x :: st) mi ml mr Q := fun p e s m args below meth c H locs ls hC hP hS hl => lv_isub hC.1 hC.2.1 hd  (k p e s m args below meth c H locs ls hC hP hS hl)
theorem fc_r_imul {x z : Int32} (hd : decode y.2.1 pc = .ok (.imul, 1))  (k : fc_T E y d sh (pc + 1) lv (.int (x * z) :: st) mi ml mr Q) : fc_T E y d sh pc lv (.int z :: .int x :: st) mi ml mr Q := fun p e s m args below meth c H locs ls hC hP hS hl => lv_imul hC.1 hC.2.1 hd  (k p e s m args below meth c H locs ls hC hP hS hl)
theorem fc_r_iand {x z : Int32} (hd : decode y.2.1 pc = .ok (.iand, 1))  (k : fc_T E y d sh (pc + 1) lv (.int (x &&& z) :: st) mi ml mr Q) : fc_T E y d sh pc lv (.int z :: .int x :: st) mi ml mr Q := fun p e s m args below meth c H locs ls hC hP hS hl => lv_iand hC.1 hC.2.1 hd  (k p e s m args below meth c H locs ls hC hP hS hl)
theorem fc_r_ior {x z : Int32} (hd : decode y.2.1 pc = .ok (.ior, 1))  (k : fc_T E y d sh (pc + 1) lv (.int (x ||| z) :: st) mi ml mr Q) : fc_T E y d sh pc lv (.int z :: .int x :: st) mi ml mr Q := fun p e s m args below meth c H locs ls hC hP hS hl => lv_ior hC.1 hC.2.1 hd  (k p e s m args below meth c H locs ls hC hP hS hl)
theorem fc_r_ixor {x z : Int32} (hd : decode y.2.1 pc = .ok (.ixor, 1))  (k : fc_T E y d sh (pc + 1) lv (.int (x ^^^ z) :: st) mi ml mr Q) : fc_T E y d sh pc lv (.int z :: .int x :: st) mi ml mr Q := fun p e s m args below meth c H locs ls hC hP hS hl => lv_ixor hC.1 hC.2.1 hd  (k p e s m args below meth c H locs ls hC hP hS hl)
theorem fc_r_ishl {x z : Int32} (hd : decode y.2.1 pc = .ok (.ishl, 1))  (k : fc_T E y d sh (pc + 1) lv (.int (x <<< (z &&& 31)) :: st) mi ml mr Q) : fc_T E y d sh pc lv (.int z :: .int x :: st) mi ml mr Q := fun p e s m args below meth c H locs ls hC hP hS hl => lv_ishl hC.1 hC.2.1 hd  (k p e s m args below meth c H locs ls hC hP hS hl)
theorem fc_r_ishr {x z : Int32} (hd : decode y.2.1 pc = .ok (.ishr, 1))  (k : fc_T E y d sh (pc + 1) lv (.int (x >>> (z &&& 31)) :: st) mi ml mr Q) : fc_T E y d sh pc lv (.int z :: .int x :: st) mi ml mr Q := fun p e s m args below meth c H locs ls hC hP hS hl => lv_ishr hC.1 hC.2.1 hd  (k p e s m args below meth c H locs ls hC hP hS hl)
theorem fc_r_idiv {x z : Int32} (hd : decode y.2.1 pc = .ok (.idiv, 1)) (hz : ¬ z = 0) (k : fc_T E y d sh (pc + 1) lv (.int (x / z) :: st) mi ml mr Q) : fc_T E y d sh pc lv (.int z :: .int x :: st) mi ml mr Q := fun p e s m args below meth c H locs ls hC hP hS hl => lv_idiv hC.1 hC.2.1 hd hz (k p e s m args below meth c H locs ls hC hP hS hl)
theorem fc_r_irem {x z : Int32} (hd : decode y.2.1 pc = .ok (.irem, 1)) (hz : ¬ z = 0) (k : fc_T E y d sh (pc + 1) lv (.int (x - x / z * z) :: st) mi ml mr Q) : fc_T E y d sh pc lv (.int z :: .int x :: st) mi ml mr Q := fun p e s m args below meth c H locs ls hC hP hS hl => lv_irem hC.1 hC.2.1 hd hz (k p e s m args below meth c H locs ls hC hP hS hl)
theorem fc_r_ladd {x z : Int64} (hd : decode y.2.1 pc = .ok (.ladd, 1))  (k : fc_T E y d sh (pc + 1) lv (.long (x + z) :: st) mi ml mr Q) : fc_T E y d sh pc lv (.long z :: .long x :: st) mi ml mr Q := fun p e s m args below meth c H locs ls hC hP hS hl => lv_ladd hC.1 hC.2.1 hd  (k p e s m args below meth c H locs ls hC hP hS hl)
theorem fc_r_lsub {x z : Int64} (hd : decode y.2.1 pc = .ok (.lsub, 1))  (k : fc_T E y d sh (pc + 1) lv (.long (x - z) :: st) mi ml mr Q) : fc_T E y d sh pc lv (.long z :: .long x :: st) mi ml mr Q := fun p e s m args below meth c H locs ls hC hP hS hl => lv_lsub hC.1 hC.2.1 hd  (k p e s m args below meth c H locs ls hC hP hS hl)
theorem fc_r_lmul {x z : Int64} (hd : decode y.2.1 pc = .ok (.lmul, 1))  (k : fc_T E y d sh (pc + 1) lv (.long (x * z) :: st) mi ml mr Q) : fc_T E y d sh pc lv (.long z :: .long x :: st) mi ml mr Q := fun p e s m args below meth c H locs ls hC hP hS hl => lv_lmul hC.1 hC.2.1 hd  (k p e s m args below meth c H locs ls hC hP hS hl)
theorem fc_r_land {x z : Int64} (hd : decode y.2.1 pc = .ok (.land, 1))  (k : fc_T E y d sh (pc + 1) lv (.long (x &&& z) :: st) mi ml mr Q) : fc_T E y d sh pc lv (.long z :: .long x :: st) mi ml mr Q := fun p e s m args below meth c H locs ls hC hP hS hl => lv_land hC.1 hC.2.1 hd  (k p e s m args below meth c H locs ls hC hP hS hl)
theorem fc_r_lor {x z : Int64} (hd : decode y.2.1 pc = .ok (.lor, 1))  (k : fc_T E y d sh (pc + 1) lv (.long (x ||| z) :: st) mi ml mr Q) : fc_T E y d sh pc lv (.long z :: .long x :: st) mi ml mr Q := fun p e s m args below meth c H locs ls hC hP hS hl => lv_lor hC.1 hC.2.1 hd  (k p e s m args below meth c H locs ls hC hP hS hl)
theorem fc_r_ldiv {x z : Int64} (hd : decode y.2.1 pc = .ok (.ldiv, 1)) (hz : ¬ z = 0) (k : fc_T E y d sh (pc + 1) lv (.long (x / z) :: st) mi ml mr Q) : fc_T E y d sh pc lv (.long z :: .long x :: st) mi ml mr Q := fun p e s m args below meth c H locs ls hC hP hS hl => lv_ldiv hC.1 hC.2.1 hd hz (k p e s m args below meth c H locs ls hC hP hS hl)
theorem fc_r_lrem {x z : Int64} (hd : decode y.2.1 pc = .ok (.lrem, 1)) (hz : ¬ z = 0) (k : fc_T E y d sh (pc + 1) lv (.long (x - x / z * z) :: st) mi ml mr Q) : fc_T E y d sh pc lv (.long z :: .long x :: st) mi ml mr Q := fun p e s m args below meth c H locs ls hC hP hS hl => lv_lrem hC.1 hC.2.1 hd hz (k p e s m args below meth c H locs ls hC hP hS hl)
theorem fc_r_ineg {x : Int32} (hd : decode y.2.1 pc = .ok (.ineg, 1))  (k : fc_T E y d sh (pc + 1) lv (.int (-x) :: st) mi ml mr Q) : fc_T E y d sh pc lv (.int x :: st) mi ml mr Q := fun p e s m args below meth c H locs ls hC hP hS hl => lv_ineg hC.1 hC.2.1 hd  (k p e s m args below meth c H locs ls hC hP hS hl)
theorem fc_r_i2l {x : Int32} (hd : decode y.2.1 pc = .ok (.i2l, 1))  (k : fc_T E y d sh (pc + 1) lv (.long x.toInt64 :: st) mi ml mr Q) : fc_T E y d sh pc lv (.int x :: st) mi ml mr Q := fun p e s m args below meth c H locs ls hC hP hS hl => lv_i2l hC.1 hC.2.1 hd rfl (k p e s m args below meth c H locs ls hC hP hS hl)
theorem fc_r_l2i {x : Int64} (hd : decode y.2.1 pc = .ok (.l2i, 1))  (k : fc_T E y d sh (pc + 1) lv (.int x.toInt32 :: st) mi ml mr Q) : fc_T E y d sh pc lv (.long x :: st) mi ml mr Q := fun p e s m args below meth c H locs ls hC hP hS hl => lv_l2i hC.1 hC.2.1 hd rfl (k p e s m args below meth c H locs ls hC hP hS hl)
theorem fc_r_i2c {x : Int32} (hd : decode y.2.1 pc = .ok (.i2c, 1))  (k : fc_T E y d sh (pc + 1) lv (.int (x.toUInt32 % 65536).toInt32 :: st) mi ml mr Q) : fc_T E y d sh pc lv (.int x :: st) mi ml mr Q := fun p e s m args below meth c H locs ls hC hP hS hl => lv_i2c hC.1 hC.2.1 hd rfl (k p e s m args below meth c H locs ls hC hP hS hl)
theorem fc_r_iushr {x z : Int32} (hd : decode y.2.1 pc = .ok (.iushr, 1))  (k : fc_T E y d sh (pc + 1) lv (.int (x.toUInt32 >>> (z.toUInt32 &&& Int32.toUInt32 31)).toInt32 :: st) mi ml mr Q) : fc_T E y d sh pc lv (.int z :: .int x :: st) mi ml mr Q := fun p e s m args below meth c H locs ls hC hP hS hl => lv_iushr hC.1 hC.2.1 hd rfl (k p e s m args below meth c H locs ls hC hP hS hl)
theorem fc_r_lushr {x : Int64} {z : Int32} (hd : decode y.2.1 pc = .ok (.lushr, 1))  (k : fc_T E y d sh (pc + 1) lv (.long (x.toUInt64 >>> (z.toInt64.toUInt64 &&& Int64.toUInt64 63)).toInt64 :: st) mi ml mr Q) : fc_T E y d sh pc lv (.int z :: .long x :: st) mi ml mr Q := fun p e s m args below meth c H locs ls hC hP hS hl => lv_lushr hC.1 hC.2.1 hd rfl (k p e s m args below meth c H locs ls hC hP hS hl)
theorem fc_r_lshl {x : Int64} {z : Int32} (hd : decode y.2.1 pc = .ok (.lshl, 1))  (k : fc_T E y d sh (pc + 1) lv (.long (x <<< (z.toInt64 &&& 63)) :: st) mi ml mr Q) : fc_T E y d sh pc lv (.int z :: .long x :: st) mi ml mr Q := fun p e s m args below meth c H locs ls hC hP hS hl => lv_lshl hC.1 hC.2.1 hd rfl (k p e s m args below meth c H locs ls hC hP hS hl)
theorem fc_r_lshr {x : Int64} {z : Int32} (hd : decode y.2.1 pc = .ok (.lshr, 1))  (k : fc_T E y d sh (pc + 1) lv (.long (x >>> (z.toInt64 &&& 63)) :: st) mi ml mr Q) : fc_T E y d sh pc lv (.int z :: .long x :: st) mi ml mr Q := fun p e s m args below meth c H locs ls hC hP hS hl => lv_lshr hC.1 hC.2.1 hd rfl (k p e s m args below meth c H locs ls hC hP hS hl)
theorem fc_r_lcmp {x z : Int64} (hd : decode y.2.1 pc = .ok (.lcmp, 1))  (k : fc_T E y d sh (pc + 1) lv (.int (lg_cmp x z) :: st) mi ml mr Q) : fc_T E y d sh pc lv (.long z :: .long x :: st) mi ml mr Q := fun p e s m args below meth c H locs ls hC hP hS hl => W.lcmp hC.1 hC.2.1 hd  (k p e s m args below meth c H locs ls hC hP hS hl)
theorem fc_r_dup {x : Value} (hd : decode y.2.1 pc = .ok (.dup, 1)) (hx : x.category = 1) (k : fc_T E y d sh (pc + 1) lv (x :: x :: st) mi ml mr Q) : fc_T E y d sh pc lv (x :: st) mi ml mr Q := fun p e s m args below meth c H locs ls hC hP hS hl => lv_dup hC.1 hC.2.1 hd ((fc_v_cat E x).trans hx) (k p e s m args below meth c H locs ls hC hP hS hl)
theorem fc_r_pop {x : Value} (hd : decode y.2.1 pc = .ok (.pop, 1)) (hx : x.category = 1) (k : fc_T E y d sh (pc + 1) lv st mi ml mr Q) : fc_T E y d sh pc lv (x :: st) mi ml mr Q := fun p e s m args below meth c H locs ls hC hP hS hl => lv_pop hC.1 hC.2.1 hd ((fc_v_cat E x).trans hx) (k p e s m args below meth c H locs ls hC hP hS hl)
theorem fc_r_dup2 {x z : Value} (hd : decode y.2.1 pc = .ok (.dup2, 1)) (hx : x.category = 1) (hz : z.category = 1) (k : fc_T E y d sh (pc + 1) lv (x :: z :: x :: z :: st) mi ml mr Q) : fc_T E y d sh pc lv (x :: z :: st) mi ml mr Q := fun p e s m args below meth c H locs ls hC hP hS hl => lv_dup2_11 hC.1 hC.2.1 hd ((fc_v_cat E x).trans hx) ((fc_v_cat E z).trans hz) (k p e s m args below meth c H locs ls hC hP hS hl)
theorem fc_r_icmp_eq {x z : Int32} {off : Int} {tgt : Nat} (hd : decode y.2.1 pc = .ok (.if_icmp .eq off, 3)) (ht : (pc : Int) + off = (tgt : Int)) (kt : x = z → fc_T E y d sh tgt lv st mi ml mr Q) (kf : ¬ x = z → fc_T E y d sh (pc + 3) lv st mi ml mr Q) : fc_T E y d sh pc lv (.int z :: .int x :: st) mi ml mr Q := fun p e s m args below meth c H locs ls hC hP hS hl => lv_icmp_eq hC.1 hC.2.1 hd ht (fun q => kt q p e s m args below meth c H locs ls hC hP hS hl) (fun q => kf q p e s m args below meth c H locs ls hC hP hS hl)
theorem fc_r_if_eq {x : Int32} {off : Int} {tgt : Nat} (hd : decode y.2.1 pc = .ok (.ifCond .eq off, 3)) (ht : (pc : Int) + off = (tgt : Int)) (kt : x = 0 → fc_T E y d sh tgt lv st mi ml mr Q) (kf : ¬ x = 0 → fc_T E y d sh (pc + 3) lv st mi ml mr Q) : fc_T E y d sh pc lv (.int x :: st) mi ml mr Q := fun p e s m args below meth c H locs ls hC hP hS hl => lv_if_eq hC.1 hC.2.1 hd ht (fun q => kt q p e s m args below meth c H locs ls hC hP hS hl) (fun q => kf q p e s m args below meth c H locs ls hC hP hS hl)
theorem fc_r_icmp_ne {x z : Int32} {off : Int} {tgt : Nat} (hd : decode y.2.1 pc = .ok (.if_icmp .ne off, 3)) (ht : (pc : Int) + off = (tgt : Int)) (kt : ¬ x = z → fc_T E y d sh tgt lv st mi ml mr Q) (kf : x = z → fc_T E y d sh (pc + 3) lv st mi ml mr Q) : fc_T E y d sh pc lv (.int z :: .int x :: st) mi ml mr Q := fun p e s m args below meth c H locs ls hC hP hS hl => lv_icmp_ne hC.1 hC.2.1 hd ht (fun q => kt q p e s m args below meth c H locs ls hC hP hS hl) (fun q => kf q p e s m args below meth c H locs ls hC hP hS hl)
theorem fc_r_if_ne {x : Int32} {off : Int} {tgt : Nat} (hd : decode y.2.1 pc = .ok (.ifCond .ne off, 3)) (ht : (pc : Int) + off = (tgt : Int)) (kt : ¬ x = 0 → fc_T E y d sh tgt lv st mi ml mr Q) (kf : x = 0 → fc_T E y d sh (pc + 3) lv st mi ml mr Q) : fc_T E y d sh pc lv (.int x :: st) mi ml mr Q := fun p e s m args below meth c H locs ls hC hP hS hl => lv_if_ne hC.1 hC.2.1 hd ht (fun q => kt q p e s m args below meth c H locs ls hC hP hS hl) (fun q => kf q p e s m args below meth c H locs ls hC hP hS hl)
theorem fc_r_icmp_lt {x z : Int32} {off : Int} {tgt : Nat} (hd : decode y.2.1 pc = .ok (.if_icmp .lt off, 3)) (ht : (pc : Int) + off = (tgt : Int)) (kt : x < z → fc_T E y d sh tgt lv st mi ml mr Q) (kf : ¬ x < z → fc_T E y d sh (pc + 3) lv st mi ml mr Q) : fc_T E y d sh pc lv (.int z :: .int x :: st) mi ml mr Q := fun p e s m args below meth c H locs ls hC hP hS hl => lv_icmp_lt hC.1 hC.2.1 hd ht (fun q => kt q p e s m args below meth c H locs ls hC hP hS hl) (fun q => kf q p e s m args below meth c H locs ls hC hP hS hl)
theorem fc_r_if_lt {x : Int32} {off : Int} {tgt : Nat} (hd : decode y.2.1 pc = .ok (.ifCond .lt off, 3)) (ht : (pc : Int) + off = (tgt : Int)) (kt : x < 0 → fc_T E y d sh tgt lv st mi ml mr Q) (kf : ¬ x < 0 → fc_T E y d sh (pc + 3) lv st mi ml mr Q) : fc_T E y d sh pc lv (.int x :: st) mi ml mr Q := fun p e s m args below meth c H locs ls hC hP hS hl => lv_if_lt hC.1 hC.2.1 hd ht (fun q => kt q p e s m args below meth c H locs ls hC hP hS hl) (fun q => kf q p e s m args below meth c H locs ls hC hP hS hl)
theorem fc_r_icmp_ge {x z : Int32} {off : Int} {tgt : Nat} (hd : decode y.2.1 pc = .ok (.if_icmp .ge off, 3)) (ht : (pc : Int) + off = (tgt : Int)) (kt : z ≤ x → fc_T E y d sh tgt lv st mi ml mr Q) (kf : ¬ z ≤ x → fc_T E y d sh (pc + 3) lv st mi ml mr Q) : fc_T E y d sh pc lv (.int z :: .int x :: st) mi ml mr Q := fun p e s m args below meth c H locs ls hC hP hS hl => lv_icmp_ge hC.1 hC.2.1 hd ht (fun q => kt q p e s m args below meth c H locs ls hC hP hS hl) (fun q => kf q p e s m args below meth c H locs ls hC hP hS hl)
theorem fc_r_if_ge {x : Int32} {off : Int} {tgt : Nat} (hd : decode y.2.1 pc = .ok (.ifCond .ge off, 3)) (ht : (pc : Int) + off = (tgt : Int)) (kt : 0 ≤ x → fc_T E y d sh tgt lv st mi ml mr Q) (kf : ¬ 0 ≤ x → fc_T E y d sh (pc + 3) lv st mi ml mr Q) : fc_T E y d sh pc lv (.int x :: st) mi ml mr Q := fun p e s m args below meth c H locs ls hC hP hS hl => lv_if_ge hC.1 hC.2.1 hd ht (fun q => kt q p e s m args below meth c H locs ls hC hP hS hl) (fun q => kf q p e s m args below meth c H locs ls hC hP hS hl)
theorem fc_r_icmp_gt {x z : Int32} {off : Int} {tgt : Nat} (hd : decode y.2.1 pc = .ok (.if_icmp .gt off, 3)) (ht : (pc : Int) + off = (tgt : Int)) (kt : z < x → fc_T E y d sh tgt lv st mi ml mr Q) (kf : ¬ z < x → fc_T E y d sh (pc + 3) lv st mi ml mr Q) : fc_T E y d sh pc lv (.int z :: .int x :: st) mi ml mr Q := fun p e s m args below meth c H locs ls hC hP hS hl => lv_icmp_gt hC.1 hC.2.1 hd ht (fun q => kt q p e s m args below meth c H locs ls hC hP hS hl) (fun q => kf q p e s m args below meth c H locs ls hC hP hS hl)
theorem fc_r_if_gt {x : Int32} {off : Int} {tgt : Nat} (hd : decode y.2.1 pc = .ok (.ifCond .gt off, 3)) (ht : (pc : Int) + off = (tgt : Int)) (kt : 0 < x → fc_T E y d sh tgt lv st mi ml mr Q) (kf : ¬ 0 < x → fc_T E y d sh (pc + 3) lv st mi ml mr Q) : fc_T E y d sh pc lv (.int x :: st) mi ml mr Q := fun p e s m args below meth c H locs ls hC hP hS hl => lv_if_gt hC.1 hC.2.1 hd ht (fun q => kt q p e s m args below meth c H locs ls hC hP hS hl) (fun q => kf q p e s m args below meth c H locs ls hC hP hS hl)
theorem fc_r_icmp_le {x z : Int32} {off : Int} {tgt : Nat} (hd : decode y.2.1 pc = .ok (.if_icmp .le off, 3)) (ht : (pc : Int) + off = (tgt : Int)) (kt : x ≤ z → fc_T E y d sh tgt lv st mi ml mr Q) (kf : ¬ x ≤ z → fc_T E y d sh (pc + 3) lv st mi ml mr Q) : fc_T E y d sh pc lv (.int z :: .int x :: st) mi ml mr Q := fun p e s m args below meth c H locs ls hC hP hS hl => lv_icmp_le hC.1 hC.2.1 hd ht (fun q => kt q p e s m args below meth c H locs ls hC hP hS hl) (fun q => kf q p e s m args below meth c H locs ls hC hP hS hl)
theorem fc_r_if_le {x : Int32} {off : Int} {tgt : Nat} (hd : decode y.2.1 pc = .ok (.ifCond .le off, 3)) (ht : (pc : Int) + off = (tgt : Int)) (kt : x ≤ 0 → fc_T E y d sh tgt lv st mi ml mr Q) (kf : ¬ x ≤ 0 → fc_T E y d sh (pc + 3) lv st mi ml mr Q) : fc_T E y d sh pc lv (.int x :: st) mi ml mr Q := fun p e s m args below meth c H locs ls hC hP hS hl => lv_if_le hC.1 hC.2.1 hd ht (fun q => kt q p e s m args below meth c H locs ls hC hP hS hl) (fun q => kf q p e s m args below meth c H locs ls hC hP hS hl)
theorem fc_r_goto {off : Int} {tgt : Nat} (hd : decode y.2.1 pc = .ok (.goto off, 3)) (ht : (pc : Int) + off = (tgt : Int)) (k : fc_T E y d sh tgt lv st mi ml mr Q) : fc_T E y d sh pc lv st mi ml mr Q := fun p e s m args below meth c H locs ls hC hP hS hl => lv_goto hC.1 hC.2.1 hd ht (k p e s m args below meth c H locs ls hC hP hS hl)
end R1
end
section
/-! ===== fields, arrays, ends ===== -/
theorem fc_in0 : (wsX00).all (fun w => decide (w ∈ lw_tbl) && goodWord w) = true := by decide +kernel
theorem fc_in1 : (wsX10).all (fun w => decide (w ∈ lw_tbl) && goodWord w) = true := by decide +kernel
theorem fc_in2 : (wsX20).all (fun w => decide (w ∈ lw_tbl) && goodWord w) = true := by decide +kernel
theorem fc_in3 : (wsX30).all (fun w => decide (w ∈ lw_tbl) && goodWord w) = true := by decide +kernel
theorem fc_in4 : (wsX40).all (fun w => decide (w ∈ lw_tbl) && goodWord w) = true := by decide +kernel
theorem fc_in5 : (wsX50).all (fun w => decide (w ∈ lw_tbl) && goodWord w) = true := by decide +kernel
theorem fc_in6 : (wsX60).all (fun w => decide (w ∈ lw_tbl) && goodWord w) = true := by decide +kernel
theorem fc_in7 : (wsX70).all (fun w => decide (w ∈ lw_tbl) && goodWord w) = true := by decide +kernel
theorem fc_in8 : (wsX80).all (fun w => decide (w ∈ lw_tbl) && goodWord w) = true := by decide +kernel
theorem fc_in9 : (wsX90).all (fun w => decide (w ∈ lw_tbl) && goodWord w) = true := by decide +kernel
theorem fc_in10 : (wsX100).all (fun w => decide (w ∈ lw_tbl) && goodWord w) = true := by decide +kernel
theorem fc_in11 : (wsX110).all (fun w => decide (w ∈ lw_tbl) && goodWord w) = true := by decide +kernel
theorem fc_inG {ws : List Cond} (h : ws.all (fun w => decide (w ∈ lw_tbl) && goodWord w) = true) : ∀ w ∈ ws, w ∈ fc_G := by
  intro w hw
  have h1 := List.all_eq_true.mp h w hw
  simp only [Bool.and_eq_true, decide_eq_true_eq] at h1
  exact List.mem_filter.mpr h1
theorem fc_cls {ci : Nat} {q : vw_C} (h : vwCl[ci]? = some q) : (∀ w ∈ u_ws q.1 q.2.1 q.2.2, w ∈ fc_G) ∧ ∃ ty0 : Nat → FieldType, (∀ k, k < q.2.2 → parseFieldDescriptor (q.2.1 k).2.2.1 = some (ty0 k)) ∧ ∀ a, a < q.2.2 → ∀ b, b < q.2.2 → a ≠ b → (q.2.1 a).2.1 ≠ (q.2.1 b).2.1 := by
  match ci, h with
  | 0, h => cases h; exact ⟨fc_inG fc_in0, tyX0, tyX0_ok, nmX0⟩
  | 1, h => cases h; exact ⟨fc_inG fc_in1, tyX1, tyX1_ok, nmX1⟩
  | 2, h => cases h; exact ⟨fc_inG fc_in2, tyX2, tyX2_ok, nmX2⟩
  | 3, h => cases h; exact ⟨fc_inG fc_in3, tyX3, tyX3_ok, nmX3⟩
  | 4, h => cases h; exact ⟨fc_inG fc_in4, tyX4, tyX4_ok, nmX4⟩
  | 5, h => cases h; exact ⟨fc_inG fc_in5, tyX5, tyX5_ok, nmX5⟩
  | 6, h => cases h; exact ⟨fc_inG fc_in6, tyX6, tyX6_ok, nmX6⟩
  | 7, h => cases h; exact ⟨fc_inG fc_in7, tyX7, tyX7_ok, nmX7⟩
  | 8, h => cases h; exact ⟨fc_inG fc_in8, tyX8, tyX8_ok, nmX8⟩
  | 9, h => cases h; exact ⟨fc_inG fc_in9, tyX9, tyX9_ok, nmX9⟩
  | 10, h => cases h; exact ⟨fc_inG fc_in10, tyX10, tyX10_ok, nmX10⟩
  | 11, h => cases h; exact ⟨fc_inG fc_in11, tyX11, tyX11_ok, nmX11⟩
  | k + 12, h => simp [vwCl] at h
theorem fc_cell_obj {base : Nat} {tA : Nat → ClassId} {mi : Nat → Int32} {ml : Nat → Int64} {mr : Nat → Option Nat} {ci : Nat} (h : ci < 20) : fc_cell base tA mi ml mr (ci, 0) = .inr (ci, fc_fs base mi ml mr 0 (fc_ft ci)) := by
  unfold fc_cell
  split <;> first | rfl | (rename_i q; dsimp only at q; omega)
section R2
variable {E : fc_E} {y : fc_M} {d : Nat} {sh : fc_Sh} {pc : Nat} {lv : List (Option Value)} {st : List Value} {mi : fc_Mi} {ml : fc_Ml} {mr : fc_Mr} {Q : fc_Q}
theorem fc_r_get {ci idx q j t : Nat} {r : vw_C} {v : Value} (hd : decode y.2.1 pc = .ok (.getfield idx, 3)) (hc : vwCl[ci]? = some r) (hci : ci < 20) (hj : j < r.2.2) (hlink : Cond.fieldLink y.1.cls idx (r.2.1 j).1 (r.2.1 j).2.1 (r.2.1 j).2.2.1 ∈ fc_G) (ht : (fc_ft ci)[j]? = some t) (hsh : sh[q]? = some (ci, 0))
    (hv : fc_fv E.2.2.2.1 (mi q) (ml q) (mr q) j t = fc_v E v) (k : fc_T E y d sh (pc + 3) lv (v :: st) mi ml mr Q) : fc_T E y d sh pc lv (.ref q :: st) mi ml mr Q := by
  intro p e s m args below meth c H locs ls hC hP hS hl
  obtain ⟨hx, hb, hr, hlk, hown, hml, hts, hK⟩ := id hC
  have hw := fc_ws_get (E := E) (mi := mi) (ml := ml) (mr := mr) hsh
  rw [fc_cell_obj hci] at hw
  refine va_get (ci := ci) (C := r.1) (T := r.2.1) (N := r.2.2) hx hb hts (fc_cls hc).1 hown hK.1 hP q hw hc j hj (hts _ hlink) (fun _ h => h) (v := fc_v E v) ?_ hd (k p e s m args below meth c H locs ls hC hP hS hl)
  rw [fc_fs_get, ht, Option.map_some, Nat.zero_add, hv]
theorem fc_r_putW {ci idx q j : Nat} {r : vw_C} {v : Value} {ty : FieldType} {mi' : fc_Mi} {ml' : fc_Ml} {mr' : fc_Mr} (hd : decode y.2.1 pc = .ok (.putfield idx, 3)) (hc : vwCl[ci]? = some r) (hci : ci < 20) (hj : j < r.2.2) (hlink : Cond.fieldLink y.1.cls idx (r.2.1 j).1 (r.2.1 j).2.1 (r.2.1 j).2.2.1 ∈ fc_G) (hjt : j < (fc_ft ci).length) (hsh : sh[q]? = some (ci, 0))
    (hfin : (r.2.1 j).2.2.2 = false) (hty : parseFieldDescriptor (r.2.1 j).2.2.1 = some ty) (hn : narrow ty (fc_v E v) = fc_v E v) (hfit : fits ty (fc_v E v) = true)
    (hi : ∀ a, a ≠ q → mi' a = mi a) (hl0 : ∀ a, a ≠ q → ml' a = ml a) (hr0 : ∀ a, a ≠ q → mr' a = mr a) (he : (fc_fs E.2.2.2.1 (mi q) (ml q) (mr q) 0 (fc_ft ci)).set j (fc_v E v) = fc_fs E.2.2.2.1 (mi' q) (ml' q) (mr' q) 0 (fc_ft ci))
    (k : fc_T E y d sh (pc + 3) lv st mi' ml' mr' Q) : fc_T E y d sh pc lv (v :: .ref q :: st) mi ml mr Q := by
  intro p e s m args below meth c H locs ls hC hP hS hl
  obtain ⟨hx, hb, hr, hlk, hown, hml, hts, hK⟩ := id hC
  have hw := fc_ws_get (E := E) (mi := mi) (ml := ml) (mr := mr) hsh
  rw [fc_cell_obj hci] at hw
  obtain ⟨ty0, hty0, hnm⟩ := (fc_cls hc).2
  refine va_put (ci := ci) (C := r.1) (T := r.2.1) (N := r.2.2) (ty := ty) (v := fc_v E v) hx hb hts (fc_cls hc).1 ty0 hty0 hnm hown hK.1 hP fc_ws_D hS q hw hc j hj (hts _ hlink) (fun _ h => h) hfin hty hn hfit (by rw [fc_fs_len]; exact hjt) hd (fun H1 locs1 hP1 _ hS1 => ?_)
  refine k p e s m args below meth c H1 locs1 ls hC ?_ hS1 hl
  rw [← fc_ws_set (E := E) (mi := mi) (ml := ml) (mr := mr) hsh hi hl0 hr0 (e := .inr (ci, (fc_fs E.2.2.2.1 (mi q) (ml q) (mr q) 0 (fc_ft ci)).set j (fc_v E v))) (by rw [fc_cell_obj hci, he])]
  exact hP1
theorem fc_fs_set {base : Nat} {mi mi' : Nat → Int32} {ml ml' : Nat → Int64} {mr mr' : Nat → Option Nat} {ts : List Nat} {j t : Nat} {v : Value} (ht : ts[j]? = some t) (hv : fc_fv base mi' ml' mr' j t = v)
    (ho : ∀ a, a ≠ j → mi' a = mi a ∧ ml' a = ml a ∧ mr' a = mr a) : (fc_fs base mi ml mr 0 ts).set j v = fc_fs base mi' ml' mr' 0 ts := by
  apply List.ext_getElem?
  intro a
  have hlt := (List.getElem?_eq_some_iff.mp ht).1
  by_cases h : a = j
  · subst h
    rw [List.getElem?_set_self (by rw [fc_fs_len]; exact hlt), fc_fs_get, ht, Option.map_some, Nat.zero_add, hv]
  · rw [List.getElem?_set_ne (Ne.symm h), fc_fs_get, fc_fs_get]
    obtain ⟨h1, h2, h3⟩ := ho a h
    cases ts[a]? with
    | none => rfl
    | some z =>
      simp only [Option.map_some, Nat.zero_add, Option.some.injEq]
      unfold fc_fv
      rw [h1, h2, h3]
theorem fc_r_puti {ci idx q j : Nat} {r : vw_C} {x : Int32} (hd : decode y.2.1 pc = .ok (.putfield idx, 3)) (hc : vwCl[ci]? = some r) (hci : ci < 20) (hj : j < r.2.2) (hlink : Cond.fieldLink y.1.cls idx (r.2.1 j).1 (r.2.1 j).2.1 (r.2.1 j).2.2.1 ∈ fc_G) (ht : (fc_ft ci)[j]? = some 0) (hsh : sh[q]? = some (ci, 0))
    (hfin : (r.2.1 j).2.2.2 = false) (hty : parseFieldDescriptor (r.2.1 j).2.2.1 = some .int) (k : fc_T E y d sh (pc + 3) lv st (fc_u mi q j x) ml mr Q) : fc_T E y d sh pc lv (.int x :: .ref q :: st) mi ml mr Q := by
  refine fc_r_putW (v := .int x) hd hc hci hj hlink (List.getElem?_eq_some_iff.mp ht).1 hsh hfin hty rfl rfl (fun a h => fc_u_off _ _ _ h) (fun _ _ => rfl) (fun _ _ => rfl) (fc_fs_set ht ?_ (fun a h => ⟨?_, rfl, rfl⟩)) k
  · show Value.int (fc_u mi q j x q j) = .int x
    rw [fc_u_row]; simp
  · rw [fc_u_row]; simp [h]
theorem fc_r_putz {ci idx q j : Nat} {r : vw_C} {x : Int32} (hd : decode y.2.1 pc = .ok (.putfield idx, 3)) (hc : vwCl[ci]? = some r) (hci : ci < 20) (hj : j < r.2.2) (hlink : Cond.fieldLink y.1.cls idx (r.2.1 j).1 (r.2.1 j).2.1 (r.2.1 j).2.2.1 ∈ fc_G) (ht : (fc_ft ci)[j]? = some 3) (hsh : sh[q]? = some (ci, 0))
    (hfin : (r.2.1 j).2.2.2 = false) (hty : parseFieldDescriptor (r.2.1 j).2.2.1 = some .boolean) (hx : x = 0 ∨ x = 1) (k : fc_T E y d sh (pc + 3) lv st (fc_u mi q j x) ml mr Q) : fc_T E y d sh pc lv (.int x :: .ref q :: st) mi ml mr Q := by
  refine fc_r_putW (v := .int x) hd hc hci hj hlink (List.getElem?_eq_some_iff.mp ht).1 hsh hfin hty (by rcases hx with rfl | rfl <;> rfl) (by rcases hx with rfl | rfl <;> rfl) (fun a h => fc_u_off _ _ _ h) (fun _ _ => rfl) (fun _ _ => rfl) (fc_fs_set ht ?_ (fun a h => ⟨?_, rfl, rfl⟩)) k
  · show Value.int (fc_u mi q j x q j) = .int x
    rw [fc_u_row]; simp
  · rw [fc_u_row]; simp [h]
theorem fc_r_putl {ci idx q j : Nat} {r : vw_C} {x : Int64} (hd : decode y.2.1 pc = .ok (.putfield idx, 3)) (hc : vwCl[ci]? = some r) (hci : ci < 20) (hj : j < r.2.2) (hlink : Cond.fieldLink y.1.cls idx (r.2.1 j).1 (r.2.1 j).2.1 (r.2.1 j).2.2.1 ∈ fc_G) (ht : (fc_ft ci)[j]? = some 1) (hsh : sh[q]? = some (ci, 0))
    (hfin : (r.2.1 j).2.2.2 = false) (hty : parseFieldDescriptor (r.2.1 j).2.2.1 = some .long) (k : fc_T E y d sh (pc + 3) lv st mi (fc_u ml q j x) mr Q) : fc_T E y d sh pc lv (.long x :: .ref q :: st) mi ml mr Q := by
  refine fc_r_putW (v := .long x) hd hc hci hj hlink (List.getElem?_eq_some_iff.mp ht).1 hsh hfin hty rfl rfl (fun _ _ => rfl) (fun a h => fc_u_off _ _ _ h) (fun _ _ => rfl) (fc_fs_set ht ?_ (fun a h => ⟨rfl, ?_, rfl⟩)) k
  · show Value.long (fc_u ml q j x q j) = .long x
    rw [fc_u_row]; simp
  · rw [fc_u_row]; simp [h]
theorem fc_r_putr {ci idx q j x : Nat} {r : vw_C} {ty : FieldType} (hd : decode y.2.1 pc = .ok (.putfield idx, 3)) (hc : vwCl[ci]? = some r) (hci : ci < 20) (hj : j < r.2.2) (hlink : Cond.fieldLink y.1.cls idx (r.2.1 j).1 (r.2.1 j).2.1 (r.2.1 j).2.2.1 ∈ fc_G) (ht : (fc_ft ci)[j]? = some 2) (hsh : sh[q]? = some (ci, 0))
    (hfin : (r.2.1 j).2.2.2 = false) (hty : parseFieldDescriptor (r.2.1 j).2.2.1 = some ty) (hr : ty.isReference = true) (k : fc_T E y d sh (pc + 3) lv st mi ml (fc_u mr q j (some x)) Q) : fc_T E y d sh pc lv (.ref x :: .ref q :: st) mi ml mr Q := by
  refine fc_r_putW (v := .ref x) hd hc hci hj hlink (List.getElem?_eq_some_iff.mp ht).1 hsh hfin hty (by cases ty <;> first | rfl | cases hr) (by cases ty <;> first | rfl | cases hr) (fun _ _ => rfl) (fun _ _ => rfl) (fun a h => fc_u_off _ _ _ h) (fc_fs_set ht ?_ (fun a h => ⟨rfl, rfl, ?_⟩)) k
  · show va_rf ((fc_u mr q j (some x) q j).map (E.2.2.2.1 + ·)) = .ref (E.2.2.2.1 + x)
    rw [fc_u_row]; simp [va_rf]
  · rw [fc_u_row]; simp [h]
theorem fc_r_iald {q n : Nat} {i : Int32} (hd : decode y.2.1 pc = .ok (.iaload, 1)) (hsh : sh[q]? = some (20, n)) (hi : vp_in i n) (k : fc_T E y d sh (pc + 1) lv (.int (mi q i.toNatClampNeg) :: st) mi ml mr Q) : fc_T E y d sh pc lv (.int i :: .ref q :: st) mi ml mr Q :=
  fun p e s m args below meth c H locs ls hC hP hS hl => va_iald hC.1 hC.2.1 hC.2.2.2.2.2.2.2.1 hP q 0 (fc_ws_get hsh) rfl hi hd (k p e s m args below meth c H locs ls hC hP hS hl)
theorem fc_r_cald {q n : Nat} {i : Int32} (hd : decode y.2.1 pc = .ok (.caload, 1)) (hsh : sh[q]? = some (23, n)) (hi : vp_in i n) (k : fc_T E y d sh (pc + 1) lv (.int (mi q i.toNatClampNeg) :: st) mi ml mr Q) : fc_T E y d sh pc lv (.int i :: .ref q :: st) mi ml mr Q :=
  fun p e s m args below meth c H locs ls hC hP hS hl => va_cald hC.1 hC.2.1 hC.2.2.2.2.2.2.2.1 hP q 3 (fc_ws_get hsh) rfl hi hd (k p e s m args below meth c H locs ls hC hP hS hl)
theorem fc_r_zald {q n : Nat} {i : Int32} (hd : decode y.2.1 pc = .ok (.baload, 1)) (hsh : sh[q]? = some (22, n)) (hi : vp_in i n) (k : fc_T E y d sh (pc + 1) lv (.int (mi q i.toNatClampNeg) :: st) mi ml mr Q) : fc_T E y d sh pc lv (.int i :: .ref q :: st) mi ml mr Q :=
  fun p e s m args below meth c H locs ls hC hP hS hl => va_zald hC.1 hC.2.1 hC.2.2.2.2.2.2.2.1 hP q 2 (fc_ws_get hsh) rfl hi hd (k p e s m args below meth c H locs ls hC hP hS hl)
theorem fc_r_lald {q n : Nat} {i : Int32} (hd : decode y.2.1 pc = .ok (.laload, 1)) (hsh : sh[q]? = some (21, n)) (hi : vp_in i n) (k : fc_T E y d sh (pc + 1) lv (.long (ml q i.toNatClampNeg) :: st) mi ml mr Q) : fc_T E y d sh pc lv (.int i :: .ref q :: st) mi ml mr Q :=
  fun p e s m args below meth c H locs ls hC hP hS hl => va_lald hC.1 hC.2.1 hC.2.2.2.2.2.2.2.1 hP q 1 (fc_ws_get hsh) rfl hi hd (k p e s m args below meth c H locs ls hC hP hS hl)
theorem fc_r_aald24 {q n x : Nat} {i : Int32} (hd : decode y.2.1 pc = .ok (.aaload, 1)) (hsh : sh[q]? = some (24, n)) (hi : vp_in i n) (hx : mr q i.toNatClampNeg = some x) (k : fc_T E y d sh (pc + 1) lv (.ref x :: st) mi ml mr Q) : fc_T E y d sh pc lv (.int i :: .ref q :: st) mi ml mr Q := by
  intro p e s m args below meth c H locs ls hC hP hS hl
  have hlt : i.toNatClampNeg < n := Nat.not_le.mp fun q => hi (Or.inr q)
  have hw := hP q _ (fc_ws_get hsh)
  refine W.aald (v := .ref (E.2.2.2.1 + x)) (ty := .object "FirstChimney$State") hC.1 hC.2.1 hw ((hC.2.2.2.2.2.2.2.1.2 4 _ rfl).1 n (fun j => va_rf (fc_rows E.2.2.2.1 (mr q) j))) rfl (fun q => by cases q) (by show ¬ (i < 0 ∨ (arrV _ _ _).slots.size ≤ _); rw [arrV_size]; exact hi) (by show (arrV _ _ _).slots[_]? = _; rw [arrV_read _ _ hlt]; simp [fc_rows, hx, va_rf]) rfl rfl hd (k p e s m args below meth c H locs ls hC hP hS hl)
theorem fc_r_aald25 {q n x : Nat} {i : Int32} (hd : decode y.2.1 pc = .ok (.aaload, 1)) (hsh : sh[q]? = some (25, n)) (hi : vp_in i n) (hx : mr q i.toNatClampNeg = some x) (k : fc_T E y d sh (pc + 1) lv (.ref x :: st) mi ml mr Q) : fc_T E y d sh pc lv (.int i :: .ref q :: st) mi ml mr Q := by
  intro p e s m args below meth c H locs ls hC hP hS hl
  have hlt : i.toNatClampNeg < n := Nat.not_le.mp fun q => hi (Or.inr q)
  have hw := hP q _ (fc_ws_get hsh)
  refine W.aald (v := .ref (E.2.2.2.1 + x)) (ty := .object "FirstChimney$Seen") hC.1 hC.2.1 hw ((hC.2.2.2.2.2.2.2.1.2 5 _ rfl).1 n (fun j => va_rf (fc_rows E.2.2.2.1 (mr q) j))) rfl (fun q => by cases q) (by show ¬ (i < 0 ∨ (arrV _ _ _).slots.size ≤ _); rw [arrV_size]; exact hi) (by show (arrV _ _ _).slots[_]? = _; rw [arrV_read _ _ hlt]; simp [fc_rows, hx, va_rf]) rfl rfl hd (k p e s m args below meth c H locs ls hC hP hS hl)
theorem fc_r_aald26 {q n x : Nat} {i : Int32} (hd : decode y.2.1 pc = .ok (.aaload, 1)) (hsh : sh[q]? = some (26, n)) (hi : vp_in i n) (hx : mr q i.toNatClampNeg = some x) (k : fc_T E y d sh (pc + 1) lv (.ref x :: st) mi ml mr Q) : fc_T E y d sh pc lv (.int i :: .ref q :: st) mi ml mr Q := by
  intro p e s m args below meth c H locs ls hC hP hS hl
  have hlt : i.toNatClampNeg < n := Nat.not_le.mp fun q => hi (Or.inr q)
  have hw := hP q _ (fc_ws_get hsh)
  refine W.aald (v := .ref (E.2.2.2.1 + x)) (ty := .array .int) hC.1 hC.2.1 hw ((hC.2.2.2.2.2.2.2.1.2 6 _ rfl).1 n (fun j => va_rf (fc_rows E.2.2.2.1 (mr q) j))) rfl (fun q => by cases q) (by show ¬ (i < 0 ∨ (arrV _ _ _).slots.size ≤ _); rw [arrV_size]; exact hi) (by show (arrV _ _ _).slots[_]? = _; rw [arrV_read _ _ hlt]; simp [fc_rows, hx, va_rf]) rfl rfl hd (k p e s m args below meth c H locs ls hC hP hS hl)
theorem fc_r_iast {q n : Nat} {i x : Int32} (hd : decode y.2.1 pc = .ok (.iastore, 1)) (hsh : sh[q]? = some (20, n)) (hi : vp_in i n) (k : fc_T E y d sh (pc + 1) lv st (fc_u mi q i.toNatClampNeg x) ml mr Q) : fc_T E y d sh pc lv (.int x :: .int i :: .ref q :: st) mi ml mr Q := by
  intro p e s m args below meth c H locs ls hC hP hS hl
  refine va_iast hC.1 hC.2.1 hC.2.2.2.2.2.2.2.1 hP fc_ws_D hS q 0 (fc_ws_get hsh) rfl hi hd (fun H1 locs1 hP1 _ hS1 => k p e s m args below meth c H1 locs1 ls hC ?_ hS1 hl)
  rw [← fc_ws_set (E := E) (mi := mi) (ml := ml) (mr := mr) (mi' := fc_u mi q i.toNatClampNeg x) hsh (fun a h => fc_u_off _ _ _ h) (fun _ _ => rfl) (fun _ _ => rfl) rfl]
  show va_P _ _ ((fc_ws E sh mi ml mr).set q (_, .inl (_, _, .inl (fc_u mi q i.toNatClampNeg x q)))) H1
  rw [fc_u_row]
  exact hP1
theorem fc_r_cast {q n : Nat} {i x : Int32} (hd : decode y.2.1 pc = .ok (.castore, 1)) (hsh : sh[q]? = some (23, n)) (hi : vp_in i n) (k : fc_T E y d sh (pc + 1) lv st (fc_u mi q i.toNatClampNeg (vp_nar .char x)) ml mr Q) : fc_T E y d sh pc lv (.int x :: .int i :: .ref q :: st) mi ml mr Q := by
  intro p e s m args below meth c H locs ls hC hP hS hl
  refine va_cast hC.1 hC.2.1 hC.2.2.2.2.2.2.2.1 hP fc_ws_D hS q 3 (fc_ws_get hsh) rfl hi hd (fun H1 locs1 hP1 _ hS1 => k p e s m args below meth c H1 locs1 ls hC ?_ hS1 hl)
  rw [← fc_ws_set (E := E) (mi := mi) (ml := ml) (mr := mr) (mi' := fc_u mi q i.toNatClampNeg (vp_nar .char x)) hsh (fun a h => fc_u_off _ _ _ h) (fun _ _ => rfl) (fun _ _ => rfl) rfl]
  show va_P _ _ ((fc_ws E sh mi ml mr).set q (_, .inl (_, _, .inl (fc_u mi q i.toNatClampNeg (vp_nar .char x) q)))) H1
  rw [fc_u_row]
  exact hP1
theorem fc_r_zast {q n : Nat} {i x : Int32} (hd : decode y.2.1 pc = .ok (.bastore, 1)) (hsh : sh[q]? = some (22, n)) (hi : vp_in i n) (k : fc_T E y d sh (pc + 1) lv st (fc_u mi q i.toNatClampNeg (vp_nar .boolean x)) ml mr Q) : fc_T E y d sh pc lv (.int x :: .int i :: .ref q :: st) mi ml mr Q := by
  intro p e s m args below meth c H locs ls hC hP hS hl
  refine va_zast hC.1 hC.2.1 hC.2.2.2.2.2.2.2.1 hP fc_ws_D hS q 2 (fc_ws_get hsh) rfl hi hd (fun H1 locs1 hP1 _ hS1 => k p e s m args below meth c H1 locs1 ls hC ?_ hS1 hl)
  rw [← fc_ws_set (E := E) (mi := mi) (ml := ml) (mr := mr) (mi' := fc_u mi q i.toNatClampNeg (vp_nar .boolean x)) hsh (fun a h => fc_u_off _ _ _ h) (fun _ _ => rfl) (fun _ _ => rfl) rfl]
  show va_P _ _ ((fc_ws E sh mi ml mr).set q (_, .inl (_, _, .inl (fc_u mi q i.toNatClampNeg (vp_nar .boolean x) q)))) H1
  rw [fc_u_row]
  exact hP1
theorem fc_r_last {q n : Nat} {i : Int32} {x : Int64} (hd : decode y.2.1 pc = .ok (.lastore, 1)) (hsh : sh[q]? = some (21, n)) (hi : vp_in i n) (k : fc_T E y d sh (pc + 1) lv st mi (fc_u ml q i.toNatClampNeg x) mr Q) : fc_T E y d sh pc lv (.long x :: .int i :: .ref q :: st) mi ml mr Q := by
  intro p e s m args below meth c H locs ls hC hP hS hl
  refine va_last hC.1 hC.2.1 hC.2.2.2.2.2.2.2.1 hP fc_ws_D hS q 1 (fc_ws_get hsh) rfl hi hd (fun H1 locs1 hP1 _ hS1 => k p e s m args below meth c H1 locs1 ls hC ?_ hS1 hl)
  rw [← fc_ws_set (E := E) (mi := mi) (ml := ml) (mr := mr) (ml' := fc_u ml q i.toNatClampNeg x) hsh (fun _ _ => rfl) (fun a h => fc_u_off _ _ _ h) (fun _ _ => rfl) rfl]
  show va_P _ _ ((fc_ws E sh mi ml mr).set q (_, .inl (_, _, .inr (.inl (fc_u ml q i.toNatClampNeg x q))))) H1
  rw [fc_u_row]
  exact hP1
theorem fc_r_alenL {q n : Nat} (hd : decode y.2.1 pc = .ok (.arraylength, 1)) (hsh : sh[q]? = some (21, n)) (k : fc_T E y d sh (pc + 1) lv (.int (Int32.ofNat n) :: st) mi ml mr Q) : fc_T E y d sh pc lv (.ref q :: st) mi ml mr Q :=
  fun p e s m args below meth c H locs ls hC hP hS hl => va_alen hC.1 hC.2.1 hC.2.2.2.2.2.2.2.1 hP q 1 (fc_ws_get hsh) rfl rfl hd (k p e s m args below meth c H locs ls hC hP hS hl)
theorem fc_r_alenI {q n : Nat} (hd : decode y.2.1 pc = .ok (.arraylength, 1)) (hsh : sh[q]? = some (20, n)) (k : fc_T E y d sh (pc + 1) lv (.int (Int32.ofNat n) :: st) mi ml mr Q) : fc_T E y d sh pc lv (.ref q :: st) mi ml mr Q :=
  fun p e s m args below meth c H locs ls hC hP hS hl => va_alen hC.1 hC.2.1 hC.2.2.2.2.2.2.2.1 hP q 0 (fc_ws_get hsh) rfl rfl hd (k p e s m args below meth c H locs ls hC hP hS hl)
theorem fc_r_ireturn {x : Int32} (hd : decode y.2.1 pc = .ok (.ireturn, 1)) (hr : y.2.2.2 = some .int) (hq : Q (some (.int x)) mi ml mr) : fc_T E y d sh pc lv [.int x] mi ml mr Q :=
  fun p e s m args below meth c H locs ls hC hP hS hl => W.iret (v := x) hC.1 hC.2.1 (hC.2.2.1.trans hr) (fun t ht _ => ⟨⟨_, mi, ml, mr, hq, rfl, by rw [ht]; exact hP⟩, hS.F ht⟩) hS.2.2 hd hC.2.2.2.1
theorem fc_r_zreturn {x : Int32} (hd : decode y.2.1 pc = .ok (.ireturn, 1)) (hr : y.2.2.2 = some .boolean) (hx : x = 0 ∨ x = 1) (hq : Q (some (.int x)) mi ml mr) : fc_T E y d sh pc lv [.int x] mi ml mr Q :=
  fun p e s m args below meth c H locs ls hC hP hS hl => W.zret (v := x) (ty := .boolean) hC.1 hC.2.1 (hC.2.2.1.trans hr) (by rcases hx with rfl | rfl <;> rfl) (fun t ht _ => ⟨⟨_, mi, ml, mr, hq, rfl, by rw [ht]; exact hP⟩, hS.F ht⟩) hS.2.2 hd hC.2.2.2.1
theorem fc_r_return (hd : decode y.2.1 pc = .ok (.return_, 1)) (hr : y.2.2.2 = none) (hq : Q none mi ml mr) : fc_T E y d sh pc lv [] mi ml mr Q :=
  fun p e s m args below meth c H locs ls hC hP hS hl => W.vret hC.1 hC.2.1 (hC.2.2.1.trans hr) (fun t ht _ => ⟨⟨_, mi, ml, mr, hq, rfl, by rw [ht]; exact hP⟩, hS.F ht⟩) hS.2.2 hd hC.2.2.2.1
theorem fc_r_ldc {idx : Nat} {x : Int32} (hd : decode y.2.1 pc = .ok (.ldc idx, 2)) (hc : Cond.constant y.1.cls idx x ∈ fc_G) (k : fc_T E y d sh (pc + 2) lv (.int x :: st) mi ml mr Q) : fc_T E y d sh pc lv st mi ml mr Q :=
  fun p e s m args below meth c H locs ls hC hP hS hl => lv_ldc hC.1 hC.2.1 hC.2.2.2.2.1 (hC.2.2.2.2.2.2.1 _ hc) hd (k p e s m args below meth c H locs ls hC hP hS hl)
theorem fc_r_ldc2 {idx : Nat} {x : Int64} (hd : decode y.2.1 pc = .ok (.ldc2_w idx, 3)) (hc : Cond.constantLong y.1.cls idx x ∈ fc_G) (k : fc_T E y d sh (pc + 3) lv (.long x :: st) mi ml mr Q) : fc_T E y d sh pc lv st mi ml mr Q :=
  fun p e s m args below meth c H locs ls hC hP hS hl => lv_ldc2 hC.1 hC.2.1 hC.2.2.2.2.1 (hC.2.2.2.2.2.2.1 _ hc) hd (k p e s m args below meth c H locs ls hC hP hS hl)
end R2
end
section
/-! ===== calls ===== -/
theorem fc_sum (E : fc_E) (st : List Value) : ((st.map (fc_v E)).map fun v => v.category).sum = (st.map fun v => v.category).sum := by
  rw [List.map_map]
  congr 1
  apply List.map_congr_left
  intro v _
  exact fc_v_cat E v
theorem fc_rmL (d : Nat) : (fc_rm d).locals = 64 * (d + 1) := rfl
theorem fc_rmF (d : Nat) : (fc_rm d).frames = d + 1 := rfl
/-- what the tables say of a callee of n parameters -/
def fc_mw (z : fc_M) (n : Nat) : Prop := Cond.code z.1 z.2.1 z.2.2.1 z.2.2.2 ∈ fc_G ∧ Cond.initialized z.1.cls ∈ fc_G ∧ (z.1.cls ≠ "java/lang/invoke/MethodHandle" ∧ z.1.cls ≠ "java/lang/invoke/VarHandle" ∧ (parseMethodDescriptor z.1.desc).map (fun d => d.parameters.length) = some n) ∧ z.2.2.1 ≤ 45
theorem fc_w_good {z : fc_M} (h : Cond.code z.1 z.2.1 z.2.2.1 z.2.2.2 ∈ fc_G) : GoodIn fc_G (fc_w z) := by
  intro w hw
  have hw : w ∈ fc_G := by
    rcases List.mem_cons.mp hw with rfl | hw
    · exact h
    · exact hw
  exact ⟨hw, good_of_word (List.mem_filter.mp hw).2⟩
section R3
variable {E : fc_E} {y : fc_M} {d : Nat} {sh : fc_Sh} {pc : Nat} {lv : List (Option Value)} {st : List Value} {mi : fc_Mi} {ml : fc_Ml} {mr : fc_Mr} {Q Q' : fc_Q}
theorem fc_callK {p : Program} {e : Env} {R : Room} {s : State} {m : MethodId} {args : Array Value} {below : List Frame} {meth : Method} {c : Code} {H : Heap} {locs : List Loc} {ls : Array Slot} {st0 rest : List Value} {a : Array Value} {Qf : State → Prop}
    (hr : va_Run p E.1 e R s m args below meth c H locs 0 0 0 0 (F0 m pc ls st0) rest (fc_Qc E sh Q' a) (fc_A E)) (hS : va_S (fc_A E) s.heap H locs)
    (kk : ∀ (v : Option Value) (mi : fc_Mi) (ml : fc_Ml) (mr : fc_Mr) (H1 : Heap) (locs1 : List Loc), Q' v mi ml mr → va_P E.2.1 vwCl (fc_ws E sh mi ml mr) H1 → va_S (fc_A E) s.heap H1 locs1 → W p E.1 e R s m args below meth c H1 locs1 0 0 Qf (F0 m (pc + 3) ls ((v.map (fc_v E)).toList ++ rest))) :
    W p E.1 e R s m args below meth c H locs 0 0 Qf (F0 m pc ls st0) := by
  intro T hT X
  obtain ⟨v, st₀, t, T', L, h0, X', hL, e1, e2, ⟨⟨w, mi, ml, mr, hq, hv, hp⟩, hz, hk⟩, stp⟩ := hr T hT X
  cases hv
  rw [h0] at hz hk
  obtain ⟨t2, a1, b1⟩ := kk w mi ml mr T'.heap (locs ++ L) hq (by rw [e1]; exact hp)
    ⟨Nat.le_trans hS.1 (by rw [e1]; exact hz), fun q h1 h2 => by rw [e1, hk q (Nat.lt_of_lt_of_le h1 hS.1) h2]; exact hS.2.1 q h1 h2, fun q hq => by
      rcases List.mem_append.mp hq with h | h
      · exact hS.2.2 q h
      · exact hL q h⟩ T' rfl X'
  exact ⟨t2, stp t2 a1, b1⟩
theorem fc_blind {As : List Value} : FrameBlind (va_Pc (As.map (fc_v E)) (fun U => va_P E.2.1 vwCl (fc_ws E sh mi ml mr) U.heap ∧ fc_K E U)) := by
  intro a U g mk q
  obtain ⟨q0, qP, qK⟩ := q
  exact ⟨q0, qP, qK.calling a g mk⟩
theorem fc_pre {As : List Value} {s : State} {H : Heap} {locs : List Loc} (hK : fc_K E s) (hP : va_P E.2.1 vwCl (fc_ws E sh mi ml mr) H) (hS : va_S (fc_A E) s.heap H locs) : ∀ U : State, U.heap = H → s.WarmedH U.vm → va_Pc (As.map (fc_v E)) (fun U => va_P E.2.1 vwCl (fc_ws E sh mi ml mr) U.heap ∧ fc_K E U) (As.map (fc_v E)).toArray U :=
  fun U hU hW => ⟨rfl, by rw [hU]; exact hP, hK.moved hW (fun a h1 h2 => by rw [hU]; exact hS.2.1 a h1 h2)⟩
theorem fc_toL (v : Option Value) : (v.map (fc_v E)).toList = v.toList.map (fc_v E) := by cases v <;> rfl
theorem fc_r_callV {z : fc_M} {idx ci q n : Nat} {r : vw_C} {As : List Value} (hd : decode y.2.1 pc = .ok (.invokevirtual idx, 3)) (hM : fc_R E z d sh (.ref q :: As) mi ml mr Q') (hz : fc_mw z n) (hn : As.length = n) (hinst : Cond.instanceMethod z.1 ∈ fc_G) (hsel : Cond.selects z.1.cls z.1 z.1 ∈ fc_G) (hlink : Cond.methodLink y.1.cls idx z.1 ∈ fc_G)
    (hc : vwCl[ci]? = some r) (hrc : r.1 = z.1.cls) (hci : ci < 20) (hsh : sh[q]? = some (ci, 0)) (hroom : (st.map fun v => v.category).sum ≤ 8) (k : ∀ v mi' ml' mr', Q' v mi' ml' mr' → fc_T E y (d + 1) sh (pc + 3) lv (v.toList ++ st) mi' ml' mr' Q) : fc_T E y (d + 1) sh pc lv (As.reverse ++ .ref q :: st) mi ml mr Q := by
  intro p e s m args below meth c H locs ls hC hP hS hl
  obtain ⟨hx, hb, hr, hlk, hown, hml, hts, hK⟩ := id hC
  obtain ⟨hz1, hz2, hz3, hz4⟩ := hz
  have hw := fc_ws_get (E := E) (mi := mi) (ml := ml) (mr := mr) hsh
  rw [fc_cell_obj hci] at hw
  have hrun := va_runV (p := p) (e := e) (below := below) (meth := meth) (locs := locs) (cells := 0) (slots := 0) (R := fc_rm (d + 1)) (H := H) (g := F0 m pc ls ((As.reverse ++ .ref q :: st).map (fc_v E))) (rest := st.map (fc_v E)) (As := As.map (fc_v E)) (b := E.2.2.2.1 + q) (C := z.1.cls) (S := ⟨hx, hb, hml, hown, hts⟩) hM
    ⟨callB_of n hts (fc_w_good hz1) rfl rfl rfl (hts _ hz2) (hts _ hlink) hz3 ⟨by simp only [fc_rmF]; omega, by simp only [fc_rmL]; omega⟩, hts _ hinst, hts _ hsel⟩
    ⟨fc_blind, by rw [← hrc]; exact va_recv hK.1 hP hc hw, fc_pre (As := .ref q :: As) hK hP hS⟩ rfl (by rw [List.length_map]; exact hn) hl.1 (by show List.map _ _ = _; rw [List.map_append, List.map_reverse]; rfl) (lv_room (by rw [fc_sum]; exact hroom)) hd ⟨Nat.zero_le _, Nat.zero_le _⟩
  refine fc_callK hrun hS (fun v mi' ml' mr' H1 locs1 hq hP1 hS1 => ?_)
  rw [fc_toL, ← List.map_append]
  exact k v mi' ml' mr' hq p e s m args below meth c H1 locs1 ls hC hP1 hS1 hl
theorem fc_r_callS {z : fc_M} {idx n : Nat} {As : List Value} (hd : decode y.2.1 pc = .ok (.invokestatic idx, 3)) (hM : fc_R E z d sh As mi ml mr Q') (hz : fc_mw z n) (hn : As.length = n) (hstat : Cond.static z.1 ∈ fc_G) (hlink : Cond.methodLink y.1.cls idx z.1 ∈ fc_G)
    (hroom : (st.map fun v => v.category).sum ≤ 8) (k : ∀ v mi' ml' mr', Q' v mi' ml' mr' → fc_T E y (d + 1) sh (pc + 3) lv (v.toList ++ st) mi' ml' mr' Q) : fc_T E y (d + 1) sh pc lv (As.reverse ++ st) mi ml mr Q := by
  intro p e s m args below meth c H locs ls hC hP hS hl
  obtain ⟨hx, hb, hr, hlk, hown, hml, hts, hK⟩ := id hC
  obtain ⟨hz1, hz2, hz3, hz4⟩ := hz
  have hrun := va_runS (p := p) (e := e) (below := below) (meth := meth) (locs := locs) (cells := 0) (slots := 0) (R := fc_rm (d + 1)) (H := H) (g := F0 m pc ls ((As.reverse ++ st).map (fc_v E))) (rest := st.map (fc_v E)) (As := As.map (fc_v E)) (S := ⟨hx, hb, hml, hown, hts⟩) hM
    ⟨callB_of n hts (fc_w_good hz1) rfl rfl rfl (hts _ hz2) (hts _ hlink) hz3 ⟨by simp only [fc_rmF]; omega, by simp only [fc_rmL]; omega⟩, hts _ hstat⟩
    ⟨fc_blind, fc_pre (As := As) hK hP hS⟩ rfl (by rw [List.length_map]; exact hn) hl.1 (by show List.map _ _ = _; rw [List.map_append, List.map_reverse]) (lv_room (by rw [fc_sum]; exact hroom)) hd ⟨Nat.zero_le _, Nat.zero_le _⟩
  refine fc_callK hrun hS (fun v mi' ml' mr' H1 locs1 hq hP1 hS1 => ?_)
  rw [fc_toL, ← List.map_append]
  exact k v mi' ml' mr' hq p e s m args below meth c H1 locs1 ls hC hP1 hS1 hl
theorem fc_r_callN {z : fc_M} {idx n : Nat} {As : List Value} (hd : decode y.2.1 pc = .ok (.invokestatic idx, 3)) (hM : fc_R E z d sh As mi ml mr Q') (hz : fc_mw z n) (hn : As.length = n) (hstat : Cond.static z.1 ∈ fc_G) (hlink : (y.1.cls, idx, z.1) ∈ fc_N)
    (hroom : (st.map fun v => v.category).sum ≤ 8) (k : ∀ v mi' ml' mr', Q' v mi' ml' mr' → fc_T E y (d + 1) sh (pc + 3) lv (v.toList ++ st) mi' ml' mr' Q) : fc_T E y (d + 1) sh pc lv (As.reverse ++ st) mi ml mr Q := by
  intro p e s m args below meth c H locs ls hC hP hS hl
  obtain ⟨hx, hb, hr, hlk, hown, hml, hts, hK⟩ := id hC
  obtain ⟨hz1, hz2, hz3, hz4⟩ := hz
  have hrun := va_runSN (p := p) (e := e) (below := below) (meth := meth) (locs := locs) (cells := 0) (slots := 0) (R := fc_rm (d + 1)) (H := H) (g := F0 m pc ls ((As.reverse ++ st).map (fc_v E))) (rest := st.map (fc_v E)) (As := As.map (fc_v E)) (host := "FirstChimney") (S := ⟨hx, hb, hml, hown, hts⟩) hM
    ⟨va_cnB n hts (fc_w_good hz1) rfl rfl rfl (hK.2.1 _ hlink) (hts _ hz2) hz3 ⟨by simp only [fc_rmF]; omega, by simp only [fc_rmL]; omega⟩, hts _ hstat, trivial⟩
    ⟨fc_blind, fc_pre (As := As) hK hP hS⟩ rfl (by rw [List.length_map]; exact hn) hl.1 (by show List.map _ _ = _; rw [List.map_append, List.map_reverse]) (lv_room (by rw [fc_sum]; exact hroom)) hd ⟨Nat.zero_le _, Nat.zero_le _⟩
  refine fc_callK hrun hS (fun v mi' ml' mr' H1 locs1 hq hP1 hS1 => ?_)
  rw [fc_toL, ← List.map_append]
  exact k v mi' ml' mr' hq p e s m args below meth c H1 locs1 ls hC hP1 hS1 hl
/-- a virtual call on a constant text -/
theorem fc_r_callT {z : fc_M} {idx n : Nat} {u : UInt32} {As : List Value} (hd : decode y.2.1 pc = .ok (.invokevirtual idx, 3)) (hM : fc_R E z d sh (.float u :: As) mi ml mr Q') (hz : fc_mw z n) (hn : As.length = n) (hinst : Cond.instanceMethod z.1 ∈ fc_G) (hsel : Cond.selects z.1.cls z.1 z.1 ∈ fc_G) (hlink : Cond.methodLink y.1.cls idx z.1 ∈ fc_G)
    (hrc : z.1.cls = "java/lang/String") (hu : u.toNat < 5) (hroom : (st.map fun v => v.category).sum ≤ 8) (k : ∀ v mi' ml' mr', Q' v mi' ml' mr' → fc_T E y (d + 1) sh (pc + 3) lv (v.toList ++ st) mi' ml' mr' Q) : fc_T E y (d + 1) sh pc lv (As.reverse ++ .float u :: st) mi ml mr Q := by
  intro p e s m args below meth c H locs ls hC hP hS hl
  obtain ⟨hx, hb, hr, hlk, hown, hml, hts, hK⟩ := id hC
  obtain ⟨hz1, hz2, hz3, hz4⟩ := hz
  have hrun := va_runV (p := p) (e := e) (below := below) (meth := meth) (locs := locs) (cells := 0) (slots := 0) (R := fc_rm (d + 1)) (H := H) (g := F0 m pc ls ((As.reverse ++ .float u :: st).map (fc_v E))) (rest := st.map (fc_v E)) (As := As.map (fc_v E)) (b := E.2.2.2.2.1 u.toNat) (C := z.1.cls) (S := ⟨hx, hb, hml, hown, hts⟩) hM
    ⟨callB_of n hts (fc_w_good hz1) rfl rfl rfl (hts _ hz2) (hts _ hlink) hz3 ⟨by simp only [fc_rmF]; omega, by simp only [fc_rmL]; omega⟩, hts _ hinst, hts _ hsel⟩
    ⟨fc_blind, by rw [hrc]; exact vk_recv hK.2.2.1 hu hS, fc_pre (As := .float u :: As) hK hP hS⟩ rfl (by rw [List.length_map]; exact hn) hl.1 (by show List.map _ _ = _; rw [List.map_append, List.map_reverse]; rfl) (lv_room (by rw [fc_sum]; exact hroom)) hd ⟨Nat.zero_le _, Nat.zero_le _⟩
  refine fc_callK hrun hS (fun v mi' ml' mr' H1 locs1 hq hP1 hS1 => ?_)
  rw [fc_toL, ← List.map_append]
  exact k v mi' ml' mr' hq p e s m args below meth c H1 locs1 ls hC hP1 hS1 hl
theorem fc_r_max {idx : Nat} {x z : Int32} (hd : decode y.2.1 pc = .ok (.invokestatic idx, 3)) (hlink : Cond.methodLink y.1.cls idx Lib.Math.max.name ∈ fc_G) (hstat : Cond.static Lib.Math.max.name ∈ fc_G) (hini : Cond.initialized "java/lang/Math" ∈ fc_G) (hcode : Cond.code Lib.Math.max.name Lib.Math.max.code 2 (some .int) ∈ fc_G) (hroom : (st.map fun v => v.category).sum ≤ 8)
    (k : fc_T E y d sh (pc + 3) lv (.int (if x < z then z else x) :: st) mi ml mr Q) : fc_T E y d sh pc lv (.int z :: .int x :: st) mi ml mr Q := by
  intro p e s m args below meth c H locs ls hC hP hS hl
  obtain ⟨hx, hb, hr, hlk, hown, hml, hts, hK⟩ := id hC
  exact va_mmax hx hb (hml.trans hl.1.symm) hown (hts _ hlink) (hts _ hstat) (hts _ hini) (hts _ hcode) (by simp only [fc_rmF]; omega) (by rw [fc_sum]; simp only [fc_rmL]; omega) (Nat.zero_le _) (Nat.zero_le _) hd (k p e s m args below meth c H locs ls hC hP hS hl)
theorem fc_r_min {idx : Nat} {x z : Int32} (hd : decode y.2.1 pc = .ok (.invokestatic idx, 3)) (hlink : Cond.methodLink y.1.cls idx Lib.Math.min.name ∈ fc_G) (hstat : Cond.static Lib.Math.min.name ∈ fc_G) (hini : Cond.initialized "java/lang/Math" ∈ fc_G) (hcode : Cond.code Lib.Math.min.name Lib.Math.min.code 2 (some .int) ∈ fc_G) (hroom : (st.map fun v => v.category).sum ≤ 8)
    (k : fc_T E y d sh (pc + 3) lv (.int (if z < x then z else x) :: st) mi ml mr Q) : fc_T E y d sh pc lv (.int z :: .int x :: st) mi ml mr Q := by
  intro p e s m args below meth c H locs ls hC hP hS hl
  obtain ⟨hx, hb, hr, hlk, hown, hml, hts, hK⟩ := id hC
  exact va_mmin hx hb (hml.trans hl.1.symm) hown (hts _ hlink) (hts _ hstat) (hts _ hini) (hts _ hcode) (by simp only [fc_rmF]; omega) (by rw [fc_sum]; simp only [fc_rmL]; omega) (Nat.zero_le _) (Nat.zero_le _) hd (k p e s m args below meth c H locs ls hC hP hS hl)
theorem fc_r_copy {idx q0 q1 n0 n1 : Nat} {sp dp n : Int32} (hd : decode y.2.1 pc = .ok (.invokestatic idx, 3)) (hlink : Cond.methodLink y.1.cls idx arraycopyName ∈ fc_G) (hnat : Cond.native arraycopyName ∈ fc_G) (hstat : Cond.static arraycopyName ∈ fc_G) (hini : Cond.initialized "java/lang/System" ∈ fc_G)
    (h0 : sh[q0]? = some (20, n0)) (h1 : sh[q1]? = some (20, n1)) (h2 : ¬ sp < 0) (h3 : ¬ dp < 0) (h4 : ¬ n < 0) (h5 : sp.toNatClampNeg + n.toNatClampNeg ≤ n0) (h6 : dp.toNatClampNeg + n.toNatClampNeg ≤ n1) (hroom : (st.map fun v => v.category).sum ≤ 8)
    (k : fc_T E y d sh (pc + 3) lv st (fc_ur mi q1 (va_cpy (mi q0) (mi q1) sp.toNatClampNeg dp.toNatClampNeg n.toNatClampNeg)) ml mr Q) : fc_T E y d sh pc lv (.int n :: .int dp :: .ref q1 :: .int sp :: .ref q0 :: st) mi ml mr Q := by
  intro p e s m args below meth c H locs ls hC hP hS hl
  obtain ⟨hx, hb, hr, hlk, hown, hml, hts, hK⟩ := id hC
  have hnw : nativeFrameWords "java/lang/System" "arraycopy" 5 ≤ 40 := Nat.le_of_ble_eq_true rfl
  have hf1 : 1 ≤ (fc_rm d).frames := Nat.succ_le_succ (Nat.zero_le d)
  have hf2 : ((st.map (fc_v E)).map fun v => v.category).sum + (nativeFrameWords "java/lang/System" "arraycopy" 5 + 11) ≤ (fc_rm d).locals := by
    rw [fc_sum, fc_rmL]
    omega
  refine va_copyi hx hb (hml.trans hl.1.symm) hown (hts _ hlink) (hts _ hnat) (hts _ hstat) (hts _ hini) hK.1 hP fc_ws_D hS q0 q1 0 0 (fc_ws_get h0) (fc_ws_get h1) rfl rfl rfl h2 h3 h4 h5 h6 (fun _ _ => rfl) hf1 hf2 hd (fun H1 locs1 hP1 _ hS1 => k p e s m args below meth c H1 locs1 ls hC ?_ hS1 hl)
  rw [← fc_ws_set (E := E) (mi := mi) (ml := ml) (mr := mr) (mi' := fc_ur mi q1 (va_cpy (mi q0) (mi q1) sp.toNatClampNeg dp.toNatClampNeg n.toNatClampNeg)) h1 (fun a h => fc_ur_off _ _ h) (fun _ _ => rfl) (fun _ _ => rfl) rfl]
  show va_P _ _ ((fc_ws E sh mi ml mr).set q1 (_, .inl (_, _, .inl (fc_ur mi q1 _ q1)))) H1
  rw [fc_ur_row]
  exact hP1
theorem fc_r_ldcS {idx : Nat} {u : UInt32} {tx : String} (hd : decode y.2.1 pc = .ok (.ldc idx, 2)) (hc : fc_tx[u.toNat]? = some (y.1.cls, idx, tx)) (k : fc_T E y d sh (pc + 2) lv (.float u :: st) mi ml mr Q) : fc_T E y d sh pc lv st mi ml mr Q :=
  fun p e s m args below meth c H locs ls hC hP hS hl => va_ldcS hC.1 hC.2.1 hC.2.2.2.2.1 (hC.2.2.2.2.2.2.2.2.2.2 _ _ hc) hd (k p e s m args below meth c H locs ls hC hP hS hl)
theorem fc_r_tableIn {dflt lo hi off : Int} {offs : Array Int} {len tgt : Nat} {x : Int32} (hd : decode y.2.1 pc = .ok (.tableswitch dflt lo hi offs, len)) (h1 : ¬ x.toInt < lo) (h2 : ¬ hi < x.toInt) (ho : offs[(x.toInt - lo).toNat]? = some off) (ht : (pc : Int) + off = (tgt : Int)) (k : fc_T E y d sh tgt lv st mi ml mr Q) : fc_T E y d sh pc lv (.int x :: st) mi ml mr Q :=
  fun p e s m args below meth c H locs ls hC hP hS hl => lv_tableIn hC.1 hC.2.1 hd h1 h2 ho ht (k p e s m args below meth c H locs ls hC hP hS hl)
theorem fc_r_tableOut {dflt lo hi : Int} {offs : Array Int} {len tgt : Nat} {x : Int32} (hd : decode y.2.1 pc = .ok (.tableswitch dflt lo hi offs, len)) (h : x.toInt < lo ∨ hi < x.toInt) (ht : (pc : Int) + dflt = (tgt : Int)) (k : fc_T E y d sh tgt lv st mi ml mr Q) : fc_T E y d sh pc lv (.int x :: st) mi ml mr Q :=
  fun p e s m args below meth c H locs ls hC hP hS hl => lv_tableOut hC.1 hC.2.1 hd h ht (k p e s m args below meth c H locs ls hC hP hS hl)
theorem fc_r_lookup {dflt off : Int} {ps : Array (Int × Int)} {len tgt : Nat} {x : Int32} (hd : decode y.2.1 pc = .ok (.lookupswitch dflt ps, len)) (hp : (ps.toList.zip (ps.toList.drop 1)).all (fun (a, next) => a.1 < next.1) = true) (ho : Op.lookupswitch.offset ps.toList dflt x.toInt = off) (ht : (pc : Int) + off = (tgt : Int)) (k : fc_T E y d sh tgt lv st mi ml mr Q) : fc_T E y d sh pc lv (.int x :: st) mi ml mr Q :=
  fun p e s m args below meth c H locs ls hC hP hS hl => lv_lookup hC.1 hC.2.1 hd hp ho ht (k p e s m args below meth c H locs ls hC hP hS hl)
/-- less is known of the locals -/
theorem fc_weak {lv' : List (Option Value)} (h : ∀ (i : Nat) (v : Value), lv'[i]? = some (some v) → lv[i]? = some (some v)) (k : fc_T E y d sh pc lv' st mi ml mr Q) : fc_T E y d sh pc lv st mi ml mr Q :=
  fun p e s m args below meth c H locs ls hC hP hS hl => k p e s m args below meth c H locs ls hC hP hS ⟨hl.1, hl.2.1, fun i v hi => hl.2.2 i v (h i v hi)⟩
end R3
end
